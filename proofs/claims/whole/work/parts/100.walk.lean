abbrev zR_Post_isWithin : Room := { frames := 0, cells := 0, slots := 0, locals := 0 }
theorem zd_Post_isWithin_0 : decode zb_Post_isWithin 0 = .ok (.iload_n 0, 1) := by decide +kernel
theorem zd_Post_isWithin_1 : decode zb_Post_isWithin 1 = .ok (.iload_n 1, 1) := by decide +kernel
theorem zd_Post_isWithin_2 : decode zb_Post_isWithin 2 = .ok (.if_icmp .lt 12, 3) := by decide +kernel
theorem zd_Post_isWithin_5 : decode zb_Post_isWithin 5 = .ok (.iload_n 0, 1) := by decide +kernel
theorem zd_Post_isWithin_6 : decode zb_Post_isWithin 6 = .ok (.iload_n 2, 1) := by decide +kernel
theorem zd_Post_isWithin_7 : decode zb_Post_isWithin 7 = .ok (.if_icmp .gt 7, 3) := by decide +kernel
theorem zd_Post_isWithin_10 : decode zb_Post_isWithin 10 = .ok (.iconst 1, 1) := by decide +kernel
theorem zd_Post_isWithin_11 : decode zb_Post_isWithin 11 = .ok (.goto 4, 3) := by decide +kernel
theorem zd_Post_isWithin_14 : decode zb_Post_isWithin 14 = .ok (.iconst 0, 1) := by decide +kernel
theorem zd_Post_isWithin_15 : decode zb_Post_isWithin 15 = .ok (.ireturn, 1) := by decide +kernel
set_option maxHeartbeats 4000000 in
theorem zl_Post_isWithin_L15 {p : Program} {l : Launch} {e : Env} {s : State} {m : MethodId} {args : Array Value} {below : List Frame} {meth : Method} {c : Code} {D : va_G} {cA : Nat → ClassId} {ad : Nat → Nat} {A : Nat → Prop} (B : zu_B p s m args c zb_Post_isWithin 3 "StonePost" D cA ad A) (hret : meth.sig.returnType = (some .boolean)) (hlk : meth.locks = false) {X : IX} {Y : LX} {res : Int32} (y0 : Int32) (H : Heap) (locs : List Loc) (ls : Array Slot) (hP : va_P D zu_cl (zu_pic cA ad X Y) H) (hS : va_S A s.heap H locs) (hl : lv_has ls 3 []) (hf : fn_Post_isWithin_L15 y0 = some res) : W p l e zR_Post_isWithin s m args below meth c H locs 0 0 (MQ below (zu_Qi D cA ad A res X Y) args s 0 0 A) (F0 m 15 ls [.int y0]) := by
  obtain ⟨hx, hb, hml, hown, hts, hST⟩ := id B
  unfold fn_Post_isWithin_L15 at hf
  obtain ⟨hg3, hf⟩ := zu_gd_e hf
  obtain rfl := Option.some.inj hf
  exact zr_zret hx hb hret hlk hP hS hg3 zd_Post_isWithin_15
set_option maxHeartbeats 4000000 in
theorem zl_Post_isWithin_L14 {p : Program} {l : Launch} {e : Env} {s : State} {m : MethodId} {args : Array Value} {below : List Frame} {meth : Method} {c : Code} {D : va_G} {cA : Nat → ClassId} {ad : Nat → Nat} {A : Nat → Prop} (B : zu_B p s m args c zb_Post_isWithin 3 "StonePost" D cA ad A) (hret : meth.sig.returnType = (some .boolean)) (hlk : meth.locks = false) {X : IX} {Y : LX} {res : Int32} (H : Heap) (locs : List Loc) (ls : Array Slot) (hP : va_P D zu_cl (zu_pic cA ad X Y) H) (hS : va_S A s.heap H locs) (hl : lv_has ls 3 []) (hf : fn_Post_isWithin_L14 = some res) : W p l e zR_Post_isWithin s m args below meth c H locs 0 0 (MQ below (zu_Qi D cA ad A res X Y) args s 0 0 A) (F0 m 14 ls []) := by
  obtain ⟨hx, hb, hml, hown, hts, hST⟩ := id B
  unfold fn_Post_isWithin_L14 at hf
  refine lv_iconst (v := 0) hx hb zd_Post_isWithin_14 (by decide) ?_
  exact zl_Post_isWithin_L15 B hret hlk (0 : Int32) _ _ _ hP hS (lv_sub hl [] rfl) hf
set_option maxHeartbeats 4000000 in
theorem zl_Post_isWithin {p : Program} {l : Launch} {e : Env} {s : State} {m : MethodId} {args : Array Value} {below : List Frame} {meth : Method} {c : Code} {D : va_G} {cA : Nat → ClassId} {ad : Nat → Nat} {A : Nat → Prop} (B : zu_B p s m args c zb_Post_isWithin 3 "StonePost" D cA ad A) (hret : meth.sig.returnType = (some .boolean)) (hlk : meth.locks = false) {X : IX} {Y : LX} {res : Int32} {a0 : Int32} {a1 : Int32} {a2 : Int32} (H : Heap) (locs : List Loc) (ls : Array Slot) (hP : va_P D zu_cl (zu_pic cA ad X Y) H) (hS : va_S A s.heap H locs) (hl : lv_has ls 3 [(0, .int a0), (1, .int a1), (2, .int a2)]) (hf : fn_Post_isWithin a0 a1 a2 = some res) : W p l e zR_Post_isWithin s m args below meth c H locs 0 0 (MQ below (zu_Qi D cA ad A res X Y) args s 0 0 A) (F0 m 0 ls []) := by
  obtain ⟨hx, hb, hml, hown, hts, hST⟩ := id B
  unfold fn_Post_isWithin at hf
  refine lv_iload_n hx hb zd_Post_isWithin_0 rfl (lv_at hl 0 rfl) ?_
  refine lv_iload_n hx hb zd_Post_isWithin_1 rfl (lv_at hl 1 rfl) ?_
  refine lv_icmp_lt (tgt := 14) hx hb zd_Post_isWithin_2 (by decide) (fun c1 => ?_) (fun c1 => ?_)
  · have hf := zu_t c1 hf
    exact zl_Post_isWithin_L14 B hret hlk _ _ _ hP hS (lv_sub hl [] rfl) hf
  · have hf := zu_f c1 hf
    refine lv_iload_n hx hb zd_Post_isWithin_5 rfl (lv_at hl 0 rfl) ?_
    refine lv_iload_n hx hb zd_Post_isWithin_6 rfl (lv_at hl 2 rfl) ?_
    refine lv_icmp_gt (tgt := 14) hx hb zd_Post_isWithin_7 (by decide) (fun c2 => ?_) (fun c2 => ?_)
    · have hf := zu_t c2 hf
      exact zl_Post_isWithin_L14 B hret hlk _ _ _ hP hS (lv_sub hl [] rfl) hf
    · have hf := zu_f c2 hf
      refine lv_iconst (v := 1) hx hb zd_Post_isWithin_10 (by decide) ?_
      refine lv_goto (tgt := 15) hx hb zd_Post_isWithin_11 (by decide) ?_
      exact zl_Post_isWithin_L15 B hret hlk (1 : Int32) _ _ _ hP hS (lv_sub hl [] rfl) hf
theorem zC_Post_isWithin (l : Launch) {D : va_G} {cA : Nat → ClassId} {ad : Nat → Nat} {A : Nat → Prop} {a0 : Int32} {a1 : Int32} {a2 : Int32} {X : IX} {Y : LX} {res : Int32} (hf : fn_Post_isWithin a0 a1 a2 = some res) : Met l zm_Post_isWithin (zu_ws zm_Post_isWithin zb_Post_isWithin 3 (some .boolean)) zR_Post_isWithin (va_Pc [.int a0, .int a1, .int a2] (zu_Pre D cA ad A X Y)) (zu_Qi D cA ad A res X Y) 0 0 A := by
  refine Met.ofW (cc := zb_Post_isWithin) (maxL := 3) (ret := (some .boolean)) (by decide +kernel) rfl ?_
  intro p e s m args below meth c s₁ B0 hml hv
  obtain ⟨rfl, hP, hST⟩ := hv
  have B : zu_B p s m _ c zb_Post_isWithin 3 "StonePost" D cA ad A := ⟨B0.exec, B0.bytes, hml, findClass_of_methodNamed B0.named, (fun w hw => atoms_spec (ws := zu_ws zm_Post_isWithin zb_Post_isWithin 3 (some .boolean)) B0.pre w (List.mem_cons_of_mem _ hw)), hST⟩
  have hl := lv_entry ([.int a0, .int a1, .int a2]) (n := 3) (Nat.le_of_ble_eq_true rfl)
  rw [lg_entry_eq]
  generalize (lg_sl ([.int a0, .int a1, .int a2]) ++ List.replicate (3 - (lg_sl ([.int a0, .int a1, .int a2])).length) Slot.unset).toArray = ls at hl ⊢
  exact zl_Post_isWithin B B0.returns B0.notSynchronized s.heap [] ls hP va_S.rf hl  hf
theorem zw_Post_isWithin {p : Program} {l : Launch} {e : Env} {R : Room} {s : State} {m : MethodId} {args : Array Value} {below : List Frame} {meth : Method} {c : Code} {H : Heap} {locs : List Loc} {cells slots : Nat} {Q : State → Prop} {cc : ByteArray} {pc nL : Nat} {ls : Array Slot} {rest st0 : List Value} {D : va_G} {cA : Nat → ClassId} {ad : Nat → Nat} {A : Nat → Prop} {X : IX} {Y : LX} {own : String} {index : Nat} {a0 : Int32} {a1 : Int32} {a2 : Int32} {v1 : Int32} (B : zu_B p s m args c cc nL own D cA ad A) (hP : va_P D zu_cl (zu_pic cA ad X Y) H) (hS : va_S A s.heap H locs) (hq : fn_Post_isWithin a0 a1 a2 = some v1) (m1 : Cond.methodLink own index zm_Post_isWithin ∈ zu_TB) (hR1 : 0 + 1 ≤ R.frames) (hR2 : 8 + (3 + 11) + 0 ≤ R.locals) (hsz : ls.size = nL) (hst : st0 = .int a2 :: .int a1 :: .int a0 ::  rest) (hw : (rest.map fun v => v.category).sum ≤ 8) (hdg : decode cc pc = .ok (.invokestatic index, 3)) (h00 : cells ≤ R.cells ∧ slots ≤ R.slots) (kk : ∀ (H1 : Heap) (locs1 : List Loc), va_P D zu_cl (zu_pic cA ad X Y) H1 → va_S A s.heap H1 locs1 → W p l e R s m args below meth c H1 locs1 cells slots Q (F0 m (pc + 3) ls (.int v1 :: rest))) : W p l e R s m args below meth c H locs cells slots Q (F0 m pc ls st0) := by
  subst hst
  exact zr_cSi (As := [.int a0, .int a1, .int a2]) (rest := rest) (n := 3) B hP hS (zC_Post_isWithin l  hq) m1 zq_224 zq_1 zq_225 (by decide +kernel) ⟨hR1, hR2⟩ rfl rfl rfl hsz rfl hw hdg h00 kk
abbrev zR_Post_isKind : Room := { frames := 1, cells := 0, slots := 0, locals := 22 }
theorem zd_Post_isKind_0 : decode zb_Post_isKind 0 = .ok (.iload_n 0, 1) := by decide +kernel
theorem zd_Post_isKind_1 : decode zb_Post_isKind 1 = .ok (.iconst 0, 1) := by decide +kernel
theorem zd_Post_isKind_2 : decode zb_Post_isKind 2 = .ok (.bipush 6, 2) := by decide +kernel
theorem zd_Post_isKind_4 : decode zb_Post_isKind 4 = .ok (.invokestatic 51, 3) := by decide +kernel
theorem zd_Post_isKind_7 : decode zb_Post_isKind 7 = .ok (.ireturn, 1) := by decide +kernel
set_option maxHeartbeats 4000000 in
theorem zl_Post_isKind {p : Program} {l : Launch} {e : Env} {s : State} {m : MethodId} {args : Array Value} {below : List Frame} {meth : Method} {c : Code} {D : va_G} {cA : Nat → ClassId} {ad : Nat → Nat} {A : Nat → Prop} (B : zu_B p s m args c zb_Post_isKind 1 "StonePost" D cA ad A) (hret : meth.sig.returnType = (some .boolean)) (hlk : meth.locks = false) {X : IX} {Y : LX} {res : Int32} {a0 : Int32} (H : Heap) (locs : List Loc) (ls : Array Slot) (hP : va_P D zu_cl (zu_pic cA ad X Y) H) (hS : va_S A s.heap H locs) (hl : lv_has ls 1 [(0, .int a0)]) (hf : fn_Post_isKind a0 = some res) : W p l e zR_Post_isKind s m args below meth c H locs 0 0 (MQ below (zu_Qi D cA ad A res X Y) args s 0 0 A) (F0 m 0 ls []) := by
  obtain ⟨hx, hb, hml, hown, hts, hST⟩ := id B
  unfold fn_Post_isKind at hf
  refine lv_iload_n hx hb zd_Post_isKind_0 rfl (lv_at hl 0 rfl) ?_
  refine lv_iconst (v := 0) hx hb zd_Post_isKind_1 (by decide) ?_
  refine lv_bipush (v := 6) hx hb zd_Post_isKind_2 (by decide) ?_
  obtain ⟨v1, hq2, hf⟩ := zu_b1_e hf
  refine zw_Post_isWithin (rest := []) B hP hS hq2 zq_223 (Nat.le_of_ble_eq_true rfl) (Nat.le_of_ble_eq_true rfl) hl.1 rfl (Nat.le_of_ble_eq_true rfl) zd_Post_isKind_4 (by decide) (fun H locs hP hS => ?_)
  clear hq2
  obtain ⟨hg3, hf⟩ := zu_gd_e hf
  obtain rfl := Option.some.inj hf
  exact zr_zret hx hb hret hlk hP hS hg3 zd_Post_isKind_7
theorem zC_Post_isKind (l : Launch) {D : va_G} {cA : Nat → ClassId} {ad : Nat → Nat} {A : Nat → Prop} {a0 : Int32} {X : IX} {Y : LX} {res : Int32} (hf : fn_Post_isKind a0 = some res) : Met l zm_Post_isKind (zu_ws zm_Post_isKind zb_Post_isKind 1 (some .boolean)) zR_Post_isKind (va_Pc [.int a0] (zu_Pre D cA ad A X Y)) (zu_Qi D cA ad A res X Y) 0 0 A := by
  refine Met.ofW (cc := zb_Post_isKind) (maxL := 1) (ret := (some .boolean)) (by decide +kernel) rfl ?_
  intro p e s m args below meth c s₁ B0 hml hv
  obtain ⟨rfl, hP, hST⟩ := hv
  have B : zu_B p s m _ c zb_Post_isKind 1 "StonePost" D cA ad A := ⟨B0.exec, B0.bytes, hml, findClass_of_methodNamed B0.named, (fun w hw => atoms_spec (ws := zu_ws zm_Post_isKind zb_Post_isKind 1 (some .boolean)) B0.pre w (List.mem_cons_of_mem _ hw)), hST⟩
  have hl := lv_entry ([.int a0]) (n := 1) (Nat.le_of_ble_eq_true rfl)
  rw [lg_entry_eq]
  generalize (lg_sl ([.int a0]) ++ List.replicate (1 - (lg_sl ([.int a0])).length) Slot.unset).toArray = ls at hl ⊢
  exact zl_Post_isKind B B0.returns B0.notSynchronized s.heap [] ls hP va_S.rf hl  hf
theorem zw_Post_isKind {p : Program} {l : Launch} {e : Env} {R : Room} {s : State} {m : MethodId} {args : Array Value} {below : List Frame} {meth : Method} {c : Code} {H : Heap} {locs : List Loc} {cells slots : Nat} {Q : State → Prop} {cc : ByteArray} {pc nL : Nat} {ls : Array Slot} {rest st0 : List Value} {D : va_G} {cA : Nat → ClassId} {ad : Nat → Nat} {A : Nat → Prop} {X : IX} {Y : LX} {own : String} {index : Nat} {a0 : Int32} {v1 : Int32} (B : zu_B p s m args c cc nL own D cA ad A) (hP : va_P D zu_cl (zu_pic cA ad X Y) H) (hS : va_S A s.heap H locs) (hq : fn_Post_isKind a0 = some v1) (m1 : Cond.methodLink own index zm_Post_isKind ∈ zu_TB) (hR1 : 1 + 1 ≤ R.frames) (hR2 : 8 + (1 + 11) + 22 ≤ R.locals) (hsz : ls.size = nL) (hst : st0 = .int a0 ::  rest) (hw : (rest.map fun v => v.category).sum ≤ 8) (hdg : decode cc pc = .ok (.invokestatic index, 3)) (h00 : cells ≤ R.cells ∧ slots ≤ R.slots) (kk : ∀ (H1 : Heap) (locs1 : List Loc), va_P D zu_cl (zu_pic cA ad X Y) H1 → va_S A s.heap H1 locs1 → W p l e R s m args below meth c H1 locs1 cells slots Q (F0 m (pc + 3) ls (.int v1 :: rest))) : W p l e R s m args below meth c H locs cells slots Q (F0 m pc ls st0) := by
  subst hst
  exact zr_cSi (As := [.int a0]) (rest := rest) (n := 1) B hP hS (zC_Post_isKind l  hq) m1 zq_240 zq_1 zq_241 (by decide +kernel) ⟨hR1, hR2⟩ rfl rfl rfl hsz rfl hw hdg h00 kk
abbrev zR_Post_isCell : Room := { frames := 1, cells := 0, slots := 0, locals := 22 }
theorem zd_Post_isCell_0 : decode zb_Post_isCell 0 = .ok (.iload_n 0, 1) := by decide +kernel
theorem zd_Post_isCell_1 : decode zb_Post_isCell 1 = .ok (.iconst 0, 1) := by decide +kernel
theorem zd_Post_isCell_2 : decode zb_Post_isCell 2 = .ok (.bipush 23, 2) := by decide +kernel
theorem zd_Post_isCell_4 : decode zb_Post_isCell 4 = .ok (.invokestatic 51, 3) := by decide +kernel
theorem zd_Post_isCell_7 : decode zb_Post_isCell 7 = .ok (.ireturn, 1) := by decide +kernel
set_option maxHeartbeats 4000000 in
theorem zl_Post_isCell {p : Program} {l : Launch} {e : Env} {s : State} {m : MethodId} {args : Array Value} {below : List Frame} {meth : Method} {c : Code} {D : va_G} {cA : Nat → ClassId} {ad : Nat → Nat} {A : Nat → Prop} (B : zu_B p s m args c zb_Post_isCell 1 "StonePost" D cA ad A) (hret : meth.sig.returnType = (some .boolean)) (hlk : meth.locks = false) {X : IX} {Y : LX} {res : Int32} {a0 : Int32} (H : Heap) (locs : List Loc) (ls : Array Slot) (hP : va_P D zu_cl (zu_pic cA ad X Y) H) (hS : va_S A s.heap H locs) (hl : lv_has ls 1 [(0, .int a0)]) (hf : fn_Post_isCell a0 = some res) : W p l e zR_Post_isCell s m args below meth c H locs 0 0 (MQ below (zu_Qi D cA ad A res X Y) args s 0 0 A) (F0 m 0 ls []) := by
  obtain ⟨hx, hb, hml, hown, hts, hST⟩ := id B
  unfold fn_Post_isCell at hf
  refine lv_iload_n hx hb zd_Post_isCell_0 rfl (lv_at hl 0 rfl) ?_
  refine lv_iconst (v := 0) hx hb zd_Post_isCell_1 (by decide) ?_
  refine lv_bipush (v := 23) hx hb zd_Post_isCell_2 (by decide) ?_
  obtain ⟨v1, hq2, hf⟩ := zu_b1_e hf
  refine zw_Post_isWithin (rest := []) B hP hS hq2 zq_223 (Nat.le_of_ble_eq_true rfl) (Nat.le_of_ble_eq_true rfl) hl.1 rfl (Nat.le_of_ble_eq_true rfl) zd_Post_isCell_4 (by decide) (fun H locs hP hS => ?_)
  clear hq2
  obtain ⟨hg3, hf⟩ := zu_gd_e hf
  obtain rfl := Option.some.inj hf
  exact zr_zret hx hb hret hlk hP hS hg3 zd_Post_isCell_7
theorem zC_Post_isCell (l : Launch) {D : va_G} {cA : Nat → ClassId} {ad : Nat → Nat} {A : Nat → Prop} {a0 : Int32} {X : IX} {Y : LX} {res : Int32} (hf : fn_Post_isCell a0 = some res) : Met l zm_Post_isCell (zu_ws zm_Post_isCell zb_Post_isCell 1 (some .boolean)) zR_Post_isCell (va_Pc [.int a0] (zu_Pre D cA ad A X Y)) (zu_Qi D cA ad A res X Y) 0 0 A := by
  refine Met.ofW (cc := zb_Post_isCell) (maxL := 1) (ret := (some .boolean)) (by decide +kernel) rfl ?_
  intro p e s m args below meth c s₁ B0 hml hv
  obtain ⟨rfl, hP, hST⟩ := hv
  have B : zu_B p s m _ c zb_Post_isCell 1 "StonePost" D cA ad A := ⟨B0.exec, B0.bytes, hml, findClass_of_methodNamed B0.named, (fun w hw => atoms_spec (ws := zu_ws zm_Post_isCell zb_Post_isCell 1 (some .boolean)) B0.pre w (List.mem_cons_of_mem _ hw)), hST⟩
  have hl := lv_entry ([.int a0]) (n := 1) (Nat.le_of_ble_eq_true rfl)
  rw [lg_entry_eq]
  generalize (lg_sl ([.int a0]) ++ List.replicate (1 - (lg_sl ([.int a0])).length) Slot.unset).toArray = ls at hl ⊢
  exact zl_Post_isCell B B0.returns B0.notSynchronized s.heap [] ls hP va_S.rf hl  hf
theorem zw_Post_isCell {p : Program} {l : Launch} {e : Env} {R : Room} {s : State} {m : MethodId} {args : Array Value} {below : List Frame} {meth : Method} {c : Code} {H : Heap} {locs : List Loc} {cells slots : Nat} {Q : State → Prop} {cc : ByteArray} {pc nL : Nat} {ls : Array Slot} {rest st0 : List Value} {D : va_G} {cA : Nat → ClassId} {ad : Nat → Nat} {A : Nat → Prop} {X : IX} {Y : LX} {own : String} {index : Nat} {a0 : Int32} {v1 : Int32} (B : zu_B p s m args c cc nL own D cA ad A) (hP : va_P D zu_cl (zu_pic cA ad X Y) H) (hS : va_S A s.heap H locs) (hq : fn_Post_isCell a0 = some v1) (m1 : Cond.methodLink own index zm_Post_isCell ∈ zu_TB) (hR1 : 1 + 1 ≤ R.frames) (hR2 : 8 + (1 + 11) + 22 ≤ R.locals) (hsz : ls.size = nL) (hst : st0 = .int a0 ::  rest) (hw : (rest.map fun v => v.category).sum ≤ 8) (hdg : decode cc pc = .ok (.invokestatic index, 3)) (h00 : cells ≤ R.cells ∧ slots ≤ R.slots) (kk : ∀ (H1 : Heap) (locs1 : List Loc), va_P D zu_cl (zu_pic cA ad X Y) H1 → va_S A s.heap H1 locs1 → W p l e R s m args below meth c H1 locs1 cells slots Q (F0 m (pc + 3) ls (.int v1 :: rest))) : W p l e R s m args below meth c H locs cells slots Q (F0 m pc ls st0) := by
  subst hst
  exact zr_cSi (As := [.int a0]) (rest := rest) (n := 1) B hP hS (zC_Post_isCell l  hq) m1 zq_221 zq_1 zq_222 (by decide +kernel) ⟨hR1, hR2⟩ rfl rfl rfl hsz rfl hw hdg h00 kk
abbrev zR_Land_standingOn : Room := { frames := 0, cells := 0, slots := 0, locals := 0 }
theorem zd_Land_standingOn_0 : decode zb_Land_standingOn 0 = .ok (.iconst 0, 1) := by decide +kernel
theorem zd_Land_standingOn_1 : decode zb_Land_standingOn 1 = .ok (.istore_n 2, 1) := by decide +kernel
theorem zd_Land_standingOn_2 : decode zb_Land_standingOn 2 = .ok (.iload_n 2, 1) := by decide +kernel
theorem zd_Land_standingOn_3 : decode zb_Land_standingOn 3 = .ok (.aload_n 0, 1) := by decide +kernel
theorem zd_Land_standingOn_4 : decode zb_Land_standingOn 4 = .ok (.getfield 53, 3) := by decide +kernel
theorem zd_Land_standingOn_7 : decode zb_Land_standingOn 7 = .ok (.if_icmp .ge 26, 3) := by decide +kernel
theorem zd_Land_standingOn_10 : decode zb_Land_standingOn 10 = .ok (.aload_n 0, 1) := by decide +kernel
theorem zd_Land_standingOn_11 : decode zb_Land_standingOn 11 = .ok (.getfield 17, 3) := by decide +kernel
theorem zd_Land_standingOn_14 : decode zb_Land_standingOn 14 = .ok (.iload_n 2, 1) := by decide +kernel
theorem zd_Land_standingOn_15 : decode zb_Land_standingOn 15 = .ok (.aaload, 1) := by decide +kernel
theorem zd_Land_standingOn_16 : decode zb_Land_standingOn 16 = .ok (.getfield 50, 3) := by decide +kernel
theorem zd_Land_standingOn_19 : decode zb_Land_standingOn 19 = .ok (.iconst 1, 1) := by decide +kernel
theorem zd_Land_standingOn_20 : decode zb_Land_standingOn 20 = .ok (.iaload, 1) := by decide +kernel
theorem zd_Land_standingOn_21 : decode zb_Land_standingOn 21 = .ok (.iload_n 1, 1) := by decide +kernel
theorem zd_Land_standingOn_22 : decode zb_Land_standingOn 22 = .ok (.if_icmp .ne 5, 3) := by decide +kernel
theorem zd_Land_standingOn_25 : decode zb_Land_standingOn 25 = .ok (.iload_n 2, 1) := by decide +kernel
theorem zd_Land_standingOn_26 : decode zb_Land_standingOn 26 = .ok (.ireturn, 1) := by decide +kernel
theorem zd_Land_standingOn_27 : decode zb_Land_standingOn 27 = .ok (.iinc 2 1, 3) := by decide +kernel
theorem zd_Land_standingOn_30 : decode zb_Land_standingOn 30 = .ok (.goto (-28), 3) := by decide +kernel
theorem zd_Land_standingOn_33 : decode zb_Land_standingOn 33 = .ok (.iconst (-1), 1) := by decide +kernel
theorem zd_Land_standingOn_34 : decode zb_Land_standingOn 34 = .ok (.ireturn, 1) := by decide +kernel
set_option maxHeartbeats 4000000 in
theorem zl_Land_standingOn_B2 {p : Program} {l : Launch} {e : Env} {s : State} {m : MethodId} {args : Array Value} {below : List Frame} {meth : Method} {c : Code} {D : va_G} {cA : Nat → ClassId} {ad : Nat → Nat} {A : Nat → Prop} (B : zu_B p s m args c zb_Land_standingOn 3 "StonePost$Land" D cA ad A) (hret : meth.sig.returnType = (some .int)) (hlk : meth.locks = false) {X : IX} {Y : LX} {res : Int32} {k2 : Nat → Int32 → Int32 → Option Int32} (hk2 : ∀ (r0 : Nat) (x1 : Int32) (x2 : Int32) (H : Heap) (locs : List Loc) (ls : Array Slot), va_P D zu_cl (zu_pic cA ad X Y) H → va_S A s.heap H locs → lv_has ls 3 [(0, .ref (ad r0)), (1, .int x1), (2, .int x2)] → zu_kd r0 = 5 → k2 r0 x1 x2 = some res → W p l e zR_Land_standingOn s m args below meth c H locs 0 0 (MQ below (zu_Qi D cA ad A res X Y) args s 0 0 A) (F0 m 2 ls [])) (r0 : Nat) (x1 : Int32) (x2 : Int32) (H : Heap) (locs : List Loc) (ls : Array Slot) (hP : va_P D zu_cl (zu_pic cA ad X Y) H) (hS : va_S A s.heap H locs) (hl : lv_has ls 3 [(0, .ref (ad r0)), (1, .int x1), (2, .int x2)]) (hr0 : zu_kd r0 = 5) (hf : fn_Land_standingOn_B2 X k2 r0 x1 x2 = some res) : W p l e zR_Land_standingOn s m args below meth c H locs 0 0 (MQ below (zu_Qi D cA ad A res X Y) args s 0 0 A) (F0 m 2 ls []) := by
  obtain ⟨hx, hb, hml, hown, hts, hST⟩ := id B
  unfold fn_Land_standingOn_B2 at hf
  refine lv_iload_n hx hb zd_Land_standingOn_2 rfl (lv_at hl 2 rfl) ?_
  refine lv_aload_n hx hb zd_Land_standingOn_3 rfl (lv_at hl 0 rfl) ?_
  refine zg_Land_throwerCount B hP hr0 zq_61 zd_Land_standingOn_4 ?_
  refine lv_icmp_ge (tgt := 33) hx hb zd_Land_standingOn_7 (by decide) (fun c1 => ?_) (fun c1 => ?_)
  · have hf := zu_t c1 hf
    refine lv_iconst (v := -1) hx hb zd_Land_standingOn_33 (by decide) ?_
    obtain rfl := Option.some.inj hf
    exact zr_iret hx hb hret hlk hP hS zd_Land_standingOn_34
  · have hf := zu_f c1 hf
    refine lv_aload_n hx hb zd_Land_standingOn_10 rfl (lv_at hl 0 rfl) ?_
    refine zg_Land_throwers B hP hr0 zq_53 zd_Land_standingOn_11 ?_
    refine lv_iload_n hx hb zd_Land_standingOn_14 rfl (lv_at hl 2 rfl) ?_
    obtain ⟨hg2, hf⟩ := zu_gd_e hf
    refine zr_thr rfl B hP (zk_Land_throwers hr0) hg2 zd_Land_standingOn_15 ?_
    refine zg_Thr_facts B hP (zk_thr (zk_Land_throwers hr0) (zu_ib_lt hg2)) zq_39 zd_Land_standingOn_16 ?_
    refine lv_iconst (v := 1) hx hb zd_Land_standingOn_19 (by decide) ?_
    refine zr_iald (j := 1) (by decide) B hP (zk_Thr_facts (zk_thr (zk_Land_throwers hr0) (zu_ib_lt hg2))) (by decide) rfl (by decide) zd_Land_standingOn_20 ?_
    refine lv_iload_n hx hb zd_Land_standingOn_21 rfl (lv_at hl 1 rfl) ?_
    refine lv_icmp_ne (tgt := 27) hx hb zd_Land_standingOn_22 (by decide) (fun c3 => ?_) (fun c3 => ?_)
    · have hf := zu_f c3 hf
      obtain ⟨v4, ev4, hf⟩ := zu_nx_e hf
      refine lv_iinc (v := v4) (lv' := [(2, .int v4), (0, .ref (ad r0)), (1, .int x1)]) hx hb zd_Land_standingOn_27 hl (k := 2) rfl (by rw [ev4]; rfl) (by decide) rfl (fun ls hl => ?_)
      clear ev4
      refine lv_goto (tgt := 2) hx hb zd_Land_standingOn_30 (by decide) ?_
      exact hk2 r0 x1 v4 _ _ _ hP hS (lv_sub hl [1, 2, 0] rfl) hr0 hf
    · have hf := zu_t c3 hf
      refine lv_iload_n hx hb zd_Land_standingOn_25 rfl (lv_at hl 2 rfl) ?_
      obtain rfl := Option.some.inj hf
      exact zr_iret hx hb hret hlk hP hS zd_Land_standingOn_26
theorem zl_Land_standingOn_L2 {p : Program} {l : Launch} {e : Env} {s : State} {m : MethodId} {args : Array Value} {below : List Frame} {meth : Method} {c : Code} {D : va_G} {cA : Nat → ClassId} {ad : Nat → Nat} {A : Nat → Prop} (B : zu_B p s m args c zb_Land_standingOn 3 "StonePost$Land" D cA ad A) (hret : meth.sig.returnType = (some .int)) (hlk : meth.locks = false) {X : IX} {Y : LX} {res : Int32} : ∀ (n : Nat) (r0 : Nat) (x1 : Int32) (x2 : Int32) (H : Heap) (locs : List Loc) (ls : Array Slot), va_P D zu_cl (zu_pic cA ad X Y) H → va_S A s.heap H locs → lv_has ls 3 [(0, .ref (ad r0)), (1, .int x1), (2, .int x2)] → zu_kd r0 = 5 → fn_Land_standingOn_L2 X n r0 x1 x2 = some res → W p l e zR_Land_standingOn s m args below meth c H locs 0 0 (MQ below (zu_Qi D cA ad A res X Y) args s 0 0 A) (F0 m 2 ls []) := by
  intro n
  induction n with
  | zero =>
    intro r0 x1 x2 H locs ls hP hS hl hr0 hf
    exact (Option.some_ne_none _ hf.symm).elim
  | succ n ih =>
    intro r0 x1 x2 H locs ls hP hS hl hr0 hf
    exact zl_Land_standingOn_B2 B hret hlk ih r0 x1 x2 H locs ls hP hS hl hr0 hf
set_option maxHeartbeats 4000000 in
theorem zl_Land_standingOn {p : Program} {l : Launch} {e : Env} {s : State} {m : MethodId} {args : Array Value} {below : List Frame} {meth : Method} {c : Code} {D : va_G} {cA : Nat → ClassId} {ad : Nat → Nat} {A : Nat → Prop} (B : zu_B p s m args c zb_Land_standingOn 3 "StonePost$Land" D cA ad A) (hret : meth.sig.returnType = (some .int)) (hlk : meth.locks = false) {X : IX} {Y : LX} {res : Int32} {r0 : Nat} {a1 : Int32} (H : Heap) (locs : List Loc) (ls : Array Slot) (hP : va_P D zu_cl (zu_pic cA ad X Y) H) (hS : va_S A s.heap H locs) (hl : lv_has ls 3 [(0, .ref (ad r0)), (1, .int a1)]) (hr0 : zu_kd r0 = 5) (hf : fn_Land_standingOn X r0 a1 = some res) : W p l e zR_Land_standingOn s m args below meth c H locs 0 0 (MQ below (zu_Qi D cA ad A res X Y) args s 0 0 A) (F0 m 0 ls []) := by
  obtain ⟨hx, hb, hml, hown, hts, hST⟩ := id B
  unfold fn_Land_standingOn at hf
  refine lv_iconst (v := 0) hx hb zd_Land_standingOn_0 (by decide) ?_
  refine lv_istore_n (lv' := [(2, .int (0 : Int32)), (0, .ref (ad r0)), (1, .int a1)]) hx hb zd_Land_standingOn_1 rfl hl (by decide) rfl (fun ls hl => ?_)
  exact zl_Land_standingOn_L2 B hret hlk 400 r0 a1 (0 : Int32) _ _ _ hP hS (lv_sub hl [1, 2, 0] rfl) hr0 hf
theorem zC_Land_standingOn (l : Launch) {D : va_G} {cA : Nat → ClassId} {ad : Nat → Nat} {A : Nat → Prop} {r0 : Nat} {a1 : Int32} {X : IX} {Y : LX} {res : Int32} (hr0 : zu_kd r0 = 5) (hf : fn_Land_standingOn X r0 a1 = some res) : Met l zm_Land_standingOn (zu_ws zm_Land_standingOn zb_Land_standingOn 3 (some .int)) zR_Land_standingOn (va_Pc [.ref (ad r0), .int a1] (zu_Pre D cA ad A X Y)) (zu_Qi D cA ad A res X Y) 0 0 A := by
  refine Met.ofW (cc := zb_Land_standingOn) (maxL := 3) (ret := (some .int)) (by decide +kernel) rfl ?_
  intro p e s m args below meth c s₁ B0 hml hv
  obtain ⟨rfl, hP, hST⟩ := hv
  have B : zu_B p s m _ c zb_Land_standingOn 3 "StonePost$Land" D cA ad A := ⟨B0.exec, B0.bytes, hml, findClass_of_methodNamed B0.named, (fun w hw => atoms_spec (ws := zu_ws zm_Land_standingOn zb_Land_standingOn 3 (some .int)) B0.pre w (List.mem_cons_of_mem _ hw)), hST⟩
  have hl := lv_entry ([.ref (ad r0), .int a1]) (n := 3) (Nat.le_of_ble_eq_true rfl)
  rw [lg_entry_eq]
  generalize (lg_sl ([.ref (ad r0), .int a1]) ++ List.replicate (3 - (lg_sl ([.ref (ad r0), .int a1])).length) Slot.unset).toArray = ls at hl ⊢
  exact zl_Land_standingOn B B0.returns B0.notSynchronized s.heap [] ls hP va_S.rf hl hr0 hf
theorem zw_Land_standingOn {p : Program} {l : Launch} {e : Env} {R : Room} {s : State} {m : MethodId} {args : Array Value} {below : List Frame} {meth : Method} {c : Code} {H : Heap} {locs : List Loc} {cells slots : Nat} {Q : State → Prop} {cc : ByteArray} {pc nL : Nat} {ls : Array Slot} {rest st0 : List Value} {D : va_G} {cA : Nat → ClassId} {ad : Nat → Nat} {A : Nat → Prop} {X : IX} {Y : LX} {own : String} {index : Nat} {r0 : Nat} {a1 : Int32} {v1 : Int32} (B : zu_B p s m args c cc nL own D cA ad A) (hP : va_P D zu_cl (zu_pic cA ad X Y) H) (hS : va_S A s.heap H locs) (hr0 : zu_kd r0 = 5) (hq : fn_Land_standingOn X r0 a1 = some v1) (m1 : Cond.methodLink own index zm_Land_standingOn ∈ zu_TB) (hR1 : 0 + 1 ≤ R.frames) (hR2 : 8 + (3 + 11) + 0 ≤ R.locals) (hsz : ls.size = nL) (hst : st0 = .int a1 :: .ref (ad r0) :: rest) (hw : (rest.map fun v => v.category).sum ≤ 8) (hdg : decode cc pc = .ok (.invokevirtual index, 3)) (h00 : cells ≤ R.cells ∧ slots ≤ R.slots) (kk : ∀ (H1 : Heap) (locs1 : List Loc), va_P D zu_cl (zu_pic cA ad X Y) H1 → va_S A s.heap H1 locs1 → W p l e R s m args below meth c H1 locs1 cells slots Q (F0 m (pc + 3) ls (.int v1 :: rest))) : W p l e R s m args below meth c H locs cells slots Q (F0 m pc ls st0) := by
  subst hst
  exact zr_cVi (As := [.int a1]) (rest := rest) (n := 1) (C := "StonePost$Land") (T := zt_Land) (N := 10) B hP hS (zC_Land_standingOn l hr0 hq) (K := 5) hr0 (by decide) (by decide) rfl rfl m1 zq_243 zq_244 zq_2 zq_245 (by decide +kernel) ⟨hR1, hR2⟩ rfl rfl rfl hsz rfl hw hdg h00 kk
abbrev zR_Thr_begin : Room := { frames := 1, cells := 0, slots := 0, locals := 26 }
theorem zd_Thr_begin_0 : decode zb_Thr_begin 0 = .ok (.getstatic 25, 3) := by decide +kernel
theorem zd_Thr_begin_3 : decode zb_Thr_begin 3 = .ok (.iconst 0, 1) := by decide +kernel
theorem zd_Thr_begin_4 : decode zb_Thr_begin 4 = .ok (.aload_n 0, 1) := by decide +kernel
theorem zd_Thr_begin_5 : decode zb_Thr_begin 5 = .ok (.getfield 11, 3) := by decide +kernel
theorem zd_Thr_begin_8 : decode zb_Thr_begin 8 = .ok (.iconst 0, 1) := by decide +kernel
theorem zd_Thr_begin_9 : decode zb_Thr_begin 9 = .ok (.bipush 9, 2) := by decide +kernel
theorem zd_Thr_begin_11 : decode zb_Thr_begin 11 = .ok (.invokestatic 28, 3) := by decide +kernel
theorem zd_Thr_begin_14 : decode zb_Thr_begin 14 = .ok (.aload_n 0, 1) := by decide +kernel
theorem zd_Thr_begin_15 : decode zb_Thr_begin 15 = .ok (.getfield 11, 3) := by decide +kernel
theorem zd_Thr_begin_18 : decode zb_Thr_begin 18 = .ok (.iconst 0, 1) := by decide +kernel
theorem zd_Thr_begin_19 : decode zb_Thr_begin 19 = .ok (.iload_n 1, 1) := by decide +kernel
theorem zd_Thr_begin_20 : decode zb_Thr_begin 20 = .ok (.iastore, 1) := by decide +kernel
theorem zd_Thr_begin_21 : decode zb_Thr_begin 21 = .ok (.aload_n 0, 1) := by decide +kernel
theorem zd_Thr_begin_22 : decode zb_Thr_begin 22 = .ok (.getfield 11, 3) := by decide +kernel
theorem zd_Thr_begin_25 : decode zb_Thr_begin 25 = .ok (.iconst 1, 1) := by decide +kernel
theorem zd_Thr_begin_26 : decode zb_Thr_begin 26 = .ok (.iload_n 2, 1) := by decide +kernel
theorem zd_Thr_begin_27 : decode zb_Thr_begin 27 = .ok (.iastore, 1) := by decide +kernel
theorem zd_Thr_begin_28 : decode zb_Thr_begin 28 = .ok (.return_, 1) := by decide +kernel
set_option maxHeartbeats 4000000 in
theorem zl_Thr_begin {p : Program} {l : Launch} {e : Env} {s : State} {m : MethodId} {args : Array Value} {below : List Frame} {meth : Method} {c : Code} {D : va_G} {cA : Nat → ClassId} {ad : Nat → Nat} {A : Nat → Prop} (B : zu_B p s m args c zb_Thr_begin 3 "StonePost$Thrower" D cA ad A) (hret : meth.sig.returnType = none) (hlk : meth.locks = false) {Y : LX} {res : IX} {r0 : Nat} {a1 : Int32} {a2 : Int32} {X : IX} (H : Heap) (locs : List Loc) (ls : Array Slot) (hP : va_P D zu_cl (zu_pic cA ad X Y) H) (hS : va_S A s.heap H locs) (hl : lv_has ls 3 [(0, .ref (ad r0)), (1, .int a1), (2, .int a2)]) (hr0 : zu_kd r0 = 6) (hf : fn_Thr_begin r0 a1 a2 X = res) : W p l e zR_Thr_begin s m args below meth c H locs 0 0 (MQ below (zu_Qv D cA ad A res Y) args s 0 0 A) (F0 m 0 ls []) := by
  obtain ⟨hx, hb, hml, hown, hts, hST⟩ := id B
  unfold fn_Thr_begin at hf
  refine va_gets hx hb (hST.2.2.1.1) hS hown (hts _ zq_255) (fun _ h9 => h9) zd_Thr_begin_0 ?_
  refine lv_iconst (v := 0) hx hb zd_Thr_begin_3 (by decide) ?_
  refine lv_aload_n hx hb zd_Thr_begin_4 rfl (lv_at hl 0 rfl) ?_
  refine zg_Thr_facts B hP hr0 zq_38 zd_Thr_begin_5 ?_
  refine lv_iconst (v := 0) hx hb zd_Thr_begin_8 (by decide) ?_
  refine lv_bipush (v := 9) hx hb zd_Thr_begin_9 (by decide) ?_
  refine zr_cpt (j0 := 0) (j1 := 0) (jn := 9) B hP hS (by decide) (by decide) (by decide) hf (hST.2.2.1.2.1) (zk_Thr_facts hr0) (by decide) rfl (by decide) zq_257 zq_259 zq_258 zq_9 hl.1 (by decide) (Nat.le_of_ble_eq_true rfl) zd_Thr_begin_11 (fun X1 H locs hf hP hS => ?_)
  refine lv_aload_n hx hb zd_Thr_begin_14 rfl (lv_at hl 0 rfl) ?_
  refine zg_Thr_facts B hP hr0 zq_38 zd_Thr_begin_15 ?_
  refine lv_iconst (v := 0) hx hb zd_Thr_begin_18 (by decide) ?_
  refine lv_iload_n hx hb zd_Thr_begin_19 rfl (lv_at hl 1 rfl) ?_
  refine zr_iast (j := 0) (by decide) B hP hS hf (zk_Thr_facts hr0) (by decide) rfl (by decide) zd_Thr_begin_20 (fun X2 H locs hf hP hS => ?_)
  refine lv_aload_n hx hb zd_Thr_begin_21 rfl (lv_at hl 0 rfl) ?_
  refine zg_Thr_facts B hP hr0 zq_38 zd_Thr_begin_22 ?_
  refine lv_iconst (v := 1) hx hb zd_Thr_begin_25 (by decide) ?_
  refine lv_iload_n hx hb zd_Thr_begin_26 rfl (lv_at hl 2 rfl) ?_
  refine zr_iast (j := 1) (by decide) B hP hS hf (zk_Thr_facts hr0) (by decide) rfl (by decide) zd_Thr_begin_27 (fun X3 H locs hf hP hS => ?_)
  obtain rfl := hf
  exact zr_vret hx hb hret hlk hP hS zd_Thr_begin_28
theorem zC_Thr_begin (l : Launch) {D : va_G} {cA : Nat → ClassId} {ad : Nat → Nat} {A : Nat → Prop} {r0 : Nat} {a1 : Int32} {a2 : Int32} {X : IX} {Y : LX} {res : IX} (hr0 : zu_kd r0 = 6) (hf : fn_Thr_begin r0 a1 a2 X = res) : Met l zm_Thr_begin (zu_ws zm_Thr_begin zb_Thr_begin 3 none) zR_Thr_begin (va_Pc [.ref (ad r0), .int a1, .int a2] (zu_Pre D cA ad A X Y)) (zu_Qv D cA ad A res Y) 0 0 A := by
  refine Met.ofW (cc := zb_Thr_begin) (maxL := 3) (ret := none) (by decide +kernel) rfl ?_
  intro p e s m args below meth c s₁ B0 hml hv
  obtain ⟨rfl, hP, hST⟩ := hv
  have B : zu_B p s m _ c zb_Thr_begin 3 "StonePost$Thrower" D cA ad A := ⟨B0.exec, B0.bytes, hml, findClass_of_methodNamed B0.named, (fun w hw => atoms_spec (ws := zu_ws zm_Thr_begin zb_Thr_begin 3 none) B0.pre w (List.mem_cons_of_mem _ hw)), hST⟩
  have hl := lv_entry ([.ref (ad r0), .int a1, .int a2]) (n := 3) (Nat.le_of_ble_eq_true rfl)
  rw [lg_entry_eq]
  generalize (lg_sl ([.ref (ad r0), .int a1, .int a2]) ++ List.replicate (3 - (lg_sl ([.ref (ad r0), .int a1, .int a2])).length) Slot.unset).toArray = ls at hl ⊢
  exact zl_Thr_begin B B0.returns B0.notSynchronized s.heap [] ls hP va_S.rf hl hr0 hf
theorem zw_Thr_begin {p : Program} {l : Launch} {e : Env} {R : Room} {s : State} {m : MethodId} {args : Array Value} {below : List Frame} {meth : Method} {c : Code} {H : Heap} {locs : List Loc} {cells slots : Nat} {Q : State → Prop} {cc : ByteArray} {pc nL : Nat} {ls : Array Slot} {rest st0 : List Value} {D : va_G} {cA : Nat → ClassId} {ad : Nat → Nat} {A : Nat → Prop} {X : IX} {Y : LX} {own : String} {index : Nat} {r0 : Nat} {a1 : Int32} {a2 : Int32} {X1 : IX} (B : zu_B p s m args c cc nL own D cA ad A) (hP : va_P D zu_cl (zu_pic cA ad X Y) H) (hS : va_S A s.heap H locs) (hr0 : zu_kd r0 = 6) (hq : fn_Thr_begin r0 a1 a2 X = X1) (m1 : Cond.methodLink own index zm_Thr_begin ∈ zu_TB) (hR1 : 1 + 1 ≤ R.frames) (hR2 : 8 + (3 + 11) + 26 ≤ R.locals) (hsz : ls.size = nL) (hst : st0 = .int a2 :: .int a1 :: .ref (ad r0) :: rest) (hw : (rest.map fun v => v.category).sum ≤ 8) (hdg : decode cc pc = .ok (.invokevirtual index, 3)) (h00 : cells ≤ R.cells ∧ slots ≤ R.slots) (kk : ∀ (H1 : Heap) (locs1 : List Loc), va_P D zu_cl (zu_pic cA ad X1 Y) H1 → va_S A s.heap H1 locs1 → W p l e R s m args below meth c H1 locs1 cells slots Q (F0 m (pc + 3) ls (rest))) : W p l e R s m args below meth c H locs cells slots Q (F0 m pc ls st0) := by
  subst hst
  exact zr_cVv (As := [.int a1, .int a2]) (rest := rest) (n := 2) (C := "StonePost$Thrower") (T := zt_Thr) (N := 1) B hP hS (zC_Thr_begin l hr0 hq) (K := 6) hr0 (by decide) (by decide) rfl rfl m1 zq_252 zq_253 zq_3 zq_254 (by decide +kernel) ⟨hR1, hR2⟩ rfl rfl rfl hsz rfl hw hdg h00 kk
abbrev zR_Land_addThrower : Room := { frames := 2, cells := 0, slots := 0, locals := 48 }
theorem zd_Land_addThrower_0 : decode zb_Land_addThrower 0 = .ok (.aload_n 0, 1) := by decide +kernel
theorem zd_Land_addThrower_1 : decode zb_Land_addThrower 1 = .ok (.getfield 53, 3) := by decide +kernel
theorem zd_Land_addThrower_4 : decode zb_Land_addThrower 4 = .ok (.bipush 10, 2) := by decide +kernel
theorem zd_Land_addThrower_6 : decode zb_Land_addThrower 6 = .ok (.if_icmp .lt 5, 3) := by decide +kernel
theorem zd_Land_addThrower_9 : decode zb_Land_addThrower 9 = .ok (.iconst (-1), 1) := by decide +kernel
theorem zd_Land_addThrower_10 : decode zb_Land_addThrower 10 = .ok (.ireturn, 1) := by decide +kernel
theorem zd_Land_addThrower_11 : decode zb_Land_addThrower 11 = .ok (.aload_n 0, 1) := by decide +kernel
theorem zd_Land_addThrower_12 : decode zb_Land_addThrower 12 = .ok (.getfield 17, 3) := by decide +kernel
theorem zd_Land_addThrower_15 : decode zb_Land_addThrower 15 = .ok (.aload_n 0, 1) := by decide +kernel
theorem zd_Land_addThrower_16 : decode zb_Land_addThrower 16 = .ok (.getfield 53, 3) := by decide +kernel
theorem zd_Land_addThrower_19 : decode zb_Land_addThrower 19 = .ok (.aaload, 1) := by decide +kernel
theorem zd_Land_addThrower_20 : decode zb_Land_addThrower 20 = .ok (.iload_n 1, 1) := by decide +kernel
theorem zd_Land_addThrower_21 : decode zb_Land_addThrower 21 = .ok (.iload_n 2, 1) := by decide +kernel
theorem zd_Land_addThrower_22 : decode zb_Land_addThrower 22 = .ok (.invokevirtual 62, 3) := by decide +kernel
theorem zd_Land_addThrower_25 : decode zb_Land_addThrower 25 = .ok (.aload_n 0, 1) := by decide +kernel
theorem zd_Land_addThrower_26 : decode zb_Land_addThrower 26 = .ok (.dup, 1) := by decide +kernel
theorem zd_Land_addThrower_27 : decode zb_Land_addThrower 27 = .ok (.getfield 53, 3) := by decide +kernel
theorem zd_Land_addThrower_30 : decode zb_Land_addThrower 30 = .ok (.iconst 1, 1) := by decide +kernel
theorem zd_Land_addThrower_31 : decode zb_Land_addThrower 31 = .ok (.iadd, 1) := by decide +kernel
theorem zd_Land_addThrower_32 : decode zb_Land_addThrower 32 = .ok (.putfield 53, 3) := by decide +kernel
theorem zd_Land_addThrower_35 : decode zb_Land_addThrower 35 = .ok (.aload_n 0, 1) := by decide +kernel
theorem zd_Land_addThrower_36 : decode zb_Land_addThrower 36 = .ok (.getfield 53, 3) := by decide +kernel
theorem zd_Land_addThrower_39 : decode zb_Land_addThrower 39 = .ok (.iconst 1, 1) := by decide +kernel
theorem zd_Land_addThrower_40 : decode zb_Land_addThrower 40 = .ok (.isub, 1) := by decide +kernel
theorem zd_Land_addThrower_41 : decode zb_Land_addThrower 41 = .ok (.ireturn, 1) := by decide +kernel
set_option maxHeartbeats 4000000 in
theorem zl_Land_addThrower {p : Program} {l : Launch} {e : Env} {s : State} {m : MethodId} {args : Array Value} {below : List Frame} {meth : Method} {c : Code} {D : va_G} {cA : Nat → ClassId} {ad : Nat → Nat} {A : Nat → Prop} (B : zu_B p s m args c zb_Land_addThrower 3 "StonePost$Land" D cA ad A) (hret : meth.sig.returnType = (some .int)) (hlk : meth.locks = false) {Y : LX} {res : Int32 × IX} {r0 : Nat} {a1 : Int32} {a2 : Int32} {X : IX} (H : Heap) (locs : List Loc) (ls : Array Slot) (hP : va_P D zu_cl (zu_pic cA ad X Y) H) (hS : va_S A s.heap H locs) (hl : lv_has ls 3 [(0, .ref (ad r0)), (1, .int a1), (2, .int a2)]) (hr0 : zu_kd r0 = 5) (hf : fn_Land_addThrower r0 a1 a2 X = some res) : W p l e zR_Land_addThrower s m args below meth c H locs 0 0 (MQ below (zu_Qi D cA ad A res.1 res.2 Y) args s 0 0 A) (F0 m 0 ls []) := by
  obtain ⟨hx, hb, hml, hown, hts, hST⟩ := id B
  unfold fn_Land_addThrower at hf
  refine lv_aload_n hx hb zd_Land_addThrower_0 rfl (lv_at hl 0 rfl) ?_
  refine zg_Land_throwerCount B hP hr0 zq_61 zd_Land_addThrower_1 ?_
  refine lv_bipush (v := 10) hx hb zd_Land_addThrower_4 (by decide) ?_
  refine lv_icmp_lt (tgt := 11) hx hb zd_Land_addThrower_6 (by decide) (fun c1 => ?_) (fun c1 => ?_)
  · have hf := zu_t c1 hf
    refine lv_aload_n hx hb zd_Land_addThrower_11 rfl (lv_at hl 0 rfl) ?_
    refine zg_Land_throwers B hP hr0 zq_53 zd_Land_addThrower_12 ?_
    refine lv_aload_n hx hb zd_Land_addThrower_15 rfl (lv_at hl 0 rfl) ?_
    refine zg_Land_throwerCount B hP hr0 zq_61 zd_Land_addThrower_16 ?_
    obtain ⟨hg2, hf⟩ := zu_gd_e hf
    refine zr_thr rfl B hP (zk_Land_throwers hr0) hg2 zd_Land_addThrower_19 ?_
    refine lv_iload_n hx hb zd_Land_addThrower_20 rfl (lv_at hl 1 rfl) ?_
    refine lv_iload_n hx hb zd_Land_addThrower_21 rfl (lv_at hl 2 rfl) ?_
    obtain ⟨X3, ehq4, hf⟩ := zu_nx_e hf
    have hq4 := ehq4.symm
    refine zw_Thr_begin (rest := []) B hP hS (zk_thr (zk_Land_throwers hr0) (zu_ib_lt hg2)) hq4 zq_251 (Nat.le_of_ble_eq_true rfl) (Nat.le_of_ble_eq_true rfl) hl.1 rfl (Nat.le_of_ble_eq_true rfl) zd_Land_addThrower_22 (by decide) (fun H locs hP hS => ?_)
    clear hq4 ehq4
    refine lv_aload_n hx hb zd_Land_addThrower_25 rfl (lv_at hl 0 rfl) ?_
    refine lv_dup hx hb zd_Land_addThrower_26 rfl ?_
    refine zg_Land_throwerCount B hP hr0 zq_61 zd_Land_addThrower_27 ?_
    refine lv_iconst (v := 1) hx hb zd_Land_addThrower_30 (by decide) ?_
    refine lv_iadd hx hb zd_Land_addThrower_31 ?_
    refine zp_Land_throwerCount B hP hS hf hr0 zq_61 zd_Land_addThrower_32 (fun X5 H locs hf hP hS => ?_)
    refine lv_aload_n hx hb zd_Land_addThrower_35 rfl (lv_at hl 0 rfl) ?_
    refine zg_Land_throwerCount B hP hr0 zq_61 zd_Land_addThrower_36 ?_
    refine lv_iconst (v := 1) hx hb zd_Land_addThrower_39 (by decide) ?_
    refine lv_isub hx hb zd_Land_addThrower_40 ?_
    obtain rfl := Option.some.inj hf
    exact zr_iret hx hb hret hlk hP hS zd_Land_addThrower_41
  · have hf := zu_f c1 hf
    refine lv_iconst (v := -1) hx hb zd_Land_addThrower_9 (by decide) ?_
    obtain rfl := Option.some.inj hf
    exact zr_iret hx hb hret hlk hP hS zd_Land_addThrower_10
theorem zC_Land_addThrower (l : Launch) {D : va_G} {cA : Nat → ClassId} {ad : Nat → Nat} {A : Nat → Prop} {r0 : Nat} {a1 : Int32} {a2 : Int32} {X : IX} {Y : LX} {res : Int32 × IX} (hr0 : zu_kd r0 = 5) (hf : fn_Land_addThrower r0 a1 a2 X = some res) : Met l zm_Land_addThrower (zu_ws zm_Land_addThrower zb_Land_addThrower 3 (some .int)) zR_Land_addThrower (va_Pc [.ref (ad r0), .int a1, .int a2] (zu_Pre D cA ad A X Y)) (zu_Qi D cA ad A res.1 res.2 Y) 0 0 A := by
  refine Met.ofW (cc := zb_Land_addThrower) (maxL := 3) (ret := (some .int)) (by decide +kernel) rfl ?_
  intro p e s m args below meth c s₁ B0 hml hv
  obtain ⟨rfl, hP, hST⟩ := hv
  have B : zu_B p s m _ c zb_Land_addThrower 3 "StonePost$Land" D cA ad A := ⟨B0.exec, B0.bytes, hml, findClass_of_methodNamed B0.named, (fun w hw => atoms_spec (ws := zu_ws zm_Land_addThrower zb_Land_addThrower 3 (some .int)) B0.pre w (List.mem_cons_of_mem _ hw)), hST⟩
  have hl := lv_entry ([.ref (ad r0), .int a1, .int a2]) (n := 3) (Nat.le_of_ble_eq_true rfl)
  rw [lg_entry_eq]
  generalize (lg_sl ([.ref (ad r0), .int a1, .int a2]) ++ List.replicate (3 - (lg_sl ([.ref (ad r0), .int a1, .int a2])).length) Slot.unset).toArray = ls at hl ⊢
  exact zl_Land_addThrower B B0.returns B0.notSynchronized s.heap [] ls hP va_S.rf hl hr0 hf
theorem zw_Land_addThrower {p : Program} {l : Launch} {e : Env} {R : Room} {s : State} {m : MethodId} {args : Array Value} {below : List Frame} {meth : Method} {c : Code} {H : Heap} {locs : List Loc} {cells slots : Nat} {Q : State → Prop} {cc : ByteArray} {pc nL : Nat} {ls : Array Slot} {rest st0 : List Value} {D : va_G} {cA : Nat → ClassId} {ad : Nat → Nat} {A : Nat → Prop} {X : IX} {Y : LX} {own : String} {index : Nat} {r0 : Nat} {a1 : Int32} {a2 : Int32} {v1 : Int32} {X1 : IX} (B : zu_B p s m args c cc nL own D cA ad A) (hP : va_P D zu_cl (zu_pic cA ad X Y) H) (hS : va_S A s.heap H locs) (hr0 : zu_kd r0 = 5) (hq : fn_Land_addThrower r0 a1 a2 X = some (v1, X1)) (m1 : Cond.methodLink own index zm_Land_addThrower ∈ zu_TB) (hR1 : 2 + 1 ≤ R.frames) (hR2 : 8 + (3 + 11) + 48 ≤ R.locals) (hsz : ls.size = nL) (hst : st0 = .int a2 :: .int a1 :: .ref (ad r0) :: rest) (hw : (rest.map fun v => v.category).sum ≤ 8) (hdg : decode cc pc = .ok (.invokevirtual index, 3)) (h00 : cells ≤ R.cells ∧ slots ≤ R.slots) (kk : ∀ (H1 : Heap) (locs1 : List Loc), va_P D zu_cl (zu_pic cA ad X1 Y) H1 → va_S A s.heap H1 locs1 → W p l e R s m args below meth c H1 locs1 cells slots Q (F0 m (pc + 3) ls (.int v1 :: rest))) : W p l e R s m args below meth c H locs cells slots Q (F0 m pc ls st0) := by
  subst hst
  exact zr_cVi (As := [.int a1, .int a2]) (rest := rest) (n := 2) (C := "StonePost$Land") (T := zt_Land) (N := 10) B hP hS (zC_Land_addThrower l hr0 hq) (K := 5) hr0 (by decide) (by decide) rfl rfl m1 zq_248 zq_249 zq_2 zq_250 (by decide +kernel) ⟨hR1, hR2⟩ rfl rfl rfl hsz rfl hw hdg h00 kk
abbrev zR_Post_finding : Room := { frames := 1, cells := 0, slots := 0, locals := 22 }
theorem zd_Post_finding_0 : decode zb_Post_finding 0 = .ok (.ldc 55, 2) := by decide +kernel
theorem zd_Post_finding_2 : decode zb_Post_finding 2 = .ok (.iload_n 1, 1) := by decide +kernel
theorem zd_Post_finding_3 : decode zb_Post_finding 3 = .ok (.isub, 1) := by decide +kernel
theorem zd_Post_finding_4 : decode zb_Post_finding 4 = .ok (.istore_n 2, 1) := by decide +kernel
theorem zd_Post_finding_5 : decode zb_Post_finding 5 = .ok (.iload_n 2, 1) := by decide +kernel
theorem zd_Post_finding_6 : decode zb_Post_finding 6 = .ok (.iconst 0, 1) := by decide +kernel
theorem zd_Post_finding_7 : decode zb_Post_finding 7 = .ok (.bipush 6, 2) := by decide +kernel
theorem zd_Post_finding_9 : decode zb_Post_finding 9 = .ok (.invokestatic 51, 3) := by decide +kernel
theorem zd_Post_finding_12 : decode zb_Post_finding 12 = .ok (.ifCond .eq 13, 3) := by decide +kernel
theorem zd_Post_finding_15 : decode zb_Post_finding 15 = .ok (.aload_n 0, 1) := by decide +kernel
theorem zd_Post_finding_16 : decode zb_Post_finding 16 = .ok (.getfield 42, 3) := by decide +kernel
theorem zd_Post_finding_19 : decode zb_Post_finding 19 = .ok (.iload_n 2, 1) := by decide +kernel
theorem zd_Post_finding_20 : decode zb_Post_finding 20 = .ok (.dup2, 1) := by decide +kernel
theorem zd_Post_finding_21 : decode zb_Post_finding 21 = .ok (.iaload, 1) := by decide +kernel
theorem zd_Post_finding_22 : decode zb_Post_finding 22 = .ok (.iconst 1, 1) := by decide +kernel
theorem zd_Post_finding_23 : decode zb_Post_finding 23 = .ok (.iadd, 1) := by decide +kernel
theorem zd_Post_finding_24 : decode zb_Post_finding 24 = .ok (.iastore, 1) := by decide +kernel
theorem zd_Post_finding_25 : decode zb_Post_finding 25 = .ok (.iload_n 1, 1) := by decide +kernel
theorem zd_Post_finding_26 : decode zb_Post_finding 26 = .ok (.ireturn, 1) := by decide +kernel
set_option maxHeartbeats 4000000 in
theorem zl_Post_finding_L25 {p : Program} {l : Launch} {e : Env} {s : State} {m : MethodId} {args : Array Value} {below : List Frame} {meth : Method} {c : Code} {D : va_G} {cA : Nat → ClassId} {ad : Nat → Nat} {A : Nat → Prop} (B : zu_B p s m args c zb_Post_finding 3 "StonePost" D cA ad A) (hret : meth.sig.returnType = (some .int)) (hlk : meth.locks = false) {Y : LX} {res : Int32 × IX} (x1 : Int32) (X : IX) (H : Heap) (locs : List Loc) (ls : Array Slot) (hP : va_P D zu_cl (zu_pic cA ad X Y) H) (hS : va_S A s.heap H locs) (hl : lv_has ls 3 [(1, .int x1)]) (hf : fn_Post_finding_L25 x1 X = some res) : W p l e zR_Post_finding s m args below meth c H locs 0 0 (MQ below (zu_Qi D cA ad A res.1 res.2 Y) args s 0 0 A) (F0 m 25 ls []) := by
  obtain ⟨hx, hb, hml, hown, hts, hST⟩ := id B
  unfold fn_Post_finding_L25 at hf
  refine lv_iload_n hx hb zd_Post_finding_25 rfl (lv_at hl 0 rfl) ?_
  obtain rfl := Option.some.inj hf
  exact zr_iret hx hb hret hlk hP hS zd_Post_finding_26
set_option maxHeartbeats 4000000 in
theorem zl_Post_finding {p : Program} {l : Launch} {e : Env} {s : State} {m : MethodId} {args : Array Value} {below : List Frame} {meth : Method} {c : Code} {D : va_G} {cA : Nat → ClassId} {ad : Nat → Nat} {A : Nat → Prop} (B : zu_B p s m args c zb_Post_finding 3 "StonePost" D cA ad A) (hret : meth.sig.returnType = (some .int)) (hlk : meth.locks = false) {Y : LX} {res : Int32 × IX} {a1 : Int32} {X : IX} (H : Heap) (locs : List Loc) (ls : Array Slot) (hP : va_P D zu_cl (zu_pic cA ad X Y) H) (hS : va_S A s.heap H locs) (hl : lv_has ls 3 [(0, .ref (ad 0)), (1, .int a1)]) (hf : fn_Post_finding a1 X = some res) : W p l e zR_Post_finding s m args below meth c H locs 0 0 (MQ below (zu_Qi D cA ad A res.1 res.2 Y) args s 0 0 A) (F0 m 0 ls []) := by
  obtain ⟨hx, hb, hml, hown, hts, hST⟩ := id B
  unfold fn_Post_finding at hf
  refine lv_ldc (v := -1000001) hx hb hown (hts _ zq_226) zd_Post_finding_0 ?_
  refine lv_iload_n hx hb zd_Post_finding_2 rfl (lv_at hl 1 rfl) ?_
  refine lv_isub hx hb zd_Post_finding_3 ?_
  refine zr_nxi hf (fun v1 hf => ?_)
  refine lv_istore_n (lv' := [(2, .int v1), (0, .ref (ad 0)), (1, .int a1)]) hx hb zd_Post_finding_4 rfl hl (by decide) rfl (fun ls hl => ?_)
  refine lv_iload_n hx hb zd_Post_finding_5 rfl (lv_at hl 0 rfl) ?_
  refine lv_iconst (v := 0) hx hb zd_Post_finding_6 (by decide) ?_
  refine lv_bipush (v := 6) hx hb zd_Post_finding_7 (by decide) ?_
  obtain ⟨v2, hq3, hf⟩ := zu_b1_e hf
  refine zw_Post_isWithin (rest := []) B hP hS hq3 zq_223 (Nat.le_of_ble_eq_true rfl) (Nat.le_of_ble_eq_true rfl) hl.1 rfl (Nat.le_of_ble_eq_true rfl) zd_Post_finding_9 (by decide) (fun H locs hP hS => ?_)
  clear hq3
  refine lv_if_eq (tgt := 25) hx hb zd_Post_finding_12 (by decide) (fun c4 => ?_) (fun c4 => ?_)
  · have hf := zu_t c4 hf
    exact zl_Post_finding_L25 B hret hlk a1 X _ _ _ hP hS (lv_sub hl [2] rfl) hf
  · have hf := zu_f c4 hf
    refine lv_aload_n hx hb zd_Post_finding_15 rfl (lv_at hl 1 rfl) ?_
    refine zg_Post_found B hP rfl zq_197 zd_Post_finding_16 ?_
    refine lv_iload_n hx hb zd_Post_finding_19 rfl (lv_at hl 0 rfl) ?_
    refine lv_dup2_11 hx hb zd_Post_finding_20 rfl rfl ?_
    obtain ⟨hg5, hf⟩ := zu_gd_e hf
    refine zr_iald rfl B hP rfl (by decide) rfl hg5 zd_Post_finding_21 ?_
    refine lv_iconst (v := 1) hx hb zd_Post_finding_22 (by decide) ?_
    refine lv_iadd hx hb zd_Post_finding_23 ?_
    obtain ⟨hg6, hf⟩ := zu_gd_e hf
    refine zr_iast rfl B hP hS hf rfl (by decide) rfl hg6 zd_Post_finding_24 (fun X7 H locs hf hP hS => ?_)
    exact zl_Post_finding_L25 B hret hlk a1 X7 _ _ _ hP hS (lv_sub hl [2] rfl) hf
theorem zC_Post_finding (l : Launch) {D : va_G} {cA : Nat → ClassId} {ad : Nat → Nat} {A : Nat → Prop} {a1 : Int32} {X : IX} {Y : LX} {res : Int32 × IX} (hf : fn_Post_finding a1 X = some res) : Met l zm_Post_finding (zu_ws zm_Post_finding zb_Post_finding 3 (some .int)) zR_Post_finding (va_Pc [.ref (ad 0), .int a1] (zu_Pre D cA ad A X Y)) (zu_Qi D cA ad A res.1 res.2 Y) 0 0 A := by
  refine Met.ofW (cc := zb_Post_finding) (maxL := 3) (ret := (some .int)) (by decide +kernel) rfl ?_
  intro p e s m args below meth c s₁ B0 hml hv
  obtain ⟨rfl, hP, hST⟩ := hv
  have B : zu_B p s m _ c zb_Post_finding 3 "StonePost" D cA ad A := ⟨B0.exec, B0.bytes, hml, findClass_of_methodNamed B0.named, (fun w hw => atoms_spec (ws := zu_ws zm_Post_finding zb_Post_finding 3 (some .int)) B0.pre w (List.mem_cons_of_mem _ hw)), hST⟩
  have hl := lv_entry ([.ref (ad 0), .int a1]) (n := 3) (Nat.le_of_ble_eq_true rfl)
  rw [lg_entry_eq]
  generalize (lg_sl ([.ref (ad 0), .int a1]) ++ List.replicate (3 - (lg_sl ([.ref (ad 0), .int a1])).length) Slot.unset).toArray = ls at hl ⊢
  exact zl_Post_finding B B0.returns B0.notSynchronized s.heap [] ls hP va_S.rf hl  hf
theorem zw_Post_finding {p : Program} {l : Launch} {e : Env} {R : Room} {s : State} {m : MethodId} {args : Array Value} {below : List Frame} {meth : Method} {c : Code} {H : Heap} {locs : List Loc} {cells slots : Nat} {Q : State → Prop} {cc : ByteArray} {pc nL : Nat} {ls : Array Slot} {rest st0 : List Value} {D : va_G} {cA : Nat → ClassId} {ad : Nat → Nat} {A : Nat → Prop} {X : IX} {Y : LX} {own : String} {index : Nat} {a1 : Int32} {v1 : Int32} {X1 : IX} (B : zu_B p s m args c cc nL own D cA ad A) (hP : va_P D zu_cl (zu_pic cA ad X Y) H) (hS : va_S A s.heap H locs) (hq : fn_Post_finding a1 X = some (v1, X1)) (m1 : Cond.methodLink own index zm_Post_finding ∈ zu_TB) (hR1 : 1 + 1 ≤ R.frames) (hR2 : 8 + (3 + 11) + 22 ≤ R.locals) (hsz : ls.size = nL) (hst : st0 = .int a1 :: .ref (ad 0) :: rest) (hw : (rest.map fun v => v.category).sum ≤ 8) (hdg : decode cc pc = .ok (.invokevirtual index, 3)) (h00 : cells ≤ R.cells ∧ slots ≤ R.slots) (kk : ∀ (H1 : Heap) (locs1 : List Loc), va_P D zu_cl (zu_pic cA ad X1 Y) H1 → va_S A s.heap H1 locs1 → W p l e R s m args below meth c H1 locs1 cells slots Q (F0 m (pc + 3) ls (.int v1 :: rest))) : W p l e R s m args below meth c H locs cells slots Q (F0 m pc ls st0) := by
  subst hst
  exact zr_cVi (As := [.int a1]) (rest := rest) (n := 1) (C := "StonePost") (T := zt_Post) (N := 8) B hP hS (zC_Post_finding l  hq) (K := 1) rfl (by decide) (by decide) rfl rfl m1 zq_229 zqP_0 zq_1 zq_230 (by decide +kernel) ⟨hR1, hR2⟩ rfl rfl rfl hsz rfl hw hdg h00 kk
abbrev zR_Post_thrower : Room := { frames := 3, cells := 0, slots := 0, locals := 70 }
theorem zd_Post_thrower_0 : decode zb_Post_thrower 0 = .ok (.iload_n 1, 1) := by decide +kernel
theorem zd_Post_thrower_1 : decode zb_Post_thrower 1 = .ok (.invokestatic 70, 3) := by decide +kernel
theorem zd_Post_thrower_4 : decode zb_Post_thrower 4 = .ok (.ifCond .eq 10, 3) := by decide +kernel
theorem zd_Post_thrower_7 : decode zb_Post_thrower 7 = .ok (.iload_n 2, 1) := by decide +kernel
theorem zd_Post_thrower_8 : decode zb_Post_thrower 8 = .ok (.invokestatic 47, 3) := by decide +kernel
theorem zd_Post_thrower_11 : decode zb_Post_thrower 11 = .ok (.ifCond .ne 10, 3) := by decide +kernel
theorem zd_Post_thrower_14 : decode zb_Post_thrower 14 = .ok (.aload_n 0, 1) := by decide +kernel
theorem zd_Post_thrower_15 : decode zb_Post_thrower 15 = .ok (.ldc 55, 2) := by decide +kernel
theorem zd_Post_thrower_17 : decode zb_Post_thrower 17 = .ok (.invokevirtual 56, 3) := by decide +kernel
theorem zd_Post_thrower_20 : decode zb_Post_thrower 20 = .ok (.ireturn, 1) := by decide +kernel
theorem zd_Post_thrower_21 : decode zb_Post_thrower 21 = .ok (.aload_n 0, 1) := by decide +kernel
theorem zd_Post_thrower_22 : decode zb_Post_thrower 22 = .ok (.getfield 10, 3) := by decide +kernel
theorem zd_Post_thrower_25 : decode zb_Post_thrower 25 = .ok (.iload_n 2, 1) := by decide +kernel
theorem zd_Post_thrower_26 : decode zb_Post_thrower 26 = .ok (.invokevirtual 73, 3) := by decide +kernel
theorem zd_Post_thrower_29 : decode zb_Post_thrower 29 = .ok (.iconst (-1), 1) := by decide +kernel
theorem zd_Post_thrower_30 : decode zb_Post_thrower 30 = .ok (.if_icmp .eq 10, 3) := by decide +kernel
theorem zd_Post_thrower_33 : decode zb_Post_thrower 33 = .ok (.aload_n 0, 1) := by decide +kernel
theorem zd_Post_thrower_34 : decode zb_Post_thrower 34 = .ok (.ldc 76, 2) := by decide +kernel
theorem zd_Post_thrower_36 : decode zb_Post_thrower 36 = .ok (.invokevirtual 56, 3) := by decide +kernel
theorem zd_Post_thrower_39 : decode zb_Post_thrower 39 = .ok (.ireturn, 1) := by decide +kernel
theorem zd_Post_thrower_40 : decode zb_Post_thrower 40 = .ok (.aload_n 0, 1) := by decide +kernel
theorem zd_Post_thrower_41 : decode zb_Post_thrower 41 = .ok (.getfield 10, 3) := by decide +kernel
theorem zd_Post_thrower_44 : decode zb_Post_thrower 44 = .ok (.iload_n 1, 1) := by decide +kernel
theorem zd_Post_thrower_45 : decode zb_Post_thrower 45 = .ok (.iload_n 2, 1) := by decide +kernel
theorem zd_Post_thrower_46 : decode zb_Post_thrower 46 = .ok (.invokevirtual 77, 3) := by decide +kernel
theorem zd_Post_thrower_49 : decode zb_Post_thrower 49 = .ok (.istore_n 3, 1) := by decide +kernel
theorem zd_Post_thrower_50 : decode zb_Post_thrower 50 = .ok (.iload_n 3, 1) := by decide +kernel
theorem zd_Post_thrower_51 : decode zb_Post_thrower 51 = .ok (.iconst (-1), 1) := by decide +kernel
theorem zd_Post_thrower_52 : decode zb_Post_thrower 52 = .ok (.if_icmp .ne 12, 3) := by decide +kernel
theorem zd_Post_thrower_55 : decode zb_Post_thrower 55 = .ok (.aload_n 0, 1) := by decide +kernel
theorem zd_Post_thrower_56 : decode zb_Post_thrower 56 = .ok (.ldc 81, 2) := by decide +kernel
theorem zd_Post_thrower_58 : decode zb_Post_thrower 58 = .ok (.invokevirtual 56, 3) := by decide +kernel
theorem zd_Post_thrower_61 : decode zb_Post_thrower 61 = .ok (.goto 4, 3) := by decide +kernel
theorem zd_Post_thrower_64 : decode zb_Post_thrower 64 = .ok (.iload_n 3, 1) := by decide +kernel
theorem zd_Post_thrower_65 : decode zb_Post_thrower 65 = .ok (.ireturn, 1) := by decide +kernel
set_option maxHeartbeats 4000000 in
theorem zl_Post_thrower_L65 {p : Program} {l : Launch} {e : Env} {s : State} {m : MethodId} {args : Array Value} {below : List Frame} {meth : Method} {c : Code} {D : va_G} {cA : Nat → ClassId} {ad : Nat → Nat} {A : Nat → Prop} (B : zu_B p s m args c zb_Post_thrower 4 "StonePost" D cA ad A) (hret : meth.sig.returnType = (some .int)) (hlk : meth.locks = false) {Y : LX} {res : Int32 × IX} (y0 : Int32) (X : IX) (H : Heap) (locs : List Loc) (ls : Array Slot) (hP : va_P D zu_cl (zu_pic cA ad X Y) H) (hS : va_S A s.heap H locs) (hl : lv_has ls 4 []) (hf : fn_Post_thrower_L65 y0 X = some res) : W p l e zR_Post_thrower s m args below meth c H locs 0 0 (MQ below (zu_Qi D cA ad A res.1 res.2 Y) args s 0 0 A) (F0 m 65 ls [.int y0]) := by
  obtain ⟨hx, hb, hml, hown, hts, hST⟩ := id B
  unfold fn_Post_thrower_L65 at hf
  obtain rfl := Option.some.inj hf
  exact zr_iret hx hb hret hlk hP hS zd_Post_thrower_65
set_option maxHeartbeats 4000000 in
theorem zl_Post_thrower_L14 {p : Program} {l : Launch} {e : Env} {s : State} {m : MethodId} {args : Array Value} {below : List Frame} {meth : Method} {c : Code} {D : va_G} {cA : Nat → ClassId} {ad : Nat → Nat} {A : Nat → Prop} (B : zu_B p s m args c zb_Post_thrower 4 "StonePost" D cA ad A) (hret : meth.sig.returnType = (some .int)) (hlk : meth.locks = false) {Y : LX} {res : Int32 × IX} (X : IX) (H : Heap) (locs : List Loc) (ls : Array Slot) (hP : va_P D zu_cl (zu_pic cA ad X Y) H) (hS : va_S A s.heap H locs) (hl : lv_has ls 4 [(0, .ref (ad 0))]) (hf : fn_Post_thrower_L14 X = some res) : W p l e zR_Post_thrower s m args below meth c H locs 0 0 (MQ below (zu_Qi D cA ad A res.1 res.2 Y) args s 0 0 A) (F0 m 14 ls []) := by
  obtain ⟨hx, hb, hml, hown, hts, hST⟩ := id B
  unfold fn_Post_thrower_L14 at hf
  refine lv_aload_n hx hb zd_Post_thrower_14 rfl (lv_at hl 0 rfl) ?_
  refine lv_ldc (v := -1000001) hx hb hown (hts _ zq_226) zd_Post_thrower_15 ?_
  obtain ⟨v20, X21, hq22, hf⟩ := zu_b2_e hf
  refine zw_Post_finding (rest := []) B hP hS hq22 zq_227 (Nat.le_of_ble_eq_true rfl) (Nat.le_of_ble_eq_true rfl) hl.1 rfl (Nat.le_of_ble_eq_true rfl) zd_Post_thrower_17 (by decide) (fun H locs hP hS => ?_)
  clear hq22
  obtain rfl := Option.some.inj hf
  exact zr_iret hx hb hret hlk hP hS zd_Post_thrower_20
set_option maxHeartbeats 4000000 in
theorem zl_Post_thrower {p : Program} {l : Launch} {e : Env} {s : State} {m : MethodId} {args : Array Value} {below : List Frame} {meth : Method} {c : Code} {D : va_G} {cA : Nat → ClassId} {ad : Nat → Nat} {A : Nat → Prop} (B : zu_B p s m args c zb_Post_thrower 4 "StonePost" D cA ad A) (hret : meth.sig.returnType = (some .int)) (hlk : meth.locks = false) {Y : LX} {res : Int32 × IX} {a1 : Int32} {a2 : Int32} {X : IX} (H : Heap) (locs : List Loc) (ls : Array Slot) (hP : va_P D zu_cl (zu_pic cA ad X Y) H) (hS : va_S A s.heap H locs) (hl : lv_has ls 4 [(0, .ref (ad 0)), (1, .int a1), (2, .int a2)]) (hf : fn_Post_thrower a1 a2 X = some res) : W p l e zR_Post_thrower s m args below meth c H locs 0 0 (MQ below (zu_Qi D cA ad A res.1 res.2 Y) args s 0 0 A) (F0 m 0 ls []) := by
  obtain ⟨hx, hb, hml, hown, hts, hST⟩ := id B
  unfold fn_Post_thrower at hf
  refine lv_iload_n hx hb zd_Post_thrower_0 rfl (lv_at hl 1 rfl) ?_
  obtain ⟨v1, hq2, hf⟩ := zu_b1_e hf
  refine zw_Post_isKind (rest := []) B hP hS hq2 zq_239 (Nat.le_of_ble_eq_true rfl) (Nat.le_of_ble_eq_true rfl) hl.1 rfl (Nat.le_of_ble_eq_true rfl) zd_Post_thrower_1 (by decide) (fun H locs hP hS => ?_)
  clear hq2
  refine lv_if_eq (tgt := 14) hx hb zd_Post_thrower_4 (by decide) (fun c3 => ?_) (fun c3 => ?_)
  · have hf := zu_t c3 hf
    exact zl_Post_thrower_L14 B hret hlk X _ _ _ hP hS (lv_sub hl [0] rfl) hf
  · have hf := zu_f c3 hf
    refine lv_iload_n hx hb zd_Post_thrower_7 rfl (lv_at hl 2 rfl) ?_
    obtain ⟨v4, hq5, hf⟩ := zu_b1_e hf
    refine zw_Post_isCell (rest := []) B hP hS hq5 zq_220 (Nat.le_of_ble_eq_true rfl) (Nat.le_of_ble_eq_true rfl) hl.1 rfl (Nat.le_of_ble_eq_true rfl) zd_Post_thrower_8 (by decide) (fun H locs hP hS => ?_)
    clear hq5
    refine lv_if_ne (tgt := 21) hx hb zd_Post_thrower_11 (by decide) (fun c6 => ?_) (fun c6 => ?_)
    · have hf := zu_f c6 hf
      refine lv_aload_n hx hb zd_Post_thrower_21 rfl (lv_at hl 0 rfl) ?_
      refine zg_Post_land B hP rfl zq_191 zd_Post_thrower_22 ?_
      refine lv_iload_n hx hb zd_Post_thrower_25 rfl (lv_at hl 2 rfl) ?_
      obtain ⟨v7, hq8, hf⟩ := zu_b1_e hf
      refine zw_Land_standingOn (rest := []) B hP hS rfl hq8 zq_242 (Nat.le_of_ble_eq_true rfl) (Nat.le_of_ble_eq_true rfl) hl.1 rfl (Nat.le_of_ble_eq_true rfl) zd_Post_thrower_26 (by decide) (fun H locs hP hS => ?_)
      clear hq8
      refine lv_iconst (v := -1) hx hb zd_Post_thrower_29 (by decide) ?_
      refine lv_icmp_eq (tgt := 40) hx hb zd_Post_thrower_30 (by decide) (fun c9 => ?_) (fun c9 => ?_)
      · have hf := zu_t c9 hf
        refine lv_aload_n hx hb zd_Post_thrower_40 rfl (lv_at hl 0 rfl) ?_
        refine zg_Post_land B hP rfl zq_191 zd_Post_thrower_41 ?_
        refine lv_iload_n hx hb zd_Post_thrower_44 rfl (lv_at hl 1 rfl) ?_
        refine lv_iload_n hx hb zd_Post_thrower_45 rfl (lv_at hl 2 rfl) ?_
        obtain ⟨v10, X11, hq12, hf⟩ := zu_b2_e hf
        refine zw_Land_addThrower (rest := []) B hP hS rfl hq12 zq_247 (Nat.le_of_ble_eq_true rfl) (Nat.le_of_ble_eq_true rfl) hl.1 rfl (Nat.le_of_ble_eq_true rfl) zd_Post_thrower_46 (by decide) (fun H locs hP hS => ?_)
        clear hq12
        refine lv_istore_n (lv' := [(3, .int v10), (0, .ref (ad 0)), (1, .int a1), (2, .int a2)]) hx hb zd_Post_thrower_49 rfl hl (by decide) rfl (fun ls hl => ?_)
        refine lv_iload_n hx hb zd_Post_thrower_50 rfl (lv_at hl 0 rfl) ?_
        refine lv_iconst (v := -1) hx hb zd_Post_thrower_51 (by decide) ?_
        refine lv_icmp_ne (tgt := 64) hx hb zd_Post_thrower_52 (by decide) (fun c13 => ?_) (fun c13 => ?_)
        · have hf := zu_f c13 hf
          refine lv_iload_n hx hb zd_Post_thrower_64 rfl (lv_at hl 0 rfl) ?_
          exact zl_Post_thrower_L65 B hret hlk v10 X11 _ _ _ hP hS (lv_sub hl [] rfl) hf
        · have hf := zu_t c13 hf
          refine lv_aload_n hx hb zd_Post_thrower_55 rfl (lv_at hl 1 rfl) ?_
          refine lv_ldc (v := -1000002) hx hb hown (hts _ zq_260) zd_Post_thrower_56 ?_
          obtain ⟨v14, X15, hq16, hf⟩ := zu_b2_e hf
          refine zw_Post_finding (rest := []) B hP hS hq16 zq_227 (Nat.le_of_ble_eq_true rfl) (Nat.le_of_ble_eq_true rfl) hl.1 rfl (Nat.le_of_ble_eq_true rfl) zd_Post_thrower_58 (by decide) (fun H locs hP hS => ?_)
          clear hq16
          refine lv_goto (tgt := 65) hx hb zd_Post_thrower_61 (by decide) ?_
          exact zl_Post_thrower_L65 B hret hlk v14 X15 _ _ _ hP hS (lv_sub hl [] rfl) hf
      · have hf := zu_f c9 hf
        refine lv_aload_n hx hb zd_Post_thrower_33 rfl (lv_at hl 0 rfl) ?_
        refine lv_ldc (v := -1000005) hx hb hown (hts _ zq_246) zd_Post_thrower_34 ?_
        obtain ⟨v17, X18, hq19, hf⟩ := zu_b2_e hf
        refine zw_Post_finding (rest := []) B hP hS hq19 zq_227 (Nat.le_of_ble_eq_true rfl) (Nat.le_of_ble_eq_true rfl) hl.1 rfl (Nat.le_of_ble_eq_true rfl) zd_Post_thrower_36 (by decide) (fun H locs hP hS => ?_)
        clear hq19
        obtain rfl := Option.some.inj hf
        exact zr_iret hx hb hret hlk hP hS zd_Post_thrower_39
    · have hf := zu_t c6 hf
      exact zl_Post_thrower_L14 B hret hlk X _ _ _ hP hS (lv_sub hl [0] rfl) hf
theorem zC_Post_thrower (l : Launch) {D : va_G} {cA : Nat → ClassId} {ad : Nat → Nat} {A : Nat → Prop} {a1 : Int32} {a2 : Int32} {X : IX} {Y : LX} {res : Int32 × IX} (hf : fn_Post_thrower a1 a2 X = some res) : Met l zm_Post_thrower (zu_ws zm_Post_thrower zb_Post_thrower 4 (some .int)) zR_Post_thrower (va_Pc [.ref (ad 0), .int a1, .int a2] (zu_Pre D cA ad A X Y)) (zu_Qi D cA ad A res.1 res.2 Y) 0 0 A := by
  refine Met.ofW (cc := zb_Post_thrower) (maxL := 4) (ret := (some .int)) (by decide +kernel) rfl ?_
  intro p e s m args below meth c s₁ B0 hml hv
  obtain ⟨rfl, hP, hST⟩ := hv
  have B : zu_B p s m _ c zb_Post_thrower 4 "StonePost" D cA ad A := ⟨B0.exec, B0.bytes, hml, findClass_of_methodNamed B0.named, (fun w hw => atoms_spec (ws := zu_ws zm_Post_thrower zb_Post_thrower 4 (some .int)) B0.pre w (List.mem_cons_of_mem _ hw)), hST⟩
  have hl := lv_entry ([.ref (ad 0), .int a1, .int a2]) (n := 4) (Nat.le_of_ble_eq_true rfl)
  rw [lg_entry_eq]
  generalize (lg_sl ([.ref (ad 0), .int a1, .int a2]) ++ List.replicate (4 - (lg_sl ([.ref (ad 0), .int a1, .int a2])).length) Slot.unset).toArray = ls at hl ⊢
  exact zl_Post_thrower B B0.returns B0.notSynchronized s.heap [] ls hP va_S.rf hl  hf
theorem zw_Post_thrower {p : Program} {l : Launch} {e : Env} {R : Room} {s : State} {m : MethodId} {args : Array Value} {below : List Frame} {meth : Method} {c : Code} {H : Heap} {locs : List Loc} {cells slots : Nat} {Q : State → Prop} {cc : ByteArray} {pc nL : Nat} {ls : Array Slot} {rest st0 : List Value} {D : va_G} {cA : Nat → ClassId} {ad : Nat → Nat} {A : Nat → Prop} {X : IX} {Y : LX} {own : String} {index : Nat} {a1 : Int32} {a2 : Int32} {v1 : Int32} {X1 : IX} (B : zu_B p s m args c cc nL own D cA ad A) (hP : va_P D zu_cl (zu_pic cA ad X Y) H) (hS : va_S A s.heap H locs) (hq : fn_Post_thrower a1 a2 X = some (v1, X1)) (m1 : Cond.methodLink own index zm_Post_thrower ∈ zu_TB) (hR1 : 3 + 1 ≤ R.frames) (hR2 : 8 + (4 + 11) + 70 ≤ R.locals) (hsz : ls.size = nL) (hst : st0 = .int a2 :: .int a1 :: .ref (ad 0) :: rest) (hw : (rest.map fun v => v.category).sum ≤ 8) (hdg : decode cc pc = .ok (.invokevirtual index, 3)) (h00 : cells ≤ R.cells ∧ slots ≤ R.slots) (kk : ∀ (H1 : Heap) (locs1 : List Loc), va_P D zu_cl (zu_pic cA ad X1 Y) H1 → va_S A s.heap H1 locs1 → W p l e R s m args below meth c H1 locs1 cells slots Q (F0 m (pc + 3) ls (.int v1 :: rest))) : W p l e R s m args below meth c H locs cells slots Q (F0 m pc ls st0) := by
  subst hst
  exact zr_cVi (As := [.int a1, .int a2]) (rest := rest) (n := 2) (C := "StonePost") (T := zt_Post) (N := 8) B hP hS (zC_Post_thrower l  hq) (K := 1) rfl (by decide) (by decide) rfl rfl m1 zq_236 zq_237 zq_1 zq_238 (by decide +kernel) ⟨hR1, hR2⟩ rfl rfl rfl hsz rfl hw hdg h00 kk
abbrev zR_Mod_in : Room := { frames := 0, cells := 0, slots := 0, locals := 0 }
theorem zd_Mod_in_0 : decode zb_Mod_in 0 = .ok (.lload_n 0, 1) := by decide +kernel
theorem zd_Mod_in_1 : decode zb_Mod_in 1 = .ok (.lload_n 2, 1) := by decide +kernel
theorem zd_Mod_in_2 : decode zb_Mod_in 2 = .ok (.lcmp, 1) := by decide +kernel
theorem zd_Mod_in_3 : decode zb_Mod_in 3 = .ok (.ifCond .lt 14, 3) := by decide +kernel
theorem zd_Mod_in_6 : decode zb_Mod_in 6 = .ok (.lload_n 0, 1) := by decide +kernel
theorem zd_Mod_in_7 : decode zb_Mod_in 7 = .ok (.lload 4, 2) := by decide +kernel
theorem zd_Mod_in_9 : decode zb_Mod_in 9 = .ok (.lcmp, 1) := by decide +kernel
theorem zd_Mod_in_10 : decode zb_Mod_in 10 = .ok (.ifCond .gt 7, 3) := by decide +kernel
theorem zd_Mod_in_13 : decode zb_Mod_in 13 = .ok (.iconst 1, 1) := by decide +kernel
theorem zd_Mod_in_14 : decode zb_Mod_in 14 = .ok (.goto 4, 3) := by decide +kernel
theorem zd_Mod_in_17 : decode zb_Mod_in 17 = .ok (.iconst 0, 1) := by decide +kernel
theorem zd_Mod_in_18 : decode zb_Mod_in 18 = .ok (.ireturn, 1) := by decide +kernel
set_option maxHeartbeats 4000000 in
theorem zl_Mod_in_L18 {p : Program} {l : Launch} {e : Env} {s : State} {m : MethodId} {args : Array Value} {below : List Frame} {meth : Method} {c : Code} {D : va_G} {cA : Nat → ClassId} {ad : Nat → Nat} {A : Nat → Prop} (B : zu_B p s m args c zb_Mod_in 6 "StonePostModel" D cA ad A) (hret : meth.sig.returnType = (some .boolean)) (hlk : meth.locks = false) {X : IX} {Y : LX} {res : Int32} (y0 : Int32) (H : Heap) (locs : List Loc) (ls : Array Slot) (hP : va_P D zu_cl (zu_pic cA ad X Y) H) (hS : va_S A s.heap H locs) (hl : lv_has ls 6 []) (hf : fn_Mod_in_L18 y0 = some res) : W p l e zR_Mod_in s m args below meth c H locs 0 0 (MQ below (zu_Qi D cA ad A res X Y) args s 0 0 A) (F0 m 18 ls [.int y0]) := by
  obtain ⟨hx, hb, hml, hown, hts, hST⟩ := id B
  unfold fn_Mod_in_L18 at hf
  obtain ⟨hg3, hf⟩ := zu_gd_e hf
  obtain rfl := Option.some.inj hf
  exact zr_zret hx hb hret hlk hP hS hg3 zd_Mod_in_18
set_option maxHeartbeats 4000000 in
theorem zl_Mod_in_L17 {p : Program} {l : Launch} {e : Env} {s : State} {m : MethodId} {args : Array Value} {below : List Frame} {meth : Method} {c : Code} {D : va_G} {cA : Nat → ClassId} {ad : Nat → Nat} {A : Nat → Prop} (B : zu_B p s m args c zb_Mod_in 6 "StonePostModel" D cA ad A) (hret : meth.sig.returnType = (some .boolean)) (hlk : meth.locks = false) {X : IX} {Y : LX} {res : Int32} (H : Heap) (locs : List Loc) (ls : Array Slot) (hP : va_P D zu_cl (zu_pic cA ad X Y) H) (hS : va_S A s.heap H locs) (hl : lv_has ls 6 []) (hf : fn_Mod_in_L17 = some res) : W p l e zR_Mod_in s m args below meth c H locs 0 0 (MQ below (zu_Qi D cA ad A res X Y) args s 0 0 A) (F0 m 17 ls []) := by
  obtain ⟨hx, hb, hml, hown, hts, hST⟩ := id B
  unfold fn_Mod_in_L17 at hf
  refine lv_iconst (v := 0) hx hb zd_Mod_in_17 (by decide) ?_
  exact zl_Mod_in_L18 B hret hlk (0 : Int32) _ _ _ hP hS (lv_sub hl [] rfl) hf
set_option maxHeartbeats 4000000 in
theorem zl_Mod_in {p : Program} {l : Launch} {e : Env} {s : State} {m : MethodId} {args : Array Value} {below : List Frame} {meth : Method} {c : Code} {D : va_G} {cA : Nat → ClassId} {ad : Nat → Nat} {A : Nat → Prop} (B : zu_B p s m args c zb_Mod_in 6 "StonePostModel" D cA ad A) (hret : meth.sig.returnType = (some .boolean)) (hlk : meth.locks = false) {X : IX} {Y : LX} {res : Int32} {a0 : Int64} {a2 : Int64} {a4 : Int64} (H : Heap) (locs : List Loc) (ls : Array Slot) (hP : va_P D zu_cl (zu_pic cA ad X Y) H) (hS : va_S A s.heap H locs) (hl : lv_has ls 6 [(0, .long a0), (2, .long a2), (4, .long a4)]) (hf : fn_Mod_in a0 a2 a4 = some res) : W p l e zR_Mod_in s m args below meth c H locs 0 0 (MQ below (zu_Qi D cA ad A res X Y) args s 0 0 A) (F0 m 0 ls []) := by
  obtain ⟨hx, hb, hml, hown, hts, hST⟩ := id B
  unfold fn_Mod_in at hf
  refine lv_lload_n hx hb zd_Mod_in_0 rfl (lv_at hl 0 rfl) ?_
  refine lv_lload_n hx hb zd_Mod_in_1 rfl (lv_at hl 1 rfl) ?_
  refine W.lcmp hx hb zd_Mod_in_2 ?_
  refine lv_if_lt (tgt := 17) hx hb zd_Mod_in_3 (by decide) (fun c1 => ?_) (fun c1 => ?_)
  · have hf := zu_t c1 hf
    exact zl_Mod_in_L17 B hret hlk _ _ _ hP hS (lv_sub hl [] rfl) hf
  · have hf := zu_f c1 hf
    refine lv_lload_n hx hb zd_Mod_in_6 rfl (lv_at hl 0 rfl) ?_
    refine lv_lload hx hb zd_Mod_in_7 (lv_at hl 2 rfl) ?_
    refine W.lcmp hx hb zd_Mod_in_9 ?_
    refine lv_if_gt (tgt := 17) hx hb zd_Mod_in_10 (by decide) (fun c2 => ?_) (fun c2 => ?_)
    · have hf := zu_t c2 hf
      exact zl_Mod_in_L17 B hret hlk _ _ _ hP hS (lv_sub hl [] rfl) hf
    · have hf := zu_f c2 hf
      refine lv_iconst (v := 1) hx hb zd_Mod_in_13 (by decide) ?_
      refine lv_goto (tgt := 18) hx hb zd_Mod_in_14 (by decide) ?_
      exact zl_Mod_in_L18 B hret hlk (1 : Int32) _ _ _ hP hS (lv_sub hl [] rfl) hf
theorem zC_Mod_in (l : Launch) {D : va_G} {cA : Nat → ClassId} {ad : Nat → Nat} {A : Nat → Prop} {a0 : Int64} {a2 : Int64} {a4 : Int64} {X : IX} {Y : LX} {res : Int32} (hf : fn_Mod_in a0 a2 a4 = some res) : Met l zm_Mod_in (zu_ws zm_Mod_in zb_Mod_in 6 (some .boolean)) zR_Mod_in (va_Pc [.long a0, .long a2, .long a4] (zu_Pre D cA ad A X Y)) (zu_Qi D cA ad A res X Y) 0 0 A := by
  refine Met.ofW (cc := zb_Mod_in) (maxL := 6) (ret := (some .boolean)) (by decide +kernel) rfl ?_
  intro p e s m args below meth c s₁ B0 hml hv
  obtain ⟨rfl, hP, hST⟩ := hv
  have B : zu_B p s m _ c zb_Mod_in 6 "StonePostModel" D cA ad A := ⟨B0.exec, B0.bytes, hml, findClass_of_methodNamed B0.named, (fun w hw => atoms_spec (ws := zu_ws zm_Mod_in zb_Mod_in 6 (some .boolean)) B0.pre w (List.mem_cons_of_mem _ hw)), hST⟩
  have hl := lv_entry ([.long a0, .long a2, .long a4]) (n := 6) (Nat.le_of_ble_eq_true rfl)
  rw [lg_entry_eq]
  generalize (lg_sl ([.long a0, .long a2, .long a4]) ++ List.replicate (6 - (lg_sl ([.long a0, .long a2, .long a4])).length) Slot.unset).toArray = ls at hl ⊢
  exact zl_Mod_in B B0.returns B0.notSynchronized s.heap [] ls hP va_S.rf hl  hf
theorem zw_Mod_in {p : Program} {l : Launch} {e : Env} {R : Room} {s : State} {m : MethodId} {args : Array Value} {below : List Frame} {meth : Method} {c : Code} {H : Heap} {locs : List Loc} {cells slots : Nat} {Q : State → Prop} {cc : ByteArray} {pc nL : Nat} {ls : Array Slot} {rest st0 : List Value} {D : va_G} {cA : Nat → ClassId} {ad : Nat → Nat} {A : Nat → Prop} {X : IX} {Y : LX} {own : String} {index : Nat} {a0 : Int64} {a2 : Int64} {a4 : Int64} {v1 : Int32} (B : zu_B p s m args c cc nL own D cA ad A) (hP : va_P D zu_cl (zu_pic cA ad X Y) H) (hS : va_S A s.heap H locs) (hq : fn_Mod_in a0 a2 a4 = some v1) (m1 : Cond.methodLink own index zm_Mod_in ∈ zu_TB) (hR1 : 0 + 1 ≤ R.frames) (hR2 : 8 + (6 + 11) + 0 ≤ R.locals) (hsz : ls.size = nL) (hst : st0 = .long a4 :: .long a2 :: .long a0 ::  rest) (hw : (rest.map fun v => v.category).sum ≤ 8) (hdg : decode cc pc = .ok (.invokestatic index, 3)) (h00 : cells ≤ R.cells ∧ slots ≤ R.slots) (kk : ∀ (H1 : Heap) (locs1 : List Loc), va_P D zu_cl (zu_pic cA ad X Y) H1 → va_S A s.heap H1 locs1 → W p l e R s m args below meth c H1 locs1 cells slots Q (F0 m (pc + 3) ls (.int v1 :: rest))) : W p l e R s m args below meth c H locs cells slots Q (F0 m pc ls st0) := by
  subst hst
  exact zr_cSi (As := [.long a0, .long a2, .long a4]) (rest := rest) (n := 3) B hP hS (zC_Mod_in l  hq) m1 zq_940 zq_8 zq_941 (by decide +kernel) ⟨hR1, hR2⟩ rfl rfl rfl hsz rfl hw hdg h00 kk
abbrev zR_Mod_isCell : Room := { frames := 1, cells := 0, slots := 0, locals := 25 }
theorem zd_Mod_isCell_0 : decode zb_Mod_isCell 0 = .ok (.iload_n 0, 1) := by decide +kernel
theorem zd_Mod_isCell_1 : decode zb_Mod_isCell 1 = .ok (.i2l, 1) := by decide +kernel
theorem zd_Mod_isCell_2 : decode zb_Mod_isCell 2 = .ok (.lconst 0, 1) := by decide +kernel
theorem zd_Mod_isCell_3 : decode zb_Mod_isCell 3 = .ok (.ldc2_w 51, 3) := by decide +kernel
theorem zd_Mod_isCell_6 : decode zb_Mod_isCell 6 = .ok (.invokestatic 53, 3) := by decide +kernel
theorem zd_Mod_isCell_9 : decode zb_Mod_isCell 9 = .ok (.ireturn, 1) := by decide +kernel
set_option maxHeartbeats 4000000 in
theorem zl_Mod_isCell {p : Program} {l : Launch} {e : Env} {s : State} {m : MethodId} {args : Array Value} {below : List Frame} {meth : Method} {c : Code} {D : va_G} {cA : Nat → ClassId} {ad : Nat → Nat} {A : Nat → Prop} (B : zu_B p s m args c zb_Mod_isCell 1 "StonePostModel" D cA ad A) (hret : meth.sig.returnType = (some .boolean)) (hlk : meth.locks = false) {X : IX} {Y : LX} {res : Int32} {a0 : Int32} (H : Heap) (locs : List Loc) (ls : Array Slot) (hP : va_P D zu_cl (zu_pic cA ad X Y) H) (hS : va_S A s.heap H locs) (hl : lv_has ls 1 [(0, .int a0)]) (hf : fn_Mod_isCell a0 = some res) : W p l e zR_Mod_isCell s m args below meth c H locs 0 0 (MQ below (zu_Qi D cA ad A res X Y) args s 0 0 A) (F0 m 0 ls []) := by
  obtain ⟨hx, hb, hml, hown, hts, hST⟩ := id B
  unfold fn_Mod_isCell at hf
  refine lv_iload_n hx hb zd_Mod_isCell_0 rfl (lv_at hl 0 rfl) ?_
  refine lv_i2l hx hb zd_Mod_isCell_1 rfl ?_
  refine lv_lconst (v := 0) hx hb zd_Mod_isCell_2 (by decide) ?_
  refine lv_ldc2 (v := 23) hx hb hown (hts _ zq_938) zd_Mod_isCell_3 ?_
  obtain ⟨v1, hq2, hf⟩ := zu_b1_e hf
  refine zw_Mod_in (rest := []) B hP hS hq2 zq_939 (Nat.le_of_ble_eq_true rfl) (Nat.le_of_ble_eq_true rfl) hl.1 rfl (Nat.le_of_ble_eq_true rfl) zd_Mod_isCell_6 (by decide) (fun H locs hP hS => ?_)
  clear hq2
  obtain ⟨hg3, hf⟩ := zu_gd_e hf
  obtain rfl := Option.some.inj hf
  exact zr_zret hx hb hret hlk hP hS hg3 zd_Mod_isCell_9
theorem zC_Mod_isCell (l : Launch) {D : va_G} {cA : Nat → ClassId} {ad : Nat → Nat} {A : Nat → Prop} {a0 : Int32} {X : IX} {Y : LX} {res : Int32} (hf : fn_Mod_isCell a0 = some res) : Met l zm_Mod_isCell (zu_ws zm_Mod_isCell zb_Mod_isCell 1 (some .boolean)) zR_Mod_isCell (va_Pc [.int a0] (zu_Pre D cA ad A X Y)) (zu_Qi D cA ad A res X Y) 0 0 A := by
  refine Met.ofW (cc := zb_Mod_isCell) (maxL := 1) (ret := (some .boolean)) (by decide +kernel) rfl ?_
  intro p e s m args below meth c s₁ B0 hml hv
  obtain ⟨rfl, hP, hST⟩ := hv
  have B : zu_B p s m _ c zb_Mod_isCell 1 "StonePostModel" D cA ad A := ⟨B0.exec, B0.bytes, hml, findClass_of_methodNamed B0.named, (fun w hw => atoms_spec (ws := zu_ws zm_Mod_isCell zb_Mod_isCell 1 (some .boolean)) B0.pre w (List.mem_cons_of_mem _ hw)), hST⟩
  have hl := lv_entry ([.int a0]) (n := 1) (Nat.le_of_ble_eq_true rfl)
  rw [lg_entry_eq]
  generalize (lg_sl ([.int a0]) ++ List.replicate (1 - (lg_sl ([.int a0])).length) Slot.unset).toArray = ls at hl ⊢
  exact zl_Mod_isCell B B0.returns B0.notSynchronized s.heap [] ls hP va_S.rf hl  hf
theorem zw_Mod_isCell {p : Program} {l : Launch} {e : Env} {R : Room} {s : State} {m : MethodId} {args : Array Value} {below : List Frame} {meth : Method} {c : Code} {H : Heap} {locs : List Loc} {cells slots : Nat} {Q : State → Prop} {cc : ByteArray} {pc nL : Nat} {ls : Array Slot} {rest st0 : List Value} {D : va_G} {cA : Nat → ClassId} {ad : Nat → Nat} {A : Nat → Prop} {X : IX} {Y : LX} {own : String} {index : Nat} {a0 : Int32} {v1 : Int32} (B : zu_B p s m args c cc nL own D cA ad A) (hP : va_P D zu_cl (zu_pic cA ad X Y) H) (hS : va_S A s.heap H locs) (hq : fn_Mod_isCell a0 = some v1) (m1 : Cond.methodLink own index zm_Mod_isCell ∈ zu_TB) (hR1 : 1 + 1 ≤ R.frames) (hR2 : 8 + (1 + 11) + 25 ≤ R.locals) (hsz : ls.size = nL) (hst : st0 = .int a0 ::  rest) (hw : (rest.map fun v => v.category).sum ≤ 8) (hdg : decode cc pc = .ok (.invokestatic index, 3)) (h00 : cells ≤ R.cells ∧ slots ≤ R.slots) (kk : ∀ (H1 : Heap) (locs1 : List Loc), va_P D zu_cl (zu_pic cA ad X Y) H1 → va_S A s.heap H1 locs1 → W p l e R s m args below meth c H1 locs1 cells slots Q (F0 m (pc + 3) ls (.int v1 :: rest))) : W p l e R s m args below meth c H locs cells slots Q (F0 m pc ls st0) := by
  subst hst
  exact zr_cSi (As := [.int a0]) (rest := rest) (n := 1) B hP hS (zC_Mod_isCell l  hq) m1 zq_936 zq_8 zq_937 (by decide +kernel) ⟨hR1, hR2⟩ rfl rfl rfl hsz rfl hw hdg h00 kk
abbrev zR_Mod_at : Room := { frames := 0, cells := 0, slots := 0, locals := 0 }
theorem zd_Mod_at_0 : decode zb_Mod_at 0 = .ok (.bipush 30, 2) := by decide +kernel
theorem zd_Mod_at_2 : decode zb_Mod_at 2 = .ok (.bipush 9, 2) := by decide +kernel
theorem zd_Mod_at_4 : decode zb_Mod_at 4 = .ok (.iload_n 0, 1) := by decide +kernel
theorem zd_Mod_at_5 : decode zb_Mod_at 5 = .ok (.imul, 1) := by decide +kernel
theorem zd_Mod_at_6 : decode zb_Mod_at 6 = .ok (.iadd, 1) := by decide +kernel
theorem zd_Mod_at_7 : decode zb_Mod_at 7 = .ok (.iload_n 1, 1) := by decide +kernel
theorem zd_Mod_at_8 : decode zb_Mod_at 8 = .ok (.iadd, 1) := by decide +kernel
theorem zd_Mod_at_9 : decode zb_Mod_at 9 = .ok (.ireturn, 1) := by decide +kernel
set_option maxHeartbeats 4000000 in
theorem zl_Mod_at {p : Program} {l : Launch} {e : Env} {s : State} {m : MethodId} {args : Array Value} {below : List Frame} {meth : Method} {c : Code} {D : va_G} {cA : Nat → ClassId} {ad : Nat → Nat} {A : Nat → Prop} (B : zu_B p s m args c zb_Mod_at 2 "StonePostModel" D cA ad A) (hret : meth.sig.returnType = (some .int)) (hlk : meth.locks = false) {X : IX} {Y : LX} {res : Int32} {a0 : Int32} {a1 : Int32} (H : Heap) (locs : List Loc) (ls : Array Slot) (hP : va_P D zu_cl (zu_pic cA ad X Y) H) (hS : va_S A s.heap H locs) (hl : lv_has ls 2 [(0, .int a0), (1, .int a1)]) (hf : fn_Mod_at a0 a1 = res) : W p l e zR_Mod_at s m args below meth c H locs 0 0 (MQ below (zu_Qi D cA ad A res X Y) args s 0 0 A) (F0 m 0 ls []) := by
  obtain ⟨hx, hb, hml, hown, hts, hST⟩ := id B
  unfold fn_Mod_at at hf
  refine lv_bipush (v := 30) hx hb zd_Mod_at_0 (by decide) ?_
  refine lv_bipush (v := 9) hx hb zd_Mod_at_2 (by decide) ?_
  refine lv_iload_n hx hb zd_Mod_at_4 rfl (lv_at hl 0 rfl) ?_
  refine lv_imul hx hb zd_Mod_at_5 ?_
  refine lv_iadd hx hb zd_Mod_at_6 ?_
  refine lv_iload_n hx hb zd_Mod_at_7 rfl (lv_at hl 1 rfl) ?_
  refine lv_iadd hx hb zd_Mod_at_8 ?_
  obtain rfl := hf
  exact zr_iret hx hb hret hlk hP hS zd_Mod_at_9
theorem zC_Mod_at (l : Launch) {D : va_G} {cA : Nat → ClassId} {ad : Nat → Nat} {A : Nat → Prop} {a0 : Int32} {a1 : Int32} {X : IX} {Y : LX} {res : Int32} (hf : fn_Mod_at a0 a1 = res) : Met l zm_Mod_at (zu_ws zm_Mod_at zb_Mod_at 2 (some .int)) zR_Mod_at (va_Pc [.int a0, .int a1] (zu_Pre D cA ad A X Y)) (zu_Qi D cA ad A res X Y) 0 0 A := by
  refine Met.ofW (cc := zb_Mod_at) (maxL := 2) (ret := (some .int)) (by decide +kernel) rfl ?_
  intro p e s m args below meth c s₁ B0 hml hv
  obtain ⟨rfl, hP, hST⟩ := hv
  have B : zu_B p s m _ c zb_Mod_at 2 "StonePostModel" D cA ad A := ⟨B0.exec, B0.bytes, hml, findClass_of_methodNamed B0.named, (fun w hw => atoms_spec (ws := zu_ws zm_Mod_at zb_Mod_at 2 (some .int)) B0.pre w (List.mem_cons_of_mem _ hw)), hST⟩
  have hl := lv_entry ([.int a0, .int a1]) (n := 2) (Nat.le_of_ble_eq_true rfl)
  rw [lg_entry_eq]
  generalize (lg_sl ([.int a0, .int a1]) ++ List.replicate (2 - (lg_sl ([.int a0, .int a1])).length) Slot.unset).toArray = ls at hl ⊢
  exact zl_Mod_at B B0.returns B0.notSynchronized s.heap [] ls hP va_S.rf hl  hf
theorem zw_Mod_at {p : Program} {l : Launch} {e : Env} {R : Room} {s : State} {m : MethodId} {args : Array Value} {below : List Frame} {meth : Method} {c : Code} {H : Heap} {locs : List Loc} {cells slots : Nat} {Q : State → Prop} {cc : ByteArray} {pc nL : Nat} {ls : Array Slot} {rest st0 : List Value} {D : va_G} {cA : Nat → ClassId} {ad : Nat → Nat} {A : Nat → Prop} {X : IX} {Y : LX} {own : String} {index : Nat} {a0 : Int32} {a1 : Int32} {v1 : Int32} (B : zu_B p s m args c cc nL own D cA ad A) (hP : va_P D zu_cl (zu_pic cA ad X Y) H) (hS : va_S A s.heap H locs) (hq : fn_Mod_at a0 a1 = v1) (m1 : Cond.methodLink own index zm_Mod_at ∈ zu_TB) (hR1 : 0 + 1 ≤ R.frames) (hR2 : 8 + (2 + 11) + 0 ≤ R.locals) (hsz : ls.size = nL) (hst : st0 = .int a1 :: .int a0 ::  rest) (hw : (rest.map fun v => v.category).sum ≤ 8) (hdg : decode cc pc = .ok (.invokestatic index, 3)) (h00 : cells ≤ R.cells ∧ slots ≤ R.slots) (kk : ∀ (H1 : Heap) (locs1 : List Loc), va_P D zu_cl (zu_pic cA ad X Y) H1 → va_S A s.heap H1 locs1 → W p l e R s m args below meth c H1 locs1 cells slots Q (F0 m (pc + 3) ls (.int v1 :: rest))) : W p l e R s m args below meth c H locs cells slots Q (F0 m pc ls st0) := by
  subst hst
  exact zr_cSi (As := [.int a0, .int a1]) (rest := rest) (n := 2) B hP hS (zC_Mod_at l  hq) m1 zq_967 zq_8 zq_968 (by decide +kernel) ⟨hR1, hR2⟩ rfl rfl rfl hsz rfl hw hdg h00 kk
abbrev zR_Mod_its : Room := { frames := 1, cells := 0, slots := 0, locals := 21 }
theorem zd_Mod_its_0 : decode zb_Mod_its 0 = .ok (.aload_n 0, 1) := by decide +kernel
theorem zd_Mod_its_1 : decode zb_Mod_its 1 = .ok (.getfield 7, 3) := by decide +kernel
theorem zd_Mod_its_4 : decode zb_Mod_its 4 = .ok (.iload_n 1, 1) := by decide +kernel
theorem zd_Mod_its_5 : decode zb_Mod_its 5 = .ok (.iload_n 2, 1) := by decide +kernel
theorem zd_Mod_its_6 : decode zb_Mod_its 6 = .ok (.invokestatic 70, 3) := by decide +kernel
theorem zd_Mod_its_9 : decode zb_Mod_its 9 = .ok (.iaload, 1) := by decide +kernel
theorem zd_Mod_its_10 : decode zb_Mod_its 10 = .ok (.ireturn, 1) := by decide +kernel
set_option maxHeartbeats 4000000 in
theorem zl_Mod_its {p : Program} {l : Launch} {e : Env} {s : State} {m : MethodId} {args : Array Value} {below : List Frame} {meth : Method} {c : Code} {D : va_G} {cA : Nat → ClassId} {ad : Nat → Nat} {A : Nat → Prop} (B : zu_B p s m args c zb_Mod_its 3 "StonePostModel" D cA ad A) (hret : meth.sig.returnType = (some .int)) (hlk : meth.locks = false) {X : IX} {Y : LX} {res : Int32} {a1 : Int32} {a2 : Int32} (H : Heap) (locs : List Loc) (ls : Array Slot) (hP : va_P D zu_cl (zu_pic cA ad X Y) H) (hS : va_S A s.heap H locs) (hl : lv_has ls 3 [(0, .ref (ad 95)), (1, .int a1), (2, .int a2)]) (hf : fn_Mod_its X a1 a2 = some res) : W p l e zR_Mod_its s m args below meth c H locs 0 0 (MQ below (zu_Qi D cA ad A res X Y) args s 0 0 A) (F0 m 0 ls []) := by
  obtain ⟨hx, hb, hml, hown, hts, hST⟩ := id B
  unfold fn_Mod_its at hf
  refine lv_aload_n hx hb zd_Mod_its_0 rfl (lv_at hl 0 rfl) ?_
  refine zg_Mod_s B hP rfl zq_861 zd_Mod_its_1 ?_
  refine lv_iload_n hx hb zd_Mod_its_4 rfl (lv_at hl 1 rfl) ?_
  refine lv_iload_n hx hb zd_Mod_its_5 rfl (lv_at hl 2 rfl) ?_
  obtain ⟨v1, ehq2, hf⟩ := zu_nx_e hf
  have hq2 := ehq2.symm
  refine zw_Mod_at (rest := [.ref (ad 96)]) B hP hS hq2 zq_966 (Nat.le_of_ble_eq_true rfl) (Nat.le_of_ble_eq_true rfl) hl.1 rfl (Nat.le_of_ble_eq_true rfl) zd_Mod_its_6 (by decide) (fun H locs hP hS => ?_)
  clear hq2 ehq2
  obtain ⟨hg3, hf⟩ := zu_gd_e hf
  refine zr_iald rfl B hP rfl (by decide) rfl hg3 zd_Mod_its_9 ?_
  obtain rfl := Option.some.inj hf
  exact zr_iret hx hb hret hlk hP hS zd_Mod_its_10
theorem zC_Mod_its (l : Launch) {D : va_G} {cA : Nat → ClassId} {ad : Nat → Nat} {A : Nat → Prop} {a1 : Int32} {a2 : Int32} {X : IX} {Y : LX} {res : Int32} (hf : fn_Mod_its X a1 a2 = some res) : Met l zm_Mod_its (zu_ws zm_Mod_its zb_Mod_its 3 (some .int)) zR_Mod_its (va_Pc [.ref (ad 95), .int a1, .int a2] (zu_Pre D cA ad A X Y)) (zu_Qi D cA ad A res X Y) 0 0 A := by
  refine Met.ofW (cc := zb_Mod_its) (maxL := 3) (ret := (some .int)) (by decide +kernel) rfl ?_
  intro p e s m args below meth c s₁ B0 hml hv
  obtain ⟨rfl, hP, hST⟩ := hv
  have B : zu_B p s m _ c zb_Mod_its 3 "StonePostModel" D cA ad A := ⟨B0.exec, B0.bytes, hml, findClass_of_methodNamed B0.named, (fun w hw => atoms_spec (ws := zu_ws zm_Mod_its zb_Mod_its 3 (some .int)) B0.pre w (List.mem_cons_of_mem _ hw)), hST⟩
  have hl := lv_entry ([.ref (ad 95), .int a1, .int a2]) (n := 3) (Nat.le_of_ble_eq_true rfl)
  rw [lg_entry_eq]
  generalize (lg_sl ([.ref (ad 95), .int a1, .int a2]) ++ List.replicate (3 - (lg_sl ([.ref (ad 95), .int a1, .int a2])).length) Slot.unset).toArray = ls at hl ⊢
  exact zl_Mod_its B B0.returns B0.notSynchronized s.heap [] ls hP va_S.rf hl  hf
theorem zw_Mod_its {p : Program} {l : Launch} {e : Env} {R : Room} {s : State} {m : MethodId} {args : Array Value} {below : List Frame} {meth : Method} {c : Code} {H : Heap} {locs : List Loc} {cells slots : Nat} {Q : State → Prop} {cc : ByteArray} {pc nL : Nat} {ls : Array Slot} {rest st0 : List Value} {D : va_G} {cA : Nat → ClassId} {ad : Nat → Nat} {A : Nat → Prop} {X : IX} {Y : LX} {own : String} {index : Nat} {a1 : Int32} {a2 : Int32} {v1 : Int32} (B : zu_B p s m args c cc nL own D cA ad A) (hP : va_P D zu_cl (zu_pic cA ad X Y) H) (hS : va_S A s.heap H locs) (hq : fn_Mod_its X a1 a2 = some v1) (m1 : Cond.methodLink own index zm_Mod_its ∈ zu_TB) (hR1 : 1 + 1 ≤ R.frames) (hR2 : 8 + (3 + 11) + 21 ≤ R.locals) (hsz : ls.size = nL) (hst : st0 = .int a2 :: .int a1 :: .ref (ad 95) :: rest) (hw : (rest.map fun v => v.category).sum ≤ 8) (hdg : decode cc pc = .ok (.invokevirtual index, 3)) (h00 : cells ≤ R.cells ∧ slots ≤ R.slots) (kk : ∀ (H1 : Heap) (locs1 : List Loc), va_P D zu_cl (zu_pic cA ad X Y) H1 → va_S A s.heap H1 locs1 → W p l e R s m args below meth c H1 locs1 cells slots Q (F0 m (pc + 3) ls (.int v1 :: rest))) : W p l e R s m args below meth c H locs cells slots Q (F0 m pc ls st0) := by
  subst hst
  exact zr_cVi (As := [.int a1, .int a2]) (rest := rest) (n := 2) (C := "StonePostModel") (T := zt_Mod) (N := 23) B hP hS (zC_Mod_its l  hq) (K := 7) rfl (by decide) (by decide) rfl rfl m1 zq_964 zqP_22 zq_8 zq_965 (by decide +kernel) ⟨hR1, hR2⟩ rfl rfl rfl hsz rfl hw hdg h00 kk
abbrev zR_Mod_standing : Room := { frames := 2, cells := 0, slots := 0, locals := 43 }
theorem zd_Mod_standing_0 : decode zb_Mod_standing 0 = .ok (.iconst (-1), 1) := by decide +kernel
theorem zd_Mod_standing_1 : decode zb_Mod_standing 1 = .ok (.istore_n 2, 1) := by decide +kernel
theorem zd_Mod_standing_2 : decode zb_Mod_standing 2 = .ok (.iconst 0, 1) := by decide +kernel
theorem zd_Mod_standing_3 : decode zb_Mod_standing 3 = .ok (.istore_n 3, 1) := by decide +kernel
theorem zd_Mod_standing_4 : decode zb_Mod_standing 4 = .ok (.iload_n 3, 1) := by decide +kernel
theorem zd_Mod_standing_5 : decode zb_Mod_standing 5 = .ok (.aload_n 0, 1) := by decide +kernel
theorem zd_Mod_standing_6 : decode zb_Mod_standing 6 = .ok (.getfield 7, 3) := by decide +kernel
theorem zd_Mod_standing_9 : decode zb_Mod_standing 9 = .ok (.iconst 1, 1) := by decide +kernel
theorem zd_Mod_standing_10 : decode zb_Mod_standing 10 = .ok (.iaload, 1) := by decide +kernel
theorem zd_Mod_standing_11 : decode zb_Mod_standing 11 = .ok (.if_icmp .ge 25, 3) := by decide +kernel
theorem zd_Mod_standing_14 : decode zb_Mod_standing 14 = .ok (.aload_n 0, 1) := by decide +kernel
theorem zd_Mod_standing_15 : decode zb_Mod_standing 15 = .ok (.iload_n 3, 1) := by decide +kernel
theorem zd_Mod_standing_16 : decode zb_Mod_standing 16 = .ok (.iconst 1, 1) := by decide +kernel
theorem zd_Mod_standing_17 : decode zb_Mod_standing 17 = .ok (.invokevirtual 74, 3) := by decide +kernel
theorem zd_Mod_standing_20 : decode zb_Mod_standing 20 = .ok (.iload_n 1, 1) := by decide +kernel
theorem zd_Mod_standing_21 : decode zb_Mod_standing 21 = .ok (.if_icmp .ne 7, 3) := by decide +kernel
theorem zd_Mod_standing_24 : decode zb_Mod_standing 24 = .ok (.iload_n 3, 1) := by decide +kernel
theorem zd_Mod_standing_25 : decode zb_Mod_standing 25 = .ok (.goto 4, 3) := by decide +kernel
theorem zd_Mod_standing_28 : decode zb_Mod_standing 28 = .ok (.iload_n 2, 1) := by decide +kernel
theorem zd_Mod_standing_29 : decode zb_Mod_standing 29 = .ok (.istore_n 2, 1) := by decide +kernel
theorem zd_Mod_standing_30 : decode zb_Mod_standing 30 = .ok (.iinc 3 1, 3) := by decide +kernel
theorem zd_Mod_standing_33 : decode zb_Mod_standing 33 = .ok (.goto (-29), 3) := by decide +kernel
theorem zd_Mod_standing_36 : decode zb_Mod_standing 36 = .ok (.iload_n 2, 1) := by decide +kernel
theorem zd_Mod_standing_37 : decode zb_Mod_standing 37 = .ok (.ireturn, 1) := by decide +kernel
set_option maxHeartbeats 4000000 in
theorem zl_Mod_standing_L29 {p : Program} {l : Launch} {e : Env} {s : State} {m : MethodId} {args : Array Value} {below : List Frame} {meth : Method} {c : Code} {D : va_G} {cA : Nat → ClassId} {ad : Nat → Nat} {A : Nat → Prop} (B : zu_B p s m args c zb_Mod_standing 4 "StonePostModel" D cA ad A) (hret : meth.sig.returnType = (some .int)) (hlk : meth.locks = false) {X : IX} {Y : LX} {res : Int32} {k4 : Int32 → Int32 → Int32 → Option Int32} (hk4 : ∀ (x1 : Int32) (x2 : Int32) (x3 : Int32) (H : Heap) (locs : List Loc) (ls : Array Slot), va_P D zu_cl (zu_pic cA ad X Y) H → va_S A s.heap H locs → lv_has ls 4 [(0, .ref (ad 95)), (1, .int x1), (2, .int x2), (3, .int x3)] → k4 x1 x2 x3 = some res → W p l e zR_Mod_standing s m args below meth c H locs 0 0 (MQ below (zu_Qi D cA ad A res X Y) args s 0 0 A) (F0 m 4 ls [])) (x1 : Int32) (x3 : Int32) (y0 : Int32) (H : Heap) (locs : List Loc) (ls : Array Slot) (hP : va_P D zu_cl (zu_pic cA ad X Y) H) (hS : va_S A s.heap H locs) (hl : lv_has ls 4 [(0, .ref (ad 95)), (1, .int x1), (3, .int x3)]) (hf : fn_Mod_standing_L29 X k4 x1 x3 y0 = some res) : W p l e zR_Mod_standing s m args below meth c H locs 0 0 (MQ below (zu_Qi D cA ad A res X Y) args s 0 0 A) (F0 m 29 ls [.int y0]) := by
  obtain ⟨hx, hb, hml, hown, hts, hST⟩ := id B
  unfold fn_Mod_standing_L29 at hf
  refine lv_istore_n (lv' := [(2, .int y0), (0, .ref (ad 95)), (1, .int x1), (3, .int x3)]) hx hb zd_Mod_standing_29 rfl hl (by decide) rfl (fun ls hl => ?_)
  obtain ⟨v5, ev5, hf⟩ := zu_nx_e hf
  refine lv_iinc (v := v5) (lv' := [(3, .int v5), (2, .int y0), (0, .ref (ad 95)), (1, .int x1)]) hx hb zd_Mod_standing_30 hl (k := 3) rfl (by rw [ev5]; rfl) (by decide) rfl (fun ls hl => ?_)
  clear ev5
  refine lv_goto (tgt := 4) hx hb zd_Mod_standing_33 (by decide) ?_
  exact hk4 x1 y0 v5 _ _ _ hP hS (lv_sub hl [2, 3, 1, 0] rfl) hf
set_option maxHeartbeats 4000000 in
theorem zl_Mod_standing_B4 {p : Program} {l : Launch} {e : Env} {s : State} {m : MethodId} {args : Array Value} {below : List Frame} {meth : Method} {c : Code} {D : va_G} {cA : Nat → ClassId} {ad : Nat → Nat} {A : Nat → Prop} (B : zu_B p s m args c zb_Mod_standing 4 "StonePostModel" D cA ad A) (hret : meth.sig.returnType = (some .int)) (hlk : meth.locks = false) {X : IX} {Y : LX} {res : Int32} {k4 : Int32 → Int32 → Int32 → Option Int32} (hk4 : ∀ (x1 : Int32) (x2 : Int32) (x3 : Int32) (H : Heap) (locs : List Loc) (ls : Array Slot), va_P D zu_cl (zu_pic cA ad X Y) H → va_S A s.heap H locs → lv_has ls 4 [(0, .ref (ad 95)), (1, .int x1), (2, .int x2), (3, .int x3)] → k4 x1 x2 x3 = some res → W p l e zR_Mod_standing s m args below meth c H locs 0 0 (MQ below (zu_Qi D cA ad A res X Y) args s 0 0 A) (F0 m 4 ls [])) (x1 : Int32) (x2 : Int32) (x3 : Int32) (H : Heap) (locs : List Loc) (ls : Array Slot) (hP : va_P D zu_cl (zu_pic cA ad X Y) H) (hS : va_S A s.heap H locs) (hl : lv_has ls 4 [(0, .ref (ad 95)), (1, .int x1), (2, .int x2), (3, .int x3)]) (hf : fn_Mod_standing_B4 X k4 x1 x2 x3 = some res) : W p l e zR_Mod_standing s m args below meth c H locs 0 0 (MQ below (zu_Qi D cA ad A res X Y) args s 0 0 A) (F0 m 4 ls []) := by
  obtain ⟨hx, hb, hml, hown, hts, hST⟩ := id B
  unfold fn_Mod_standing_B4 at hf
  refine lv_iload_n hx hb zd_Mod_standing_4 rfl (lv_at hl 3 rfl) ?_
  refine lv_aload_n hx hb zd_Mod_standing_5 rfl (lv_at hl 0 rfl) ?_
  refine zg_Mod_s B hP rfl zq_861 zd_Mod_standing_6 ?_
  refine lv_iconst (v := 1) hx hb zd_Mod_standing_9 (by decide) ?_
  refine zr_iald (j := 1) (by decide) B hP rfl (by decide) rfl (by decide) zd_Mod_standing_10 ?_
  refine lv_icmp_ge (tgt := 36) hx hb zd_Mod_standing_11 (by decide) (fun c1 => ?_) (fun c1 => ?_)
  · have hf := zu_t c1 hf
    refine lv_iload_n hx hb zd_Mod_standing_36 rfl (lv_at hl 2 rfl) ?_
    obtain rfl := Option.some.inj hf
    exact zr_iret hx hb hret hlk hP hS zd_Mod_standing_37
  · have hf := zu_f c1 hf
    refine lv_aload_n hx hb zd_Mod_standing_14 rfl (lv_at hl 0 rfl) ?_
    refine lv_iload_n hx hb zd_Mod_standing_15 rfl (lv_at hl 3 rfl) ?_
    refine lv_iconst (v := 1) hx hb zd_Mod_standing_16 (by decide) ?_
    obtain ⟨v2, hq3, hf⟩ := zu_b1_e hf
    refine zw_Mod_its (rest := []) B hP hS hq3 zq_962 (Nat.le_of_ble_eq_true rfl) (Nat.le_of_ble_eq_true rfl) hl.1 rfl (Nat.le_of_ble_eq_true rfl) zd_Mod_standing_17 (by decide) (fun H locs hP hS => ?_)
    clear hq3
    refine lv_iload_n hx hb zd_Mod_standing_20 rfl (lv_at hl 1 rfl) ?_
    refine lv_icmp_ne (tgt := 28) hx hb zd_Mod_standing_21 (by decide) (fun c4 => ?_) (fun c4 => ?_)
    · have hf := zu_f c4 hf
      refine lv_iload_n hx hb zd_Mod_standing_28 rfl (lv_at hl 2 rfl) ?_
      exact zl_Mod_standing_L29 B hret hlk hk4 x1 x3 x2 _ _ _ hP hS (lv_sub hl [0, 1, 3] rfl) hf
    · have hf := zu_t c4 hf
      refine lv_iload_n hx hb zd_Mod_standing_24 rfl (lv_at hl 3 rfl) ?_
      refine lv_goto (tgt := 29) hx hb zd_Mod_standing_25 (by decide) ?_
      exact zl_Mod_standing_L29 B hret hlk hk4 x1 x3 x3 _ _ _ hP hS (lv_sub hl [0, 1, 3] rfl) hf
theorem zl_Mod_standing_L4 {p : Program} {l : Launch} {e : Env} {s : State} {m : MethodId} {args : Array Value} {below : List Frame} {meth : Method} {c : Code} {D : va_G} {cA : Nat → ClassId} {ad : Nat → Nat} {A : Nat → Prop} (B : zu_B p s m args c zb_Mod_standing 4 "StonePostModel" D cA ad A) (hret : meth.sig.returnType = (some .int)) (hlk : meth.locks = false) {X : IX} {Y : LX} {res : Int32} : ∀ (n : Nat) (x1 : Int32) (x2 : Int32) (x3 : Int32) (H : Heap) (locs : List Loc) (ls : Array Slot), va_P D zu_cl (zu_pic cA ad X Y) H → va_S A s.heap H locs → lv_has ls 4 [(0, .ref (ad 95)), (1, .int x1), (2, .int x2), (3, .int x3)] → fn_Mod_standing_L4 X n x1 x2 x3 = some res → W p l e zR_Mod_standing s m args below meth c H locs 0 0 (MQ below (zu_Qi D cA ad A res X Y) args s 0 0 A) (F0 m 4 ls []) := by
  intro n
  induction n with
  | zero =>
    intro x1 x2 x3 H locs ls hP hS hl hf
    exact (Option.some_ne_none _ hf.symm).elim
  | succ n ih =>
    intro x1 x2 x3 H locs ls hP hS hl hf
    exact zl_Mod_standing_B4 B hret hlk ih x1 x2 x3 H locs ls hP hS hl  hf
set_option maxHeartbeats 4000000 in
theorem zl_Mod_standing {p : Program} {l : Launch} {e : Env} {s : State} {m : MethodId} {args : Array Value} {below : List Frame} {meth : Method} {c : Code} {D : va_G} {cA : Nat → ClassId} {ad : Nat → Nat} {A : Nat → Prop} (B : zu_B p s m args c zb_Mod_standing 4 "StonePostModel" D cA ad A) (hret : meth.sig.returnType = (some .int)) (hlk : meth.locks = false) {X : IX} {Y : LX} {res : Int32} {a1 : Int32} (H : Heap) (locs : List Loc) (ls : Array Slot) (hP : va_P D zu_cl (zu_pic cA ad X Y) H) (hS : va_S A s.heap H locs) (hl : lv_has ls 4 [(0, .ref (ad 95)), (1, .int a1)]) (hf : fn_Mod_standing X a1 = some res) : W p l e zR_Mod_standing s m args below meth c H locs 0 0 (MQ below (zu_Qi D cA ad A res X Y) args s 0 0 A) (F0 m 0 ls []) := by
  obtain ⟨hx, hb, hml, hown, hts, hST⟩ := id B
  unfold fn_Mod_standing at hf
  refine lv_iconst (v := -1) hx hb zd_Mod_standing_0 (by decide) ?_
  refine lv_istore_n (lv' := [(2, .int (-1 : Int32)), (0, .ref (ad 95)), (1, .int a1)]) hx hb zd_Mod_standing_1 rfl hl (by decide) rfl (fun ls hl => ?_)
  refine lv_iconst (v := 0) hx hb zd_Mod_standing_2 (by decide) ?_
  refine lv_istore_n (lv' := [(3, .int (0 : Int32)), (2, .int (-1 : Int32)), (0, .ref (ad 95)), (1, .int a1)]) hx hb zd_Mod_standing_3 rfl hl (by decide) rfl (fun ls hl => ?_)
  exact zl_Mod_standing_L4 B hret hlk 400 a1 (-1 : Int32) (0 : Int32) _ _ _ hP hS (lv_sub hl [2, 3, 1, 0] rfl) hf
theorem zC_Mod_standing (l : Launch) {D : va_G} {cA : Nat → ClassId} {ad : Nat → Nat} {A : Nat → Prop} {a1 : Int32} {X : IX} {Y : LX} {res : Int32} (hf : fn_Mod_standing X a1 = some res) : Met l zm_Mod_standing (zu_ws zm_Mod_standing zb_Mod_standing 4 (some .int)) zR_Mod_standing (va_Pc [.ref (ad 95), .int a1] (zu_Pre D cA ad A X Y)) (zu_Qi D cA ad A res X Y) 0 0 A := by
  refine Met.ofW (cc := zb_Mod_standing) (maxL := 4) (ret := (some .int)) (by decide +kernel) rfl ?_
  intro p e s m args below meth c s₁ B0 hml hv
  obtain ⟨rfl, hP, hST⟩ := hv
  have B : zu_B p s m _ c zb_Mod_standing 4 "StonePostModel" D cA ad A := ⟨B0.exec, B0.bytes, hml, findClass_of_methodNamed B0.named, (fun w hw => atoms_spec (ws := zu_ws zm_Mod_standing zb_Mod_standing 4 (some .int)) B0.pre w (List.mem_cons_of_mem _ hw)), hST⟩
  have hl := lv_entry ([.ref (ad 95), .int a1]) (n := 4) (Nat.le_of_ble_eq_true rfl)
  rw [lg_entry_eq]
  generalize (lg_sl ([.ref (ad 95), .int a1]) ++ List.replicate (4 - (lg_sl ([.ref (ad 95), .int a1])).length) Slot.unset).toArray = ls at hl ⊢
  exact zl_Mod_standing B B0.returns B0.notSynchronized s.heap [] ls hP va_S.rf hl  hf
theorem zw_Mod_standing {p : Program} {l : Launch} {e : Env} {R : Room} {s : State} {m : MethodId} {args : Array Value} {below : List Frame} {meth : Method} {c : Code} {H : Heap} {locs : List Loc} {cells slots : Nat} {Q : State → Prop} {cc : ByteArray} {pc nL : Nat} {ls : Array Slot} {rest st0 : List Value} {D : va_G} {cA : Nat → ClassId} {ad : Nat → Nat} {A : Nat → Prop} {X : IX} {Y : LX} {own : String} {index : Nat} {a1 : Int32} {v1 : Int32} (B : zu_B p s m args c cc nL own D cA ad A) (hP : va_P D zu_cl (zu_pic cA ad X Y) H) (hS : va_S A s.heap H locs) (hq : fn_Mod_standing X a1 = some v1) (m1 : Cond.methodLink own index zm_Mod_standing ∈ zu_TB) (hR1 : 2 + 1 ≤ R.frames) (hR2 : 8 + (4 + 11) + 43 ≤ R.locals) (hsz : ls.size = nL) (hst : st0 = .int a1 :: .ref (ad 95) :: rest) (hw : (rest.map fun v => v.category).sum ≤ 8) (hdg : decode cc pc = .ok (.invokevirtual index, 3)) (h00 : cells ≤ R.cells ∧ slots ≤ R.slots) (kk : ∀ (H1 : Heap) (locs1 : List Loc), va_P D zu_cl (zu_pic cA ad X Y) H1 → va_S A s.heap H1 locs1 → W p l e R s m args below meth c H1 locs1 cells slots Q (F0 m (pc + 3) ls (.int v1 :: rest))) : W p l e R s m args below meth c H locs cells slots Q (F0 m pc ls st0) := by
  subst hst
  exact zr_cVi (As := [.int a1]) (rest := rest) (n := 1) (C := "StonePostModel") (T := zt_Mod) (N := 23) B hP hS (zC_Mod_standing l  hq) (K := 7) rfl (by decide) (by decide) rfl rfl m1 zq_960 zqP_21 zq_8 zq_961 (by decide +kernel) ⟨hR1, hR2⟩ rfl rfl rfl hsz rfl hw hdg h00 kk
abbrev zR_Mod_newThrower : Room := { frames := 1, cells := 0, slots := 0, locals := 21 }
theorem zd_Mod_newThrower_0 : decode zb_Mod_newThrower 0 = .ok (.aload_n 0, 1) := by decide +kernel
theorem zd_Mod_newThrower_1 : decode zb_Mod_newThrower 1 = .ok (.getfield 7, 3) := by decide +kernel
theorem zd_Mod_newThrower_4 : decode zb_Mod_newThrower 4 = .ok (.iconst 1, 1) := by decide +kernel
theorem zd_Mod_newThrower_5 : decode zb_Mod_newThrower 5 = .ok (.iaload, 1) := by decide +kernel
theorem zd_Mod_newThrower_6 : decode zb_Mod_newThrower 6 = .ok (.istore_n 3, 1) := by decide +kernel
theorem zd_Mod_newThrower_7 : decode zb_Mod_newThrower 7 = .ok (.aload_n 0, 1) := by decide +kernel
theorem zd_Mod_newThrower_8 : decode zb_Mod_newThrower 8 = .ok (.getfield 7, 3) := by decide +kernel
theorem zd_Mod_newThrower_11 : decode zb_Mod_newThrower 11 = .ok (.iload_n 3, 1) := by decide +kernel
theorem zd_Mod_newThrower_12 : decode zb_Mod_newThrower 12 = .ok (.iconst 0, 1) := by decide +kernel
theorem zd_Mod_newThrower_13 : decode zb_Mod_newThrower 13 = .ok (.invokestatic 70, 3) := by decide +kernel
theorem zd_Mod_newThrower_16 : decode zb_Mod_newThrower 16 = .ok (.iload_n 1, 1) := by decide +kernel
theorem zd_Mod_newThrower_17 : decode zb_Mod_newThrower 17 = .ok (.iastore, 1) := by decide +kernel
theorem zd_Mod_newThrower_18 : decode zb_Mod_newThrower 18 = .ok (.aload_n 0, 1) := by decide +kernel
theorem zd_Mod_newThrower_19 : decode zb_Mod_newThrower 19 = .ok (.getfield 7, 3) := by decide +kernel
theorem zd_Mod_newThrower_22 : decode zb_Mod_newThrower 22 = .ok (.iload_n 3, 1) := by decide +kernel
theorem zd_Mod_newThrower_23 : decode zb_Mod_newThrower 23 = .ok (.iconst 1, 1) := by decide +kernel
theorem zd_Mod_newThrower_24 : decode zb_Mod_newThrower 24 = .ok (.invokestatic 70, 3) := by decide +kernel
theorem zd_Mod_newThrower_27 : decode zb_Mod_newThrower 27 = .ok (.iload_n 2, 1) := by decide +kernel
theorem zd_Mod_newThrower_28 : decode zb_Mod_newThrower 28 = .ok (.iastore, 1) := by decide +kernel
theorem zd_Mod_newThrower_29 : decode zb_Mod_newThrower 29 = .ok (.aload_n 0, 1) := by decide +kernel
theorem zd_Mod_newThrower_30 : decode zb_Mod_newThrower 30 = .ok (.getfield 7, 3) := by decide +kernel
theorem zd_Mod_newThrower_33 : decode zb_Mod_newThrower 33 = .ok (.iload_n 3, 1) := by decide +kernel
theorem zd_Mod_newThrower_34 : decode zb_Mod_newThrower 34 = .ok (.iconst 2, 1) := by decide +kernel
theorem zd_Mod_newThrower_35 : decode zb_Mod_newThrower 35 = .ok (.invokestatic 70, 3) := by decide +kernel
theorem zd_Mod_newThrower_38 : decode zb_Mod_newThrower 38 = .ok (.iconst 2, 1) := by decide +kernel
theorem zd_Mod_newThrower_39 : decode zb_Mod_newThrower 39 = .ok (.iastore, 1) := by decide +kernel
theorem zd_Mod_newThrower_40 : decode zb_Mod_newThrower 40 = .ok (.aload_n 0, 1) := by decide +kernel
theorem zd_Mod_newThrower_41 : decode zb_Mod_newThrower 41 = .ok (.getfield 7, 3) := by decide +kernel
theorem zd_Mod_newThrower_44 : decode zb_Mod_newThrower 44 = .ok (.iload_n 3, 1) := by decide +kernel
theorem zd_Mod_newThrower_45 : decode zb_Mod_newThrower 45 = .ok (.iconst 3, 1) := by decide +kernel
theorem zd_Mod_newThrower_46 : decode zb_Mod_newThrower 46 = .ok (.invokestatic 70, 3) := by decide +kernel
theorem zd_Mod_newThrower_49 : decode zb_Mod_newThrower 49 = .ok (.iconst 5, 1) := by decide +kernel
theorem zd_Mod_newThrower_50 : decode zb_Mod_newThrower 50 = .ok (.iastore, 1) := by decide +kernel
theorem zd_Mod_newThrower_51 : decode zb_Mod_newThrower 51 = .ok (.aload_n 0, 1) := by decide +kernel
theorem zd_Mod_newThrower_52 : decode zb_Mod_newThrower 52 = .ok (.getfield 7, 3) := by decide +kernel
theorem zd_Mod_newThrower_55 : decode zb_Mod_newThrower 55 = .ok (.iload_n 3, 1) := by decide +kernel
theorem zd_Mod_newThrower_56 : decode zb_Mod_newThrower 56 = .ok (.iconst 4, 1) := by decide +kernel
theorem zd_Mod_newThrower_57 : decode zb_Mod_newThrower 57 = .ok (.invokestatic 70, 3) := by decide +kernel
theorem zd_Mod_newThrower_60 : decode zb_Mod_newThrower 60 = .ok (.iconst 1, 1) := by decide +kernel
theorem zd_Mod_newThrower_61 : decode zb_Mod_newThrower 61 = .ok (.iastore, 1) := by decide +kernel
theorem zd_Mod_newThrower_62 : decode zb_Mod_newThrower 62 = .ok (.aload_n 0, 1) := by decide +kernel
theorem zd_Mod_newThrower_63 : decode zb_Mod_newThrower 63 = .ok (.getfield 7, 3) := by decide +kernel
theorem zd_Mod_newThrower_66 : decode zb_Mod_newThrower 66 = .ok (.iload_n 3, 1) := by decide +kernel
theorem zd_Mod_newThrower_67 : decode zb_Mod_newThrower 67 = .ok (.iconst 5, 1) := by decide +kernel
theorem zd_Mod_newThrower_68 : decode zb_Mod_newThrower 68 = .ok (.invokestatic 70, 3) := by decide +kernel
theorem zd_Mod_newThrower_71 : decode zb_Mod_newThrower 71 = .ok (.bipush 8, 2) := by decide +kernel
theorem zd_Mod_newThrower_73 : decode zb_Mod_newThrower 73 = .ok (.iastore, 1) := by decide +kernel
theorem zd_Mod_newThrower_74 : decode zb_Mod_newThrower 74 = .ok (.aload_n 0, 1) := by decide +kernel
theorem zd_Mod_newThrower_75 : decode zb_Mod_newThrower 75 = .ok (.getfield 7, 3) := by decide +kernel
theorem zd_Mod_newThrower_78 : decode zb_Mod_newThrower 78 = .ok (.iload_n 3, 1) := by decide +kernel
theorem zd_Mod_newThrower_79 : decode zb_Mod_newThrower 79 = .ok (.bipush 6, 2) := by decide +kernel
theorem zd_Mod_newThrower_81 : decode zb_Mod_newThrower 81 = .ok (.invokestatic 70, 3) := by decide +kernel
theorem zd_Mod_newThrower_84 : decode zb_Mod_newThrower 84 = .ok (.iconst 0, 1) := by decide +kernel
theorem zd_Mod_newThrower_85 : decode zb_Mod_newThrower 85 = .ok (.iastore, 1) := by decide +kernel
theorem zd_Mod_newThrower_86 : decode zb_Mod_newThrower 86 = .ok (.aload_n 0, 1) := by decide +kernel
theorem zd_Mod_newThrower_87 : decode zb_Mod_newThrower 87 = .ok (.getfield 7, 3) := by decide +kernel
theorem zd_Mod_newThrower_90 : decode zb_Mod_newThrower 90 = .ok (.iload_n 3, 1) := by decide +kernel
theorem zd_Mod_newThrower_91 : decode zb_Mod_newThrower 91 = .ok (.bipush 7, 2) := by decide +kernel
theorem zd_Mod_newThrower_93 : decode zb_Mod_newThrower 93 = .ok (.invokestatic 70, 3) := by decide +kernel
theorem zd_Mod_newThrower_96 : decode zb_Mod_newThrower 96 = .ok (.iconst 0, 1) := by decide +kernel
theorem zd_Mod_newThrower_97 : decode zb_Mod_newThrower 97 = .ok (.iastore, 1) := by decide +kernel
theorem zd_Mod_newThrower_98 : decode zb_Mod_newThrower 98 = .ok (.aload_n 0, 1) := by decide +kernel
theorem zd_Mod_newThrower_99 : decode zb_Mod_newThrower 99 = .ok (.getfield 7, 3) := by decide +kernel
theorem zd_Mod_newThrower_102 : decode zb_Mod_newThrower 102 = .ok (.iload_n 3, 1) := by decide +kernel
theorem zd_Mod_newThrower_103 : decode zb_Mod_newThrower 103 = .ok (.bipush 8, 2) := by decide +kernel
theorem zd_Mod_newThrower_105 : decode zb_Mod_newThrower 105 = .ok (.invokestatic 70, 3) := by decide +kernel
theorem zd_Mod_newThrower_108 : decode zb_Mod_newThrower 108 = .ok (.iconst 0, 1) := by decide +kernel
theorem zd_Mod_newThrower_109 : decode zb_Mod_newThrower 109 = .ok (.iastore, 1) := by decide +kernel
theorem zd_Mod_newThrower_110 : decode zb_Mod_newThrower 110 = .ok (.aload_n 0, 1) := by decide +kernel
theorem zd_Mod_newThrower_111 : decode zb_Mod_newThrower 111 = .ok (.getfield 7, 3) := by decide +kernel
theorem zd_Mod_newThrower_114 : decode zb_Mod_newThrower 114 = .ok (.iconst 1, 1) := by decide +kernel
theorem zd_Mod_newThrower_115 : decode zb_Mod_newThrower 115 = .ok (.dup2, 1) := by decide +kernel
theorem zd_Mod_newThrower_116 : decode zb_Mod_newThrower 116 = .ok (.iaload, 1) := by decide +kernel
theorem zd_Mod_newThrower_117 : decode zb_Mod_newThrower 117 = .ok (.iconst 1, 1) := by decide +kernel
theorem zd_Mod_newThrower_118 : decode zb_Mod_newThrower 118 = .ok (.iadd, 1) := by decide +kernel
theorem zd_Mod_newThrower_119 : decode zb_Mod_newThrower 119 = .ok (.iastore, 1) := by decide +kernel
theorem zd_Mod_newThrower_120 : decode zb_Mod_newThrower 120 = .ok (.iload_n 3, 1) := by decide +kernel
theorem zd_Mod_newThrower_121 : decode zb_Mod_newThrower 121 = .ok (.ireturn, 1) := by decide +kernel
set_option maxHeartbeats 4000000 in
theorem zl_Mod_newThrower {p : Program} {l : Launch} {e : Env} {s : State} {m : MethodId} {args : Array Value} {below : List Frame} {meth : Method} {c : Code} {D : va_G} {cA : Nat → ClassId} {ad : Nat → Nat} {A : Nat → Prop} (B : zu_B p s m args c zb_Mod_newThrower 4 "StonePostModel" D cA ad A) (hret : meth.sig.returnType = (some .int)) (hlk : meth.locks = false) {Y : LX} {res : Int32 × IX} {a1 : Int32} {a2 : Int32} {X : IX} (H : Heap) (locs : List Loc) (ls : Array Slot) (hP : va_P D zu_cl (zu_pic cA ad X Y) H) (hS : va_S A s.heap H locs) (hl : lv_has ls 4 [(0, .ref (ad 95)), (1, .int a1), (2, .int a2)]) (hf : fn_Mod_newThrower a1 a2 X = some res) : W p l e zR_Mod_newThrower s m args below meth c H locs 0 0 (MQ below (zu_Qi D cA ad A res.1 res.2 Y) args s 0 0 A) (F0 m 0 ls []) := by
  obtain ⟨hx, hb, hml, hown, hts, hST⟩ := id B
  unfold fn_Mod_newThrower at hf
  refine lv_aload_n hx hb zd_Mod_newThrower_0 rfl (lv_at hl 0 rfl) ?_
  refine zg_Mod_s B hP rfl zq_861 zd_Mod_newThrower_1 ?_
  refine lv_iconst (v := 1) hx hb zd_Mod_newThrower_4 (by decide) ?_
  refine zr_iald (j := 1) (by decide) B hP rfl (by decide) rfl (by decide) zd_Mod_newThrower_5 ?_
  refine zr_nxi hf (fun v1 hf => ?_)
  refine lv_istore_n (lv' := [(3, .int v1), (0, .ref (ad 95)), (1, .int a1), (2, .int a2)]) hx hb zd_Mod_newThrower_6 rfl hl (by decide) rfl (fun ls hl => ?_)
  refine lv_aload_n hx hb zd_Mod_newThrower_7 rfl (lv_at hl 1 rfl) ?_
  refine zg_Mod_s B hP rfl zq_861 zd_Mod_newThrower_8 ?_
  refine lv_iload_n hx hb zd_Mod_newThrower_11 rfl (lv_at hl 0 rfl) ?_
  refine lv_iconst (v := 0) hx hb zd_Mod_newThrower_12 (by decide) ?_
  obtain ⟨v2, ehq3, hf⟩ := zu_nx_e hf
  have hq3 := ehq3.symm
  refine zw_Mod_at (rest := [.ref (ad 96)]) B hP hS hq3 zq_966 (Nat.le_of_ble_eq_true rfl) (Nat.le_of_ble_eq_true rfl) hl.1 rfl (Nat.le_of_ble_eq_true rfl) zd_Mod_newThrower_13 (by decide) (fun H locs hP hS => ?_)
  clear hq3 ehq3
  refine lv_iload_n hx hb zd_Mod_newThrower_16 rfl (lv_at hl 2 rfl) ?_
  obtain ⟨hg4, hf⟩ := zu_gd_e hf
  refine zr_iast rfl B hP hS hf rfl (by decide) rfl hg4 zd_Mod_newThrower_17 (fun X5 H locs hf hP hS => ?_)
  refine lv_aload_n hx hb zd_Mod_newThrower_18 rfl (lv_at hl 1 rfl) ?_
  refine zg_Mod_s B hP rfl zq_861 zd_Mod_newThrower_19 ?_
  refine lv_iload_n hx hb zd_Mod_newThrower_22 rfl (lv_at hl 0 rfl) ?_
  refine lv_iconst (v := 1) hx hb zd_Mod_newThrower_23 (by decide) ?_
  obtain ⟨v6, ehq7, hf⟩ := zu_nx_e hf
  have hq7 := ehq7.symm
  refine zw_Mod_at (rest := [.ref (ad 96)]) B hP hS hq7 zq_966 (Nat.le_of_ble_eq_true rfl) (Nat.le_of_ble_eq_true rfl) hl.1 rfl (Nat.le_of_ble_eq_true rfl) zd_Mod_newThrower_24 (by decide) (fun H locs hP hS => ?_)
  clear hq7 ehq7
  refine lv_iload_n hx hb zd_Mod_newThrower_27 rfl (lv_at hl 3 rfl) ?_
  obtain ⟨hg8, hf⟩ := zu_gd_e hf
  refine zr_iast rfl B hP hS hf rfl (by decide) rfl hg8 zd_Mod_newThrower_28 (fun X9 H locs hf hP hS => ?_)
  refine lv_aload_n hx hb zd_Mod_newThrower_29 rfl (lv_at hl 1 rfl) ?_
  refine zg_Mod_s B hP rfl zq_861 zd_Mod_newThrower_30 ?_
  refine lv_iload_n hx hb zd_Mod_newThrower_33 rfl (lv_at hl 0 rfl) ?_
  refine lv_iconst (v := 2) hx hb zd_Mod_newThrower_34 (by decide) ?_
  obtain ⟨v10, ehq11, hf⟩ := zu_nx_e hf
  have hq11 := ehq11.symm
  refine zw_Mod_at (rest := [.ref (ad 96)]) B hP hS hq11 zq_966 (Nat.le_of_ble_eq_true rfl) (Nat.le_of_ble_eq_true rfl) hl.1 rfl (Nat.le_of_ble_eq_true rfl) zd_Mod_newThrower_35 (by decide) (fun H locs hP hS => ?_)
  clear hq11 ehq11
  refine lv_iconst (v := 2) hx hb zd_Mod_newThrower_38 (by decide) ?_
  obtain ⟨hg12, hf⟩ := zu_gd_e hf
  refine zr_iast rfl B hP hS hf rfl (by decide) rfl hg12 zd_Mod_newThrower_39 (fun X13 H locs hf hP hS => ?_)
  refine lv_aload_n hx hb zd_Mod_newThrower_40 rfl (lv_at hl 1 rfl) ?_
  refine zg_Mod_s B hP rfl zq_861 zd_Mod_newThrower_41 ?_
  refine lv_iload_n hx hb zd_Mod_newThrower_44 rfl (lv_at hl 0 rfl) ?_
  refine lv_iconst (v := 3) hx hb zd_Mod_newThrower_45 (by decide) ?_
  obtain ⟨v14, ehq15, hf⟩ := zu_nx_e hf
  have hq15 := ehq15.symm
  refine zw_Mod_at (rest := [.ref (ad 96)]) B hP hS hq15 zq_966 (Nat.le_of_ble_eq_true rfl) (Nat.le_of_ble_eq_true rfl) hl.1 rfl (Nat.le_of_ble_eq_true rfl) zd_Mod_newThrower_46 (by decide) (fun H locs hP hS => ?_)
  clear hq15 ehq15
  refine lv_iconst (v := 5) hx hb zd_Mod_newThrower_49 (by decide) ?_
  obtain ⟨hg16, hf⟩ := zu_gd_e hf
  refine zr_iast rfl B hP hS hf rfl (by decide) rfl hg16 zd_Mod_newThrower_50 (fun X17 H locs hf hP hS => ?_)
  refine lv_aload_n hx hb zd_Mod_newThrower_51 rfl (lv_at hl 1 rfl) ?_
  refine zg_Mod_s B hP rfl zq_861 zd_Mod_newThrower_52 ?_
  refine lv_iload_n hx hb zd_Mod_newThrower_55 rfl (lv_at hl 0 rfl) ?_
  refine lv_iconst (v := 4) hx hb zd_Mod_newThrower_56 (by decide) ?_
  obtain ⟨v18, ehq19, hf⟩ := zu_nx_e hf
  have hq19 := ehq19.symm
  refine zw_Mod_at (rest := [.ref (ad 96)]) B hP hS hq19 zq_966 (Nat.le_of_ble_eq_true rfl) (Nat.le_of_ble_eq_true rfl) hl.1 rfl (Nat.le_of_ble_eq_true rfl) zd_Mod_newThrower_57 (by decide) (fun H locs hP hS => ?_)
  clear hq19 ehq19
  refine lv_iconst (v := 1) hx hb zd_Mod_newThrower_60 (by decide) ?_
  obtain ⟨hg20, hf⟩ := zu_gd_e hf
  refine zr_iast rfl B hP hS hf rfl (by decide) rfl hg20 zd_Mod_newThrower_61 (fun X21 H locs hf hP hS => ?_)
  refine lv_aload_n hx hb zd_Mod_newThrower_62 rfl (lv_at hl 1 rfl) ?_
  refine zg_Mod_s B hP rfl zq_861 zd_Mod_newThrower_63 ?_
  refine lv_iload_n hx hb zd_Mod_newThrower_66 rfl (lv_at hl 0 rfl) ?_
  refine lv_iconst (v := 5) hx hb zd_Mod_newThrower_67 (by decide) ?_
  obtain ⟨v22, ehq23, hf⟩ := zu_nx_e hf
  have hq23 := ehq23.symm
  refine zw_Mod_at (rest := [.ref (ad 96)]) B hP hS hq23 zq_966 (Nat.le_of_ble_eq_true rfl) (Nat.le_of_ble_eq_true rfl) hl.1 rfl (Nat.le_of_ble_eq_true rfl) zd_Mod_newThrower_68 (by decide) (fun H locs hP hS => ?_)
  clear hq23 ehq23
  refine lv_bipush (v := 8) hx hb zd_Mod_newThrower_71 (by decide) ?_
  obtain ⟨hg24, hf⟩ := zu_gd_e hf
  refine zr_iast rfl B hP hS hf rfl (by decide) rfl hg24 zd_Mod_newThrower_73 (fun X25 H locs hf hP hS => ?_)
  refine lv_aload_n hx hb zd_Mod_newThrower_74 rfl (lv_at hl 1 rfl) ?_
  refine zg_Mod_s B hP rfl zq_861 zd_Mod_newThrower_75 ?_
  refine lv_iload_n hx hb zd_Mod_newThrower_78 rfl (lv_at hl 0 rfl) ?_
  refine lv_bipush (v := 6) hx hb zd_Mod_newThrower_79 (by decide) ?_
  obtain ⟨v26, ehq27, hf⟩ := zu_nx_e hf
  have hq27 := ehq27.symm
  refine zw_Mod_at (rest := [.ref (ad 96)]) B hP hS hq27 zq_966 (Nat.le_of_ble_eq_true rfl) (Nat.le_of_ble_eq_true rfl) hl.1 rfl (Nat.le_of_ble_eq_true rfl) zd_Mod_newThrower_81 (by decide) (fun H locs hP hS => ?_)
  clear hq27 ehq27
  refine lv_iconst (v := 0) hx hb zd_Mod_newThrower_84 (by decide) ?_
  obtain ⟨hg28, hf⟩ := zu_gd_e hf
  refine zr_iast rfl B hP hS hf rfl (by decide) rfl hg28 zd_Mod_newThrower_85 (fun X29 H locs hf hP hS => ?_)
  refine lv_aload_n hx hb zd_Mod_newThrower_86 rfl (lv_at hl 1 rfl) ?_
  refine zg_Mod_s B hP rfl zq_861 zd_Mod_newThrower_87 ?_
  refine lv_iload_n hx hb zd_Mod_newThrower_90 rfl (lv_at hl 0 rfl) ?_
  refine lv_bipush (v := 7) hx hb zd_Mod_newThrower_91 (by decide) ?_
  obtain ⟨v30, ehq31, hf⟩ := zu_nx_e hf
  have hq31 := ehq31.symm
  refine zw_Mod_at (rest := [.ref (ad 96)]) B hP hS hq31 zq_966 (Nat.le_of_ble_eq_true rfl) (Nat.le_of_ble_eq_true rfl) hl.1 rfl (Nat.le_of_ble_eq_true rfl) zd_Mod_newThrower_93 (by decide) (fun H locs hP hS => ?_)
  clear hq31 ehq31
  refine lv_iconst (v := 0) hx hb zd_Mod_newThrower_96 (by decide) ?_
  obtain ⟨hg32, hf⟩ := zu_gd_e hf
  refine zr_iast rfl B hP hS hf rfl (by decide) rfl hg32 zd_Mod_newThrower_97 (fun X33 H locs hf hP hS => ?_)
  refine lv_aload_n hx hb zd_Mod_newThrower_98 rfl (lv_at hl 1 rfl) ?_
  refine zg_Mod_s B hP rfl zq_861 zd_Mod_newThrower_99 ?_
  refine lv_iload_n hx hb zd_Mod_newThrower_102 rfl (lv_at hl 0 rfl) ?_
  refine lv_bipush (v := 8) hx hb zd_Mod_newThrower_103 (by decide) ?_
  obtain ⟨v34, ehq35, hf⟩ := zu_nx_e hf
  have hq35 := ehq35.symm
  refine zw_Mod_at (rest := [.ref (ad 96)]) B hP hS hq35 zq_966 (Nat.le_of_ble_eq_true rfl) (Nat.le_of_ble_eq_true rfl) hl.1 rfl (Nat.le_of_ble_eq_true rfl) zd_Mod_newThrower_105 (by decide) (fun H locs hP hS => ?_)
  clear hq35 ehq35
  refine lv_iconst (v := 0) hx hb zd_Mod_newThrower_108 (by decide) ?_
  obtain ⟨hg36, hf⟩ := zu_gd_e hf
  refine zr_iast rfl B hP hS hf rfl (by decide) rfl hg36 zd_Mod_newThrower_109 (fun X37 H locs hf hP hS => ?_)
  refine lv_aload_n hx hb zd_Mod_newThrower_110 rfl (lv_at hl 1 rfl) ?_
  refine zg_Mod_s B hP rfl zq_861 zd_Mod_newThrower_111 ?_
  refine lv_iconst (v := 1) hx hb zd_Mod_newThrower_114 (by decide) ?_
  refine lv_dup2_11 hx hb zd_Mod_newThrower_115 rfl rfl ?_
  refine zr_iald (j := 1) (by decide) B hP rfl (by decide) rfl (by decide) zd_Mod_newThrower_116 ?_
  refine lv_iconst (v := 1) hx hb zd_Mod_newThrower_117 (by decide) ?_
  refine lv_iadd hx hb zd_Mod_newThrower_118 ?_
  refine zr_iast (j := 1) (by decide) B hP hS hf rfl (by decide) rfl (by decide) zd_Mod_newThrower_119 (fun X38 H locs hf hP hS => ?_)
  refine lv_iload_n hx hb zd_Mod_newThrower_120 rfl (lv_at hl 0 rfl) ?_
  obtain rfl := Option.some.inj hf
  exact zr_iret hx hb hret hlk hP hS zd_Mod_newThrower_121
theorem zC_Mod_newThrower (l : Launch) {D : va_G} {cA : Nat → ClassId} {ad : Nat → Nat} {A : Nat → Prop} {a1 : Int32} {a2 : Int32} {X : IX} {Y : LX} {res : Int32 × IX} (hf : fn_Mod_newThrower a1 a2 X = some res) : Met l zm_Mod_newThrower (zu_ws zm_Mod_newThrower zb_Mod_newThrower 4 (some .int)) zR_Mod_newThrower (va_Pc [.ref (ad 95), .int a1, .int a2] (zu_Pre D cA ad A X Y)) (zu_Qi D cA ad A res.1 res.2 Y) 0 0 A := by
  refine Met.ofW (cc := zb_Mod_newThrower) (maxL := 4) (ret := (some .int)) (by decide +kernel) rfl ?_
  intro p e s m args below meth c s₁ B0 hml hv
  obtain ⟨rfl, hP, hST⟩ := hv
  have B : zu_B p s m _ c zb_Mod_newThrower 4 "StonePostModel" D cA ad A := ⟨B0.exec, B0.bytes, hml, findClass_of_methodNamed B0.named, (fun w hw => atoms_spec (ws := zu_ws zm_Mod_newThrower zb_Mod_newThrower 4 (some .int)) B0.pre w (List.mem_cons_of_mem _ hw)), hST⟩
  have hl := lv_entry ([.ref (ad 95), .int a1, .int a2]) (n := 4) (Nat.le_of_ble_eq_true rfl)
  rw [lg_entry_eq]
  generalize (lg_sl ([.ref (ad 95), .int a1, .int a2]) ++ List.replicate (4 - (lg_sl ([.ref (ad 95), .int a1, .int a2])).length) Slot.unset).toArray = ls at hl ⊢
  exact zl_Mod_newThrower B B0.returns B0.notSynchronized s.heap [] ls hP va_S.rf hl  hf
theorem zw_Mod_newThrower {p : Program} {l : Launch} {e : Env} {R : Room} {s : State} {m : MethodId} {args : Array Value} {below : List Frame} {meth : Method} {c : Code} {H : Heap} {locs : List Loc} {cells slots : Nat} {Q : State → Prop} {cc : ByteArray} {pc nL : Nat} {ls : Array Slot} {rest st0 : List Value} {D : va_G} {cA : Nat → ClassId} {ad : Nat → Nat} {A : Nat → Prop} {X : IX} {Y : LX} {own : String} {index : Nat} {a1 : Int32} {a2 : Int32} {v1 : Int32} {X1 : IX} (B : zu_B p s m args c cc nL own D cA ad A) (hP : va_P D zu_cl (zu_pic cA ad X Y) H) (hS : va_S A s.heap H locs) (hq : fn_Mod_newThrower a1 a2 X = some (v1, X1)) (m1 : Cond.methodLink own index zm_Mod_newThrower ∈ zu_TB) (hR1 : 1 + 1 ≤ R.frames) (hR2 : 8 + (4 + 11) + 21 ≤ R.locals) (hsz : ls.size = nL) (hst : st0 = .int a2 :: .int a1 :: .ref (ad 95) :: rest) (hw : (rest.map fun v => v.category).sum ≤ 8) (hdg : decode cc pc = .ok (.invokevirtual index, 3)) (h00 : cells ≤ R.cells ∧ slots ≤ R.slots) (kk : ∀ (H1 : Heap) (locs1 : List Loc), va_P D zu_cl (zu_pic cA ad X1 Y) H1 → va_S A s.heap H1 locs1 → W p l e R s m args below meth c H1 locs1 cells slots Q (F0 m (pc + 3) ls (.int v1 :: rest))) : W p l e R s m args below meth c H locs cells slots Q (F0 m pc ls st0) := by
  subst hst
  exact zr_cVi (As := [.int a1, .int a2]) (rest := rest) (n := 2) (C := "StonePostModel") (T := zt_Mod) (N := 23) B hP hS (zC_Mod_newThrower l  hq) (K := 7) rfl (by decide) (by decide) rfl rfl m1 zq_973 zqP_23 zq_8 zq_974 (by decide +kernel) ⟨hR1, hR2⟩ rfl rfl rfl hsz rfl hw hdg h00 kk
abbrev zR_Mod_finds : Room := { frames := 0, cells := 0, slots := 0, locals := 0 }
theorem zd_Mod_finds_0 : decode zb_Mod_finds 0 = .ok (.aload_n 0, 1) := by decide +kernel
theorem zd_Mod_finds_1 : decode zb_Mod_finds 1 = .ok (.getfield 19, 3) := by decide +kernel
theorem zd_Mod_finds_4 : decode zb_Mod_finds 4 = .ok (.ldc 50, 2) := by decide +kernel
theorem zd_Mod_finds_6 : decode zb_Mod_finds 6 = .ok (.iload_n 1, 1) := by decide +kernel
theorem zd_Mod_finds_7 : decode zb_Mod_finds 7 = .ok (.isub, 1) := by decide +kernel
theorem zd_Mod_finds_8 : decode zb_Mod_finds 8 = .ok (.dup2, 1) := by decide +kernel
theorem zd_Mod_finds_9 : decode zb_Mod_finds 9 = .ok (.iaload, 1) := by decide +kernel
theorem zd_Mod_finds_10 : decode zb_Mod_finds 10 = .ok (.iconst 1, 1) := by decide +kernel
theorem zd_Mod_finds_11 : decode zb_Mod_finds 11 = .ok (.iadd, 1) := by decide +kernel
theorem zd_Mod_finds_12 : decode zb_Mod_finds 12 = .ok (.iastore, 1) := by decide +kernel
theorem zd_Mod_finds_13 : decode zb_Mod_finds 13 = .ok (.iload_n 1, 1) := by decide +kernel
theorem zd_Mod_finds_14 : decode zb_Mod_finds 14 = .ok (.ireturn, 1) := by decide +kernel
set_option maxHeartbeats 4000000 in
theorem zl_Mod_finds {p : Program} {l : Launch} {e : Env} {s : State} {m : MethodId} {args : Array Value} {below : List Frame} {meth : Method} {c : Code} {D : va_G} {cA : Nat → ClassId} {ad : Nat → Nat} {A : Nat → Prop} (B : zu_B p s m args c zb_Mod_finds 2 "StonePostModel" D cA ad A) (hret : meth.sig.returnType = (some .int)) (hlk : meth.locks = false) {Y : LX} {res : Int32 × IX} {a1 : Int32} {X : IX} (H : Heap) (locs : List Loc) (ls : Array Slot) (hP : va_P D zu_cl (zu_pic cA ad X Y) H) (hS : va_S A s.heap H locs) (hl : lv_has ls 2 [(0, .ref (ad 95)), (1, .int a1)]) (hf : fn_Mod_finds a1 X = some res) : W p l e zR_Mod_finds s m args below meth c H locs 0 0 (MQ below (zu_Qi D cA ad A res.1 res.2 Y) args s 0 0 A) (F0 m 0 ls []) := by
  obtain ⟨hx, hb, hml, hown, hts, hST⟩ := id B
  unfold fn_Mod_finds at hf
  refine lv_aload_n hx hb zd_Mod_finds_0 rfl (lv_at hl 0 rfl) ?_
  refine zg_Mod_statuses B hP rfl zq_864 zd_Mod_finds_1 ?_
  refine lv_ldc (v := -1000001) hx hb hown (hts _ zq_943) zd_Mod_finds_4 ?_
  refine lv_iload_n hx hb zd_Mod_finds_6 rfl (lv_at hl 1 rfl) ?_
  refine lv_isub hx hb zd_Mod_finds_7 ?_
  refine lv_dup2_11 hx hb zd_Mod_finds_8 rfl rfl ?_
  obtain ⟨hg1, hf⟩ := zu_gd_e hf
  refine zr_iald rfl B hP rfl (by decide) rfl hg1 zd_Mod_finds_9 ?_
  refine lv_iconst (v := 1) hx hb zd_Mod_finds_10 (by decide) ?_
  refine lv_iadd hx hb zd_Mod_finds_11 ?_
  obtain ⟨hg2, hf⟩ := zu_gd_e hf
  refine zr_iast rfl B hP hS hf rfl (by decide) rfl hg2 zd_Mod_finds_12 (fun X3 H locs hf hP hS => ?_)
  refine lv_iload_n hx hb zd_Mod_finds_13 rfl (lv_at hl 1 rfl) ?_
  obtain rfl := Option.some.inj hf
  exact zr_iret hx hb hret hlk hP hS zd_Mod_finds_14
theorem zC_Mod_finds (l : Launch) {D : va_G} {cA : Nat → ClassId} {ad : Nat → Nat} {A : Nat → Prop} {a1 : Int32} {X : IX} {Y : LX} {res : Int32 × IX} (hf : fn_Mod_finds a1 X = some res) : Met l zm_Mod_finds (zu_ws zm_Mod_finds zb_Mod_finds 2 (some .int)) zR_Mod_finds (va_Pc [.ref (ad 95), .int a1] (zu_Pre D cA ad A X Y)) (zu_Qi D cA ad A res.1 res.2 Y) 0 0 A := by
  refine Met.ofW (cc := zb_Mod_finds) (maxL := 2) (ret := (some .int)) (by decide +kernel) rfl ?_
  intro p e s m args below meth c s₁ B0 hml hv
  obtain ⟨rfl, hP, hST⟩ := hv
  have B : zu_B p s m _ c zb_Mod_finds 2 "StonePostModel" D cA ad A := ⟨B0.exec, B0.bytes, hml, findClass_of_methodNamed B0.named, (fun w hw => atoms_spec (ws := zu_ws zm_Mod_finds zb_Mod_finds 2 (some .int)) B0.pre w (List.mem_cons_of_mem _ hw)), hST⟩
  have hl := lv_entry ([.ref (ad 95), .int a1]) (n := 2) (Nat.le_of_ble_eq_true rfl)
  rw [lg_entry_eq]
  generalize (lg_sl ([.ref (ad 95), .int a1]) ++ List.replicate (2 - (lg_sl ([.ref (ad 95), .int a1])).length) Slot.unset).toArray = ls at hl ⊢
  exact zl_Mod_finds B B0.returns B0.notSynchronized s.heap [] ls hP va_S.rf hl  hf
theorem zw_Mod_finds {p : Program} {l : Launch} {e : Env} {R : Room} {s : State} {m : MethodId} {args : Array Value} {below : List Frame} {meth : Method} {c : Code} {H : Heap} {locs : List Loc} {cells slots : Nat} {Q : State → Prop} {cc : ByteArray} {pc nL : Nat} {ls : Array Slot} {rest st0 : List Value} {D : va_G} {cA : Nat → ClassId} {ad : Nat → Nat} {A : Nat → Prop} {X : IX} {Y : LX} {own : String} {index : Nat} {a1 : Int32} {v1 : Int32} {X1 : IX} (B : zu_B p s m args c cc nL own D cA ad A) (hP : va_P D zu_cl (zu_pic cA ad X Y) H) (hS : va_S A s.heap H locs) (hq : fn_Mod_finds a1 X = some (v1, X1)) (m1 : Cond.methodLink own index zm_Mod_finds ∈ zu_TB) (hR1 : 0 + 1 ≤ R.frames) (hR2 : 8 + (2 + 11) + 0 ≤ R.locals) (hsz : ls.size = nL) (hst : st0 = .int a1 :: .ref (ad 95) :: rest) (hw : (rest.map fun v => v.category).sum ≤ 8) (hdg : decode cc pc = .ok (.invokevirtual index, 3)) (h00 : cells ≤ R.cells ∧ slots ≤ R.slots) (kk : ∀ (H1 : Heap) (locs1 : List Loc), va_P D zu_cl (zu_pic cA ad X1 Y) H1 → va_S A s.heap H1 locs1 → W p l e R s m args below meth c H1 locs1 cells slots Q (F0 m (pc + 3) ls (.int v1 :: rest))) : W p l e R s m args below meth c H locs cells slots Q (F0 m pc ls st0) := by
  subst hst
  exact zr_cVi (As := [.int a1]) (rest := rest) (n := 1) (C := "StonePostModel") (T := zt_Mod) (N := 23) B hP hS (zC_Mod_finds l  hq) (K := 7) rfl (by decide) (by decide) rfl rfl m1 zq_946 zqP_20 zq_8 zq_947 (by decide +kernel) ⟨hR1, hR2⟩ rfl rfl rfl hsz rfl hw hdg h00 kk
abbrev zR_Mod_thrower : Room := { frames := 3, cells := 0, slots := 0, locals := 66 }
theorem zd_Mod_thrower_0 : decode zb_Mod_thrower 0 = .ok (.iload_n 1, 1) := by decide +kernel
theorem zd_Mod_thrower_1 : decode zb_Mod_thrower 1 = .ok (.i2l, 1) := by decide +kernel
theorem zd_Mod_thrower_2 : decode zb_Mod_thrower 2 = .ok (.lconst 0, 1) := by decide +kernel
theorem zd_Mod_thrower_3 : decode zb_Mod_thrower 3 = .ok (.ldc2_w 77, 3) := by decide +kernel
theorem zd_Mod_thrower_6 : decode zb_Mod_thrower 6 = .ok (.invokestatic 53, 3) := by decide +kernel
theorem zd_Mod_thrower_9 : decode zb_Mod_thrower 9 = .ok (.ifCond .eq 10, 3) := by decide +kernel
theorem zd_Mod_thrower_12 : decode zb_Mod_thrower 12 = .ok (.iload_n 2, 1) := by decide +kernel
theorem zd_Mod_thrower_13 : decode zb_Mod_thrower 13 = .ok (.invokestatic 58, 3) := by decide +kernel
theorem zd_Mod_thrower_16 : decode zb_Mod_thrower 16 = .ok (.ifCond .ne 10, 3) := by decide +kernel
theorem zd_Mod_thrower_19 : decode zb_Mod_thrower 19 = .ok (.aload_n 0, 1) := by decide +kernel
theorem zd_Mod_thrower_20 : decode zb_Mod_thrower 20 = .ok (.ldc 50, 2) := by decide +kernel
theorem zd_Mod_thrower_22 : decode zb_Mod_thrower 22 = .ok (.invokevirtual 64, 3) := by decide +kernel
theorem zd_Mod_thrower_25 : decode zb_Mod_thrower 25 = .ok (.ireturn, 1) := by decide +kernel
theorem zd_Mod_thrower_26 : decode zb_Mod_thrower 26 = .ok (.aload_n 0, 1) := by decide +kernel
theorem zd_Mod_thrower_27 : decode zb_Mod_thrower 27 = .ok (.iload_n 2, 1) := by decide +kernel
theorem zd_Mod_thrower_28 : decode zb_Mod_thrower 28 = .ok (.invokevirtual 79, 3) := by decide +kernel
theorem zd_Mod_thrower_31 : decode zb_Mod_thrower 31 = .ok (.ifCond .lt 10, 3) := by decide +kernel
theorem zd_Mod_thrower_34 : decode zb_Mod_thrower 34 = .ok (.aload_n 0, 1) := by decide +kernel
theorem zd_Mod_thrower_35 : decode zb_Mod_thrower 35 = .ok (.ldc 82, 2) := by decide +kernel
theorem zd_Mod_thrower_37 : decode zb_Mod_thrower 37 = .ok (.invokevirtual 64, 3) := by decide +kernel
theorem zd_Mod_thrower_40 : decode zb_Mod_thrower 40 = .ok (.ireturn, 1) := by decide +kernel
theorem zd_Mod_thrower_41 : decode zb_Mod_thrower 41 = .ok (.aload_n 0, 1) := by decide +kernel
theorem zd_Mod_thrower_42 : decode zb_Mod_thrower 42 = .ok (.getfield 7, 3) := by decide +kernel
theorem zd_Mod_thrower_45 : decode zb_Mod_thrower 45 = .ok (.iconst 1, 1) := by decide +kernel
theorem zd_Mod_thrower_46 : decode zb_Mod_thrower 46 = .ok (.iaload, 1) := by decide +kernel
theorem zd_Mod_thrower_47 : decode zb_Mod_thrower 47 = .ok (.bipush 10, 2) := by decide +kernel
theorem zd_Mod_thrower_49 : decode zb_Mod_thrower 49 = .ok (.if_icmp .ne 12, 3) := by decide +kernel
theorem zd_Mod_thrower_52 : decode zb_Mod_thrower 52 = .ok (.aload_n 0, 1) := by decide +kernel
theorem zd_Mod_thrower_53 : decode zb_Mod_thrower 53 = .ok (.ldc 83, 2) := by decide +kernel
theorem zd_Mod_thrower_55 : decode zb_Mod_thrower 55 = .ok (.invokevirtual 64, 3) := by decide +kernel
theorem zd_Mod_thrower_58 : decode zb_Mod_thrower 58 = .ok (.goto 9, 3) := by decide +kernel
theorem zd_Mod_thrower_61 : decode zb_Mod_thrower 61 = .ok (.aload_n 0, 1) := by decide +kernel
theorem zd_Mod_thrower_62 : decode zb_Mod_thrower 62 = .ok (.iload_n 1, 1) := by decide +kernel
theorem zd_Mod_thrower_63 : decode zb_Mod_thrower 63 = .ok (.iload_n 2, 1) := by decide +kernel
theorem zd_Mod_thrower_64 : decode zb_Mod_thrower 64 = .ok (.invokevirtual 84, 3) := by decide +kernel
theorem zd_Mod_thrower_67 : decode zb_Mod_thrower 67 = .ok (.ireturn, 1) := by decide +kernel
set_option maxHeartbeats 4000000 in
theorem zl_Mod_thrower_L67 {p : Program} {l : Launch} {e : Env} {s : State} {m : MethodId} {args : Array Value} {below : List Frame} {meth : Method} {c : Code} {D : va_G} {cA : Nat → ClassId} {ad : Nat → Nat} {A : Nat → Prop} (B : zu_B p s m args c zb_Mod_thrower 3 "StonePostModel" D cA ad A) (hret : meth.sig.returnType = (some .int)) (hlk : meth.locks = false) {Y : LX} {res : Int32 × IX} (y0 : Int32) (X : IX) (H : Heap) (locs : List Loc) (ls : Array Slot) (hP : va_P D zu_cl (zu_pic cA ad X Y) H) (hS : va_S A s.heap H locs) (hl : lv_has ls 3 []) (hf : fn_Mod_thrower_L67 y0 X = some res) : W p l e zR_Mod_thrower s m args below meth c H locs 0 0 (MQ below (zu_Qi D cA ad A res.1 res.2 Y) args s 0 0 A) (F0 m 67 ls [.int y0]) := by
  obtain ⟨hx, hb, hml, hown, hts, hST⟩ := id B
  unfold fn_Mod_thrower_L67 at hf
  obtain rfl := Option.some.inj hf
  exact zr_iret hx hb hret hlk hP hS zd_Mod_thrower_67
set_option maxHeartbeats 4000000 in
theorem zl_Mod_thrower_L19 {p : Program} {l : Launch} {e : Env} {s : State} {m : MethodId} {args : Array Value} {below : List Frame} {meth : Method} {c : Code} {D : va_G} {cA : Nat → ClassId} {ad : Nat → Nat} {A : Nat → Prop} (B : zu_B p s m args c zb_Mod_thrower 3 "StonePostModel" D cA ad A) (hret : meth.sig.returnType = (some .int)) (hlk : meth.locks = false) {Y : LX} {res : Int32 × IX} (X : IX) (H : Heap) (locs : List Loc) (ls : Array Slot) (hP : va_P D zu_cl (zu_pic cA ad X Y) H) (hS : va_S A s.heap H locs) (hl : lv_has ls 3 [(0, .ref (ad 95))]) (hf : fn_Mod_thrower_L19 X = some res) : W p l e zR_Mod_thrower s m args below meth c H locs 0 0 (MQ below (zu_Qi D cA ad A res.1 res.2 Y) args s 0 0 A) (F0 m 19 ls []) := by
  obtain ⟨hx, hb, hml, hown, hts, hST⟩ := id B
  unfold fn_Mod_thrower_L19 at hf
  refine lv_aload_n hx hb zd_Mod_thrower_19 rfl (lv_at hl 0 rfl) ?_
  refine lv_ldc (v := -1000001) hx hb hown (hts _ zq_943) zd_Mod_thrower_20 ?_
  obtain ⟨v20, X21, hq22, hf⟩ := zu_b2_e hf
  refine zw_Mod_finds (rest := []) B hP hS hq22 zq_944 (Nat.le_of_ble_eq_true rfl) (Nat.le_of_ble_eq_true rfl) hl.1 rfl (Nat.le_of_ble_eq_true rfl) zd_Mod_thrower_22 (by decide) (fun H locs hP hS => ?_)
  clear hq22
  obtain rfl := Option.some.inj hf
  exact zr_iret hx hb hret hlk hP hS zd_Mod_thrower_25
set_option maxHeartbeats 4000000 in
theorem zl_Mod_thrower {p : Program} {l : Launch} {e : Env} {s : State} {m : MethodId} {args : Array Value} {below : List Frame} {meth : Method} {c : Code} {D : va_G} {cA : Nat → ClassId} {ad : Nat → Nat} {A : Nat → Prop} (B : zu_B p s m args c zb_Mod_thrower 3 "StonePostModel" D cA ad A) (hret : meth.sig.returnType = (some .int)) (hlk : meth.locks = false) {Y : LX} {res : Int32 × IX} {a1 : Int32} {a2 : Int32} {X : IX} (H : Heap) (locs : List Loc) (ls : Array Slot) (hP : va_P D zu_cl (zu_pic cA ad X Y) H) (hS : va_S A s.heap H locs) (hl : lv_has ls 3 [(0, .ref (ad 95)), (1, .int a1), (2, .int a2)]) (hf : fn_Mod_thrower a1 a2 X = some res) : W p l e zR_Mod_thrower s m args below meth c H locs 0 0 (MQ below (zu_Qi D cA ad A res.1 res.2 Y) args s 0 0 A) (F0 m 0 ls []) := by
  obtain ⟨hx, hb, hml, hown, hts, hST⟩ := id B
  unfold fn_Mod_thrower at hf
  refine lv_iload_n hx hb zd_Mod_thrower_0 rfl (lv_at hl 1 rfl) ?_
  refine lv_i2l hx hb zd_Mod_thrower_1 rfl ?_
  refine lv_lconst (v := 0) hx hb zd_Mod_thrower_2 (by decide) ?_
  refine lv_ldc2 (v := 6) hx hb hown (hts _ zq_957) zd_Mod_thrower_3 ?_
  obtain ⟨v1, hq2, hf⟩ := zu_b1_e hf
  refine zw_Mod_in (rest := []) B hP hS hq2 zq_939 (Nat.le_of_ble_eq_true rfl) (Nat.le_of_ble_eq_true rfl) hl.1 rfl (Nat.le_of_ble_eq_true rfl) zd_Mod_thrower_6 (by decide) (fun H locs hP hS => ?_)
  clear hq2
  refine lv_if_eq (tgt := 19) hx hb zd_Mod_thrower_9 (by decide) (fun c3 => ?_) (fun c3 => ?_)
  · have hf := zu_t c3 hf
    exact zl_Mod_thrower_L19 B hret hlk X _ _ _ hP hS (lv_sub hl [0] rfl) hf
  · have hf := zu_f c3 hf
    refine lv_iload_n hx hb zd_Mod_thrower_12 rfl (lv_at hl 2 rfl) ?_
    obtain ⟨v4, hq5, hf⟩ := zu_b1_e hf
    refine zw_Mod_isCell (rest := []) B hP hS hq5 zq_935 (Nat.le_of_ble_eq_true rfl) (Nat.le_of_ble_eq_true rfl) hl.1 rfl (Nat.le_of_ble_eq_true rfl) zd_Mod_thrower_13 (by decide) (fun H locs hP hS => ?_)
    clear hq5
    refine lv_if_ne (tgt := 26) hx hb zd_Mod_thrower_16 (by decide) (fun c6 => ?_) (fun c6 => ?_)
    · have hf := zu_f c6 hf
      refine lv_aload_n hx hb zd_Mod_thrower_26 rfl (lv_at hl 0 rfl) ?_
      refine lv_iload_n hx hb zd_Mod_thrower_27 rfl (lv_at hl 2 rfl) ?_
      obtain ⟨v7, hq8, hf⟩ := zu_b1_e hf
      refine zw_Mod_standing (rest := []) B hP hS hq8 zq_958 (Nat.le_of_ble_eq_true rfl) (Nat.le_of_ble_eq_true rfl) hl.1 rfl (Nat.le_of_ble_eq_true rfl) zd_Mod_thrower_28 (by decide) (fun H locs hP hS => ?_)
      clear hq8
      refine lv_if_lt (tgt := 41) hx hb zd_Mod_thrower_31 (by decide) (fun c9 => ?_) (fun c9 => ?_)
      · have hf := zu_t c9 hf
        refine lv_aload_n hx hb zd_Mod_thrower_41 rfl (lv_at hl 0 rfl) ?_
        refine zg_Mod_s B hP rfl zq_861 zd_Mod_thrower_42 ?_
        refine lv_iconst (v := 1) hx hb zd_Mod_thrower_45 (by decide) ?_
        refine zr_iald (j := 1) (by decide) B hP rfl (by decide) rfl (by decide) zd_Mod_thrower_46 ?_
        refine lv_bipush (v := 10) hx hb zd_Mod_thrower_47 (by decide) ?_
        refine lv_icmp_ne (tgt := 61) hx hb zd_Mod_thrower_49 (by decide) (fun c10 => ?_) (fun c10 => ?_)
        · have hf := zu_f c10 hf
          refine lv_aload_n hx hb zd_Mod_thrower_61 rfl (lv_at hl 0 rfl) ?_
          refine lv_iload_n hx hb zd_Mod_thrower_62 rfl (lv_at hl 1 rfl) ?_
          refine lv_iload_n hx hb zd_Mod_thrower_63 rfl (lv_at hl 2 rfl) ?_
          obtain ⟨v11, X12, hq13, hf⟩ := zu_b2_e hf
          refine zw_Mod_newThrower (rest := []) B hP hS hq13 zq_971 (Nat.le_of_ble_eq_true rfl) (Nat.le_of_ble_eq_true rfl) hl.1 rfl (Nat.le_of_ble_eq_true rfl) zd_Mod_thrower_64 (by decide) (fun H locs hP hS => ?_)
          clear hq13
          exact zl_Mod_thrower_L67 B hret hlk v11 X12 _ _ _ hP hS (lv_sub hl [] rfl) hf
        · have hf := zu_t c10 hf
          refine lv_aload_n hx hb zd_Mod_thrower_52 rfl (lv_at hl 0 rfl) ?_
          refine lv_ldc (v := -1000002) hx hb hown (hts _ zq_970) zd_Mod_thrower_53 ?_
          obtain ⟨v14, X15, hq16, hf⟩ := zu_b2_e hf
          refine zw_Mod_finds (rest := []) B hP hS hq16 zq_944 (Nat.le_of_ble_eq_true rfl) (Nat.le_of_ble_eq_true rfl) hl.1 rfl (Nat.le_of_ble_eq_true rfl) zd_Mod_thrower_55 (by decide) (fun H locs hP hS => ?_)
          clear hq16
          refine lv_goto (tgt := 67) hx hb zd_Mod_thrower_58 (by decide) ?_
          exact zl_Mod_thrower_L67 B hret hlk v14 X15 _ _ _ hP hS (lv_sub hl [] rfl) hf
      · have hf := zu_f c9 hf
        refine lv_aload_n hx hb zd_Mod_thrower_34 rfl (lv_at hl 0 rfl) ?_
        refine lv_ldc (v := -1000005) hx hb hown (hts _ zq_969) zd_Mod_thrower_35 ?_
        obtain ⟨v17, X18, hq19, hf⟩ := zu_b2_e hf
        refine zw_Mod_finds (rest := []) B hP hS hq19 zq_944 (Nat.le_of_ble_eq_true rfl) (Nat.le_of_ble_eq_true rfl) hl.1 rfl (Nat.le_of_ble_eq_true rfl) zd_Mod_thrower_37 (by decide) (fun H locs hP hS => ?_)
        clear hq19
        obtain rfl := Option.some.inj hf
        exact zr_iret hx hb hret hlk hP hS zd_Mod_thrower_40
    · have hf := zu_t c6 hf
      exact zl_Mod_thrower_L19 B hret hlk X _ _ _ hP hS (lv_sub hl [0] rfl) hf
theorem zC_Mod_thrower (l : Launch) {D : va_G} {cA : Nat → ClassId} {ad : Nat → Nat} {A : Nat → Prop} {a1 : Int32} {a2 : Int32} {X : IX} {Y : LX} {res : Int32 × IX} (hf : fn_Mod_thrower a1 a2 X = some res) : Met l zm_Mod_thrower (zu_ws zm_Mod_thrower zb_Mod_thrower 3 (some .int)) zR_Mod_thrower (va_Pc [.ref (ad 95), .int a1, .int a2] (zu_Pre D cA ad A X Y)) (zu_Qi D cA ad A res.1 res.2 Y) 0 0 A := by
  refine Met.ofW (cc := zb_Mod_thrower) (maxL := 3) (ret := (some .int)) (by decide +kernel) rfl ?_
  intro p e s m args below meth c s₁ B0 hml hv
  obtain ⟨rfl, hP, hST⟩ := hv
  have B : zu_B p s m _ c zb_Mod_thrower 3 "StonePostModel" D cA ad A := ⟨B0.exec, B0.bytes, hml, findClass_of_methodNamed B0.named, (fun w hw => atoms_spec (ws := zu_ws zm_Mod_thrower zb_Mod_thrower 3 (some .int)) B0.pre w (List.mem_cons_of_mem _ hw)), hST⟩
  have hl := lv_entry ([.ref (ad 95), .int a1, .int a2]) (n := 3) (Nat.le_of_ble_eq_true rfl)
  rw [lg_entry_eq]
  generalize (lg_sl ([.ref (ad 95), .int a1, .int a2]) ++ List.replicate (3 - (lg_sl ([.ref (ad 95), .int a1, .int a2])).length) Slot.unset).toArray = ls at hl ⊢
  exact zl_Mod_thrower B B0.returns B0.notSynchronized s.heap [] ls hP va_S.rf hl  hf
theorem zw_Mod_thrower {p : Program} {l : Launch} {e : Env} {R : Room} {s : State} {m : MethodId} {args : Array Value} {below : List Frame} {meth : Method} {c : Code} {H : Heap} {locs : List Loc} {cells slots : Nat} {Q : State → Prop} {cc : ByteArray} {pc nL : Nat} {ls : Array Slot} {rest st0 : List Value} {D : va_G} {cA : Nat → ClassId} {ad : Nat → Nat} {A : Nat → Prop} {X : IX} {Y : LX} {own : String} {index : Nat} {a1 : Int32} {a2 : Int32} {v1 : Int32} {X1 : IX} (B : zu_B p s m args c cc nL own D cA ad A) (hP : va_P D zu_cl (zu_pic cA ad X Y) H) (hS : va_S A s.heap H locs) (hq : fn_Mod_thrower a1 a2 X = some (v1, X1)) (m1 : Cond.methodLink own index zm_Mod_thrower ∈ zu_TB) (hR1 : 3 + 1 ≤ R.frames) (hR2 : 8 + (3 + 11) + 66 ≤ R.locals) (hsz : ls.size = nL) (hst : st0 = .int a2 :: .int a1 :: .ref (ad 95) :: rest) (hw : (rest.map fun v => v.category).sum ≤ 8) (hdg : decode cc pc = .ok (.invokevirtual index, 3)) (h00 : cells ≤ R.cells ∧ slots ≤ R.slots) (kk : ∀ (H1 : Heap) (locs1 : List Loc), va_P D zu_cl (zu_pic cA ad X1 Y) H1 → va_S A s.heap H1 locs1 → W p l e R s m args below meth c H1 locs1 cells slots Q (F0 m (pc + 3) ls (.int v1 :: rest))) : W p l e R s m args below meth c H locs cells slots Q (F0 m pc ls st0) := by
  subst hst
  exact zr_cVi (As := [.int a1, .int a2]) (rest := rest) (n := 2) (C := "StonePostModel") (T := zt_Mod) (N := 23) B hP hS (zC_Mod_thrower l  hq) (K := 7) rfl (by decide) (by decide) rfl rfl m1 zq_954 zq_955 zq_8 zq_956 (by decide +kernel) ⟨hR1, hR2⟩ rfl rfl rfl hsz rfl hw hdg h00 kk
