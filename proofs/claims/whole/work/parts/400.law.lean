theorem zl_law_arg {p : Program} {l : Launch} {e : Env} {R : Room} {s : State} {m : MethodId} {args : Array Value} {below : List Frame} {meth : Method} {c : Code} {H : Heap} {locs : List Loc} {cells slots : Nat} {Q : State → Prop} {A : Nat → Prop} {H0 : Heap} {cc : ByteArray} {pc b L i j : Nat} {xs : Nat → Int32} {ls : Array Slot} {rest : List Value} {jv : Int} (hx : p.tables.exec = Jvm.exec) (hb : c.code = cc) (hX : va_X b L xs s H0) (hbl : b < H0.size) (hbA : ¬ A b) (hS : va_S A H0 H locs) (d0 : decode cc pc = .ok (.aload_n 0, 1)) (d1 : decode cc (pc + 1) = .ok (.iload_n 3, 1)) (d2 : decode cc (pc + 2) = .ok (.iconst jv, 1)) (d3 : decode cc (pc + 3) = .ok (.iadd, 1)) (d4 : decode cc (pc + 4) = .ok (.iaload, 1)) (hj : Int32.ofInt jv = nI j) (h0 : ls[0]? = some (.val (.ref b))) (h3 : ls[3]? = some (.val (.int (nI i)))) (hij : i + j < L) (hL : L ≤ 384) (kk : W p l e R s m args below meth c H locs cells slots Q (F0 m (pc + 5) ls (.int (xs (i + j)) :: rest))) : W p l e R s m args below meth c H locs cells slots Q (F0 m pc ls rest) := by
  refine lv_aload_n hx hb d0 rfl h0 ?_
  refine lv_iload_n hx hb d1 rfl h3 ?_
  refine lv_iconst hx hb d2 hj ?_
  refine lv_iadd hx hb d3 ?_
  rw [nI_add]
  refine va_sld hx hb hX hbl hbA hS (vp_in_nI hij (by omega)) d4 ?_
  rw [nI_clamp (by omega)]
  exact kk
theorem zl_law_bool {p : Program} {l : Launch} {e : Env} {R : Room} {s : State} {m : MethodId} {args : Array Value} {below : List Frame} {meth : Method} {c : Code} {H : Heap} {locs : List Loc} {cells slots : Nat} {Q : State → Prop} {cc : ByteArray} {pc tA tB : Nat} {ls : Array Slot} {rest : List Value} {x : Int32} {o1 o2 : Int} (hx : p.tables.exec = Jvm.exec) (hb : c.code = cc) (d0 : decode cc pc = .ok (.ifCond .eq o1, 3)) (d1 : decode cc (pc + 3) = .ok (.iconst 1, 1)) (d2 : decode cc (pc + 4) = .ok (.goto o2, 3)) (d3 : decode cc tA = .ok (.iconst 0, 1)) (e1 : (pc : Int) + o1 = (tA : Int)) (e2 : ((pc + 4 : Nat) : Int) + o2 = (tB : Int)) (e3 : tA + 1 = tB) (kk : W p l e R s m args below meth c H locs cells slots Q (F0 m tB ls (.int (if x = 0 then 0 else 1) :: rest))) : W p l e R s m args below meth c H locs cells slots Q (F0 m pc ls (.int x :: rest)) := by
  refine lv_if_eq hx hb d0 e1 (fun h => ?_) (fun h => ?_)
  · refine lv_iconst (v := 0) hx hb d3 (by decide) ?_
    rw [e3]
    rw [if_pos h] at kk
    exact kk
  · refine lv_iconst (v := 1) hx hb d1 (by decide) ?_
    refine lv_goto hx hb d2 e2 ?_
    rw [if_neg h] at kk
    exact kk
set_option maxHeartbeats 4000000 in
theorem zl_law_c0 {p : Program} {l : Launch} {e : Env} {s : State} {m : MethodId} {below : List Frame} {meth : Method} {c : Code} {D : va_G} {cA : Nat → ClassId} {ad : Nat → Nat} {A : Nat → Prop} {b L : Nat} {xs : Nat → Int32} {Q : State → Prop} (Bz : zu_B p s m #[Value.ref b] c code 4 "StonePostLaw" D cA ad A) (hX : va_X b L xs s s.heap) (hbl : b < s.heap.size) (hbA : ¬ A b) (hL : L ≤ 384) {i : Nat} (hi : i + 6 ≤ L) {X : IX} {Y : LX} (hI : zI_INV X) {H : Heap} {locs : List Loc} {ls : Array Slot} (hP : va_P D zu_cl (zu_pic cA ad X Y) H) (hS : va_S A s.heap H locs) (hl : lv_has ls 4 [(0, .ref b), (1, .ref (ad 0)), (2, .ref (ad 95)), (3, .int (nI i))]) (hk : ∀ (X : IX) (Y : LX) (H : Heap) (locs : List Loc) (ls : Array Slot), zI_INV X → va_P D zu_cl (zu_pic cA ad X Y) H → va_S A s.heap H locs → lv_has ls 4 [(0, .ref b), (1, .ref (ad 0)), (2, .ref (ad 95)), (3, .int (nI i))] → W p l e room_1 s m #[Value.ref b] below meth c H locs 600000 7302250 Q (F0 m 1704 ls [])) : W p l e room_1 s m #[Value.ref b] below meth c H locs 600000 7302250 Q (F0 m 240 ls []) := by
  obtain ⟨hx, hb, hml, hown, hts, hST⟩ := id Bz
  obtain ⟨v, X1, X2, hq1, hq2, hI2⟩ := st_stuff (X := X) (Y := Y) hI (xs (i + 1)) (xs (i + 2))
  refine lv_aload_n hx hb zd_law_240 rfl (lv_at hl 1 rfl) ?_
  refine zl_law_arg (j := 1) hx hb hX hbl hbA hS zd_law_241 zd_law_242 zd_law_243 zd_law_244 zd_law_245 (by decide) (lv_at hl 0 rfl) (lv_at hl 3 rfl) (by omega) hL ?_
  refine zl_law_arg (j := 2) hx hb hX hbl hbA hS zd_law_246 zd_law_247 zd_law_248 zd_law_249 zd_law_250 (by decide) (lv_at hl 0 rfl) (lv_at hl 3 rfl) (by omega) hL ?_
  refine zw_Post_stuff (rest := []) Bz hP hS hq1 zq_216 (Nat.le_of_ble_eq_true rfl) (Nat.le_of_ble_eq_true rfl) hl.1 rfl (Nat.le_of_ble_eq_true rfl) zd_law_251 ⟨Nat.le_refl _, Nat.le_refl _⟩ (fun H locs hP hS => ?_)
  refine lv_aload_n hx hb zd_law_254 rfl (lv_at hl 2 rfl) ?_
  refine zl_law_arg (j := 1) hx hb hX hbl hbA hS zd_law_255 zd_law_256 zd_law_257 zd_law_258 zd_law_259 (by decide) (lv_at hl 0 rfl) (lv_at hl 3 rfl) (by omega) hL ?_
  refine zl_law_arg (j := 2) hx hb hX hbl hbA hS zd_law_260 zd_law_261 zd_law_262 zd_law_263 zd_law_264 (by decide) (lv_at hl 0 rfl) (lv_at hl 3 rfl) (by omega) hL ?_
  refine zw_Mod_stuff (rest := [.int v]) Bz hP hS hq2 zq_931 (Nat.le_of_ble_eq_true rfl) (Nat.le_of_ble_eq_true rfl) hl.1 rfl (Nat.le_of_ble_eq_true rfl) zd_law_265 ⟨Nat.le_refl _, Nat.le_refl _⟩ (fun H locs hP hS => ?_)
  refine lv_icmp_eq (tgt := 1704) hx hb zd_law_268 (by decide) (fun _ => ?_) (fun h9 => absurd rfl h9)
  exact hk _ _ _ _ _ hI2 hP hS hl
set_option maxHeartbeats 4000000 in
theorem zl_law_c1 {p : Program} {l : Launch} {e : Env} {s : State} {m : MethodId} {below : List Frame} {meth : Method} {c : Code} {D : va_G} {cA : Nat → ClassId} {ad : Nat → Nat} {A : Nat → Prop} {b L : Nat} {xs : Nat → Int32} {Q : State → Prop} (Bz : zu_B p s m #[Value.ref b] c code 4 "StonePostLaw" D cA ad A) (hX : va_X b L xs s s.heap) (hbl : b < s.heap.size) (hbA : ¬ A b) (hL : L ≤ 384) {i : Nat} (hi : i + 6 ≤ L) {X : IX} {Y : LX} (hI : zI_INV X) {H : Heap} {locs : List Loc} {ls : Array Slot} (hP : va_P D zu_cl (zu_pic cA ad X Y) H) (hS : va_S A s.heap H locs) (hl : lv_has ls 4 [(0, .ref b), (1, .ref (ad 0)), (2, .ref (ad 95)), (3, .int (nI i))]) (hk : ∀ (X : IX) (Y : LX) (H : Heap) (locs : List Loc) (ls : Array Slot), zI_INV X → va_P D zu_cl (zu_pic cA ad X Y) H → va_S A s.heap H locs → lv_has ls 4 [(0, .ref b), (1, .ref (ad 0)), (2, .ref (ad 95)), (3, .int (nI i))] → W p l e room_1 s m #[Value.ref b] below meth c H locs 600000 7302250 Q (F0 m 1704 ls [])) : W p l e room_1 s m #[Value.ref b] below meth c H locs 600000 7302250 Q (F0 m 273 ls []) := by
  obtain ⟨hx, hb, hml, hown, hts, hST⟩ := id Bz
  obtain ⟨v, X1, X2, hq1, hq2, hI2⟩ := st_rule (X := X) (Y := Y) hI (xs (i + 1)) (xs (i + 2))
  refine lv_aload_n hx hb zd_law_273 rfl (lv_at hl 1 rfl) ?_
  refine zl_law_arg (j := 1) hx hb hX hbl hbA hS zd_law_274 zd_law_275 zd_law_276 zd_law_277 zd_law_278 (by decide) (lv_at hl 0 rfl) (lv_at hl 3 rfl) (by omega) hL ?_
  refine zl_law_arg (j := 2) hx hb hX hbl hbA hS zd_law_279 zd_law_280 zd_law_281 zd_law_282 zd_law_283 (by decide) (lv_at hl 0 rfl) (lv_at hl 3 rfl) (by omega) hL ?_
  refine zw_Post_rule (rest := []) Bz hP hS hq1 zq_231 (Nat.le_of_ble_eq_true rfl) (Nat.le_of_ble_eq_true rfl) hl.1 rfl (Nat.le_of_ble_eq_true rfl) zd_law_284 ⟨Nat.le_refl _, Nat.le_refl _⟩ (fun H locs hP hS => ?_)
  refine lv_aload_n hx hb zd_law_287 rfl (lv_at hl 2 rfl) ?_
  refine zl_law_arg (j := 1) hx hb hX hbl hbA hS zd_law_288 zd_law_289 zd_law_290 zd_law_291 zd_law_292 (by decide) (lv_at hl 0 rfl) (lv_at hl 3 rfl) (by omega) hL ?_
  refine zl_law_arg (j := 2) hx hb hX hbl hbA hS zd_law_293 zd_law_294 zd_law_295 zd_law_296 zd_law_297 (by decide) (lv_at hl 0 rfl) (lv_at hl 3 rfl) (by omega) hL ?_
  refine zw_Mod_rule (rest := [.int v]) Bz hP hS hq2 zq_948 (Nat.le_of_ble_eq_true rfl) (Nat.le_of_ble_eq_true rfl) hl.1 rfl (Nat.le_of_ble_eq_true rfl) zd_law_298 ⟨Nat.le_refl _, Nat.le_refl _⟩ (fun H locs hP hS => ?_)
  refine lv_icmp_eq (tgt := 1704) hx hb zd_law_301 (by decide) (fun _ => ?_) (fun h9 => absurd rfl h9)
  exact hk _ _ _ _ _ hI2 hP hS hl
set_option maxHeartbeats 4000000 in
theorem zl_law_c2 {p : Program} {l : Launch} {e : Env} {s : State} {m : MethodId} {below : List Frame} {meth : Method} {c : Code} {D : va_G} {cA : Nat → ClassId} {ad : Nat → Nat} {A : Nat → Prop} {b L : Nat} {xs : Nat → Int32} {Q : State → Prop} (Bz : zu_B p s m #[Value.ref b] c code 4 "StonePostLaw" D cA ad A) (hX : va_X b L xs s s.heap) (hbl : b < s.heap.size) (hbA : ¬ A b) (hL : L ≤ 384) {i : Nat} (hi : i + 6 ≤ L) {X : IX} {Y : LX} (hI : zI_INV X) {H : Heap} {locs : List Loc} {ls : Array Slot} (hP : va_P D zu_cl (zu_pic cA ad X Y) H) (hS : va_S A s.heap H locs) (hl : lv_has ls 4 [(0, .ref b), (1, .ref (ad 0)), (2, .ref (ad 95)), (3, .int (nI i))]) (hk : ∀ (X : IX) (Y : LX) (H : Heap) (locs : List Loc) (ls : Array Slot), zI_INV X → va_P D zu_cl (zu_pic cA ad X Y) H → va_S A s.heap H locs → lv_has ls 4 [(0, .ref b), (1, .ref (ad 0)), (2, .ref (ad 95)), (3, .int (nI i))] → W p l e room_1 s m #[Value.ref b] below meth c H locs 600000 7302250 Q (F0 m 1704 ls [])) : W p l e room_1 s m #[Value.ref b] below meth c H locs 600000 7302250 Q (F0 m 306 ls []) := by
  obtain ⟨hx, hb, hml, hown, hts, hST⟩ := id Bz
  obtain ⟨v, X1, X2, hq1, hq2, hI2⟩ := st_thrower (X := X) (Y := Y) hI (xs (i + 1)) (xs (i + 2))
  refine lv_aload_n hx hb zd_law_306 rfl (lv_at hl 1 rfl) ?_
  refine zl_law_arg (j := 1) hx hb hX hbl hbA hS zd_law_307 zd_law_308 zd_law_309 zd_law_310 zd_law_311 (by decide) (lv_at hl 0 rfl) (lv_at hl 3 rfl) (by omega) hL ?_
  refine zl_law_arg (j := 2) hx hb hX hbl hbA hS zd_law_312 zd_law_313 zd_law_314 zd_law_315 zd_law_316 (by decide) (lv_at hl 0 rfl) (lv_at hl 3 rfl) (by omega) hL ?_
  refine zw_Post_thrower (rest := []) Bz hP hS hq1 zq_235 (Nat.le_of_ble_eq_true rfl) (Nat.le_of_ble_eq_true rfl) hl.1 rfl (Nat.le_of_ble_eq_true rfl) zd_law_317 ⟨Nat.le_refl _, Nat.le_refl _⟩ (fun H locs hP hS => ?_)
  refine lv_aload_n hx hb zd_law_320 rfl (lv_at hl 2 rfl) ?_
  refine zl_law_arg (j := 1) hx hb hX hbl hbA hS zd_law_321 zd_law_322 zd_law_323 zd_law_324 zd_law_325 (by decide) (lv_at hl 0 rfl) (lv_at hl 3 rfl) (by omega) hL ?_
  refine zl_law_arg (j := 2) hx hb hX hbl hbA hS zd_law_326 zd_law_327 zd_law_328 zd_law_329 zd_law_330 (by decide) (lv_at hl 0 rfl) (lv_at hl 3 rfl) (by omega) hL ?_
  refine zw_Mod_thrower (rest := [.int v]) Bz hP hS hq2 zq_953 (Nat.le_of_ble_eq_true rfl) (Nat.le_of_ble_eq_true rfl) hl.1 rfl (Nat.le_of_ble_eq_true rfl) zd_law_331 ⟨Nat.le_refl _, Nat.le_refl _⟩ (fun H locs hP hS => ?_)
  refine lv_icmp_eq (tgt := 1704) hx hb zd_law_334 (by decide) (fun _ => ?_) (fun h9 => absurd rfl h9)
  exact hk _ _ _ _ _ hI2 hP hS hl
set_option maxHeartbeats 4000000 in
theorem zl_law_c3 {p : Program} {l : Launch} {e : Env} {s : State} {m : MethodId} {below : List Frame} {meth : Method} {c : Code} {D : va_G} {cA : Nat → ClassId} {ad : Nat → Nat} {A : Nat → Prop} {b L : Nat} {xs : Nat → Int32} {Q : State → Prop} (Bz : zu_B p s m #[Value.ref b] c code 4 "StonePostLaw" D cA ad A) (hX : va_X b L xs s s.heap) (hbl : b < s.heap.size) (hbA : ¬ A b) (hL : L ≤ 384) {i : Nat} (hi : i + 6 ≤ L) {X : IX} {Y : LX} (hI : zI_INV X) {H : Heap} {locs : List Loc} {ls : Array Slot} (hP : va_P D zu_cl (zu_pic cA ad X Y) H) (hS : va_S A s.heap H locs) (hl : lv_has ls 4 [(0, .ref b), (1, .ref (ad 0)), (2, .ref (ad 95)), (3, .int (nI i))]) (hk : ∀ (X : IX) (Y : LX) (H : Heap) (locs : List Loc) (ls : Array Slot), zI_INV X → va_P D zu_cl (zu_pic cA ad X Y) H → va_S A s.heap H locs → lv_has ls 4 [(0, .ref b), (1, .ref (ad 0)), (2, .ref (ad 95)), (3, .int (nI i))] → W p l e room_1 s m #[Value.ref b] below meth c H locs 600000 7302250 Q (F0 m 1704 ls [])) : W p l e room_1 s m #[Value.ref b] below meth c H locs 600000 7302250 Q (F0 m 339 ls []) := by
  obtain ⟨hx, hb, hml, hown, hts, hST⟩ := id Bz
  obtain ⟨v, X1, X2, hq1, hq2, hI2⟩ := st_of (X := X) (Y := Y) hI (xs (i + 1)) (xs (i + 2))
  refine lv_aload_n hx hb zd_law_339 rfl (lv_at hl 1 rfl) ?_
  refine zl_law_arg (j := 1) hx hb hX hbl hbA hS zd_law_340 zd_law_341 zd_law_342 zd_law_343 zd_law_344 (by decide) (lv_at hl 0 rfl) (lv_at hl 3 rfl) (by omega) hL ?_
  refine zl_law_arg (j := 2) hx hb hX hbl hbA hS zd_law_345 zd_law_346 zd_law_347 zd_law_348 zd_law_349 (by decide) (lv_at hl 0 rfl) (lv_at hl 3 rfl) (by omega) hL ?_
  refine zw_Post_of (rest := []) Bz hP hS hq1 zq_261 (Nat.le_of_ble_eq_true rfl) (Nat.le_of_ble_eq_true rfl) hl.1 rfl (Nat.le_of_ble_eq_true rfl) zd_law_350 ⟨Nat.le_refl _, Nat.le_refl _⟩ (fun H locs hP hS => ?_)
  refine lv_aload_n hx hb zd_law_353 rfl (lv_at hl 2 rfl) ?_
  refine zl_law_arg (j := 1) hx hb hX hbl hbA hS zd_law_354 zd_law_355 zd_law_356 zd_law_357 zd_law_358 (by decide) (lv_at hl 0 rfl) (lv_at hl 3 rfl) (by omega) hL ?_
  refine zl_law_arg (j := 2) hx hb hX hbl hbA hS zd_law_359 zd_law_360 zd_law_361 zd_law_362 zd_law_363 (by decide) (lv_at hl 0 rfl) (lv_at hl 3 rfl) (by omega) hL ?_
  refine zw_Mod_of (rest := [.int v]) Bz hP hS hq2 zq_975 (Nat.le_of_ble_eq_true rfl) (Nat.le_of_ble_eq_true rfl) hl.1 rfl (Nat.le_of_ble_eq_true rfl) zd_law_364 ⟨Nat.le_refl _, Nat.le_refl _⟩ (fun H locs hP hS => ?_)
  refine lv_icmp_eq (tgt := 1704) hx hb zd_law_367 (by decide) (fun _ => ?_) (fun h9 => absurd rfl h9)
  exact hk _ _ _ _ _ hI2 hP hS hl
set_option maxHeartbeats 4000000 in
theorem zl_law_c4 {p : Program} {l : Launch} {e : Env} {s : State} {m : MethodId} {below : List Frame} {meth : Method} {c : Code} {D : va_G} {cA : Nat → ClassId} {ad : Nat → Nat} {A : Nat → Prop} {b L : Nat} {xs : Nat → Int32} {Q : State → Prop} (Bz : zu_B p s m #[Value.ref b] c code 4 "StonePostLaw" D cA ad A) (hX : va_X b L xs s s.heap) (hbl : b < s.heap.size) (hbA : ¬ A b) (hL : L ≤ 384) {i : Nat} (hi : i + 6 ≤ L) {X : IX} {Y : LX} (hI : zI_INV X) {H : Heap} {locs : List Loc} {ls : Array Slot} (hP : va_P D zu_cl (zu_pic cA ad X Y) H) (hS : va_S A s.heap H locs) (hl : lv_has ls 4 [(0, .ref b), (1, .ref (ad 0)), (2, .ref (ad 95)), (3, .int (nI i))]) (hk : ∀ (X : IX) (Y : LX) (H : Heap) (locs : List Loc) (ls : Array Slot), zI_INV X → va_P D zu_cl (zu_pic cA ad X Y) H → va_S A s.heap H locs → lv_has ls 4 [(0, .ref b), (1, .ref (ad 0)), (2, .ref (ad 95)), (3, .int (nI i))] → W p l e room_1 s m #[Value.ref b] below meth c H locs 600000 7302250 Q (F0 m 1704 ls [])) : W p l e room_1 s m #[Value.ref b] below meth c H locs 600000 7302250 Q (F0 m 372 ls []) := by
  obtain ⟨hx, hb, hml, hown, hts, hST⟩ := id Bz
  obtain ⟨v, X1, X2, hq1, hq2, hI2⟩ := st_change (X := X) (Y := Y) hI (xs (i + 1)) (xs (i + 2)) (xs (i + 3))
  refine lv_aload_n hx hb zd_law_372 rfl (lv_at hl 1 rfl) ?_
  refine zl_law_arg (j := 1) hx hb hX hbl hbA hS zd_law_373 zd_law_374 zd_law_375 zd_law_376 zd_law_377 (by decide) (lv_at hl 0 rfl) (lv_at hl 3 rfl) (by omega) hL ?_
  refine zl_law_arg (j := 2) hx hb hX hbl hbA hS zd_law_378 zd_law_379 zd_law_380 zd_law_381 zd_law_382 (by decide) (lv_at hl 0 rfl) (lv_at hl 3 rfl) (by omega) hL ?_
  refine zl_law_arg (j := 3) hx hb hX hbl hbA hS zd_law_383 zd_law_384 zd_law_385 zd_law_386 zd_law_387 (by decide) (lv_at hl 0 rfl) (lv_at hl 3 rfl) (by omega) hL ?_
  refine zw_Post_change (rest := []) Bz hP hS hq1 zq_269 (Nat.le_of_ble_eq_true rfl) (Nat.le_of_ble_eq_true rfl) hl.1 rfl (Nat.le_of_ble_eq_true rfl) zd_law_388 ⟨Nat.le_refl _, Nat.le_refl _⟩ (fun H locs hP hS => ?_)
  refine lv_aload_n hx hb zd_law_391 rfl (lv_at hl 2 rfl) ?_
  refine zl_law_arg (j := 1) hx hb hX hbl hbA hS zd_law_392 zd_law_393 zd_law_394 zd_law_395 zd_law_396 (by decide) (lv_at hl 0 rfl) (lv_at hl 3 rfl) (by omega) hL ?_
  refine zl_law_arg (j := 2) hx hb hX hbl hbA hS zd_law_397 zd_law_398 zd_law_399 zd_law_400 zd_law_401 (by decide) (lv_at hl 0 rfl) (lv_at hl 3 rfl) (by omega) hL ?_
  refine zl_law_arg (j := 3) hx hb hX hbl hbA hS zd_law_402 zd_law_403 zd_law_404 zd_law_405 zd_law_406 (by decide) (lv_at hl 0 rfl) (lv_at hl 3 rfl) (by omega) hL ?_
  refine zw_Mod_change (rest := [.int v]) Bz hP hS hq2 zq_984 (Nat.le_of_ble_eq_true rfl) (Nat.le_of_ble_eq_true rfl) hl.1 rfl (Nat.le_of_ble_eq_true rfl) zd_law_407 ⟨Nat.le_refl _, Nat.le_refl _⟩ (fun H locs hP hS => ?_)
  refine lv_icmp_eq (tgt := 1704) hx hb zd_law_410 (by decide) (fun _ => ?_) (fun h9 => absurd rfl h9)
  exact hk _ _ _ _ _ hI2 hP hS hl
set_option maxHeartbeats 4000000 in
theorem zl_law_c5 {p : Program} {l : Launch} {e : Env} {s : State} {m : MethodId} {below : List Frame} {meth : Method} {c : Code} {D : va_G} {cA : Nat → ClassId} {ad : Nat → Nat} {A : Nat → Prop} {b L : Nat} {xs : Nat → Int32} {Q : State → Prop} (Bz : zu_B p s m #[Value.ref b] c code 4 "StonePostLaw" D cA ad A) (hX : va_X b L xs s s.heap) (hbl : b < s.heap.size) (hbA : ¬ A b) (hL : L ≤ 384) {i : Nat} (hi : i + 6 ≤ L) {X : IX} {Y : LX} (hI : zI_INV X) {H : Heap} {locs : List Loc} {ls : Array Slot} (hP : va_P D zu_cl (zu_pic cA ad X Y) H) (hS : va_S A s.heap H locs) (hl : lv_has ls 4 [(0, .ref b), (1, .ref (ad 0)), (2, .ref (ad 95)), (3, .int (nI i))]) (hk : ∀ (X : IX) (Y : LX) (H : Heap) (locs : List Loc) (ls : Array Slot), zI_INV X → va_P D zu_cl (zu_pic cA ad X Y) H → va_S A s.heap H locs → lv_has ls 4 [(0, .ref b), (1, .ref (ad 0)), (2, .ref (ad 95)), (3, .int (nI i))] → W p l e room_1 s m #[Value.ref b] below meth c H locs 600000 7302250 Q (F0 m 1704 ls [])) : W p l e room_1 s m #[Value.ref b] below meth c H locs 600000 7302250 Q (F0 m 415 ls []) := by
  obtain ⟨hx, hb, hml, hown, hts, hST⟩ := id Bz
  obtain ⟨v, X1, X2, hq1, hq2, hI2⟩ := st_walk (X := X) (Y := Y) hI (xs (i + 1)) (xs (i + 2))
  refine lv_aload_n hx hb zd_law_415 rfl (lv_at hl 1 rfl) ?_
  refine zl_law_arg (j := 1) hx hb hX hbl hbA hS zd_law_416 zd_law_417 zd_law_418 zd_law_419 zd_law_420 (by decide) (lv_at hl 0 rfl) (lv_at hl 3 rfl) (by omega) hL ?_
  refine zl_law_arg (j := 2) hx hb hX hbl hbA hS zd_law_421 zd_law_422 zd_law_423 zd_law_424 zd_law_425 (by decide) (lv_at hl 0 rfl) (lv_at hl 3 rfl) (by omega) hL ?_
  refine zw_Post_walk (rest := []) Bz hP hS hq1 zq_281 (Nat.le_of_ble_eq_true rfl) (Nat.le_of_ble_eq_true rfl) hl.1 rfl (Nat.le_of_ble_eq_true rfl) zd_law_426 ⟨Nat.le_refl _, Nat.le_refl _⟩ (fun H locs hP hS => ?_)
  refine lv_aload_n hx hb zd_law_429 rfl (lv_at hl 2 rfl) ?_
  refine zl_law_arg (j := 1) hx hb hX hbl hbA hS zd_law_430 zd_law_431 zd_law_432 zd_law_433 zd_law_434 (by decide) (lv_at hl 0 rfl) (lv_at hl 3 rfl) (by omega) hL ?_
  refine zl_law_arg (j := 2) hx hb hX hbl hbA hS zd_law_435 zd_law_436 zd_law_437 zd_law_438 zd_law_439 (by decide) (lv_at hl 0 rfl) (lv_at hl 3 rfl) (by omega) hL ?_
  refine zw_Mod_walk (rest := [.int v]) Bz hP hS hq2 zq_992 (Nat.le_of_ble_eq_true rfl) (Nat.le_of_ble_eq_true rfl) hl.1 rfl (Nat.le_of_ble_eq_true rfl) zd_law_440 ⟨Nat.le_refl _, Nat.le_refl _⟩ (fun H locs hP hS => ?_)
  refine lv_icmp_eq (tgt := 1704) hx hb zd_law_443 (by decide) (fun _ => ?_) (fun h9 => absurd rfl h9)
  exact hk _ _ _ _ _ hI2 hP hS hl
set_option maxHeartbeats 4000000 in
theorem zl_law_c6 {p : Program} {l : Launch} {e : Env} {s : State} {m : MethodId} {below : List Frame} {meth : Method} {c : Code} {D : va_G} {cA : Nat → ClassId} {ad : Nat → Nat} {A : Nat → Prop} {b L : Nat} {xs : Nat → Int32} {Q : State → Prop} (Bz : zu_B p s m #[Value.ref b] c code 4 "StonePostLaw" D cA ad A) (hX : va_X b L xs s s.heap) (hbl : b < s.heap.size) (hbA : ¬ A b) (hL : L ≤ 384) {i : Nat} (hi : i + 6 ≤ L) {X : IX} {Y : LX} (hI : zI_INV X) {H : Heap} {locs : List Loc} {ls : Array Slot} (hP : va_P D zu_cl (zu_pic cA ad X Y) H) (hS : va_S A s.heap H locs) (hl : lv_has ls 4 [(0, .ref b), (1, .ref (ad 0)), (2, .ref (ad 95)), (3, .int (nI i))]) (hk : ∀ (X : IX) (Y : LX) (H : Heap) (locs : List Loc) (ls : Array Slot), zI_INV X → va_P D zu_cl (zu_pic cA ad X Y) H → va_S A s.heap H locs → lv_has ls 4 [(0, .ref b), (1, .ref (ad 0)), (2, .ref (ad 95)), (3, .int (nI i))] → W p l e room_1 s m #[Value.ref b] below meth c H locs 600000 7302250 Q (F0 m 1704 ls [])) : W p l e room_1 s m #[Value.ref b] below meth c H locs 600000 7302250 Q (F0 m 448 ls []) := by
  obtain ⟨hx, hb, hml, hown, hts, hST⟩ := id Bz
  obtain ⟨v, X1, X2, hq1, hq2, hI2⟩ := st_told (X := X) (Y := Y) hI (xs (i + 1)) (xs (i + 2)) (xs (i + 3)) (xs (i + 4))
  refine lv_aload_n hx hb zd_law_448 rfl (lv_at hl 1 rfl) ?_
  refine zl_law_arg (j := 1) hx hb hX hbl hbA hS zd_law_449 zd_law_450 zd_law_451 zd_law_452 zd_law_453 (by decide) (lv_at hl 0 rfl) (lv_at hl 3 rfl) (by omega) hL ?_
  refine zl_law_arg (j := 2) hx hb hX hbl hbA hS zd_law_454 zd_law_455 zd_law_456 zd_law_457 zd_law_458 (by decide) (lv_at hl 0 rfl) (lv_at hl 3 rfl) (by omega) hL ?_
  refine zl_law_arg (j := 3) hx hb hX hbl hbA hS zd_law_459 zd_law_460 zd_law_461 zd_law_462 zd_law_463 (by decide) (lv_at hl 0 rfl) (lv_at hl 3 rfl) (by omega) hL ?_
  refine zl_law_arg (j := 4) hx hb hX hbl hbA hS zd_law_464 zd_law_465 zd_law_466 zd_law_467 zd_law_468 (by decide) (lv_at hl 0 rfl) (lv_at hl 3 rfl) (by omega) hL ?_
  refine zw_Post_told (rest := []) Bz hP hS hq1 zq_285 (Nat.le_of_ble_eq_true rfl) (Nat.le_of_ble_eq_true rfl) hl.1 rfl (Nat.le_of_ble_eq_true rfl) zd_law_469 ⟨Nat.le_refl _, Nat.le_refl _⟩ (fun H locs hP hS => ?_)
  refine lv_aload_n hx hb zd_law_472 rfl (lv_at hl 2 rfl) ?_
  refine zl_law_arg (j := 1) hx hb hX hbl hbA hS zd_law_473 zd_law_474 zd_law_475 zd_law_476 zd_law_477 (by decide) (lv_at hl 0 rfl) (lv_at hl 3 rfl) (by omega) hL ?_
  refine zl_law_arg (j := 2) hx hb hX hbl hbA hS zd_law_478 zd_law_479 zd_law_480 zd_law_481 zd_law_482 (by decide) (lv_at hl 0 rfl) (lv_at hl 3 rfl) (by omega) hL ?_
  refine zl_law_arg (j := 3) hx hb hX hbl hbA hS zd_law_483 zd_law_484 zd_law_485 zd_law_486 zd_law_487 (by decide) (lv_at hl 0 rfl) (lv_at hl 3 rfl) (by omega) hL ?_
  refine zl_law_arg (j := 4) hx hb hX hbl hbA hS zd_law_488 zd_law_489 zd_law_490 zd_law_491 zd_law_492 (by decide) (lv_at hl 0 rfl) (lv_at hl 3 rfl) (by omega) hL ?_
  refine zw_Mod_told (rest := [.int v]) Bz hP hS hq2 zq_996 (Nat.le_of_ble_eq_true rfl) (Nat.le_of_ble_eq_true rfl) hl.1 rfl (Nat.le_of_ble_eq_true rfl) zd_law_493 ⟨Nat.le_refl _, Nat.le_refl _⟩ (fun H locs hP hS => ?_)
  refine lv_icmp_eq (tgt := 1704) hx hb zd_law_496 (by decide) (fun _ => ?_) (fun h9 => absurd rfl h9)
  exact hk _ _ _ _ _ hI2 hP hS hl
set_option maxHeartbeats 4000000 in
theorem zl_law_c7 {p : Program} {l : Launch} {e : Env} {s : State} {m : MethodId} {below : List Frame} {meth : Method} {c : Code} {D : va_G} {cA : Nat → ClassId} {ad : Nat → Nat} {A : Nat → Prop} {b L : Nat} {xs : Nat → Int32} {Q : State → Prop} (Bz : zu_B p s m #[Value.ref b] c code 4 "StonePostLaw" D cA ad A) (hX : va_X b L xs s s.heap) (hbl : b < s.heap.size) (hbA : ¬ A b) (hL : L ≤ 384) {i : Nat} (hi : i + 6 ≤ L) {X : IX} {Y : LX} (hI : zI_INV X) {H : Heap} {locs : List Loc} {ls : Array Slot} (hP : va_P D zu_cl (zu_pic cA ad X Y) H) (hS : va_S A s.heap H locs) (hl : lv_has ls 4 [(0, .ref b), (1, .ref (ad 0)), (2, .ref (ad 95)), (3, .int (nI i))]) (hk : ∀ (X : IX) (Y : LX) (H : Heap) (locs : List Loc) (ls : Array Slot), zI_INV X → va_P D zu_cl (zu_pic cA ad X Y) H → va_S A s.heap H locs → lv_has ls 4 [(0, .ref b), (1, .ref (ad 0)), (2, .ref (ad 95)), (3, .int (nI i))] → W p l e room_1 s m #[Value.ref b] below meth c H locs 600000 7302250 Q (F0 m 1704 ls [])) : W p l e room_1 s m #[Value.ref b] below meth c H locs 600000 7302250 Q (F0 m 501 ls []) := by
  obtain ⟨hx, hb, hml, hown, hts, hST⟩ := id Bz
  obtain ⟨v, X1, X2, hq1, hq2, hI2⟩ := st_falls (X := X) (Y := Y) hI (xs (i + 1)) (xs (i + 2)) (xs (i + 3)) (if xs (i + 4) = 0 then 0 else 1)
  refine lv_aload_n hx hb zd_law_501 rfl (lv_at hl 1 rfl) ?_
  refine zl_law_arg (j := 1) hx hb hX hbl hbA hS zd_law_502 zd_law_503 zd_law_504 zd_law_505 zd_law_506 (by decide) (lv_at hl 0 rfl) (lv_at hl 3 rfl) (by omega) hL ?_
  refine zl_law_arg (j := 2) hx hb hX hbl hbA hS zd_law_507 zd_law_508 zd_law_509 zd_law_510 zd_law_511 (by decide) (lv_at hl 0 rfl) (lv_at hl 3 rfl) (by omega) hL ?_
  refine zl_law_arg (j := 3) hx hb hX hbl hbA hS zd_law_512 zd_law_513 zd_law_514 zd_law_515 zd_law_516 (by decide) (lv_at hl 0 rfl) (lv_at hl 3 rfl) (by omega) hL ?_
  refine zl_law_arg (j := 4) hx hb hX hbl hbA hS zd_law_517 zd_law_518 zd_law_519 zd_law_520 zd_law_521 (by decide) (lv_at hl 0 rfl) (lv_at hl 3 rfl) (by omega) hL ?_
  refine zl_law_bool (tA := 529) (tB := 530) hx hb zd_law_522 zd_law_525 zd_law_526 zd_law_529 (by decide) (by decide) (by decide) ?_
  refine zw_Post_falls (rest := []) Bz hP hS hq1 zq_306 (Nat.le_of_ble_eq_true rfl) (Nat.le_of_ble_eq_true rfl) hl.1 rfl (Nat.le_of_ble_eq_true rfl) zd_law_530 ⟨Nat.le_refl _, Nat.le_refl _⟩ (fun H locs hP hS => ?_)
  refine lv_aload_n hx hb zd_law_533 rfl (lv_at hl 2 rfl) ?_
  refine zl_law_arg (j := 1) hx hb hX hbl hbA hS zd_law_534 zd_law_535 zd_law_536 zd_law_537 zd_law_538 (by decide) (lv_at hl 0 rfl) (lv_at hl 3 rfl) (by omega) hL ?_
  refine zl_law_arg (j := 2) hx hb hX hbl hbA hS zd_law_539 zd_law_540 zd_law_541 zd_law_542 zd_law_543 (by decide) (lv_at hl 0 rfl) (lv_at hl 3 rfl) (by omega) hL ?_
  refine zl_law_arg (j := 3) hx hb hX hbl hbA hS zd_law_544 zd_law_545 zd_law_546 zd_law_547 zd_law_548 (by decide) (lv_at hl 0 rfl) (lv_at hl 3 rfl) (by omega) hL ?_
  refine zl_law_arg (j := 4) hx hb hX hbl hbA hS zd_law_549 zd_law_550 zd_law_551 zd_law_552 zd_law_553 (by decide) (lv_at hl 0 rfl) (lv_at hl 3 rfl) (by omega) hL ?_
  refine zl_law_bool (tA := 561) (tB := 562) hx hb zd_law_554 zd_law_557 zd_law_558 zd_law_561 (by decide) (by decide) (by decide) ?_
  refine zw_Mod_falls (rest := [.int v]) Bz hP hS hq2 zq_1018 (Nat.le_of_ble_eq_true rfl) (Nat.le_of_ble_eq_true rfl) hl.1 rfl (Nat.le_of_ble_eq_true rfl) zd_law_562 ⟨Nat.le_refl _, Nat.le_refl _⟩ (fun H locs hP hS => ?_)
  refine lv_icmp_eq (tgt := 1704) hx hb zd_law_565 (by decide) (fun _ => ?_) (fun h9 => absurd rfl h9)
  exact hk _ _ _ _ _ hI2 hP hS hl
set_option maxHeartbeats 4000000 in
theorem zl_law_c8 {p : Program} {l : Launch} {e : Env} {s : State} {m : MethodId} {below : List Frame} {meth : Method} {c : Code} {D : va_G} {cA : Nat → ClassId} {ad : Nat → Nat} {A : Nat → Prop} {b L : Nat} {xs : Nat → Int32} {Q : State → Prop} (Bz : zu_B p s m #[Value.ref b] c code 4 "StonePostLaw" D cA ad A) (hX : va_X b L xs s s.heap) (hbl : b < s.heap.size) (hbA : ¬ A b) (hL : L ≤ 384) {i : Nat} (hi : i + 6 ≤ L) {X : IX} {Y : LX} (hI : zI_INV X) {H : Heap} {locs : List Loc} {ls : Array Slot} (hP : va_P D zu_cl (zu_pic cA ad X Y) H) (hS : va_S A s.heap H locs) (hl : lv_has ls 4 [(0, .ref b), (1, .ref (ad 0)), (2, .ref (ad 95)), (3, .int (nI i))]) (hk : ∀ (X : IX) (Y : LX) (H : Heap) (locs : List Loc) (ls : Array Slot), zI_INV X → va_P D zu_cl (zu_pic cA ad X Y) H → va_S A s.heap H locs → lv_has ls 4 [(0, .ref b), (1, .ref (ad 0)), (2, .ref (ad 95)), (3, .int (nI i))] → W p l e room_1 s m #[Value.ref b] below meth c H locs 600000 7302250 Q (F0 m 1704 ls [])) : W p l e room_1 s m #[Value.ref b] below meth c H locs 600000 7302250 Q (F0 m 570 ls []) := by
  obtain ⟨hx, hb, hml, hown, hts, hST⟩ := id Bz
  obtain ⟨v, X1, X2, hq1, hq2, hI2⟩ := st_next (X := X) (Y := Y) hI (xs (i + 1))
  refine lv_aload_n hx hb zd_law_570 rfl (lv_at hl 1 rfl) ?_
  refine zl_law_arg (j := 1) hx hb hX hbl hbA hS zd_law_571 zd_law_572 zd_law_573 zd_law_574 zd_law_575 (by decide) (lv_at hl 0 rfl) (lv_at hl 3 rfl) (by omega) hL ?_
  refine zw_Post_next (rest := []) Bz hP hS hq1 zq_326 (Nat.le_of_ble_eq_true rfl) (Nat.le_of_ble_eq_true rfl) hl.1 rfl (Nat.le_of_ble_eq_true rfl) zd_law_576 ⟨Nat.le_refl _, Nat.le_refl _⟩ (fun H locs hP hS => ?_)
  refine lv_aload_n hx hb zd_law_579 rfl (lv_at hl 2 rfl) ?_
  refine zl_law_arg (j := 1) hx hb hX hbl hbA hS zd_law_580 zd_law_581 zd_law_582 zd_law_583 zd_law_584 (by decide) (lv_at hl 0 rfl) (lv_at hl 3 rfl) (by omega) hL ?_
  refine zw_Mod_next (rest := [.int v]) Bz hP hS hq2 zq_1026 (Nat.le_of_ble_eq_true rfl) (Nat.le_of_ble_eq_true rfl) hl.1 rfl (Nat.le_of_ble_eq_true rfl) zd_law_585 ⟨Nat.le_refl _, Nat.le_refl _⟩ (fun H locs hP hS => ?_)
  refine lv_icmp_eq (tgt := 1704) hx hb zd_law_588 (by decide) (fun _ => ?_) (fun h9 => absurd rfl h9)
  exact hk _ _ _ _ _ hI2 hP hS hl
set_option maxHeartbeats 4000000 in
theorem zl_law_c9 {p : Program} {l : Launch} {e : Env} {s : State} {m : MethodId} {below : List Frame} {meth : Method} {c : Code} {D : va_G} {cA : Nat → ClassId} {ad : Nat → Nat} {A : Nat → Prop} {b L : Nat} {xs : Nat → Int32} {Q : State → Prop} (Bz : zu_B p s m #[Value.ref b] c code 4 "StonePostLaw" D cA ad A) (hX : va_X b L xs s s.heap) (hbl : b < s.heap.size) (hbA : ¬ A b) (hL : L ≤ 384) {i : Nat} (hi : i + 6 ≤ L) {X : IX} {Y : LX} (hI : zI_INV X) {H : Heap} {locs : List Loc} {ls : Array Slot} (hP : va_P D zu_cl (zu_pic cA ad X Y) H) (hS : va_S A s.heap H locs) (hl : lv_has ls 4 [(0, .ref b), (1, .ref (ad 0)), (2, .ref (ad 95)), (3, .int (nI i))]) (hk : ∀ (X : IX) (Y : LX) (H : Heap) (locs : List Loc) (ls : Array Slot), zI_INV X → va_P D zu_cl (zu_pic cA ad X Y) H → va_S A s.heap H locs → lv_has ls 4 [(0, .ref b), (1, .ref (ad 0)), (2, .ref (ad 95)), (3, .int (nI i))] → W p l e room_1 s m #[Value.ref b] below meth c H locs 600000 7302250 Q (F0 m 1704 ls [])) : W p l e room_1 s m #[Value.ref b] below meth c H locs 600000 7302250 Q (F0 m 593 ls []) := by
  obtain ⟨hx, hb, hml, hown, hts, hST⟩ := id Bz
  obtain ⟨v, X1, X2, hq1, hq2, hI2⟩ := st_letter (X := X) (Y := Y) hI (xs (i + 1))
  refine lv_aload_n hx hb zd_law_593 rfl (lv_at hl 1 rfl) ?_
  refine zl_law_arg (j := 1) hx hb hX hbl hbA hS zd_law_594 zd_law_595 zd_law_596 zd_law_597 zd_law_598 (by decide) (lv_at hl 0 rfl) (lv_at hl 3 rfl) (by omega) hL ?_
  refine zw_Post_letter (rest := []) Bz hP hS hq1 zq_358 (Nat.le_of_ble_eq_true rfl) (Nat.le_of_ble_eq_true rfl) hl.1 rfl (Nat.le_of_ble_eq_true rfl) zd_law_599 ⟨Nat.le_refl _, Nat.le_refl _⟩ (fun H locs hP hS => ?_)
  refine lv_aload_n hx hb zd_law_602 rfl (lv_at hl 2 rfl) ?_
  refine zl_law_arg (j := 1) hx hb hX hbl hbA hS zd_law_603 zd_law_604 zd_law_605 zd_law_606 zd_law_607 (by decide) (lv_at hl 0 rfl) (lv_at hl 3 rfl) (by omega) hL ?_
  refine zw_Mod_letter (rest := [.int v]) Bz hP hS hq2 zq_1042 (Nat.le_of_ble_eq_true rfl) (Nat.le_of_ble_eq_true rfl) hl.1 rfl (Nat.le_of_ble_eq_true rfl) zd_law_608 ⟨Nat.le_refl _, Nat.le_refl _⟩ (fun H locs hP hS => ?_)
  refine lv_icmp_eq (tgt := 1704) hx hb zd_law_611 (by decide) (fun _ => ?_) (fun h9 => absurd rfl h9)
  exact hk _ _ _ _ _ hI2 hP hS hl
set_option maxHeartbeats 4000000 in
theorem zl_law_c10 {p : Program} {l : Launch} {e : Env} {s : State} {m : MethodId} {below : List Frame} {meth : Method} {c : Code} {D : va_G} {cA : Nat → ClassId} {ad : Nat → Nat} {A : Nat → Prop} {b L : Nat} {xs : Nat → Int32} {Q : State → Prop} (Bz : zu_B p s m #[Value.ref b] c code 4 "StonePostLaw" D cA ad A) (hX : va_X b L xs s s.heap) (hbl : b < s.heap.size) (hbA : ¬ A b) (hL : L ≤ 384) {i : Nat} (hi : i + 6 ≤ L) {X : IX} {Y : LX} (hI : zI_INV X) {H : Heap} {locs : List Loc} {ls : Array Slot} (hP : va_P D zu_cl (zu_pic cA ad X Y) H) (hS : va_S A s.heap H locs) (hl : lv_has ls 4 [(0, .ref b), (1, .ref (ad 0)), (2, .ref (ad 95)), (3, .int (nI i))]) (hk : ∀ (X : IX) (Y : LX) (H : Heap) (locs : List Loc) (ls : Array Slot), zI_INV X → va_P D zu_cl (zu_pic cA ad X Y) H → va_S A s.heap H locs → lv_has ls 4 [(0, .ref b), (1, .ref (ad 0)), (2, .ref (ad 95)), (3, .int (nI i))] → W p l e room_1 s m #[Value.ref b] below meth c H locs 600000 7302250 Q (F0 m 1704 ls [])) : W p l e room_1 s m #[Value.ref b] below meth c H locs 600000 7302250 Q (F0 m 616 ls []) := by
  obtain ⟨hx, hb, hml, hown, hts, hST⟩ := id Bz
  obtain ⟨v, X1, X2, hq1, hq2, hI2⟩ := st_where (X := X) (Y := Y) hI (xs (i + 1))
  refine lv_aload_n hx hb zd_law_616 rfl (lv_at hl 1 rfl) ?_
  refine zl_law_arg (j := 1) hx hb hX hbl hbA hS zd_law_617 zd_law_618 zd_law_619 zd_law_620 zd_law_621 (by decide) (lv_at hl 0 rfl) (lv_at hl 3 rfl) (by omega) hL ?_
  refine zw_Post_where (rest := []) Bz hP hS hq1 zq_366 (Nat.le_of_ble_eq_true rfl) (Nat.le_of_ble_eq_true rfl) hl.1 rfl (Nat.le_of_ble_eq_true rfl) zd_law_622 ⟨Nat.le_refl _, Nat.le_refl _⟩ (fun H locs hP hS => ?_)
  refine lv_aload_n hx hb zd_law_625 rfl (lv_at hl 2 rfl) ?_
  refine zl_law_arg (j := 1) hx hb hX hbl hbA hS zd_law_626 zd_law_627 zd_law_628 zd_law_629 zd_law_630 (by decide) (lv_at hl 0 rfl) (lv_at hl 3 rfl) (by omega) hL ?_
  refine zw_Mod_where (rest := [.int v]) Bz hP hS hq2 zq_1046 (Nat.le_of_ble_eq_true rfl) (Nat.le_of_ble_eq_true rfl) hl.1 rfl (Nat.le_of_ble_eq_true rfl) zd_law_631 ⟨Nat.le_refl _, Nat.le_refl _⟩ (fun H locs hP hS => ?_)
  refine lv_icmp_eq (tgt := 1704) hx hb zd_law_634 (by decide) (fun _ => ?_) (fun h9 => absurd rfl h9)
  exact hk _ _ _ _ _ hI2 hP hS hl
set_option maxHeartbeats 4000000 in
theorem zl_law_c11 {p : Program} {l : Launch} {e : Env} {s : State} {m : MethodId} {below : List Frame} {meth : Method} {c : Code} {D : va_G} {cA : Nat → ClassId} {ad : Nat → Nat} {A : Nat → Prop} {b L : Nat} {xs : Nat → Int32} {Q : State → Prop} (Bz : zu_B p s m #[Value.ref b] c code 4 "StonePostLaw" D cA ad A) (hX : va_X b L xs s s.heap) (hbl : b < s.heap.size) (hbA : ¬ A b) (hL : L ≤ 384) {i : Nat} (hi : i + 6 ≤ L) {X : IX} {Y : LX} (hI : zI_INV X) {H : Heap} {locs : List Loc} {ls : Array Slot} (hP : va_P D zu_cl (zu_pic cA ad X Y) H) (hS : va_S A s.heap H locs) (hl : lv_has ls 4 [(0, .ref b), (1, .ref (ad 0)), (2, .ref (ad 95)), (3, .int (nI i))]) (hk : ∀ (X : IX) (Y : LX) (H : Heap) (locs : List Loc) (ls : Array Slot), zI_INV X → va_P D zu_cl (zu_pic cA ad X Y) H → va_S A s.heap H locs → lv_has ls 4 [(0, .ref b), (1, .ref (ad 0)), (2, .ref (ad 95)), (3, .int (nI i))] → W p l e room_1 s m #[Value.ref b] below meth c H locs 600000 7302250 Q (F0 m 1704 ls [])) : W p l e room_1 s m #[Value.ref b] below meth c H locs 600000 7302250 Q (F0 m 639 ls []) := by
  obtain ⟨hx, hb, hml, hown, hts, hST⟩ := id Bz
  obtain ⟨v, X1, X2, hq1, hq2, hI2⟩ := st_take (X := X) (Y := Y) hI (xs (i + 1))
  refine lv_aload_n hx hb zd_law_639 rfl (lv_at hl 1 rfl) ?_
  refine zl_law_arg (j := 1) hx hb hX hbl hbA hS zd_law_640 zd_law_641 zd_law_642 zd_law_643 zd_law_644 (by decide) (lv_at hl 0 rfl) (lv_at hl 3 rfl) (by omega) hL ?_
  refine zw_Post_take (rest := []) Bz hP hS hq1 zq_374 (Nat.le_of_ble_eq_true rfl) (Nat.le_of_ble_eq_true rfl) hl.1 rfl (Nat.le_of_ble_eq_true rfl) zd_law_645 ⟨Nat.le_refl _, Nat.le_refl _⟩ (fun H locs hP hS => ?_)
  refine lv_aload_n hx hb zd_law_648 rfl (lv_at hl 2 rfl) ?_
  refine zl_law_arg (j := 1) hx hb hX hbl hbA hS zd_law_649 zd_law_650 zd_law_651 zd_law_652 zd_law_653 (by decide) (lv_at hl 0 rfl) (lv_at hl 3 rfl) (by omega) hL ?_
  refine zw_Mod_take (rest := [.int v]) Bz hP hS hq2 zq_1054 (Nat.le_of_ble_eq_true rfl) (Nat.le_of_ble_eq_true rfl) hl.1 rfl (Nat.le_of_ble_eq_true rfl) zd_law_654 ⟨Nat.le_refl _, Nat.le_refl _⟩ (fun H locs hP hS => ?_)
  refine lv_icmp_eq (tgt := 1704) hx hb zd_law_657 (by decide) (fun _ => ?_) (fun h9 => absurd rfl h9)
  exact hk _ _ _ _ _ hI2 hP hS hl
set_option maxHeartbeats 4000000 in
theorem zl_law_c12 {p : Program} {l : Launch} {e : Env} {s : State} {m : MethodId} {below : List Frame} {meth : Method} {c : Code} {D : va_G} {cA : Nat → ClassId} {ad : Nat → Nat} {A : Nat → Prop} {b L : Nat} {xs : Nat → Int32} {Q : State → Prop} (Bz : zu_B p s m #[Value.ref b] c code 4 "StonePostLaw" D cA ad A) (hX : va_X b L xs s s.heap) (hbl : b < s.heap.size) (hbA : ¬ A b) (hL : L ≤ 384) {i : Nat} (hi : i + 6 ≤ L) {X : IX} {Y : LX} (hI : zI_INV X) {H : Heap} {locs : List Loc} {ls : Array Slot} (hP : va_P D zu_cl (zu_pic cA ad X Y) H) (hS : va_S A s.heap H locs) (hl : lv_has ls 4 [(0, .ref b), (1, .ref (ad 0)), (2, .ref (ad 95)), (3, .int (nI i))]) (hk : ∀ (X : IX) (Y : LX) (H : Heap) (locs : List Loc) (ls : Array Slot), zI_INV X → va_P D zu_cl (zu_pic cA ad X Y) H → va_S A s.heap H locs → lv_has ls 4 [(0, .ref b), (1, .ref (ad 0)), (2, .ref (ad 95)), (3, .int (nI i))] → W p l e room_1 s m #[Value.ref b] below meth c H locs 600000 7302250 Q (F0 m 1704 ls [])) : W p l e room_1 s m #[Value.ref b] below meth c H locs 600000 7302250 Q (F0 m 662 ls []) := by
  obtain ⟨hx, hb, hml, hown, hts, hST⟩ := id Bz
  obtain ⟨v, X1, X2, hq1, hq2, hI2⟩ := st_hours (X := X) (Y := Y) hI (xs (i + 1))
  refine lv_aload_n hx hb zd_law_662 rfl (lv_at hl 1 rfl) ?_
  refine zl_law_arg (j := 1) hx hb hX hbl hbA hS zd_law_663 zd_law_664 zd_law_665 zd_law_666 zd_law_667 (by decide) (lv_at hl 0 rfl) (lv_at hl 3 rfl) (by omega) hL ?_
  refine zw_Post_hours (rest := []) Bz hP hS hq1 zq_378 (Nat.le_of_ble_eq_true rfl) (Nat.le_of_ble_eq_true rfl) hl.1 rfl (Nat.le_of_ble_eq_true rfl) zd_law_668 ⟨Nat.le_refl _, Nat.le_refl _⟩ (fun H locs hP hS => ?_)
  refine lv_aload_n hx hb zd_law_671 rfl (lv_at hl 2 rfl) ?_
  refine zl_law_arg (j := 1) hx hb hX hbl hbA hS zd_law_672 zd_law_673 zd_law_674 zd_law_675 zd_law_676 (by decide) (lv_at hl 0 rfl) (lv_at hl 3 rfl) (by omega) hL ?_
  refine zw_Mod_hours (rest := [.int v]) Bz hP hS hq2 zq_1058 (Nat.le_of_ble_eq_true rfl) (Nat.le_of_ble_eq_true rfl) hl.1 rfl (Nat.le_of_ble_eq_true rfl) zd_law_677 ⟨Nat.le_refl _, Nat.le_refl _⟩ (fun H locs hP hS => ?_)
  refine lv_icmp_eq (tgt := 1704) hx hb zd_law_680 (by decide) (fun _ => ?_) (fun h9 => absurd rfl h9)
  exact hk _ _ _ _ _ hI2 hP hS hl
set_option maxHeartbeats 4000000 in
theorem zl_law_c13 {p : Program} {l : Launch} {e : Env} {s : State} {m : MethodId} {below : List Frame} {meth : Method} {c : Code} {D : va_G} {cA : Nat → ClassId} {ad : Nat → Nat} {A : Nat → Prop} {b L : Nat} {xs : Nat → Int32} {Q : State → Prop} (Bz : zu_B p s m #[Value.ref b] c code 4 "StonePostLaw" D cA ad A) (hX : va_X b L xs s s.heap) (hbl : b < s.heap.size) (hbA : ¬ A b) (hL : L ≤ 384) {i : Nat} (hi : i + 6 ≤ L) {X : IX} {Y : LX} (hI : zI_INV X) {H : Heap} {locs : List Loc} {ls : Array Slot} (hP : va_P D zu_cl (zu_pic cA ad X Y) H) (hS : va_S A s.heap H locs) (hl : lv_has ls 4 [(0, .ref b), (1, .ref (ad 0)), (2, .ref (ad 95)), (3, .int (nI i))]) (hk : ∀ (X : IX) (Y : LX) (H : Heap) (locs : List Loc) (ls : Array Slot), zI_INV X → va_P D zu_cl (zu_pic cA ad X Y) H → va_S A s.heap H locs → lv_has ls 4 [(0, .ref b), (1, .ref (ad 0)), (2, .ref (ad 95)), (3, .int (nI i))] → W p l e room_1 s m #[Value.ref b] below meth c H locs 600000 7302250 Q (F0 m 1704 ls [])) : W p l e room_1 s m #[Value.ref b] below meth c H locs 600000 7302250 Q (F0 m 685 ls []) := by
  obtain ⟨hx, hb, hml, hown, hts, hST⟩ := id Bz
  obtain ⟨v, X1, X2, hq1, hq2, hI2⟩ := st_letters (X := X) (Y := Y) hI (xs (i + 1))
  refine lv_aload_n hx hb zd_law_685 rfl (lv_at hl 1 rfl) ?_
  refine zl_law_arg (j := 1) hx hb hX hbl hbA hS zd_law_686 zd_law_687 zd_law_688 zd_law_689 zd_law_690 (by decide) (lv_at hl 0 rfl) (lv_at hl 3 rfl) (by omega) hL ?_
  refine zw_Post_letters (rest := []) Bz hP hS hq1 zq_441 (Nat.le_of_ble_eq_true rfl) (Nat.le_of_ble_eq_true rfl) hl.1 rfl (Nat.le_of_ble_eq_true rfl) zd_law_691 ⟨Nat.le_refl _, Nat.le_refl _⟩ (fun H locs hP hS => ?_)
  refine lv_aload_n hx hb zd_law_694 rfl (lv_at hl 2 rfl) ?_
  refine zl_law_arg (j := 1) hx hb hX hbl hbA hS zd_law_695 zd_law_696 zd_law_697 zd_law_698 zd_law_699 (by decide) (lv_at hl 0 rfl) (lv_at hl 3 rfl) (by omega) hL ?_
  refine zw_Mod_letters (rest := [.int v]) Bz hP hS hq2 zq_1085 (Nat.le_of_ble_eq_true rfl) (Nat.le_of_ble_eq_true rfl) hl.1 rfl (Nat.le_of_ble_eq_true rfl) zd_law_700 ⟨Nat.le_refl _, Nat.le_refl _⟩ (fun H locs hP hS => ?_)
  refine lv_icmp_eq (tgt := 1704) hx hb zd_law_703 (by decide) (fun _ => ?_) (fun h9 => absurd rfl h9)
  exact hk _ _ _ _ _ hI2 hP hS hl
set_option maxHeartbeats 4000000 in
theorem zl_law_c14 {p : Program} {l : Launch} {e : Env} {s : State} {m : MethodId} {below : List Frame} {meth : Method} {c : Code} {D : va_G} {cA : Nat → ClassId} {ad : Nat → Nat} {A : Nat → Prop} {b L : Nat} {xs : Nat → Int32} {Q : State → Prop} (Bz : zu_B p s m #[Value.ref b] c code 4 "StonePostLaw" D cA ad A) (hX : va_X b L xs s s.heap) (hbl : b < s.heap.size) (hbA : ¬ A b) (hL : L ≤ 384) {i : Nat} (hi : i + 6 ≤ L) {X : IX} {Y : LX} (hI : zI_INV X) {H : Heap} {locs : List Loc} {ls : Array Slot} (hP : va_P D zu_cl (zu_pic cA ad X Y) H) (hS : va_S A s.heap H locs) (hl : lv_has ls 4 [(0, .ref b), (1, .ref (ad 0)), (2, .ref (ad 95)), (3, .int (nI i))]) (hk : ∀ (X : IX) (Y : LX) (H : Heap) (locs : List Loc) (ls : Array Slot), zI_INV X → va_P D zu_cl (zu_pic cA ad X Y) H → va_S A s.heap H locs → lv_has ls 4 [(0, .ref b), (1, .ref (ad 0)), (2, .ref (ad 95)), (3, .int (nI i))] → W p l e room_1 s m #[Value.ref b] below meth c H locs 600000 7302250 Q (F0 m 1704 ls [])) : W p l e room_1 s m #[Value.ref b] below meth c H locs 600000 7302250 Q (F0 m 708 ls []) := by
  obtain ⟨hx, hb, hml, hown, hts, hST⟩ := id Bz
  obtain ⟨v, X1, Y1, X2, Y2, hq1, hq2, hI2⟩ := st_odds (X := X) (Y := Y) hI (xs (i + 1)) (xs (i + 2)) (xs (i + 3))
  refine lv_aload_n hx hb zd_law_708 rfl (lv_at hl 1 rfl) ?_
  refine zl_law_arg (j := 1) hx hb hX hbl hbA hS zd_law_709 zd_law_710 zd_law_711 zd_law_712 zd_law_713 (by decide) (lv_at hl 0 rfl) (lv_at hl 3 rfl) (by omega) hL ?_
  refine zl_law_arg (j := 2) hx hb hX hbl hbA hS zd_law_714 zd_law_715 zd_law_716 zd_law_717 zd_law_718 (by decide) (lv_at hl 0 rfl) (lv_at hl 3 rfl) (by omega) hL ?_
  refine zl_law_arg (j := 3) hx hb hX hbl hbA hS zd_law_719 zd_law_720 zd_law_721 zd_law_722 zd_law_723 (by decide) (lv_at hl 0 rfl) (lv_at hl 3 rfl) (by omega) hL ?_
  refine zw_Post_odds (rest := []) Bz hP hS hq1 zq_446 (Nat.le_of_ble_eq_true rfl) (Nat.le_of_ble_eq_true rfl) hl.1 rfl (Nat.le_of_ble_eq_true rfl) zd_law_724 ⟨Nat.le_refl _, Nat.le_refl _⟩ (fun H locs hP hS => ?_)
  refine lv_aload_n hx hb zd_law_727 rfl (lv_at hl 2 rfl) ?_
  refine zl_law_arg (j := 1) hx hb hX hbl hbA hS zd_law_728 zd_law_729 zd_law_730 zd_law_731 zd_law_732 (by decide) (lv_at hl 0 rfl) (lv_at hl 3 rfl) (by omega) hL ?_
  refine zl_law_arg (j := 2) hx hb hX hbl hbA hS zd_law_733 zd_law_734 zd_law_735 zd_law_736 zd_law_737 (by decide) (lv_at hl 0 rfl) (lv_at hl 3 rfl) (by omega) hL ?_
  refine zl_law_arg (j := 3) hx hb hX hbl hbA hS zd_law_738 zd_law_739 zd_law_740 zd_law_741 zd_law_742 (by decide) (lv_at hl 0 rfl) (lv_at hl 3 rfl) (by omega) hL ?_
  refine zw_Mod_odds (rest := [.long v]) Bz hP hS hq2 zq_1090 (Nat.le_of_ble_eq_true rfl) (Nat.le_of_ble_eq_true rfl) hl.1 rfl (Nat.le_of_ble_eq_true rfl) zd_law_743 ⟨Nat.le_refl _, Nat.le_refl _⟩ (fun H locs hP hS => ?_)
  refine W.lcmp hx hb zd_law_746 ?_
  refine lv_if_eq (tgt := 1704) hx hb zd_law_747 (by decide) (fun _ => ?_) (fun h9 => absurd (by simp [lg_cmp]) h9)
  exact hk _ _ _ _ _ hI2 hP hS hl
set_option maxHeartbeats 4000000 in
theorem zl_law_c15 {p : Program} {l : Launch} {e : Env} {s : State} {m : MethodId} {below : List Frame} {meth : Method} {c : Code} {D : va_G} {cA : Nat → ClassId} {ad : Nat → Nat} {A : Nat → Prop} {b L : Nat} {xs : Nat → Int32} {Q : State → Prop} (Bz : zu_B p s m #[Value.ref b] c code 4 "StonePostLaw" D cA ad A) (hX : va_X b L xs s s.heap) (hbl : b < s.heap.size) (hbA : ¬ A b) (hL : L ≤ 384) {i : Nat} (hi : i + 6 ≤ L) {X : IX} {Y : LX} (hI : zI_INV X) {H : Heap} {locs : List Loc} {ls : Array Slot} (hP : va_P D zu_cl (zu_pic cA ad X Y) H) (hS : va_S A s.heap H locs) (hl : lv_has ls 4 [(0, .ref b), (1, .ref (ad 0)), (2, .ref (ad 95)), (3, .int (nI i))]) (hk : ∀ (X : IX) (Y : LX) (H : Heap) (locs : List Loc) (ls : Array Slot), zI_INV X → va_P D zu_cl (zu_pic cA ad X Y) H → va_S A s.heap H locs → lv_has ls 4 [(0, .ref b), (1, .ref (ad 0)), (2, .ref (ad 95)), (3, .int (nI i))] → W p l e room_1 s m #[Value.ref b] below meth c H locs 600000 7302250 Q (F0 m 1704 ls [])) : W p l e room_1 s m #[Value.ref b] below meth c H locs 600000 7302250 Q (F0 m 752 ls []) := by
  obtain ⟨hx, hb, hml, hown, hts, hST⟩ := id Bz
  obtain ⟨v, X1, Y1, X2, Y2, hq1, hq2, hI2⟩ := st_lost (X := X) (Y := Y) hI (xs (i + 1)) (xs (i + 2))
  refine lv_aload_n hx hb zd_law_752 rfl (lv_at hl 1 rfl) ?_
  refine zl_law_arg (j := 1) hx hb hX hbl hbA hS zd_law_753 zd_law_754 zd_law_755 zd_law_756 zd_law_757 (by decide) (lv_at hl 0 rfl) (lv_at hl 3 rfl) (by omega) hL ?_
  refine zl_law_arg (j := 2) hx hb hX hbl hbA hS zd_law_758 zd_law_759 zd_law_760 zd_law_761 zd_law_762 (by decide) (lv_at hl 0 rfl) (lv_at hl 3 rfl) (by omega) hL ?_
  refine zw_Post_lost (rest := []) Bz hP hS hq1 zq_459 (Nat.le_of_ble_eq_true rfl) (Nat.le_of_ble_eq_true rfl) hl.1 rfl (Nat.le_of_ble_eq_true rfl) zd_law_763 ⟨Nat.le_refl _, Nat.le_refl _⟩ (fun H locs hP hS => ?_)
  refine lv_aload_n hx hb zd_law_766 rfl (lv_at hl 2 rfl) ?_
  refine zl_law_arg (j := 1) hx hb hX hbl hbA hS zd_law_767 zd_law_768 zd_law_769 zd_law_770 zd_law_771 (by decide) (lv_at hl 0 rfl) (lv_at hl 3 rfl) (by omega) hL ?_
  refine zl_law_arg (j := 2) hx hb hX hbl hbA hS zd_law_772 zd_law_773 zd_law_774 zd_law_775 zd_law_776 (by decide) (lv_at hl 0 rfl) (lv_at hl 3 rfl) (by omega) hL ?_
  refine zw_Mod_lost (rest := [.long v]) Bz hP hS hq2 zq_1101 (Nat.le_of_ble_eq_true rfl) (Nat.le_of_ble_eq_true rfl) hl.1 rfl (Nat.le_of_ble_eq_true rfl) zd_law_777 ⟨Nat.le_refl _, Nat.le_refl _⟩ (fun H locs hP hS => ?_)
  refine W.lcmp hx hb zd_law_780 ?_
  refine lv_if_eq (tgt := 1704) hx hb zd_law_781 (by decide) (fun _ => ?_) (fun h9 => absurd (by simp [lg_cmp]) h9)
  exact hk _ _ _ _ _ hI2 hP hS hl
set_option maxHeartbeats 4000000 in
theorem zl_law_c16 {p : Program} {l : Launch} {e : Env} {s : State} {m : MethodId} {below : List Frame} {meth : Method} {c : Code} {D : va_G} {cA : Nat → ClassId} {ad : Nat → Nat} {A : Nat → Prop} {b L : Nat} {xs : Nat → Int32} {Q : State → Prop} (Bz : zu_B p s m #[Value.ref b] c code 4 "StonePostLaw" D cA ad A) (hX : va_X b L xs s s.heap) (hbl : b < s.heap.size) (hbA : ¬ A b) (hL : L ≤ 384) {i : Nat} (hi : i + 6 ≤ L) {X : IX} {Y : LX} (hI : zI_INV X) {H : Heap} {locs : List Loc} {ls : Array Slot} (hP : va_P D zu_cl (zu_pic cA ad X Y) H) (hS : va_S A s.heap H locs) (hl : lv_has ls 4 [(0, .ref b), (1, .ref (ad 0)), (2, .ref (ad 95)), (3, .int (nI i))]) (hk : ∀ (X : IX) (Y : LX) (H : Heap) (locs : List Loc) (ls : Array Slot), zI_INV X → va_P D zu_cl (zu_pic cA ad X Y) H → va_S A s.heap H locs → lv_has ls 4 [(0, .ref b), (1, .ref (ad 0)), (2, .ref (ad 95)), (3, .int (nI i))] → W p l e room_1 s m #[Value.ref b] below meth c H locs 600000 7302250 Q (F0 m 1704 ls [])) : W p l e room_1 s m #[Value.ref b] below meth c H locs 600000 7302250 Q (F0 m 786 ls []) := by
  obtain ⟨hx, hb, hml, hown, hts, hST⟩ := id Bz
  obtain ⟨v, X1, Y1, X2, Y2, hq1, hq2, hI2⟩ := st_likeliest (X := X) (Y := Y) hI (xs (i + 1)) (xs (i + 2))
  refine lv_aload_n hx hb zd_law_786 rfl (lv_at hl 1 rfl) ?_
  refine zl_law_arg (j := 1) hx hb hX hbl hbA hS zd_law_787 zd_law_788 zd_law_789 zd_law_790 zd_law_791 (by decide) (lv_at hl 0 rfl) (lv_at hl 3 rfl) (by omega) hL ?_
  refine zl_law_arg (j := 2) hx hb hX hbl hbA hS zd_law_792 zd_law_793 zd_law_794 zd_law_795 zd_law_796 (by decide) (lv_at hl 0 rfl) (lv_at hl 3 rfl) (by omega) hL ?_
  refine zw_Post_likeliest (rest := []) Bz hP hS hq1 zq_463 (Nat.le_of_ble_eq_true rfl) (Nat.le_of_ble_eq_true rfl) hl.1 rfl (Nat.le_of_ble_eq_true rfl) zd_law_797 ⟨Nat.le_refl _, Nat.le_refl _⟩ (fun H locs hP hS => ?_)
  refine lv_aload_n hx hb zd_law_800 rfl (lv_at hl 2 rfl) ?_
  refine zl_law_arg (j := 1) hx hb hX hbl hbA hS zd_law_801 zd_law_802 zd_law_803 zd_law_804 zd_law_805 (by decide) (lv_at hl 0 rfl) (lv_at hl 3 rfl) (by omega) hL ?_
  refine zl_law_arg (j := 2) hx hb hX hbl hbA hS zd_law_806 zd_law_807 zd_law_808 zd_law_809 zd_law_810 (by decide) (lv_at hl 0 rfl) (lv_at hl 3 rfl) (by omega) hL ?_
  refine zw_Mod_likeliest (rest := [.int v]) Bz hP hS hq2 zq_1105 (Nat.le_of_ble_eq_true rfl) (Nat.le_of_ble_eq_true rfl) hl.1 rfl (Nat.le_of_ble_eq_true rfl) zd_law_811 ⟨Nat.le_refl _, Nat.le_refl _⟩ (fun H locs hP hS => ?_)
  refine lv_icmp_eq (tgt := 1704) hx hb zd_law_814 (by decide) (fun _ => ?_) (fun h9 => absurd rfl h9)
  exact hk _ _ _ _ _ hI2 hP hS hl
set_option maxHeartbeats 4000000 in
theorem zl_law_c17 {p : Program} {l : Launch} {e : Env} {s : State} {m : MethodId} {below : List Frame} {meth : Method} {c : Code} {D : va_G} {cA : Nat → ClassId} {ad : Nat → Nat} {A : Nat → Prop} {b L : Nat} {xs : Nat → Int32} {Q : State → Prop} (Bz : zu_B p s m #[Value.ref b] c code 4 "StonePostLaw" D cA ad A) (hX : va_X b L xs s s.heap) (hbl : b < s.heap.size) (hbA : ¬ A b) (hL : L ≤ 384) {i : Nat} (hi : i + 6 ≤ L) {X : IX} {Y : LX} (hI : zI_INV X) {H : Heap} {locs : List Loc} {ls : Array Slot} (hP : va_P D zu_cl (zu_pic cA ad X Y) H) (hS : va_S A s.heap H locs) (hl : lv_has ls 4 [(0, .ref b), (1, .ref (ad 0)), (2, .ref (ad 95)), (3, .int (nI i))]) (hk : ∀ (X : IX) (Y : LX) (H : Heap) (locs : List Loc) (ls : Array Slot), zI_INV X → va_P D zu_cl (zu_pic cA ad X Y) H → va_S A s.heap H locs → lv_has ls 4 [(0, .ref b), (1, .ref (ad 0)), (2, .ref (ad 95)), (3, .int (nI i))] → W p l e room_1 s m #[Value.ref b] below meth c H locs 600000 7302250 Q (F0 m 1704 ls [])) : W p l e room_1 s m #[Value.ref b] below meth c H locs 600000 7302250 Q (F0 m 819 ls []) := by
  obtain ⟨hx, hb, hml, hown, hts, hST⟩ := id Bz
  obtain ⟨v, X1, X2, hq1, hq2, hI2⟩ := st_fewest (X := X) (Y := Y) hI (xs (i + 1))
  refine lv_aload_n hx hb zd_law_819 rfl (lv_at hl 1 rfl) ?_
  refine zl_law_arg (j := 1) hx hb hX hbl hbA hS zd_law_820 zd_law_821 zd_law_822 zd_law_823 zd_law_824 (by decide) (lv_at hl 0 rfl) (lv_at hl 3 rfl) (by omega) hL ?_
  refine zw_Post_fewest (rest := []) Bz hP hS hq1 zq_467 (Nat.le_of_ble_eq_true rfl) (Nat.le_of_ble_eq_true rfl) hl.1 rfl (Nat.le_of_ble_eq_true rfl) zd_law_825 ⟨Nat.le_refl _, Nat.le_refl _⟩ (fun H locs hP hS => ?_)
  refine lv_aload_n hx hb zd_law_828 rfl (lv_at hl 2 rfl) ?_
  refine zl_law_arg (j := 1) hx hb hX hbl hbA hS zd_law_829 zd_law_830 zd_law_831 zd_law_832 zd_law_833 (by decide) (lv_at hl 0 rfl) (lv_at hl 3 rfl) (by omega) hL ?_
  refine zw_Mod_fewest (rest := [.int v]) Bz hP hS hq2 zq_1109 (Nat.le_of_ble_eq_true rfl) (Nat.le_of_ble_eq_true rfl) hl.1 rfl (Nat.le_of_ble_eq_true rfl) zd_law_834 ⟨Nat.le_refl _, Nat.le_refl _⟩ (fun H locs hP hS => ?_)
  refine lv_icmp_eq (tgt := 1704) hx hb zd_law_837 (by decide) (fun _ => ?_) (fun h9 => absurd rfl h9)
  exact hk _ _ _ _ _ hI2 hP hS hl
set_option maxHeartbeats 4000000 in
theorem zl_law_c18 {p : Program} {l : Launch} {e : Env} {s : State} {m : MethodId} {below : List Frame} {meth : Method} {c : Code} {D : va_G} {cA : Nat → ClassId} {ad : Nat → Nat} {A : Nat → Prop} {b L : Nat} {xs : Nat → Int32} {Q : State → Prop} (Bz : zu_B p s m #[Value.ref b] c code 4 "StonePostLaw" D cA ad A) (hX : va_X b L xs s s.heap) (hbl : b < s.heap.size) (hbA : ¬ A b) (hL : L ≤ 384) {i : Nat} (hi : i + 6 ≤ L) {X : IX} {Y : LX} (hI : zI_INV X) {H : Heap} {locs : List Loc} {ls : Array Slot} (hP : va_P D zu_cl (zu_pic cA ad X Y) H) (hS : va_S A s.heap H locs) (hl : lv_has ls 4 [(0, .ref b), (1, .ref (ad 0)), (2, .ref (ad 95)), (3, .int (nI i))]) (hk : ∀ (X : IX) (Y : LX) (H : Heap) (locs : List Loc) (ls : Array Slot), zI_INV X → va_P D zu_cl (zu_pic cA ad X Y) H → va_S A s.heap H locs → lv_has ls 4 [(0, .ref b), (1, .ref (ad 0)), (2, .ref (ad 95)), (3, .int (nI i))] → W p l e room_1 s m #[Value.ref b] below meth c H locs 600000 7302250 Q (F0 m 1704 ls [])) : W p l e room_1 s m #[Value.ref b] below meth c H locs 600000 7302250 Q (F0 m 842 ls []) := by
  obtain ⟨hx, hb, hml, hown, hts, hST⟩ := id Bz
  obtain ⟨v, X1, X2, hq1, hq2, hI2⟩ := st_free (X := X) (Y := Y) hI (xs (i + 1))
  refine lv_aload_n hx hb zd_law_842 rfl (lv_at hl 1 rfl) ?_
  refine zl_law_arg (j := 1) hx hb hX hbl hbA hS zd_law_843 zd_law_844 zd_law_845 zd_law_846 zd_law_847 (by decide) (lv_at hl 0 rfl) (lv_at hl 3 rfl) (by omega) hL ?_
  refine zw_Post_free (rest := []) Bz hP hS hq1 zq_487 (Nat.le_of_ble_eq_true rfl) (Nat.le_of_ble_eq_true rfl) hl.1 rfl (Nat.le_of_ble_eq_true rfl) zd_law_848 ⟨Nat.le_refl _, Nat.le_refl _⟩ (fun H locs hP hS => ?_)
  refine lv_aload_n hx hb zd_law_851 rfl (lv_at hl 2 rfl) ?_
  refine zl_law_arg (j := 1) hx hb hX hbl hbA hS zd_law_852 zd_law_853 zd_law_854 zd_law_855 zd_law_856 (by decide) (lv_at hl 0 rfl) (lv_at hl 3 rfl) (by omega) hL ?_
  refine zw_Mod_free (rest := [.int v]) Bz hP hS hq2 zq_1128 (Nat.le_of_ble_eq_true rfl) (Nat.le_of_ble_eq_true rfl) hl.1 rfl (Nat.le_of_ble_eq_true rfl) zd_law_857 ⟨Nat.le_refl _, Nat.le_refl _⟩ (fun H locs hP hS => ?_)
  refine lv_icmp_eq (tgt := 1704) hx hb zd_law_860 (by decide) (fun _ => ?_) (fun h9 => absurd rfl h9)
  exact hk _ _ _ _ _ hI2 hP hS hl
set_option maxHeartbeats 4000000 in
theorem zl_law_c19 {p : Program} {l : Launch} {e : Env} {s : State} {m : MethodId} {below : List Frame} {meth : Method} {c : Code} {D : va_G} {cA : Nat → ClassId} {ad : Nat → Nat} {A : Nat → Prop} {b L : Nat} {xs : Nat → Int32} {Q : State → Prop} (Bz : zu_B p s m #[Value.ref b] c code 4 "StonePostLaw" D cA ad A) (hX : va_X b L xs s s.heap) (hbl : b < s.heap.size) (hbA : ¬ A b) (hL : L ≤ 384) {i : Nat} (hi : i + 6 ≤ L) {X : IX} {Y : LX} (hI : zI_INV X) {H : Heap} {locs : List Loc} {ls : Array Slot} (hP : va_P D zu_cl (zu_pic cA ad X Y) H) (hS : va_S A s.heap H locs) (hl : lv_has ls 4 [(0, .ref b), (1, .ref (ad 0)), (2, .ref (ad 95)), (3, .int (nI i))]) (hk : ∀ (X : IX) (Y : LX) (H : Heap) (locs : List Loc) (ls : Array Slot), zI_INV X → va_P D zu_cl (zu_pic cA ad X Y) H → va_S A s.heap H locs → lv_has ls 4 [(0, .ref b), (1, .ref (ad 0)), (2, .ref (ad 95)), (3, .int (nI i))] → W p l e room_1 s m #[Value.ref b] below meth c H locs 600000 7302250 Q (F0 m 1704 ls [])) : W p l e room_1 s m #[Value.ref b] below meth c H locs 600000 7302250 Q (F0 m 865 ls []) := by
  obtain ⟨hx, hb, hml, hown, hts, hST⟩ := id Bz
  obtain ⟨v, X1, X2, hq1, hq2, hI2⟩ := st_may (X := X) (Y := Y) hI (xs (i + 1)) (xs (i + 2))
  refine lv_aload_n hx hb zd_law_865 rfl (lv_at hl 1 rfl) ?_
  refine zl_law_arg (j := 1) hx hb hX hbl hbA hS zd_law_866 zd_law_867 zd_law_868 zd_law_869 zd_law_870 (by decide) (lv_at hl 0 rfl) (lv_at hl 3 rfl) (by omega) hL ?_
  refine zl_law_arg (j := 2) hx hb hX hbl hbA hS zd_law_871 zd_law_872 zd_law_873 zd_law_874 zd_law_875 (by decide) (lv_at hl 0 rfl) (lv_at hl 3 rfl) (by omega) hL ?_
  refine zw_Post_may (rest := []) Bz hP hS hq1 zq_491 (Nat.le_of_ble_eq_true rfl) (Nat.le_of_ble_eq_true rfl) hl.1 rfl (Nat.le_of_ble_eq_true rfl) zd_law_876 ⟨Nat.le_refl _, Nat.le_refl _⟩ (fun H locs hP hS => ?_)
  refine lv_aload_n hx hb zd_law_879 rfl (lv_at hl 2 rfl) ?_
  refine zl_law_arg (j := 1) hx hb hX hbl hbA hS zd_law_880 zd_law_881 zd_law_882 zd_law_883 zd_law_884 (by decide) (lv_at hl 0 rfl) (lv_at hl 3 rfl) (by omega) hL ?_
  refine zl_law_arg (j := 2) hx hb hX hbl hbA hS zd_law_885 zd_law_886 zd_law_887 zd_law_888 zd_law_889 (by decide) (lv_at hl 0 rfl) (lv_at hl 3 rfl) (by omega) hL ?_
  refine zw_Mod_may (rest := [.int v]) Bz hP hS hq2 zq_1132 (Nat.le_of_ble_eq_true rfl) (Nat.le_of_ble_eq_true rfl) hl.1 rfl (Nat.le_of_ble_eq_true rfl) zd_law_890 ⟨Nat.le_refl _, Nat.le_refl _⟩ (fun H locs hP hS => ?_)
  refine lv_icmp_eq (tgt := 1704) hx hb zd_law_893 (by decide) (fun _ => ?_) (fun h9 => absurd rfl h9)
  exact hk _ _ _ _ _ hI2 hP hS hl
set_option maxHeartbeats 4000000 in
theorem zl_law_c20 {p : Program} {l : Launch} {e : Env} {s : State} {m : MethodId} {below : List Frame} {meth : Method} {c : Code} {D : va_G} {cA : Nat → ClassId} {ad : Nat → Nat} {A : Nat → Prop} {b L : Nat} {xs : Nat → Int32} {Q : State → Prop} (Bz : zu_B p s m #[Value.ref b] c code 4 "StonePostLaw" D cA ad A) (hX : va_X b L xs s s.heap) (hbl : b < s.heap.size) (hbA : ¬ A b) (hL : L ≤ 384) {i : Nat} (hi : i + 6 ≤ L) {X : IX} {Y : LX} (hI : zI_INV X) {H : Heap} {locs : List Loc} {ls : Array Slot} (hP : va_P D zu_cl (zu_pic cA ad X Y) H) (hS : va_S A s.heap H locs) (hl : lv_has ls 4 [(0, .ref b), (1, .ref (ad 0)), (2, .ref (ad 95)), (3, .int (nI i))]) (hk : ∀ (X : IX) (Y : LX) (H : Heap) (locs : List Loc) (ls : Array Slot), zI_INV X → va_P D zu_cl (zu_pic cA ad X Y) H → va_S A s.heap H locs → lv_has ls 4 [(0, .ref b), (1, .ref (ad 0)), (2, .ref (ad 95)), (3, .int (nI i))] → W p l e room_1 s m #[Value.ref b] below meth c H locs 600000 7302250 Q (F0 m 1704 ls [])) : W p l e room_1 s m #[Value.ref b] below meth c H locs 600000 7302250 Q (F0 m 898 ls []) := by
  obtain ⟨hx, hb, hml, hown, hts, hST⟩ := id Bz
  obtain ⟨v, X1, Y1, X2, Y2, hq1, hq2, hI2⟩ := st_best (X := X) (Y := Y) hI (xs (i + 1)) (xs (i + 2))
  refine lv_aload_n hx hb zd_law_898 rfl (lv_at hl 1 rfl) ?_
  refine zl_law_arg (j := 1) hx hb hX hbl hbA hS zd_law_899 zd_law_900 zd_law_901 zd_law_902 zd_law_903 (by decide) (lv_at hl 0 rfl) (lv_at hl 3 rfl) (by omega) hL ?_
  refine zl_law_arg (j := 2) hx hb hX hbl hbA hS zd_law_904 zd_law_905 zd_law_906 zd_law_907 zd_law_908 (by decide) (lv_at hl 0 rfl) (lv_at hl 3 rfl) (by omega) hL ?_
  refine zw_Post_best (rest := []) Bz hP hS hq1 zq_495 (Nat.le_of_ble_eq_true rfl) (Nat.le_of_ble_eq_true rfl) hl.1 rfl (Nat.le_of_ble_eq_true rfl) zd_law_909 ⟨Nat.le_refl _, Nat.le_refl _⟩ (fun H locs hP hS => ?_)
  refine lv_aload_n hx hb zd_law_912 rfl (lv_at hl 2 rfl) ?_
  refine zl_law_arg (j := 1) hx hb hX hbl hbA hS zd_law_913 zd_law_914 zd_law_915 zd_law_916 zd_law_917 (by decide) (lv_at hl 0 rfl) (lv_at hl 3 rfl) (by omega) hL ?_
  refine zl_law_arg (j := 2) hx hb hX hbl hbA hS zd_law_918 zd_law_919 zd_law_920 zd_law_921 zd_law_922 (by decide) (lv_at hl 0 rfl) (lv_at hl 3 rfl) (by omega) hL ?_
  refine zw_Mod_best (rest := [.long v]) Bz hP hS hq2 zq_1140 (Nat.le_of_ble_eq_true rfl) (Nat.le_of_ble_eq_true rfl) hl.1 rfl (Nat.le_of_ble_eq_true rfl) zd_law_923 ⟨Nat.le_refl _, Nat.le_refl _⟩ (fun H locs hP hS => ?_)
  refine W.lcmp hx hb zd_law_926 ?_
  refine lv_if_eq (tgt := 1704) hx hb zd_law_927 (by decide) (fun _ => ?_) (fun h9 => absurd (by simp [lg_cmp]) h9)
  exact hk _ _ _ _ _ hI2 hP hS hl
set_option maxHeartbeats 4000000 in
theorem zl_law_c21 {p : Program} {l : Launch} {e : Env} {s : State} {m : MethodId} {below : List Frame} {meth : Method} {c : Code} {D : va_G} {cA : Nat → ClassId} {ad : Nat → Nat} {A : Nat → Prop} {b L : Nat} {xs : Nat → Int32} {Q : State → Prop} (Bz : zu_B p s m #[Value.ref b] c code 4 "StonePostLaw" D cA ad A) (hX : va_X b L xs s s.heap) (hbl : b < s.heap.size) (hbA : ¬ A b) (hL : L ≤ 384) {i : Nat} (hi : i + 6 ≤ L) {X : IX} {Y : LX} (hI : zI_INV X) {H : Heap} {locs : List Loc} {ls : Array Slot} (hP : va_P D zu_cl (zu_pic cA ad X Y) H) (hS : va_S A s.heap H locs) (hl : lv_has ls 4 [(0, .ref b), (1, .ref (ad 0)), (2, .ref (ad 95)), (3, .int (nI i))]) (hk : ∀ (X : IX) (Y : LX) (H : Heap) (locs : List Loc) (ls : Array Slot), zI_INV X → va_P D zu_cl (zu_pic cA ad X Y) H → va_S A s.heap H locs → lv_has ls 4 [(0, .ref b), (1, .ref (ad 0)), (2, .ref (ad 95)), (3, .int (nI i))] → W p l e room_1 s m #[Value.ref b] below meth c H locs 600000 7302250 Q (F0 m 1704 ls [])) : W p l e room_1 s m #[Value.ref b] below meth c H locs 600000 7302250 Q (F0 m 932 ls []) := by
  obtain ⟨hx, hb, hml, hown, hts, hST⟩ := id Bz
  obtain ⟨v, X1, Y1, X2, Y2, hq1, hq2, hI2⟩ := st_choose (X := X) (Y := Y) hI (xs (i + 1)) (xs (i + 2))
  refine lv_aload_n hx hb zd_law_932 rfl (lv_at hl 1 rfl) ?_
  refine zl_law_arg (j := 1) hx hb hX hbl hbA hS zd_law_933 zd_law_934 zd_law_935 zd_law_936 zd_law_937 (by decide) (lv_at hl 0 rfl) (lv_at hl 3 rfl) (by omega) hL ?_
  refine zl_law_arg (j := 2) hx hb hX hbl hbA hS zd_law_938 zd_law_939 zd_law_940 zd_law_941 zd_law_942 (by decide) (lv_at hl 0 rfl) (lv_at hl 3 rfl) (by omega) hL ?_
  refine zw_Post_choose (rest := []) Bz hP hS hq1 zq_510 (Nat.le_of_ble_eq_true rfl) (Nat.le_of_ble_eq_true rfl) hl.1 rfl (Nat.le_of_ble_eq_true rfl) zd_law_943 ⟨Nat.le_refl _, Nat.le_refl _⟩ (fun H locs hP hS => ?_)
  refine lv_aload_n hx hb zd_law_946 rfl (lv_at hl 2 rfl) ?_
  refine zl_law_arg (j := 1) hx hb hX hbl hbA hS zd_law_947 zd_law_948 zd_law_949 zd_law_950 zd_law_951 (by decide) (lv_at hl 0 rfl) (lv_at hl 3 rfl) (by omega) hL ?_
  refine zl_law_arg (j := 2) hx hb hX hbl hbA hS zd_law_952 zd_law_953 zd_law_954 zd_law_955 zd_law_956 (by decide) (lv_at hl 0 rfl) (lv_at hl 3 rfl) (by omega) hL ?_
  refine zw_Mod_choose (rest := [.int v]) Bz hP hS hq2 zq_1152 (Nat.le_of_ble_eq_true rfl) (Nat.le_of_ble_eq_true rfl) hl.1 rfl (Nat.le_of_ble_eq_true rfl) zd_law_957 ⟨Nat.le_refl _, Nat.le_refl _⟩ (fun H locs hP hS => ?_)
  refine lv_icmp_eq (tgt := 1704) hx hb zd_law_960 (by decide) (fun _ => ?_) (fun h9 => absurd rfl h9)
  exact hk _ _ _ _ _ hI2 hP hS hl
set_option maxHeartbeats 4000000 in
theorem zl_law_c22 {p : Program} {l : Launch} {e : Env} {s : State} {m : MethodId} {below : List Frame} {meth : Method} {c : Code} {D : va_G} {cA : Nat → ClassId} {ad : Nat → Nat} {A : Nat → Prop} {b L : Nat} {xs : Nat → Int32} {Q : State → Prop} (Bz : zu_B p s m #[Value.ref b] c code 4 "StonePostLaw" D cA ad A) (hX : va_X b L xs s s.heap) (hbl : b < s.heap.size) (hbA : ¬ A b) (hL : L ≤ 384) {i : Nat} (hi : i + 6 ≤ L) {X : IX} {Y : LX} (hI : zI_INV X) {H : Heap} {locs : List Loc} {ls : Array Slot} (hP : va_P D zu_cl (zu_pic cA ad X Y) H) (hS : va_S A s.heap H locs) (hl : lv_has ls 4 [(0, .ref b), (1, .ref (ad 0)), (2, .ref (ad 95)), (3, .int (nI i))]) (hk : ∀ (X : IX) (Y : LX) (H : Heap) (locs : List Loc) (ls : Array Slot), zI_INV X → va_P D zu_cl (zu_pic cA ad X Y) H → va_S A s.heap H locs → lv_has ls 4 [(0, .ref b), (1, .ref (ad 0)), (2, .ref (ad 95)), (3, .int (nI i))] → W p l e room_1 s m #[Value.ref b] below meth c H locs 600000 7302250 Q (F0 m 1704 ls [])) : W p l e room_1 s m #[Value.ref b] below meth c H locs 600000 7302250 Q (F0 m 965 ls []) := by
  obtain ⟨hx, hb, hml, hown, hts, hST⟩ := id Bz
  obtain ⟨v, X1, Y1, X2, Y2, hq1, hq2, hI2⟩ := st_plan (X := X) (Y := Y) hI (xs (i + 1)) (xs (i + 2))
  refine lv_aload_n hx hb zd_law_965 rfl (lv_at hl 1 rfl) ?_
  refine zl_law_arg (j := 1) hx hb hX hbl hbA hS zd_law_966 zd_law_967 zd_law_968 zd_law_969 zd_law_970 (by decide) (lv_at hl 0 rfl) (lv_at hl 3 rfl) (by omega) hL ?_
  refine zl_law_arg (j := 2) hx hb hX hbl hbA hS zd_law_971 zd_law_972 zd_law_973 zd_law_974 zd_law_975 (by decide) (lv_at hl 0 rfl) (lv_at hl 3 rfl) (by omega) hL ?_
  refine zw_Post_plan (rest := []) Bz hP hS hq1 zq_518 (Nat.le_of_ble_eq_true rfl) (Nat.le_of_ble_eq_true rfl) hl.1 rfl (Nat.le_of_ble_eq_true rfl) zd_law_976 ⟨Nat.le_refl _, Nat.le_refl _⟩ (fun H locs hP hS => ?_)
  refine lv_aload_n hx hb zd_law_979 rfl (lv_at hl 2 rfl) ?_
  refine zl_law_arg (j := 1) hx hb hX hbl hbA hS zd_law_980 zd_law_981 zd_law_982 zd_law_983 zd_law_984 (by decide) (lv_at hl 0 rfl) (lv_at hl 3 rfl) (by omega) hL ?_
  refine zl_law_arg (j := 2) hx hb hX hbl hbA hS zd_law_985 zd_law_986 zd_law_987 zd_law_988 zd_law_989 (by decide) (lv_at hl 0 rfl) (lv_at hl 3 rfl) (by omega) hL ?_
  refine zw_Mod_plan (rest := [.int v]) Bz hP hS hq2 zq_1157 (Nat.le_of_ble_eq_true rfl) (Nat.le_of_ble_eq_true rfl) hl.1 rfl (Nat.le_of_ble_eq_true rfl) zd_law_990 ⟨Nat.le_refl _, Nat.le_refl _⟩ (fun H locs hP hS => ?_)
  refine lv_icmp_eq (tgt := 1704) hx hb zd_law_993 (by decide) (fun _ => ?_) (fun h9 => absurd rfl h9)
  exact hk _ _ _ _ _ hI2 hP hS hl
set_option maxHeartbeats 4000000 in
theorem zl_law_c23 {p : Program} {l : Launch} {e : Env} {s : State} {m : MethodId} {below : List Frame} {meth : Method} {c : Code} {D : va_G} {cA : Nat → ClassId} {ad : Nat → Nat} {A : Nat → Prop} {b L : Nat} {xs : Nat → Int32} {Q : State → Prop} (Bz : zu_B p s m #[Value.ref b] c code 4 "StonePostLaw" D cA ad A) (hX : va_X b L xs s s.heap) (hbl : b < s.heap.size) (hbA : ¬ A b) (hL : L ≤ 384) {i : Nat} (hi : i + 6 ≤ L) {X : IX} {Y : LX} (hI : zI_INV X) {H : Heap} {locs : List Loc} {ls : Array Slot} (hP : va_P D zu_cl (zu_pic cA ad X Y) H) (hS : va_S A s.heap H locs) (hl : lv_has ls 4 [(0, .ref b), (1, .ref (ad 0)), (2, .ref (ad 95)), (3, .int (nI i))]) (hk : ∀ (X : IX) (Y : LX) (H : Heap) (locs : List Loc) (ls : Array Slot), zI_INV X → va_P D zu_cl (zu_pic cA ad X Y) H → va_S A s.heap H locs → lv_has ls 4 [(0, .ref b), (1, .ref (ad 0)), (2, .ref (ad 95)), (3, .int (nI i))] → W p l e room_1 s m #[Value.ref b] below meth c H locs 600000 7302250 Q (F0 m 1704 ls [])) : W p l e room_1 s m #[Value.ref b] below meth c H locs 600000 7302250 Q (F0 m 998 ls []) := by
  obtain ⟨hx, hb, hml, hown, hts, hST⟩ := id Bz
  obtain ⟨v, X1, X2, hq1, hq2, hI2⟩ := st_set (X := X) (Y := Y) hI (xs (i + 1))
  refine lv_aload_n hx hb zd_law_998 rfl (lv_at hl 1 rfl) ?_
  refine zl_law_arg (j := 1) hx hb hX hbl hbA hS zd_law_999 zd_law_1000 zd_law_1001 zd_law_1002 zd_law_1003 (by decide) (lv_at hl 0 rfl) (lv_at hl 3 rfl) (by omega) hL ?_
  refine zw_Post_set (rest := []) Bz hP hS hq1 zq_524 (Nat.le_of_ble_eq_true rfl) (Nat.le_of_ble_eq_true rfl) hl.1 rfl (Nat.le_of_ble_eq_true rfl) zd_law_1004 ⟨Nat.le_refl _, Nat.le_refl _⟩ (fun H locs hP hS => ?_)
  refine lv_aload_n hx hb zd_law_1007 rfl (lv_at hl 2 rfl) ?_
  refine zl_law_arg (j := 1) hx hb hX hbl hbA hS zd_law_1008 zd_law_1009 zd_law_1010 zd_law_1011 zd_law_1012 (by decide) (lv_at hl 0 rfl) (lv_at hl 3 rfl) (by omega) hL ?_
  refine zw_Mod_set (rest := [.int v]) Bz hP hS hq2 zq_1178 (Nat.le_of_ble_eq_true rfl) (Nat.le_of_ble_eq_true rfl) hl.1 rfl (Nat.le_of_ble_eq_true rfl) zd_law_1013 ⟨Nat.le_refl _, Nat.le_refl _⟩ (fun H locs hP hS => ?_)
  refine lv_icmp_eq (tgt := 1704) hx hb zd_law_1016 (by decide) (fun _ => ?_) (fun h9 => absurd rfl h9)
  exact hk _ _ _ _ _ hI2 hP hS hl
set_option maxHeartbeats 4000000 in
theorem zl_law_c24 {p : Program} {l : Launch} {e : Env} {s : State} {m : MethodId} {below : List Frame} {meth : Method} {c : Code} {D : va_G} {cA : Nat → ClassId} {ad : Nat → Nat} {A : Nat → Prop} {b L : Nat} {xs : Nat → Int32} {Q : State → Prop} (Bz : zu_B p s m #[Value.ref b] c code 4 "StonePostLaw" D cA ad A) (hX : va_X b L xs s s.heap) (hbl : b < s.heap.size) (hbA : ¬ A b) (hL : L ≤ 384) {i : Nat} (hi : i + 6 ≤ L) {X : IX} {Y : LX} (hI : zI_INV X) {H : Heap} {locs : List Loc} {ls : Array Slot} (hP : va_P D zu_cl (zu_pic cA ad X Y) H) (hS : va_S A s.heap H locs) (hl : lv_has ls 4 [(0, .ref b), (1, .ref (ad 0)), (2, .ref (ad 95)), (3, .int (nI i))]) (hk : ∀ (X : IX) (Y : LX) (H : Heap) (locs : List Loc) (ls : Array Slot), zI_INV X → va_P D zu_cl (zu_pic cA ad X Y) H → va_S A s.heap H locs → lv_has ls 4 [(0, .ref b), (1, .ref (ad 0)), (2, .ref (ad 95)), (3, .int (nI i))] → W p l e room_1 s m #[Value.ref b] below meth c H locs 600000 7302250 Q (F0 m 1704 ls [])) : W p l e room_1 s m #[Value.ref b] below meth c H locs 600000 7302250 Q (F0 m 1021 ls []) := by
  obtain ⟨hx, hb, hml, hown, hts, hST⟩ := id Bz
  obtain ⟨v, X1, Y1, X2, Y2, hq1, hq2, hI2⟩ := st_missed (X := X) (Y := Y) hI (xs (i + 1)) (xs (i + 2))
  refine lv_aload_n hx hb zd_law_1021 rfl (lv_at hl 1 rfl) ?_
  refine zl_law_arg (j := 1) hx hb hX hbl hbA hS zd_law_1022 zd_law_1023 zd_law_1024 zd_law_1025 zd_law_1026 (by decide) (lv_at hl 0 rfl) (lv_at hl 3 rfl) (by omega) hL ?_
  refine zl_law_arg (j := 2) hx hb hX hbl hbA hS zd_law_1027 zd_law_1028 zd_law_1029 zd_law_1030 zd_law_1031 (by decide) (lv_at hl 0 rfl) (lv_at hl 3 rfl) (by omega) hL ?_
  refine zw_Post_missed (rest := []) Bz hP hS hq1 zq_535 (Nat.le_of_ble_eq_true rfl) (Nat.le_of_ble_eq_true rfl) hl.1 rfl (Nat.le_of_ble_eq_true rfl) zd_law_1032 ⟨Nat.le_refl _, Nat.le_refl _⟩ (fun H locs hP hS => ?_)
  refine lv_aload_n hx hb zd_law_1035 rfl (lv_at hl 2 rfl) ?_
  refine zl_law_arg (j := 1) hx hb hX hbl hbA hS zd_law_1036 zd_law_1037 zd_law_1038 zd_law_1039 zd_law_1040 (by decide) (lv_at hl 0 rfl) (lv_at hl 3 rfl) (by omega) hL ?_
  refine zl_law_arg (j := 2) hx hb hX hbl hbA hS zd_law_1041 zd_law_1042 zd_law_1043 zd_law_1044 zd_law_1045 (by decide) (lv_at hl 0 rfl) (lv_at hl 3 rfl) (by omega) hL ?_
  refine zw_Mod_missed (rest := [.int v]) Bz hP hS hq2 zq_1182 (Nat.le_of_ble_eq_true rfl) (Nat.le_of_ble_eq_true rfl) hl.1 rfl (Nat.le_of_ble_eq_true rfl) zd_law_1046 ⟨Nat.le_refl _, Nat.le_refl _⟩ (fun H locs hP hS => ?_)
  refine lv_icmp_eq (tgt := 1704) hx hb zd_law_1049 (by decide) (fun _ => ?_) (fun h9 => absurd rfl h9)
  exact hk _ _ _ _ _ hI2 hP hS hl
set_option maxHeartbeats 4000000 in
theorem zl_law_c25 {p : Program} {l : Launch} {e : Env} {s : State} {m : MethodId} {below : List Frame} {meth : Method} {c : Code} {D : va_G} {cA : Nat → ClassId} {ad : Nat → Nat} {A : Nat → Prop} {b L : Nat} {xs : Nat → Int32} {Q : State → Prop} (Bz : zu_B p s m #[Value.ref b] c code 4 "StonePostLaw" D cA ad A) (hX : va_X b L xs s s.heap) (hbl : b < s.heap.size) (hbA : ¬ A b) (hL : L ≤ 384) {i : Nat} (hi : i + 6 ≤ L) {X : IX} {Y : LX} (hI : zI_INV X) {H : Heap} {locs : List Loc} {ls : Array Slot} (hP : va_P D zu_cl (zu_pic cA ad X Y) H) (hS : va_S A s.heap H locs) (hl : lv_has ls 4 [(0, .ref b), (1, .ref (ad 0)), (2, .ref (ad 95)), (3, .int (nI i))]) (hk : ∀ (X : IX) (Y : LX) (H : Heap) (locs : List Loc) (ls : Array Slot), zI_INV X → va_P D zu_cl (zu_pic cA ad X Y) H → va_S A s.heap H locs → lv_has ls 4 [(0, .ref b), (1, .ref (ad 0)), (2, .ref (ad 95)), (3, .int (nI i))] → W p l e room_1 s m #[Value.ref b] below meth c H locs 600000 7302250 Q (F0 m 1704 ls [])) : W p l e room_1 s m #[Value.ref b] below meth c H locs 600000 7302250 Q (F0 m 1054 ls []) := by
  obtain ⟨hx, hb, hml, hown, hts, hST⟩ := id Bz
  obtain ⟨v, X1, Y1, X2, Y2, hq1, hq2, hI2⟩ := st_stand (X := X) (Y := Y) hI (xs (i + 1)) (xs (i + 2))
  refine lv_aload_n hx hb zd_law_1054 rfl (lv_at hl 1 rfl) ?_
  refine zl_law_arg (j := 1) hx hb hX hbl hbA hS zd_law_1055 zd_law_1056 zd_law_1057 zd_law_1058 zd_law_1059 (by decide) (lv_at hl 0 rfl) (lv_at hl 3 rfl) (by omega) hL ?_
  refine zl_law_arg (j := 2) hx hb hX hbl hbA hS zd_law_1060 zd_law_1061 zd_law_1062 zd_law_1063 zd_law_1064 (by decide) (lv_at hl 0 rfl) (lv_at hl 3 rfl) (by omega) hL ?_
  refine zw_Post_stand (rest := []) Bz hP hS hq1 zq_548 (Nat.le_of_ble_eq_true rfl) (Nat.le_of_ble_eq_true rfl) hl.1 rfl (Nat.le_of_ble_eq_true rfl) zd_law_1065 ⟨Nat.le_refl _, Nat.le_refl _⟩ (fun H locs hP hS => ?_)
  refine lv_aload_n hx hb zd_law_1068 rfl (lv_at hl 2 rfl) ?_
  refine zl_law_arg (j := 1) hx hb hX hbl hbA hS zd_law_1069 zd_law_1070 zd_law_1071 zd_law_1072 zd_law_1073 (by decide) (lv_at hl 0 rfl) (lv_at hl 3 rfl) (by omega) hL ?_
  refine zl_law_arg (j := 2) hx hb hX hbl hbA hS zd_law_1074 zd_law_1075 zd_law_1076 zd_law_1077 zd_law_1078 (by decide) (lv_at hl 0 rfl) (lv_at hl 3 rfl) (by omega) hL ?_
  refine zw_Mod_stand (rest := [.int v]) Bz hP hS hq2 zq_1190 (Nat.le_of_ble_eq_true rfl) (Nat.le_of_ble_eq_true rfl) hl.1 rfl (Nat.le_of_ble_eq_true rfl) zd_law_1079 ⟨Nat.le_refl _, Nat.le_refl _⟩ (fun H locs hP hS => ?_)
  refine lv_icmp_eq (tgt := 1704) hx hb zd_law_1082 (by decide) (fun _ => ?_) (fun h9 => absurd rfl h9)
  exact hk _ _ _ _ _ hI2 hP hS hl
set_option maxHeartbeats 4000000 in
theorem zl_law_c26 {p : Program} {l : Launch} {e : Env} {s : State} {m : MethodId} {below : List Frame} {meth : Method} {c : Code} {D : va_G} {cA : Nat → ClassId} {ad : Nat → Nat} {A : Nat → Prop} {b L : Nat} {xs : Nat → Int32} {Q : State → Prop} (Bz : zu_B p s m #[Value.ref b] c code 4 "StonePostLaw" D cA ad A) (hX : va_X b L xs s s.heap) (hbl : b < s.heap.size) (hbA : ¬ A b) (hL : L ≤ 384) {i : Nat} (hi : i + 6 ≤ L) {X : IX} {Y : LX} (hI : zI_INV X) {H : Heap} {locs : List Loc} {ls : Array Slot} (hP : va_P D zu_cl (zu_pic cA ad X Y) H) (hS : va_S A s.heap H locs) (hl : lv_has ls 4 [(0, .ref b), (1, .ref (ad 0)), (2, .ref (ad 95)), (3, .int (nI i))]) (hk : ∀ (X : IX) (Y : LX) (H : Heap) (locs : List Loc) (ls : Array Slot), zI_INV X → va_P D zu_cl (zu_pic cA ad X Y) H → va_S A s.heap H locs → lv_has ls 4 [(0, .ref b), (1, .ref (ad 0)), (2, .ref (ad 95)), (3, .int (nI i))] → W p l e room_1 s m #[Value.ref b] below meth c H locs 600000 7302250 Q (F0 m 1704 ls [])) : W p l e room_1 s m #[Value.ref b] below meth c H locs 600000 7302250 Q (F0 m 1087 ls []) := by
  obtain ⟨hx, hb, hml, hown, hts, hST⟩ := id Bz
  obtain ⟨v, X1, Y1, X2, Y2, hq1, hq2, hI2⟩ := st_fetchFor (X := X) (Y := Y) hI (xs (i + 1)) (xs (i + 2))
  refine lv_aload_n hx hb zd_law_1087 rfl (lv_at hl 1 rfl) ?_
  refine zl_law_arg (j := 1) hx hb hX hbl hbA hS zd_law_1088 zd_law_1089 zd_law_1090 zd_law_1091 zd_law_1092 (by decide) (lv_at hl 0 rfl) (lv_at hl 3 rfl) (by omega) hL ?_
  refine zl_law_arg (j := 2) hx hb hX hbl hbA hS zd_law_1093 zd_law_1094 zd_law_1095 zd_law_1096 zd_law_1097 (by decide) (lv_at hl 0 rfl) (lv_at hl 3 rfl) (by omega) hL ?_
  refine zw_Post_fetchFor (rest := []) Bz hP hS hq1 zq_552 (Nat.le_of_ble_eq_true rfl) (Nat.le_of_ble_eq_true rfl) hl.1 rfl (Nat.le_of_ble_eq_true rfl) zd_law_1098 ⟨Nat.le_refl _, Nat.le_refl _⟩ (fun H locs hP hS => ?_)
  refine lv_aload_n hx hb zd_law_1101 rfl (lv_at hl 2 rfl) ?_
  refine zl_law_arg (j := 1) hx hb hX hbl hbA hS zd_law_1102 zd_law_1103 zd_law_1104 zd_law_1105 zd_law_1106 (by decide) (lv_at hl 0 rfl) (lv_at hl 3 rfl) (by omega) hL ?_
  refine zl_law_arg (j := 2) hx hb hX hbl hbA hS zd_law_1107 zd_law_1108 zd_law_1109 zd_law_1110 zd_law_1111 (by decide) (lv_at hl 0 rfl) (lv_at hl 3 rfl) (by omega) hL ?_
  refine zw_Mod_fetchFor (rest := [.int v]) Bz hP hS hq2 zq_1194 (Nat.le_of_ble_eq_true rfl) (Nat.le_of_ble_eq_true rfl) hl.1 rfl (Nat.le_of_ble_eq_true rfl) zd_law_1112 ⟨Nat.le_refl _, Nat.le_refl _⟩ (fun H locs hP hS => ?_)
  refine lv_icmp_eq (tgt := 1704) hx hb zd_law_1115 (by decide) (fun _ => ?_) (fun h9 => absurd rfl h9)
  exact hk _ _ _ _ _ hI2 hP hS hl
set_option maxHeartbeats 4000000 in
theorem zl_law_c27 {p : Program} {l : Launch} {e : Env} {s : State} {m : MethodId} {below : List Frame} {meth : Method} {c : Code} {D : va_G} {cA : Nat → ClassId} {ad : Nat → Nat} {A : Nat → Prop} {b L : Nat} {xs : Nat → Int32} {Q : State → Prop} (Bz : zu_B p s m #[Value.ref b] c code 4 "StonePostLaw" D cA ad A) (hX : va_X b L xs s s.heap) (hbl : b < s.heap.size) (hbA : ¬ A b) (hL : L ≤ 384) {i : Nat} (hi : i + 6 ≤ L) {X : IX} {Y : LX} (hI : zI_INV X) {H : Heap} {locs : List Loc} {ls : Array Slot} (hP : va_P D zu_cl (zu_pic cA ad X Y) H) (hS : va_S A s.heap H locs) (hl : lv_has ls 4 [(0, .ref b), (1, .ref (ad 0)), (2, .ref (ad 95)), (3, .int (nI i))]) (hk : ∀ (X : IX) (Y : LX) (H : Heap) (locs : List Loc) (ls : Array Slot), zI_INV X → va_P D zu_cl (zu_pic cA ad X Y) H → va_S A s.heap H locs → lv_has ls 4 [(0, .ref b), (1, .ref (ad 0)), (2, .ref (ad 95)), (3, .int (nI i))] → W p l e room_1 s m #[Value.ref b] below meth c H locs 600000 7302250 Q (F0 m 1704 ls [])) : W p l e room_1 s m #[Value.ref b] below meth c H locs 600000 7302250 Q (F0 m 1120 ls []) := by
  obtain ⟨hx, hb, hml, hown, hts, hST⟩ := id Bz
  obtain ⟨v, X1, Y1, X2, Y2, hq1, hq2, hI2⟩ := st_copies (X := X) (Y := Y) hI (xs (i + 1)) (xs (i + 2))
  refine lv_aload_n hx hb zd_law_1120 rfl (lv_at hl 1 rfl) ?_
  refine zl_law_arg (j := 1) hx hb hX hbl hbA hS zd_law_1121 zd_law_1122 zd_law_1123 zd_law_1124 zd_law_1125 (by decide) (lv_at hl 0 rfl) (lv_at hl 3 rfl) (by omega) hL ?_
  refine zl_law_arg (j := 2) hx hb hX hbl hbA hS zd_law_1126 zd_law_1127 zd_law_1128 zd_law_1129 zd_law_1130 (by decide) (lv_at hl 0 rfl) (lv_at hl 3 rfl) (by omega) hL ?_
  refine zw_Post_copies (rest := []) Bz hP hS hq1 zq_556 (Nat.le_of_ble_eq_true rfl) (Nat.le_of_ble_eq_true rfl) hl.1 rfl (Nat.le_of_ble_eq_true rfl) zd_law_1131 ⟨Nat.le_refl _, Nat.le_refl _⟩ (fun H locs hP hS => ?_)
  refine lv_aload_n hx hb zd_law_1134 rfl (lv_at hl 2 rfl) ?_
  refine zl_law_arg (j := 1) hx hb hX hbl hbA hS zd_law_1135 zd_law_1136 zd_law_1137 zd_law_1138 zd_law_1139 (by decide) (lv_at hl 0 rfl) (lv_at hl 3 rfl) (by omega) hL ?_
  refine zl_law_arg (j := 2) hx hb hX hbl hbA hS zd_law_1140 zd_law_1141 zd_law_1142 zd_law_1143 zd_law_1144 (by decide) (lv_at hl 0 rfl) (lv_at hl 3 rfl) (by omega) hL ?_
  refine zw_Mod_copies (rest := [.long v]) Bz hP hS hq2 zq_1198 (Nat.le_of_ble_eq_true rfl) (Nat.le_of_ble_eq_true rfl) hl.1 rfl (Nat.le_of_ble_eq_true rfl) zd_law_1145 ⟨Nat.le_refl _, Nat.le_refl _⟩ (fun H locs hP hS => ?_)
  refine W.lcmp hx hb zd_law_1148 ?_
  refine lv_if_eq (tgt := 1704) hx hb zd_law_1149 (by decide) (fun _ => ?_) (fun h9 => absurd (by simp [lg_cmp]) h9)
  exact hk _ _ _ _ _ hI2 hP hS hl
set_option maxHeartbeats 4000000 in
theorem zl_law_c28 {p : Program} {l : Launch} {e : Env} {s : State} {m : MethodId} {below : List Frame} {meth : Method} {c : Code} {D : va_G} {cA : Nat → ClassId} {ad : Nat → Nat} {A : Nat → Prop} {b L : Nat} {xs : Nat → Int32} {Q : State → Prop} (Bz : zu_B p s m #[Value.ref b] c code 4 "StonePostLaw" D cA ad A) (hX : va_X b L xs s s.heap) (hbl : b < s.heap.size) (hbA : ¬ A b) (hL : L ≤ 384) {i : Nat} (hi : i + 6 ≤ L) {X : IX} {Y : LX} (hI : zI_INV X) {H : Heap} {locs : List Loc} {ls : Array Slot} (hP : va_P D zu_cl (zu_pic cA ad X Y) H) (hS : va_S A s.heap H locs) (hl : lv_has ls 4 [(0, .ref b), (1, .ref (ad 0)), (2, .ref (ad 95)), (3, .int (nI i))]) (hk : ∀ (X : IX) (Y : LX) (H : Heap) (locs : List Loc) (ls : Array Slot), zI_INV X → va_P D zu_cl (zu_pic cA ad X Y) H → va_S A s.heap H locs → lv_has ls 4 [(0, .ref b), (1, .ref (ad 0)), (2, .ref (ad 95)), (3, .int (nI i))] → W p l e room_1 s m #[Value.ref b] below meth c H locs 600000 7302250 Q (F0 m 1704 ls [])) : W p l e room_1 s m #[Value.ref b] below meth c H locs 600000 7302250 Q (F0 m 1154 ls []) := by
  obtain ⟨hx, hb, hml, hown, hts, hST⟩ := id Bz
  obtain ⟨v, X1, X2, hq1, hq2, hI2⟩ := st_whose (X := X) (Y := Y) hI (xs (i + 1)) (xs (i + 2))
  refine lv_aload_n hx hb zd_law_1154 rfl (lv_at hl 1 rfl) ?_
  refine zl_law_arg (j := 1) hx hb hX hbl hbA hS zd_law_1155 zd_law_1156 zd_law_1157 zd_law_1158 zd_law_1159 (by decide) (lv_at hl 0 rfl) (lv_at hl 3 rfl) (by omega) hL ?_
  refine zl_law_arg (j := 2) hx hb hX hbl hbA hS zd_law_1160 zd_law_1161 zd_law_1162 zd_law_1163 zd_law_1164 (by decide) (lv_at hl 0 rfl) (lv_at hl 3 rfl) (by omega) hL ?_
  refine zw_Post_whose (rest := []) Bz hP hS hq1 zq_561 (Nat.le_of_ble_eq_true rfl) (Nat.le_of_ble_eq_true rfl) hl.1 rfl (Nat.le_of_ble_eq_true rfl) zd_law_1165 ⟨Nat.le_refl _, Nat.le_refl _⟩ (fun H locs hP hS => ?_)
  refine lv_aload_n hx hb zd_law_1168 rfl (lv_at hl 2 rfl) ?_
  refine zl_law_arg (j := 1) hx hb hX hbl hbA hS zd_law_1169 zd_law_1170 zd_law_1171 zd_law_1172 zd_law_1173 (by decide) (lv_at hl 0 rfl) (lv_at hl 3 rfl) (by omega) hL ?_
  refine zl_law_arg (j := 2) hx hb hX hbl hbA hS zd_law_1174 zd_law_1175 zd_law_1176 zd_law_1177 zd_law_1178 (by decide) (lv_at hl 0 rfl) (lv_at hl 3 rfl) (by omega) hL ?_
  refine zw_Mod_whose (rest := [.int v]) Bz hP hS hq2 zq_1205 (Nat.le_of_ble_eq_true rfl) (Nat.le_of_ble_eq_true rfl) hl.1 rfl (Nat.le_of_ble_eq_true rfl) zd_law_1179 ⟨Nat.le_refl _, Nat.le_refl _⟩ (fun H locs hP hS => ?_)
  refine lv_icmp_eq (tgt := 1704) hx hb zd_law_1182 (by decide) (fun _ => ?_) (fun h9 => absurd rfl h9)
  exact hk _ _ _ _ _ hI2 hP hS hl
set_option maxHeartbeats 4000000 in
theorem zl_law_c29 {p : Program} {l : Launch} {e : Env} {s : State} {m : MethodId} {below : List Frame} {meth : Method} {c : Code} {D : va_G} {cA : Nat → ClassId} {ad : Nat → Nat} {A : Nat → Prop} {b L : Nat} {xs : Nat → Int32} {Q : State → Prop} (Bz : zu_B p s m #[Value.ref b] c code 4 "StonePostLaw" D cA ad A) (hX : va_X b L xs s s.heap) (hbl : b < s.heap.size) (hbA : ¬ A b) (hL : L ≤ 384) {i : Nat} (hi : i + 6 ≤ L) {X : IX} {Y : LX} (hI : zI_INV X) {H : Heap} {locs : List Loc} {ls : Array Slot} (hP : va_P D zu_cl (zu_pic cA ad X Y) H) (hS : va_S A s.heap H locs) (hl : lv_has ls 4 [(0, .ref b), (1, .ref (ad 0)), (2, .ref (ad 95)), (3, .int (nI i))]) (hk : ∀ (X : IX) (Y : LX) (H : Heap) (locs : List Loc) (ls : Array Slot), zI_INV X → va_P D zu_cl (zu_pic cA ad X Y) H → va_S A s.heap H locs → lv_has ls 4 [(0, .ref b), (1, .ref (ad 0)), (2, .ref (ad 95)), (3, .int (nI i))] → W p l e room_1 s m #[Value.ref b] below meth c H locs 600000 7302250 Q (F0 m 1704 ls [])) : W p l e room_1 s m #[Value.ref b] below meth c H locs 600000 7302250 Q (F0 m 1187 ls []) := by
  obtain ⟨hx, hb, hml, hown, hts, hST⟩ := id Bz
  obtain ⟨v, X1, X2, hq1, hq2, hI2⟩ := st_from (X := X) (Y := Y) hI (xs (i + 1)) (xs (i + 2))
  refine lv_aload_n hx hb zd_law_1187 rfl (lv_at hl 1 rfl) ?_
  refine zl_law_arg (j := 1) hx hb hX hbl hbA hS zd_law_1188 zd_law_1189 zd_law_1190 zd_law_1191 zd_law_1192 (by decide) (lv_at hl 0 rfl) (lv_at hl 3 rfl) (by omega) hL ?_
  refine zl_law_arg (j := 2) hx hb hX hbl hbA hS zd_law_1193 zd_law_1194 zd_law_1195 zd_law_1196 zd_law_1197 (by decide) (lv_at hl 0 rfl) (lv_at hl 3 rfl) (by omega) hL ?_
  refine zw_Post_from (rest := []) Bz hP hS hq1 zq_572 (Nat.le_of_ble_eq_true rfl) (Nat.le_of_ble_eq_true rfl) hl.1 rfl (Nat.le_of_ble_eq_true rfl) zd_law_1198 ⟨Nat.le_refl _, Nat.le_refl _⟩ (fun H locs hP hS => ?_)
  refine lv_aload_n hx hb zd_law_1201 rfl (lv_at hl 2 rfl) ?_
  refine zl_law_arg (j := 1) hx hb hX hbl hbA hS zd_law_1202 zd_law_1203 zd_law_1204 zd_law_1205 zd_law_1206 (by decide) (lv_at hl 0 rfl) (lv_at hl 3 rfl) (by omega) hL ?_
  refine zl_law_arg (j := 2) hx hb hX hbl hbA hS zd_law_1207 zd_law_1208 zd_law_1209 zd_law_1210 zd_law_1211 (by decide) (lv_at hl 0 rfl) (lv_at hl 3 rfl) (by omega) hL ?_
  refine zw_Mod_from (rest := [.int v]) Bz hP hS hq2 zq_1209 (Nat.le_of_ble_eq_true rfl) (Nat.le_of_ble_eq_true rfl) hl.1 rfl (Nat.le_of_ble_eq_true rfl) zd_law_1212 ⟨Nat.le_refl _, Nat.le_refl _⟩ (fun H locs hP hS => ?_)
  refine lv_icmp_eq (tgt := 1704) hx hb zd_law_1215 (by decide) (fun _ => ?_) (fun h9 => absurd rfl h9)
  exact hk _ _ _ _ _ hI2 hP hS hl
set_option maxHeartbeats 4000000 in
theorem zl_law_c30 {p : Program} {l : Launch} {e : Env} {s : State} {m : MethodId} {below : List Frame} {meth : Method} {c : Code} {D : va_G} {cA : Nat → ClassId} {ad : Nat → Nat} {A : Nat → Prop} {b L : Nat} {xs : Nat → Int32} {Q : State → Prop} (Bz : zu_B p s m #[Value.ref b] c code 4 "StonePostLaw" D cA ad A) (hX : va_X b L xs s s.heap) (hbl : b < s.heap.size) (hbA : ¬ A b) (hL : L ≤ 384) {i : Nat} (hi : i + 6 ≤ L) {X : IX} {Y : LX} (hI : zI_INV X) {H : Heap} {locs : List Loc} {ls : Array Slot} (hP : va_P D zu_cl (zu_pic cA ad X Y) H) (hS : va_S A s.heap H locs) (hl : lv_has ls 4 [(0, .ref b), (1, .ref (ad 0)), (2, .ref (ad 95)), (3, .int (nI i))]) (hk : ∀ (X : IX) (Y : LX) (H : Heap) (locs : List Loc) (ls : Array Slot), zI_INV X → va_P D zu_cl (zu_pic cA ad X Y) H → va_S A s.heap H locs → lv_has ls 4 [(0, .ref b), (1, .ref (ad 0)), (2, .ref (ad 95)), (3, .int (nI i))] → W p l e room_1 s m #[Value.ref b] below meth c H locs 600000 7302250 Q (F0 m 1704 ls [])) : W p l e room_1 s m #[Value.ref b] below meth c H locs 600000 7302250 Q (F0 m 1220 ls []) := by
  obtain ⟨hx, hb, hml, hown, hts, hST⟩ := id Bz
  obtain ⟨v, X1, X2, hq1, hq2, hI2⟩ := st_thief (X := X) (Y := Y) hI (xs (i + 1)) (xs (i + 2))
  refine lv_aload_n hx hb zd_law_1220 rfl (lv_at hl 1 rfl) ?_
  refine zl_law_arg (j := 1) hx hb hX hbl hbA hS zd_law_1221 zd_law_1222 zd_law_1223 zd_law_1224 zd_law_1225 (by decide) (lv_at hl 0 rfl) (lv_at hl 3 rfl) (by omega) hL ?_
  refine zl_law_arg (j := 2) hx hb hX hbl hbA hS zd_law_1226 zd_law_1227 zd_law_1228 zd_law_1229 zd_law_1230 (by decide) (lv_at hl 0 rfl) (lv_at hl 3 rfl) (by omega) hL ?_
  refine zw_Post_thief (rest := []) Bz hP hS hq1 zq_580 (Nat.le_of_ble_eq_true rfl) (Nat.le_of_ble_eq_true rfl) hl.1 rfl (Nat.le_of_ble_eq_true rfl) zd_law_1231 ⟨Nat.le_refl _, Nat.le_refl _⟩ (fun H locs hP hS => ?_)
  refine lv_aload_n hx hb zd_law_1234 rfl (lv_at hl 2 rfl) ?_
  refine zl_law_arg (j := 1) hx hb hX hbl hbA hS zd_law_1235 zd_law_1236 zd_law_1237 zd_law_1238 zd_law_1239 (by decide) (lv_at hl 0 rfl) (lv_at hl 3 rfl) (by omega) hL ?_
  refine zl_law_arg (j := 2) hx hb hX hbl hbA hS zd_law_1240 zd_law_1241 zd_law_1242 zd_law_1243 zd_law_1244 (by decide) (lv_at hl 0 rfl) (lv_at hl 3 rfl) (by omega) hL ?_
  refine zw_Mod_thief (rest := [.int v]) Bz hP hS hq2 zq_1213 (Nat.le_of_ble_eq_true rfl) (Nat.le_of_ble_eq_true rfl) hl.1 rfl (Nat.le_of_ble_eq_true rfl) zd_law_1245 ⟨Nat.le_refl _, Nat.le_refl _⟩ (fun H locs hP hS => ?_)
  refine lv_icmp_eq (tgt := 1704) hx hb zd_law_1248 (by decide) (fun _ => ?_) (fun h9 => absurd rfl h9)
  exact hk _ _ _ _ _ hI2 hP hS hl
set_option maxHeartbeats 4000000 in
theorem zl_law_c31 {p : Program} {l : Launch} {e : Env} {s : State} {m : MethodId} {below : List Frame} {meth : Method} {c : Code} {D : va_G} {cA : Nat → ClassId} {ad : Nat → Nat} {A : Nat → Prop} {b L : Nat} {xs : Nat → Int32} {Q : State → Prop} (Bz : zu_B p s m #[Value.ref b] c code 4 "StonePostLaw" D cA ad A) (hX : va_X b L xs s s.heap) (hbl : b < s.heap.size) (hbA : ¬ A b) (hL : L ≤ 384) {i : Nat} (hi : i + 6 ≤ L) {X : IX} {Y : LX} (hI : zI_INV X) {H : Heap} {locs : List Loc} {ls : Array Slot} (hP : va_P D zu_cl (zu_pic cA ad X Y) H) (hS : va_S A s.heap H locs) (hl : lv_has ls 4 [(0, .ref b), (1, .ref (ad 0)), (2, .ref (ad 95)), (3, .int (nI i))]) (hk : ∀ (X : IX) (Y : LX) (H : Heap) (locs : List Loc) (ls : Array Slot), zI_INV X → va_P D zu_cl (zu_pic cA ad X Y) H → va_S A s.heap H locs → lv_has ls 4 [(0, .ref b), (1, .ref (ad 0)), (2, .ref (ad 95)), (3, .int (nI i))] → W p l e room_1 s m #[Value.ref b] below meth c H locs 600000 7302250 Q (F0 m 1704 ls [])) : W p l e room_1 s m #[Value.ref b] below meth c H locs 600000 7302250 Q (F0 m 1253 ls []) := by
  obtain ⟨hx, hb, hml, hown, hts, hST⟩ := id Bz
  obtain ⟨v, X1, X2, hq1, hq2, hI2⟩ := st_gifts (X := X) (Y := Y) hI 
  refine lv_aload_n hx hb zd_law_1253 rfl (lv_at hl 1 rfl) ?_
  refine zw_Post_gifts (rest := []) Bz hP hS hq1 zq_588 (Nat.le_of_ble_eq_true rfl) (Nat.le_of_ble_eq_true rfl) hl.1 rfl (Nat.le_of_ble_eq_true rfl) zd_law_1254 ⟨Nat.le_refl _, Nat.le_refl _⟩ (fun H locs hP hS => ?_)
  refine lv_aload_n hx hb zd_law_1257 rfl (lv_at hl 2 rfl) ?_
  refine zw_Mod_gifts (rest := [.int v]) Bz hP hS hq2 zq_1218 (Nat.le_of_ble_eq_true rfl) (Nat.le_of_ble_eq_true rfl) hl.1 rfl (Nat.le_of_ble_eq_true rfl) zd_law_1258 ⟨Nat.le_refl _, Nat.le_refl _⟩ (fun H locs hP hS => ?_)
  refine lv_icmp_eq (tgt := 1704) hx hb zd_law_1261 (by decide) (fun _ => ?_) (fun h9 => absurd rfl h9)
  exact hk _ _ _ _ _ hI2 hP hS hl
set_option maxHeartbeats 4000000 in
theorem zl_law_c32 {p : Program} {l : Launch} {e : Env} {s : State} {m : MethodId} {below : List Frame} {meth : Method} {c : Code} {D : va_G} {cA : Nat → ClassId} {ad : Nat → Nat} {A : Nat → Prop} {b L : Nat} {xs : Nat → Int32} {Q : State → Prop} (Bz : zu_B p s m #[Value.ref b] c code 4 "StonePostLaw" D cA ad A) (hX : va_X b L xs s s.heap) (hbl : b < s.heap.size) (hbA : ¬ A b) (hL : L ≤ 384) {i : Nat} (hi : i + 6 ≤ L) {X : IX} {Y : LX} (hI : zI_INV X) {H : Heap} {locs : List Loc} {ls : Array Slot} (hP : va_P D zu_cl (zu_pic cA ad X Y) H) (hS : va_S A s.heap H locs) (hl : lv_has ls 4 [(0, .ref b), (1, .ref (ad 0)), (2, .ref (ad 95)), (3, .int (nI i))]) (hk : ∀ (X : IX) (Y : LX) (H : Heap) (locs : List Loc) (ls : Array Slot), zI_INV X → va_P D zu_cl (zu_pic cA ad X Y) H → va_S A s.heap H locs → lv_has ls 4 [(0, .ref b), (1, .ref (ad 0)), (2, .ref (ad 95)), (3, .int (nI i))] → W p l e room_1 s m #[Value.ref b] below meth c H locs 600000 7302250 Q (F0 m 1704 ls [])) : W p l e room_1 s m #[Value.ref b] below meth c H locs 600000 7302250 Q (F0 m 1266 ls []) := by
  obtain ⟨hx, hb, hml, hown, hts, hST⟩ := id Bz
  obtain ⟨v, X1, X2, hq1, hq2, hI2⟩ := st_seed (X := X) (Y := Y) hI (xs (i + 1))
  refine lv_aload_n hx hb zd_law_1266 rfl (lv_at hl 1 rfl) ?_
  refine zl_law_arg (j := 1) hx hb hX hbl hbA hS zd_law_1267 zd_law_1268 zd_law_1269 zd_law_1270 zd_law_1271 (by decide) (lv_at hl 0 rfl) (lv_at hl 3 rfl) (by omega) hL ?_
  refine zw_Post_seed (rest := []) Bz hP hS hq1 zq_609 (Nat.le_of_ble_eq_true rfl) (Nat.le_of_ble_eq_true rfl) hl.1 rfl (Nat.le_of_ble_eq_true rfl) zd_law_1272 ⟨Nat.le_refl _, Nat.le_refl _⟩ (fun H locs hP hS => ?_)
  refine lv_aload_n hx hb zd_law_1275 rfl (lv_at hl 2 rfl) ?_
  refine zl_law_arg (j := 1) hx hb hX hbl hbA hS zd_law_1276 zd_law_1277 zd_law_1278 zd_law_1279 zd_law_1280 (by decide) (lv_at hl 0 rfl) (lv_at hl 3 rfl) (by omega) hL ?_
  refine zw_Mod_seed (rest := [.int v]) Bz hP hS hq2 zq_1226 (Nat.le_of_ble_eq_true rfl) (Nat.le_of_ble_eq_true rfl) hl.1 rfl (Nat.le_of_ble_eq_true rfl) zd_law_1281 ⟨Nat.le_refl _, Nat.le_refl _⟩ (fun H locs hP hS => ?_)
  refine lv_icmp_eq (tgt := 1704) hx hb zd_law_1284 (by decide) (fun _ => ?_) (fun h9 => absurd rfl h9)
  exact hk _ _ _ _ _ hI2 hP hS hl
set_option maxHeartbeats 4000000 in
theorem zl_law_c33 {p : Program} {l : Launch} {e : Env} {s : State} {m : MethodId} {below : List Frame} {meth : Method} {c : Code} {D : va_G} {cA : Nat → ClassId} {ad : Nat → Nat} {A : Nat → Prop} {b L : Nat} {xs : Nat → Int32} {Q : State → Prop} (Bz : zu_B p s m #[Value.ref b] c code 4 "StonePostLaw" D cA ad A) (hX : va_X b L xs s s.heap) (hbl : b < s.heap.size) (hbA : ¬ A b) (hL : L ≤ 384) {i : Nat} (hi : i + 6 ≤ L) {X : IX} {Y : LX} (hI : zI_INV X) {H : Heap} {locs : List Loc} {ls : Array Slot} (hP : va_P D zu_cl (zu_pic cA ad X Y) H) (hS : va_S A s.heap H locs) (hl : lv_has ls 4 [(0, .ref b), (1, .ref (ad 0)), (2, .ref (ad 95)), (3, .int (nI i))]) (hk : ∀ (X : IX) (Y : LX) (H : Heap) (locs : List Loc) (ls : Array Slot), zI_INV X → va_P D zu_cl (zu_pic cA ad X Y) H → va_S A s.heap H locs → lv_has ls 4 [(0, .ref b), (1, .ref (ad 0)), (2, .ref (ad 95)), (3, .int (nI i))] → W p l e room_1 s m #[Value.ref b] below meth c H locs 600000 7302250 Q (F0 m 1704 ls [])) : W p l e room_1 s m #[Value.ref b] below meth c H locs 600000 7302250 Q (F0 m 1289 ls []) := by
  obtain ⟨hx, hb, hml, hown, hts, hST⟩ := id Bz
  obtain ⟨v, X1, X2, hq1, hq2, hI2⟩ := st_feed (X := X) (Y := Y) hI (xs (i + 1)) (xs (i + 2))
  refine lv_aload_n hx hb zd_law_1289 rfl (lv_at hl 1 rfl) ?_
  refine zl_law_arg (j := 1) hx hb hX hbl hbA hS zd_law_1290 zd_law_1291 zd_law_1292 zd_law_1293 zd_law_1294 (by decide) (lv_at hl 0 rfl) (lv_at hl 3 rfl) (by omega) hL ?_
  refine zl_law_arg (j := 2) hx hb hX hbl hbA hS zd_law_1295 zd_law_1296 zd_law_1297 zd_law_1298 zd_law_1299 (by decide) (lv_at hl 0 rfl) (lv_at hl 3 rfl) (by omega) hL ?_
  refine zw_Post_feed (rest := []) Bz hP hS hq1 zq_613 (Nat.le_of_ble_eq_true rfl) (Nat.le_of_ble_eq_true rfl) hl.1 rfl (Nat.le_of_ble_eq_true rfl) zd_law_1300 ⟨Nat.le_refl _, Nat.le_refl _⟩ (fun H locs hP hS => ?_)
  refine lv_aload_n hx hb zd_law_1303 rfl (lv_at hl 2 rfl) ?_
  refine zl_law_arg (j := 1) hx hb hX hbl hbA hS zd_law_1304 zd_law_1305 zd_law_1306 zd_law_1307 zd_law_1308 (by decide) (lv_at hl 0 rfl) (lv_at hl 3 rfl) (by omega) hL ?_
  refine zl_law_arg (j := 2) hx hb hX hbl hbA hS zd_law_1309 zd_law_1310 zd_law_1311 zd_law_1312 zd_law_1313 (by decide) (lv_at hl 0 rfl) (lv_at hl 3 rfl) (by omega) hL ?_
  refine zw_Mod_feed (rest := [.int v]) Bz hP hS hq2 zq_1230 (Nat.le_of_ble_eq_true rfl) (Nat.le_of_ble_eq_true rfl) hl.1 rfl (Nat.le_of_ble_eq_true rfl) zd_law_1314 ⟨Nat.le_refl _, Nat.le_refl _⟩ (fun H locs hP hS => ?_)
  refine lv_icmp_eq (tgt := 1704) hx hb zd_law_1317 (by decide) (fun _ => ?_) (fun h9 => absurd rfl h9)
  exact hk _ _ _ _ _ hI2 hP hS hl
set_option maxHeartbeats 4000000 in
theorem zl_law_c34 {p : Program} {l : Launch} {e : Env} {s : State} {m : MethodId} {below : List Frame} {meth : Method} {c : Code} {D : va_G} {cA : Nat → ClassId} {ad : Nat → Nat} {A : Nat → Prop} {b L : Nat} {xs : Nat → Int32} {Q : State → Prop} (Bz : zu_B p s m #[Value.ref b] c code 4 "StonePostLaw" D cA ad A) (hX : va_X b L xs s s.heap) (hbl : b < s.heap.size) (hbA : ¬ A b) (hL : L ≤ 384) {i : Nat} (hi : i + 6 ≤ L) {X : IX} {Y : LX} (hI : zI_INV X) {H : Heap} {locs : List Loc} {ls : Array Slot} (hP : va_P D zu_cl (zu_pic cA ad X Y) H) (hS : va_S A s.heap H locs) (hl : lv_has ls 4 [(0, .ref b), (1, .ref (ad 0)), (2, .ref (ad 95)), (3, .int (nI i))]) (hk : ∀ (X : IX) (Y : LX) (H : Heap) (locs : List Loc) (ls : Array Slot), zI_INV X → va_P D zu_cl (zu_pic cA ad X Y) H → va_S A s.heap H locs → lv_has ls 4 [(0, .ref b), (1, .ref (ad 0)), (2, .ref (ad 95)), (3, .int (nI i))] → W p l e room_1 s m #[Value.ref b] below meth c H locs 600000 7302250 Q (F0 m 1704 ls [])) : W p l e room_1 s m #[Value.ref b] below meth c H locs 600000 7302250 Q (F0 m 1322 ls []) := by
  obtain ⟨hx, hb, hml, hown, hts, hST⟩ := id Bz
  obtain ⟨v, X1, X2, hq1, hq2, hI2⟩ := st_wipe (X := X) (Y := Y) hI 
  refine lv_aload_n hx hb zd_law_1322 rfl (lv_at hl 1 rfl) ?_
  refine zw_Post_wipe (rest := []) Bz hP hS hq1 zq_617 (Nat.le_of_ble_eq_true rfl) (Nat.le_of_ble_eq_true rfl) hl.1 rfl (Nat.le_of_ble_eq_true rfl) zd_law_1323 ⟨Nat.le_refl _, Nat.le_refl _⟩ (fun H locs hP hS => ?_)
  refine lv_aload_n hx hb zd_law_1326 rfl (lv_at hl 2 rfl) ?_
  refine zw_Mod_wipe (rest := [.int v]) Bz hP hS hq2 zq_1235 (Nat.le_of_ble_eq_true rfl) (Nat.le_of_ble_eq_true rfl) hl.1 rfl (Nat.le_of_ble_eq_true rfl) zd_law_1327 ⟨Nat.le_refl _, Nat.le_refl _⟩ (fun H locs hP hS => ?_)
  refine lv_icmp_eq (tgt := 1704) hx hb zd_law_1330 (by decide) (fun _ => ?_) (fun h9 => absurd rfl h9)
  exact hk _ _ _ _ _ hI2 hP hS hl
set_option maxHeartbeats 4000000 in
theorem zl_law_c35 {p : Program} {l : Launch} {e : Env} {s : State} {m : MethodId} {below : List Frame} {meth : Method} {c : Code} {D : va_G} {cA : Nat → ClassId} {ad : Nat → Nat} {A : Nat → Prop} {b L : Nat} {xs : Nat → Int32} {Q : State → Prop} (Bz : zu_B p s m #[Value.ref b] c code 4 "StonePostLaw" D cA ad A) (hX : va_X b L xs s s.heap) (hbl : b < s.heap.size) (hbA : ¬ A b) (hL : L ≤ 384) {i : Nat} (hi : i + 6 ≤ L) {X : IX} {Y : LX} (hI : zI_INV X) {H : Heap} {locs : List Loc} {ls : Array Slot} (hP : va_P D zu_cl (zu_pic cA ad X Y) H) (hS : va_S A s.heap H locs) (hl : lv_has ls 4 [(0, .ref b), (1, .ref (ad 0)), (2, .ref (ad 95)), (3, .int (nI i))]) (hk : ∀ (X : IX) (Y : LX) (H : Heap) (locs : List Loc) (ls : Array Slot), zI_INV X → va_P D zu_cl (zu_pic cA ad X Y) H → va_S A s.heap H locs → lv_has ls 4 [(0, .ref b), (1, .ref (ad 0)), (2, .ref (ad 95)), (3, .int (nI i))] → W p l e room_1 s m #[Value.ref b] below meth c H locs 600000 7302250 Q (F0 m 1704 ls [])) : W p l e room_1 s m #[Value.ref b] below meth c H locs 600000 7302250 Q (F0 m 1335 ls []) := by
  obtain ⟨hx, hb, hml, hown, hts, hST⟩ := id Bz
  obtain ⟨v, X1, X2, hq1, hq2, hI2⟩ := st_text (X := X) (Y := Y) hI 
  refine lv_aload_n hx hb zd_law_1335 rfl (lv_at hl 1 rfl) ?_
  refine zw_Post_text (rest := []) Bz hP hS hq1 zq_621 (Nat.le_of_ble_eq_true rfl) (Nat.le_of_ble_eq_true rfl) hl.1 rfl (Nat.le_of_ble_eq_true rfl) zd_law_1336 ⟨Nat.le_refl _, Nat.le_refl _⟩ (fun H locs hP hS => ?_)
  refine lv_aload_n hx hb zd_law_1339 rfl (lv_at hl 2 rfl) ?_
  refine zw_Mod_text (rest := [.int v]) Bz hP hS hq2 zq_1239 (Nat.le_of_ble_eq_true rfl) (Nat.le_of_ble_eq_true rfl) hl.1 rfl (Nat.le_of_ble_eq_true rfl) zd_law_1340 ⟨Nat.le_refl _, Nat.le_refl _⟩ (fun H locs hP hS => ?_)
  refine lv_icmp_eq (tgt := 1704) hx hb zd_law_1343 (by decide) (fun _ => ?_) (fun h9 => absurd rfl h9)
  exact hk _ _ _ _ _ hI2 hP hS hl
set_option maxHeartbeats 4000000 in
theorem zl_law_c36 {p : Program} {l : Launch} {e : Env} {s : State} {m : MethodId} {below : List Frame} {meth : Method} {c : Code} {D : va_G} {cA : Nat → ClassId} {ad : Nat → Nat} {A : Nat → Prop} {b L : Nat} {xs : Nat → Int32} {Q : State → Prop} (Bz : zu_B p s m #[Value.ref b] c code 4 "StonePostLaw" D cA ad A) (hX : va_X b L xs s s.heap) (hbl : b < s.heap.size) (hbA : ¬ A b) (hL : L ≤ 384) {i : Nat} (hi : i + 6 ≤ L) {X : IX} {Y : LX} (hI : zI_INV X) {H : Heap} {locs : List Loc} {ls : Array Slot} (hP : va_P D zu_cl (zu_pic cA ad X Y) H) (hS : va_S A s.heap H locs) (hl : lv_has ls 4 [(0, .ref b), (1, .ref (ad 0)), (2, .ref (ad 95)), (3, .int (nI i))]) (hk : ∀ (X : IX) (Y : LX) (H : Heap) (locs : List Loc) (ls : Array Slot), zI_INV X → va_P D zu_cl (zu_pic cA ad X Y) H → va_S A s.heap H locs → lv_has ls 4 [(0, .ref b), (1, .ref (ad 0)), (2, .ref (ad 95)), (3, .int (nI i))] → W p l e room_1 s m #[Value.ref b] below meth c H locs 600000 7302250 Q (F0 m 1704 ls [])) : W p l e room_1 s m #[Value.ref b] below meth c H locs 600000 7302250 Q (F0 m 1348 ls []) := by
  obtain ⟨hx, hb, hml, hown, hts, hST⟩ := id Bz
  obtain ⟨v, X1, X2, hq1, hq2, hI2⟩ := st_hold (X := X) (Y := Y) hI (xs (i + 1)) (xs (i + 2))
  refine lv_aload_n hx hb zd_law_1348 rfl (lv_at hl 1 rfl) ?_
  refine zl_law_arg (j := 1) hx hb hX hbl hbA hS zd_law_1349 zd_law_1350 zd_law_1351 zd_law_1352 zd_law_1353 (by decide) (lv_at hl 0 rfl) (lv_at hl 3 rfl) (by omega) hL ?_
  refine zl_law_arg (j := 2) hx hb hX hbl hbA hS zd_law_1354 zd_law_1355 zd_law_1356 zd_law_1357 zd_law_1358 (by decide) (lv_at hl 0 rfl) (lv_at hl 3 rfl) (by omega) hL ?_
  refine zw_Post_hold (rest := []) Bz hP hS hq1 zq_762 (Nat.le_of_ble_eq_true rfl) (Nat.le_of_ble_eq_true rfl) hl.1 rfl (Nat.le_of_ble_eq_true rfl) zd_law_1359 ⟨Nat.le_refl _, Nat.le_refl _⟩ (fun H locs hP hS => ?_)
  refine lv_aload_n hx hb zd_law_1362 rfl (lv_at hl 2 rfl) ?_
  refine zl_law_arg (j := 1) hx hb hX hbl hbA hS zd_law_1363 zd_law_1364 zd_law_1365 zd_law_1366 zd_law_1367 (by decide) (lv_at hl 0 rfl) (lv_at hl 3 rfl) (by omega) hL ?_
  refine zl_law_arg (j := 2) hx hb hX hbl hbA hS zd_law_1368 zd_law_1369 zd_law_1370 zd_law_1371 zd_law_1372 (by decide) (lv_at hl 0 rfl) (lv_at hl 3 rfl) (by omega) hL ?_
  refine zw_Mod_hold (rest := [.int v]) Bz hP hS hq2 zq_1326 (Nat.le_of_ble_eq_true rfl) (Nat.le_of_ble_eq_true rfl) hl.1 rfl (Nat.le_of_ble_eq_true rfl) zd_law_1373 ⟨Nat.le_refl _, Nat.le_refl _⟩ (fun H locs hP hS => ?_)
  refine lv_icmp_eq (tgt := 1704) hx hb zd_law_1376 (by decide) (fun _ => ?_) (fun h9 => absurd rfl h9)
  exact hk _ _ _ _ _ hI2 hP hS hl
set_option maxHeartbeats 4000000 in
theorem zl_law_c37 {p : Program} {l : Launch} {e : Env} {s : State} {m : MethodId} {below : List Frame} {meth : Method} {c : Code} {D : va_G} {cA : Nat → ClassId} {ad : Nat → Nat} {A : Nat → Prop} {b L : Nat} {xs : Nat → Int32} {Q : State → Prop} (Bz : zu_B p s m #[Value.ref b] c code 4 "StonePostLaw" D cA ad A) (hX : va_X b L xs s s.heap) (hbl : b < s.heap.size) (hbA : ¬ A b) (hL : L ≤ 384) {i : Nat} (hi : i + 6 ≤ L) {X : IX} {Y : LX} (hI : zI_INV X) {H : Heap} {locs : List Loc} {ls : Array Slot} (hP : va_P D zu_cl (zu_pic cA ad X Y) H) (hS : va_S A s.heap H locs) (hl : lv_has ls 4 [(0, .ref b), (1, .ref (ad 0)), (2, .ref (ad 95)), (3, .int (nI i))]) (hk : ∀ (X : IX) (Y : LX) (H : Heap) (locs : List Loc) (ls : Array Slot), zI_INV X → va_P D zu_cl (zu_pic cA ad X Y) H → va_S A s.heap H locs → lv_has ls 4 [(0, .ref b), (1, .ref (ad 0)), (2, .ref (ad 95)), (3, .int (nI i))] → W p l e room_1 s m #[Value.ref b] below meth c H locs 600000 7302250 Q (F0 m 1704 ls [])) : W p l e room_1 s m #[Value.ref b] below meth c H locs 600000 7302250 Q (F0 m 1381 ls []) := by
  obtain ⟨hx, hb, hml, hown, hts, hST⟩ := id Bz
  obtain ⟨v, X1, X2, hq1, hq2, hI2⟩ := st_as (X := X) (Y := Y) hI (xs (i + 1)) (xs (i + 2))
  refine lv_aload_n hx hb zd_law_1381 rfl (lv_at hl 1 rfl) ?_
  refine zl_law_arg (j := 1) hx hb hX hbl hbA hS zd_law_1382 zd_law_1383 zd_law_1384 zd_law_1385 zd_law_1386 (by decide) (lv_at hl 0 rfl) (lv_at hl 3 rfl) (by omega) hL ?_
  refine zl_law_arg (j := 2) hx hb hX hbl hbA hS zd_law_1387 zd_law_1388 zd_law_1389 zd_law_1390 zd_law_1391 (by decide) (lv_at hl 0 rfl) (lv_at hl 3 rfl) (by omega) hL ?_
  refine zw_Post_as (rest := []) Bz hP hS hq1 zq_766 (Nat.le_of_ble_eq_true rfl) (Nat.le_of_ble_eq_true rfl) hl.1 rfl (Nat.le_of_ble_eq_true rfl) zd_law_1392 ⟨Nat.le_refl _, Nat.le_refl _⟩ (fun H locs hP hS => ?_)
  refine lv_aload_n hx hb zd_law_1395 rfl (lv_at hl 2 rfl) ?_
  refine zl_law_arg (j := 1) hx hb hX hbl hbA hS zd_law_1396 zd_law_1397 zd_law_1398 zd_law_1399 zd_law_1400 (by decide) (lv_at hl 0 rfl) (lv_at hl 3 rfl) (by omega) hL ?_
  refine zl_law_arg (j := 2) hx hb hX hbl hbA hS zd_law_1401 zd_law_1402 zd_law_1403 zd_law_1404 zd_law_1405 (by decide) (lv_at hl 0 rfl) (lv_at hl 3 rfl) (by omega) hL ?_
  refine zw_Mod_as (rest := [.int v]) Bz hP hS hq2 zq_1330 (Nat.le_of_ble_eq_true rfl) (Nat.le_of_ble_eq_true rfl) hl.1 rfl (Nat.le_of_ble_eq_true rfl) zd_law_1406 ⟨Nat.le_refl _, Nat.le_refl _⟩ (fun H locs hP hS => ?_)
  refine lv_icmp_eq (tgt := 1704) hx hb zd_law_1409 (by decide) (fun _ => ?_) (fun h9 => absurd rfl h9)
  exact hk _ _ _ _ _ hI2 hP hS hl
set_option maxHeartbeats 4000000 in
theorem zl_law_c38 {p : Program} {l : Launch} {e : Env} {s : State} {m : MethodId} {below : List Frame} {meth : Method} {c : Code} {D : va_G} {cA : Nat → ClassId} {ad : Nat → Nat} {A : Nat → Prop} {b L : Nat} {xs : Nat → Int32} {Q : State → Prop} (Bz : zu_B p s m #[Value.ref b] c code 4 "StonePostLaw" D cA ad A) (hX : va_X b L xs s s.heap) (hbl : b < s.heap.size) (hbA : ¬ A b) (hL : L ≤ 384) {i : Nat} (hi : i + 6 ≤ L) {X : IX} {Y : LX} (hI : zI_INV X) {H : Heap} {locs : List Loc} {ls : Array Slot} (hP : va_P D zu_cl (zu_pic cA ad X Y) H) (hS : va_S A s.heap H locs) (hl : lv_has ls 4 [(0, .ref b), (1, .ref (ad 0)), (2, .ref (ad 95)), (3, .int (nI i))]) (hk : ∀ (X : IX) (Y : LX) (H : Heap) (locs : List Loc) (ls : Array Slot), zI_INV X → va_P D zu_cl (zu_pic cA ad X Y) H → va_S A s.heap H locs → lv_has ls 4 [(0, .ref b), (1, .ref (ad 0)), (2, .ref (ad 95)), (3, .int (nI i))] → W p l e room_1 s m #[Value.ref b] below meth c H locs 600000 7302250 Q (F0 m 1704 ls [])) : W p l e room_1 s m #[Value.ref b] below meth c H locs 600000 7302250 Q (F0 m 1414 ls []) := by
  obtain ⟨hx, hb, hml, hown, hts, hST⟩ := id Bz
  obtain ⟨v, X1, X2, hq1, hq2, hI2⟩ := st_sheet (X := X) (Y := Y) hI (xs (i + 1)) (xs (i + 2)) (xs (i + 3))
  refine lv_aload_n hx hb zd_law_1414 rfl (lv_at hl 1 rfl) ?_
  refine zl_law_arg (j := 1) hx hb hX hbl hbA hS zd_law_1415 zd_law_1416 zd_law_1417 zd_law_1418 zd_law_1419 (by decide) (lv_at hl 0 rfl) (lv_at hl 3 rfl) (by omega) hL ?_
  refine zl_law_arg (j := 2) hx hb hX hbl hbA hS zd_law_1420 zd_law_1421 zd_law_1422 zd_law_1423 zd_law_1424 (by decide) (lv_at hl 0 rfl) (lv_at hl 3 rfl) (by omega) hL ?_
  refine zl_law_arg (j := 3) hx hb hX hbl hbA hS zd_law_1425 zd_law_1426 zd_law_1427 zd_law_1428 zd_law_1429 (by decide) (lv_at hl 0 rfl) (lv_at hl 3 rfl) (by omega) hL ?_
  refine zw_Post_sheet (rest := []) Bz hP hS hq1 zq_779 (Nat.le_of_ble_eq_true rfl) (Nat.le_of_ble_eq_true rfl) hl.1 rfl (Nat.le_of_ble_eq_true rfl) zd_law_1430 ⟨Nat.le_refl _, Nat.le_refl _⟩ (fun H locs hP hS => ?_)
  refine lv_aload_n hx hb zd_law_1433 rfl (lv_at hl 2 rfl) ?_
  refine zl_law_arg (j := 1) hx hb hX hbl hbA hS zd_law_1434 zd_law_1435 zd_law_1436 zd_law_1437 zd_law_1438 (by decide) (lv_at hl 0 rfl) (lv_at hl 3 rfl) (by omega) hL ?_
  refine zl_law_arg (j := 2) hx hb hX hbl hbA hS zd_law_1439 zd_law_1440 zd_law_1441 zd_law_1442 zd_law_1443 (by decide) (lv_at hl 0 rfl) (lv_at hl 3 rfl) (by omega) hL ?_
  refine zl_law_arg (j := 3) hx hb hX hbl hbA hS zd_law_1444 zd_law_1445 zd_law_1446 zd_law_1447 zd_law_1448 (by decide) (lv_at hl 0 rfl) (lv_at hl 3 rfl) (by omega) hL ?_
  refine zw_Mod_sheet (rest := [.int v]) Bz hP hS hq2 zq_1336 (Nat.le_of_ble_eq_true rfl) (Nat.le_of_ble_eq_true rfl) hl.1 rfl (Nat.le_of_ble_eq_true rfl) zd_law_1449 ⟨Nat.le_refl _, Nat.le_refl _⟩ (fun H locs hP hS => ?_)
  refine lv_icmp_eq (tgt := 1704) hx hb zd_law_1452 (by decide) (fun _ => ?_) (fun h9 => absurd rfl h9)
  exact hk _ _ _ _ _ hI2 hP hS hl
set_option maxHeartbeats 4000000 in
theorem zl_law_c39 {p : Program} {l : Launch} {e : Env} {s : State} {m : MethodId} {below : List Frame} {meth : Method} {c : Code} {D : va_G} {cA : Nat → ClassId} {ad : Nat → Nat} {A : Nat → Prop} {b L : Nat} {xs : Nat → Int32} {Q : State → Prop} (Bz : zu_B p s m #[Value.ref b] c code 4 "StonePostLaw" D cA ad A) (hX : va_X b L xs s s.heap) (hbl : b < s.heap.size) (hbA : ¬ A b) (hL : L ≤ 384) {i : Nat} (hi : i + 6 ≤ L) {X : IX} {Y : LX} (hI : zI_INV X) {H : Heap} {locs : List Loc} {ls : Array Slot} (hP : va_P D zu_cl (zu_pic cA ad X Y) H) (hS : va_S A s.heap H locs) (hl : lv_has ls 4 [(0, .ref b), (1, .ref (ad 0)), (2, .ref (ad 95)), (3, .int (nI i))]) (hk : ∀ (X : IX) (Y : LX) (H : Heap) (locs : List Loc) (ls : Array Slot), zI_INV X → va_P D zu_cl (zu_pic cA ad X Y) H → va_S A s.heap H locs → lv_has ls 4 [(0, .ref b), (1, .ref (ad 0)), (2, .ref (ad 95)), (3, .int (nI i))] → W p l e room_1 s m #[Value.ref b] below meth c H locs 600000 7302250 Q (F0 m 1704 ls [])) : W p l e room_1 s m #[Value.ref b] below meth c H locs 600000 7302250 Q (F0 m 1457 ls []) := by
  obtain ⟨hx, hb, hml, hown, hts, hST⟩ := id Bz
  obtain ⟨v, X1, X2, hq1, hq2, hI2⟩ := st_write (X := X) (Y := Y) hI (xs (i + 1)) (xs (i + 2)) (xs (i + 3))
  refine lv_aload_n hx hb zd_law_1457 rfl (lv_at hl 1 rfl) ?_
  refine zl_law_arg (j := 1) hx hb hX hbl hbA hS zd_law_1458 zd_law_1459 zd_law_1460 zd_law_1461 zd_law_1462 (by decide) (lv_at hl 0 rfl) (lv_at hl 3 rfl) (by omega) hL ?_
  refine zl_law_arg (j := 2) hx hb hX hbl hbA hS zd_law_1463 zd_law_1464 zd_law_1465 zd_law_1466 zd_law_1467 (by decide) (lv_at hl 0 rfl) (lv_at hl 3 rfl) (by omega) hL ?_
  refine zl_law_arg (j := 3) hx hb hX hbl hbA hS zd_law_1468 zd_law_1469 zd_law_1470 zd_law_1471 zd_law_1472 (by decide) (lv_at hl 0 rfl) (lv_at hl 3 rfl) (by omega) hL ?_
  refine zw_Post_write (rest := []) Bz hP hS hq1 zq_794 (Nat.le_of_ble_eq_true rfl) (Nat.le_of_ble_eq_true rfl) hl.1 rfl (Nat.le_of_ble_eq_true rfl) zd_law_1473 ⟨Nat.le_refl _, Nat.le_refl _⟩ (fun H locs hP hS => ?_)
  refine lv_aload_n hx hb zd_law_1476 rfl (lv_at hl 2 rfl) ?_
  refine zl_law_arg (j := 1) hx hb hX hbl hbA hS zd_law_1477 zd_law_1478 zd_law_1479 zd_law_1480 zd_law_1481 (by decide) (lv_at hl 0 rfl) (lv_at hl 3 rfl) (by omega) hL ?_
  refine zl_law_arg (j := 2) hx hb hX hbl hbA hS zd_law_1482 zd_law_1483 zd_law_1484 zd_law_1485 zd_law_1486 (by decide) (lv_at hl 0 rfl) (lv_at hl 3 rfl) (by omega) hL ?_
  refine zl_law_arg (j := 3) hx hb hX hbl hbA hS zd_law_1487 zd_law_1488 zd_law_1489 zd_law_1490 zd_law_1491 (by decide) (lv_at hl 0 rfl) (lv_at hl 3 rfl) (by omega) hL ?_
  refine zw_Mod_write (rest := [.int v]) Bz hP hS hq2 zq_1343 (Nat.le_of_ble_eq_true rfl) (Nat.le_of_ble_eq_true rfl) hl.1 rfl (Nat.le_of_ble_eq_true rfl) zd_law_1492 ⟨Nat.le_refl _, Nat.le_refl _⟩ (fun H locs hP hS => ?_)
  refine lv_icmp_eq (tgt := 1704) hx hb zd_law_1495 (by decide) (fun _ => ?_) (fun h9 => absurd rfl h9)
  exact hk _ _ _ _ _ hI2 hP hS hl
set_option maxHeartbeats 4000000 in
theorem zl_law_c40 {p : Program} {l : Launch} {e : Env} {s : State} {m : MethodId} {below : List Frame} {meth : Method} {c : Code} {D : va_G} {cA : Nat → ClassId} {ad : Nat → Nat} {A : Nat → Prop} {b L : Nat} {xs : Nat → Int32} {Q : State → Prop} (Bz : zu_B p s m #[Value.ref b] c code 4 "StonePostLaw" D cA ad A) (hX : va_X b L xs s s.heap) (hbl : b < s.heap.size) (hbA : ¬ A b) (hL : L ≤ 384) {i : Nat} (hi : i + 6 ≤ L) {X : IX} {Y : LX} (hI : zI_INV X) {H : Heap} {locs : List Loc} {ls : Array Slot} (hP : va_P D zu_cl (zu_pic cA ad X Y) H) (hS : va_S A s.heap H locs) (hl : lv_has ls 4 [(0, .ref b), (1, .ref (ad 0)), (2, .ref (ad 95)), (3, .int (nI i))]) (hk : ∀ (X : IX) (Y : LX) (H : Heap) (locs : List Loc) (ls : Array Slot), zI_INV X → va_P D zu_cl (zu_pic cA ad X Y) H → va_S A s.heap H locs → lv_has ls 4 [(0, .ref b), (1, .ref (ad 0)), (2, .ref (ad 95)), (3, .int (nI i))] → W p l e room_1 s m #[Value.ref b] below meth c H locs 600000 7302250 Q (F0 m 1704 ls [])) : W p l e room_1 s m #[Value.ref b] below meth c H locs 600000 7302250 Q (F0 m 1500 ls []) := by
  obtain ⟨hx, hb, hml, hown, hts, hST⟩ := id Bz
  obtain ⟨v, X1, X2, hq1, hq2, hI2⟩ := st_copy (X := X) (Y := Y) hI (xs (i + 1)) (xs (i + 2)) (xs (i + 3)) (xs (i + 4)) (xs (i + 5))
  refine lv_aload_n hx hb zd_law_1500 rfl (lv_at hl 1 rfl) ?_
  refine zl_law_arg (j := 1) hx hb hX hbl hbA hS zd_law_1501 zd_law_1502 zd_law_1503 zd_law_1504 zd_law_1505 (by decide) (lv_at hl 0 rfl) (lv_at hl 3 rfl) (by omega) hL ?_
  refine zl_law_arg (j := 2) hx hb hX hbl hbA hS zd_law_1506 zd_law_1507 zd_law_1508 zd_law_1509 zd_law_1510 (by decide) (lv_at hl 0 rfl) (lv_at hl 3 rfl) (by omega) hL ?_
  refine zl_law_arg (j := 3) hx hb hX hbl hbA hS zd_law_1511 zd_law_1512 zd_law_1513 zd_law_1514 zd_law_1515 (by decide) (lv_at hl 0 rfl) (lv_at hl 3 rfl) (by omega) hL ?_
  refine zl_law_arg (j := 4) hx hb hX hbl hbA hS zd_law_1516 zd_law_1517 zd_law_1518 zd_law_1519 zd_law_1520 (by decide) (lv_at hl 0 rfl) (lv_at hl 3 rfl) (by omega) hL ?_
  refine zl_law_arg (j := 5) hx hb hX hbl hbA hS zd_law_1521 zd_law_1522 zd_law_1523 zd_law_1524 zd_law_1525 (by decide) (lv_at hl 0 rfl) (lv_at hl 3 rfl) (by omega) hL ?_
  refine zw_Post_copy (rest := []) Bz hP hS hq1 zq_806 (Nat.le_of_ble_eq_true rfl) (Nat.le_of_ble_eq_true rfl) hl.1 rfl (Nat.le_of_ble_eq_true rfl) zd_law_1526 ⟨Nat.le_refl _, Nat.le_refl _⟩ (fun H locs hP hS => ?_)
  refine lv_aload_n hx hb zd_law_1529 rfl (lv_at hl 2 rfl) ?_
  refine zl_law_arg (j := 1) hx hb hX hbl hbA hS zd_law_1530 zd_law_1531 zd_law_1532 zd_law_1533 zd_law_1534 (by decide) (lv_at hl 0 rfl) (lv_at hl 3 rfl) (by omega) hL ?_
  refine zl_law_arg (j := 2) hx hb hX hbl hbA hS zd_law_1535 zd_law_1536 zd_law_1537 zd_law_1538 zd_law_1539 (by decide) (lv_at hl 0 rfl) (lv_at hl 3 rfl) (by omega) hL ?_
  refine zl_law_arg (j := 3) hx hb hX hbl hbA hS zd_law_1540 zd_law_1541 zd_law_1542 zd_law_1543 zd_law_1544 (by decide) (lv_at hl 0 rfl) (lv_at hl 3 rfl) (by omega) hL ?_
  refine zl_law_arg (j := 4) hx hb hX hbl hbA hS zd_law_1545 zd_law_1546 zd_law_1547 zd_law_1548 zd_law_1549 (by decide) (lv_at hl 0 rfl) (lv_at hl 3 rfl) (by omega) hL ?_
  refine zl_law_arg (j := 5) hx hb hX hbl hbA hS zd_law_1550 zd_law_1551 zd_law_1552 zd_law_1553 zd_law_1554 (by decide) (lv_at hl 0 rfl) (lv_at hl 3 rfl) (by omega) hL ?_
  refine zw_Mod_copy (rest := [.int v]) Bz hP hS hq2 zq_1354 (Nat.le_of_ble_eq_true rfl) (Nat.le_of_ble_eq_true rfl) hl.1 rfl (Nat.le_of_ble_eq_true rfl) zd_law_1555 ⟨Nat.le_refl _, Nat.le_refl _⟩ (fun H locs hP hS => ?_)
  refine lv_icmp_eq (tgt := 1704) hx hb zd_law_1558 (by decide) (fun _ => ?_) (fun h9 => absurd rfl h9)
  exact hk _ _ _ _ _ hI2 hP hS hl
set_option maxHeartbeats 4000000 in
theorem zl_law_c41 {p : Program} {l : Launch} {e : Env} {s : State} {m : MethodId} {below : List Frame} {meth : Method} {c : Code} {D : va_G} {cA : Nat → ClassId} {ad : Nat → Nat} {A : Nat → Prop} {b L : Nat} {xs : Nat → Int32} {Q : State → Prop} (Bz : zu_B p s m #[Value.ref b] c code 4 "StonePostLaw" D cA ad A) (hX : va_X b L xs s s.heap) (hbl : b < s.heap.size) (hbA : ¬ A b) (hL : L ≤ 384) {i : Nat} (hi : i + 6 ≤ L) {X : IX} {Y : LX} (hI : zI_INV X) {H : Heap} {locs : List Loc} {ls : Array Slot} (hP : va_P D zu_cl (zu_pic cA ad X Y) H) (hS : va_S A s.heap H locs) (hl : lv_has ls 4 [(0, .ref b), (1, .ref (ad 0)), (2, .ref (ad 95)), (3, .int (nI i))]) (hk : ∀ (X : IX) (Y : LX) (H : Heap) (locs : List Loc) (ls : Array Slot), zI_INV X → va_P D zu_cl (zu_pic cA ad X Y) H → va_S A s.heap H locs → lv_has ls 4 [(0, .ref b), (1, .ref (ad 0)), (2, .ref (ad 95)), (3, .int (nI i))] → W p l e room_1 s m #[Value.ref b] below meth c H locs 600000 7302250 Q (F0 m 1704 ls [])) : W p l e room_1 s m #[Value.ref b] below meth c H locs 600000 7302250 Q (F0 m 1563 ls []) := by
  obtain ⟨hx, hb, hml, hown, hts, hST⟩ := id Bz
  obtain ⟨v, X1, X2, hq1, hq2, hI2⟩ := st_load (X := X) (Y := Y) hI (xs (i + 1))
  refine lv_aload_n hx hb zd_law_1563 rfl (lv_at hl 1 rfl) ?_
  refine zl_law_arg (j := 1) hx hb hX hbl hbA hS zd_law_1564 zd_law_1565 zd_law_1566 zd_law_1567 zd_law_1568 (by decide) (lv_at hl 0 rfl) (lv_at hl 3 rfl) (by omega) hL ?_
  refine zw_Post_load (rest := []) Bz hP hS hq1 zq_815 (Nat.le_of_ble_eq_true rfl) (Nat.le_of_ble_eq_true rfl) hl.1 rfl (Nat.le_of_ble_eq_true rfl) zd_law_1569 ⟨Nat.le_refl _, Nat.le_refl _⟩ (fun H locs hP hS => ?_)
  refine lv_aload_n hx hb zd_law_1572 rfl (lv_at hl 2 rfl) ?_
  refine zl_law_arg (j := 1) hx hb hX hbl hbA hS zd_law_1573 zd_law_1574 zd_law_1575 zd_law_1576 zd_law_1577 (by decide) (lv_at hl 0 rfl) (lv_at hl 3 rfl) (by omega) hL ?_
  refine zw_Mod_load (rest := [.int v]) Bz hP hS hq2 zq_1358 (Nat.le_of_ble_eq_true rfl) (Nat.le_of_ble_eq_true rfl) hl.1 rfl (Nat.le_of_ble_eq_true rfl) zd_law_1578 ⟨Nat.le_refl _, Nat.le_refl _⟩ (fun H locs hP hS => ?_)
  refine lv_icmp_eq (tgt := 1704) hx hb zd_law_1581 (by decide) (fun _ => ?_) (fun h9 => absurd rfl h9)
  exact hk _ _ _ _ _ hI2 hP hS hl
set_option maxHeartbeats 4000000 in
theorem zl_law_c42 {p : Program} {l : Launch} {e : Env} {s : State} {m : MethodId} {below : List Frame} {meth : Method} {c : Code} {D : va_G} {cA : Nat → ClassId} {ad : Nat → Nat} {A : Nat → Prop} {b L : Nat} {xs : Nat → Int32} {Q : State → Prop} (Bz : zu_B p s m #[Value.ref b] c code 4 "StonePostLaw" D cA ad A) (hX : va_X b L xs s s.heap) (hbl : b < s.heap.size) (hbA : ¬ A b) (hL : L ≤ 384) {i : Nat} (hi : i + 6 ≤ L) {X : IX} {Y : LX} (hI : zI_INV X) {H : Heap} {locs : List Loc} {ls : Array Slot} (hP : va_P D zu_cl (zu_pic cA ad X Y) H) (hS : va_S A s.heap H locs) (hl : lv_has ls 4 [(0, .ref b), (1, .ref (ad 0)), (2, .ref (ad 95)), (3, .int (nI i))]) (hk : ∀ (X : IX) (Y : LX) (H : Heap) (locs : List Loc) (ls : Array Slot), zI_INV X → va_P D zu_cl (zu_pic cA ad X Y) H → va_S A s.heap H locs → lv_has ls 4 [(0, .ref b), (1, .ref (ad 0)), (2, .ref (ad 95)), (3, .int (nI i))] → W p l e room_1 s m #[Value.ref b] below meth c H locs 600000 7302250 Q (F0 m 1704 ls [])) : W p l e room_1 s m #[Value.ref b] below meth c H locs 600000 7302250 Q (F0 m 1586 ls []) := by
  obtain ⟨hx, hb, hml, hown, hts, hST⟩ := id Bz
  obtain ⟨v, X1, X2, hq1, hq2, hI2⟩ := st_judge (X := X) (Y := Y) hI (xs (i + 1)) (xs (i + 2))
  refine lv_aload_n hx hb zd_law_1586 rfl (lv_at hl 1 rfl) ?_
  refine zl_law_arg (j := 1) hx hb hX hbl hbA hS zd_law_1587 zd_law_1588 zd_law_1589 zd_law_1590 zd_law_1591 (by decide) (lv_at hl 0 rfl) (lv_at hl 3 rfl) (by omega) hL ?_
  refine zl_law_arg (j := 2) hx hb hX hbl hbA hS zd_law_1592 zd_law_1593 zd_law_1594 zd_law_1595 zd_law_1596 (by decide) (lv_at hl 0 rfl) (lv_at hl 3 rfl) (by omega) hL ?_
  refine zw_Post_judge (rest := []) Bz hP hS hq1 zq_819 (Nat.le_of_ble_eq_true rfl) (Nat.le_of_ble_eq_true rfl) hl.1 rfl (Nat.le_of_ble_eq_true rfl) zd_law_1597 ⟨Nat.le_refl _, Nat.le_refl _⟩ (fun H locs hP hS => ?_)
  refine lv_aload_n hx hb zd_law_1600 rfl (lv_at hl 2 rfl) ?_
  refine zl_law_arg (j := 1) hx hb hX hbl hbA hS zd_law_1601 zd_law_1602 zd_law_1603 zd_law_1604 zd_law_1605 (by decide) (lv_at hl 0 rfl) (lv_at hl 3 rfl) (by omega) hL ?_
  refine zl_law_arg (j := 2) hx hb hX hbl hbA hS zd_law_1606 zd_law_1607 zd_law_1608 zd_law_1609 zd_law_1610 (by decide) (lv_at hl 0 rfl) (lv_at hl 3 rfl) (by omega) hL ?_
  refine zw_Mod_judge (rest := [.int v]) Bz hP hS hq2 zq_1362 (Nat.le_of_ble_eq_true rfl) (Nat.le_of_ble_eq_true rfl) hl.1 rfl (Nat.le_of_ble_eq_true rfl) zd_law_1611 ⟨Nat.le_refl _, Nat.le_refl _⟩ (fun H locs hP hS => ?_)
  refine lv_icmp_eq (tgt := 1704) hx hb zd_law_1614 (by decide) (fun _ => ?_) (fun h9 => absurd rfl h9)
  exact hk _ _ _ _ _ hI2 hP hS hl
set_option maxHeartbeats 4000000 in
theorem zl_law_c43 {p : Program} {l : Launch} {e : Env} {s : State} {m : MethodId} {below : List Frame} {meth : Method} {c : Code} {D : va_G} {cA : Nat → ClassId} {ad : Nat → Nat} {A : Nat → Prop} {b L : Nat} {xs : Nat → Int32} {Q : State → Prop} (Bz : zu_B p s m #[Value.ref b] c code 4 "StonePostLaw" D cA ad A) (hX : va_X b L xs s s.heap) (hbl : b < s.heap.size) (hbA : ¬ A b) (hL : L ≤ 384) {i : Nat} (hi : i + 6 ≤ L) {X : IX} {Y : LX} (hI : zI_INV X) {H : Heap} {locs : List Loc} {ls : Array Slot} (hP : va_P D zu_cl (zu_pic cA ad X Y) H) (hS : va_S A s.heap H locs) (hl : lv_has ls 4 [(0, .ref b), (1, .ref (ad 0)), (2, .ref (ad 95)), (3, .int (nI i))]) (hk : ∀ (X : IX) (Y : LX) (H : Heap) (locs : List Loc) (ls : Array Slot), zI_INV X → va_P D zu_cl (zu_pic cA ad X Y) H → va_S A s.heap H locs → lv_has ls 4 [(0, .ref b), (1, .ref (ad 0)), (2, .ref (ad 95)), (3, .int (nI i))] → W p l e room_1 s m #[Value.ref b] below meth c H locs 600000 7302250 Q (F0 m 1704 ls [])) : W p l e room_1 s m #[Value.ref b] below meth c H locs 600000 7302250 Q (F0 m 1619 ls []) := by
  obtain ⟨hx, hb, hml, hown, hts, hST⟩ := id Bz
  obtain ⟨v, X1, X2, hq1, hq2, hI2⟩ := st_image (X := X) (Y := Y) hI 
  refine lv_aload_n hx hb zd_law_1619 rfl (lv_at hl 1 rfl) ?_
  refine zw_Post_image (rest := []) Bz hP hS hq1 zq_827 (Nat.le_of_ble_eq_true rfl) (Nat.le_of_ble_eq_true rfl) hl.1 rfl (Nat.le_of_ble_eq_true rfl) zd_law_1620 ⟨Nat.le_refl _, Nat.le_refl _⟩ (fun H locs hP hS => ?_)
  refine lv_aload_n hx hb zd_law_1623 rfl (lv_at hl 2 rfl) ?_
  refine zw_Mod_image (rest := [.int v]) Bz hP hS hq2 zq_1366 (Nat.le_of_ble_eq_true rfl) (Nat.le_of_ble_eq_true rfl) hl.1 rfl (Nat.le_of_ble_eq_true rfl) zd_law_1624 ⟨Nat.le_refl _, Nat.le_refl _⟩ (fun H locs hP hS => ?_)
  refine lv_icmp_eq (tgt := 1704) hx hb zd_law_1627 (by decide) (fun _ => ?_) (fun h9 => absurd rfl h9)
  exact hk _ _ _ _ _ hI2 hP hS hl
set_option maxHeartbeats 4000000 in
theorem zl_law_c44 {p : Program} {l : Launch} {e : Env} {s : State} {m : MethodId} {below : List Frame} {meth : Method} {c : Code} {D : va_G} {cA : Nat → ClassId} {ad : Nat → Nat} {A : Nat → Prop} {b L : Nat} {xs : Nat → Int32} {Q : State → Prop} (Bz : zu_B p s m #[Value.ref b] c code 4 "StonePostLaw" D cA ad A) (hX : va_X b L xs s s.heap) (hbl : b < s.heap.size) (hbA : ¬ A b) (hL : L ≤ 384) {i : Nat} (hi : i + 6 ≤ L) {X : IX} {Y : LX} (hI : zI_INV X) {H : Heap} {locs : List Loc} {ls : Array Slot} (hP : va_P D zu_cl (zu_pic cA ad X Y) H) (hS : va_S A s.heap H locs) (hl : lv_has ls 4 [(0, .ref b), (1, .ref (ad 0)), (2, .ref (ad 95)), (3, .int (nI i))]) (hk : ∀ (X : IX) (Y : LX) (H : Heap) (locs : List Loc) (ls : Array Slot), zI_INV X → va_P D zu_cl (zu_pic cA ad X Y) H → va_S A s.heap H locs → lv_has ls 4 [(0, .ref b), (1, .ref (ad 0)), (2, .ref (ad 95)), (3, .int (nI i))] → W p l e room_1 s m #[Value.ref b] below meth c H locs 600000 7302250 Q (F0 m 1704 ls [])) : W p l e room_1 s m #[Value.ref b] below meth c H locs 600000 7302250 Q (F0 m 1632 ls []) := by
  obtain ⟨hx, hb, hml, hown, hts, hST⟩ := id Bz
  obtain ⟨v, X1, X2, hq1, hq2, hI2⟩ := st_undo (X := X) (Y := Y) hI 
  refine lv_aload_n hx hb zd_law_1632 rfl (lv_at hl 1 rfl) ?_
  refine zw_Post_undo (rest := []) Bz hP hS hq1 zq_831 (Nat.le_of_ble_eq_true rfl) (Nat.le_of_ble_eq_true rfl) hl.1 rfl (Nat.le_of_ble_eq_true rfl) zd_law_1633 ⟨Nat.le_refl _, Nat.le_refl _⟩ (fun H locs hP hS => ?_)
  refine lv_aload_n hx hb zd_law_1636 rfl (lv_at hl 2 rfl) ?_
  refine zw_Mod_undo (rest := [.int v]) Bz hP hS hq2 zq_1370 (Nat.le_of_ble_eq_true rfl) (Nat.le_of_ble_eq_true rfl) hl.1 rfl (Nat.le_of_ble_eq_true rfl) zd_law_1637 ⟨Nat.le_refl _, Nat.le_refl _⟩ (fun H locs hP hS => ?_)
  refine lv_icmp_eq (tgt := 1704) hx hb zd_law_1640 (by decide) (fun _ => ?_) (fun h9 => absurd rfl h9)
  exact hk _ _ _ _ _ hI2 hP hS hl
set_option maxHeartbeats 4000000 in
theorem zl_law_c45 {p : Program} {l : Launch} {e : Env} {s : State} {m : MethodId} {below : List Frame} {meth : Method} {c : Code} {D : va_G} {cA : Nat → ClassId} {ad : Nat → Nat} {A : Nat → Prop} {b L : Nat} {xs : Nat → Int32} {Q : State → Prop} (Bz : zu_B p s m #[Value.ref b] c code 4 "StonePostLaw" D cA ad A) (hX : va_X b L xs s s.heap) (hbl : b < s.heap.size) (hbA : ¬ A b) (hL : L ≤ 384) {i : Nat} (hi : i + 6 ≤ L) {X : IX} {Y : LX} (hI : zI_INV X) {H : Heap} {locs : List Loc} {ls : Array Slot} (hP : va_P D zu_cl (zu_pic cA ad X Y) H) (hS : va_S A s.heap H locs) (hl : lv_has ls 4 [(0, .ref b), (1, .ref (ad 0)), (2, .ref (ad 95)), (3, .int (nI i))]) (hk : ∀ (X : IX) (Y : LX) (H : Heap) (locs : List Loc) (ls : Array Slot), zI_INV X → va_P D zu_cl (zu_pic cA ad X Y) H → va_S A s.heap H locs → lv_has ls 4 [(0, .ref b), (1, .ref (ad 0)), (2, .ref (ad 95)), (3, .int (nI i))] → W p l e room_1 s m #[Value.ref b] below meth c H locs 600000 7302250 Q (F0 m 1704 ls [])) : W p l e room_1 s m #[Value.ref b] below meth c H locs 600000 7302250 Q (F0 m 1645 ls []) := by
  obtain ⟨hx, hb, hml, hown, hts, hST⟩ := id Bz
  obtain ⟨v, X1, X2, hq1, hq2, hI2⟩ := st_tear (X := X) (Y := Y) hI 
  refine lv_aload_n hx hb zd_law_1645 rfl (lv_at hl 1 rfl) ?_
  refine zw_Post_tear (rest := []) Bz hP hS hq1 zq_835 (Nat.le_of_ble_eq_true rfl) (Nat.le_of_ble_eq_true rfl) hl.1 rfl (Nat.le_of_ble_eq_true rfl) zd_law_1646 ⟨Nat.le_refl _, Nat.le_refl _⟩ (fun H locs hP hS => ?_)
  refine lv_aload_n hx hb zd_law_1649 rfl (lv_at hl 2 rfl) ?_
  refine zw_Mod_tear (rest := [.int v]) Bz hP hS hq2 zq_1374 (Nat.le_of_ble_eq_true rfl) (Nat.le_of_ble_eq_true rfl) hl.1 rfl (Nat.le_of_ble_eq_true rfl) zd_law_1650 ⟨Nat.le_refl _, Nat.le_refl _⟩ (fun H locs hP hS => ?_)
  refine lv_icmp_eq (tgt := 1704) hx hb zd_law_1653 (by decide) (fun _ => ?_) (fun h9 => absurd rfl h9)
  exact hk _ _ _ _ _ hI2 hP hS hl
set_option maxHeartbeats 4000000 in
theorem zl_law_c46 {p : Program} {l : Launch} {e : Env} {s : State} {m : MethodId} {below : List Frame} {meth : Method} {c : Code} {D : va_G} {cA : Nat → ClassId} {ad : Nat → Nat} {A : Nat → Prop} {b L : Nat} {xs : Nat → Int32} {Q : State → Prop} (Bz : zu_B p s m #[Value.ref b] c code 4 "StonePostLaw" D cA ad A) (hX : va_X b L xs s s.heap) (hbl : b < s.heap.size) (hbA : ¬ A b) (hL : L ≤ 384) {i : Nat} (hi : i + 6 ≤ L) {X : IX} {Y : LX} (hI : zI_INV X) {H : Heap} {locs : List Loc} {ls : Array Slot} (hP : va_P D zu_cl (zu_pic cA ad X Y) H) (hS : va_S A s.heap H locs) (hl : lv_has ls 4 [(0, .ref b), (1, .ref (ad 0)), (2, .ref (ad 95)), (3, .int (nI i))]) (hk : ∀ (X : IX) (Y : LX) (H : Heap) (locs : List Loc) (ls : Array Slot), zI_INV X → va_P D zu_cl (zu_pic cA ad X Y) H → va_S A s.heap H locs → lv_has ls 4 [(0, .ref b), (1, .ref (ad 0)), (2, .ref (ad 95)), (3, .int (nI i))] → W p l e room_1 s m #[Value.ref b] below meth c H locs 600000 7302250 Q (F0 m 1704 ls [])) : W p l e room_1 s m #[Value.ref b] below meth c H locs 600000 7302250 Q (F0 m 1658 ls []) := by
  obtain ⟨hx, hb, hml, hown, hts, hST⟩ := id Bz
  obtain ⟨v, X1, X2, hq1, hq2, hI2⟩ := st_count (X := X) (Y := Y) hI (xs (i + 1))
  refine lv_aload_n hx hb zd_law_1658 rfl (lv_at hl 1 rfl) ?_
  refine zl_law_arg (j := 1) hx hb hX hbl hbA hS zd_law_1659 zd_law_1660 zd_law_1661 zd_law_1662 zd_law_1663 (by decide) (lv_at hl 0 rfl) (lv_at hl 3 rfl) (by omega) hL ?_
  refine zw_Post_count (rest := []) Bz hP hS hq1 zq_839 (Nat.le_of_ble_eq_true rfl) (Nat.le_of_ble_eq_true rfl) hl.1 rfl (Nat.le_of_ble_eq_true rfl) zd_law_1664 ⟨Nat.le_refl _, Nat.le_refl _⟩ (fun H locs hP hS => ?_)
  refine lv_aload_n hx hb zd_law_1667 rfl (lv_at hl 2 rfl) ?_
  refine zl_law_arg (j := 1) hx hb hX hbl hbA hS zd_law_1668 zd_law_1669 zd_law_1670 zd_law_1671 zd_law_1672 (by decide) (lv_at hl 0 rfl) (lv_at hl 3 rfl) (by omega) hL ?_
  refine zw_Mod_count (rest := [.int v]) Bz hP hS hq2 zq_1378 (Nat.le_of_ble_eq_true rfl) (Nat.le_of_ble_eq_true rfl) hl.1 rfl (Nat.le_of_ble_eq_true rfl) zd_law_1673 ⟨Nat.le_refl _, Nat.le_refl _⟩ (fun H locs hP hS => ?_)
  refine lv_icmp_eq (tgt := 1704) hx hb zd_law_1676 (by decide) (fun _ => ?_) (fun h9 => absurd rfl h9)
  exact hk _ _ _ _ _ hI2 hP hS hl
set_option maxHeartbeats 4000000 in
theorem zl_law_c47 {p : Program} {l : Launch} {e : Env} {s : State} {m : MethodId} {below : List Frame} {meth : Method} {c : Code} {D : va_G} {cA : Nat → ClassId} {ad : Nat → Nat} {A : Nat → Prop} {b L : Nat} {xs : Nat → Int32} {Q : State → Prop} (Bz : zu_B p s m #[Value.ref b] c code 4 "StonePostLaw" D cA ad A) (hX : va_X b L xs s s.heap) (hbl : b < s.heap.size) (hbA : ¬ A b) (hL : L ≤ 384) {i : Nat} (hi : i + 6 ≤ L) {X : IX} {Y : LX} (hI : zI_INV X) {H : Heap} {locs : List Loc} {ls : Array Slot} (hP : va_P D zu_cl (zu_pic cA ad X Y) H) (hS : va_S A s.heap H locs) (hl : lv_has ls 4 [(0, .ref b), (1, .ref (ad 0)), (2, .ref (ad 95)), (3, .int (nI i))]) (hk : ∀ (X : IX) (Y : LX) (H : Heap) (locs : List Loc) (ls : Array Slot), zI_INV X → va_P D zu_cl (zu_pic cA ad X Y) H → va_S A s.heap H locs → lv_has ls 4 [(0, .ref b), (1, .ref (ad 0)), (2, .ref (ad 95)), (3, .int (nI i))] → W p l e room_1 s m #[Value.ref b] below meth c H locs 600000 7302250 Q (F0 m 1704 ls [])) : W p l e room_1 s m #[Value.ref b] below meth c H locs 600000 7302250 Q (F0 m 1681 ls []) := by
  obtain ⟨hx, hb, hml, hown, hts, hST⟩ := id Bz
  obtain ⟨v, X1, X2, hq1, hq2, hI2⟩ := st_status (X := X) (Y := Y) hI (xs (i + 1))
  refine lv_aload_n hx hb zd_law_1681 rfl (lv_at hl 1 rfl) ?_
  refine zl_law_arg (j := 1) hx hb hX hbl hbA hS zd_law_1682 zd_law_1683 zd_law_1684 zd_law_1685 zd_law_1686 (by decide) (lv_at hl 0 rfl) (lv_at hl 3 rfl) (by omega) hL ?_
  refine zw_Post_status (rest := []) Bz hP hS hq1 zq_851 (Nat.le_of_ble_eq_true rfl) (Nat.le_of_ble_eq_true rfl) hl.1 rfl (Nat.le_of_ble_eq_true rfl) zd_law_1687 ⟨Nat.le_refl _, Nat.le_refl _⟩ (fun H locs hP hS => ?_)
  refine lv_aload_n hx hb zd_law_1690 rfl (lv_at hl 2 rfl) ?_
  refine zl_law_arg (j := 1) hx hb hX hbl hbA hS zd_law_1691 zd_law_1692 zd_law_1693 zd_law_1694 zd_law_1695 (by decide) (lv_at hl 0 rfl) (lv_at hl 3 rfl) (by omega) hL ?_
  refine zw_Mod_status (rest := [.int v]) Bz hP hS hq2 zq_1390 (Nat.le_of_ble_eq_true rfl) (Nat.le_of_ble_eq_true rfl) hl.1 rfl (Nat.le_of_ble_eq_true rfl) zd_law_1696 ⟨Nat.le_refl _, Nat.le_refl _⟩ (fun H locs hP hS => ?_)
  refine lv_icmp_eq (tgt := 1704) hx hb zd_law_1699 (by decide) (fun _ => ?_) (fun h9 => absurd rfl h9)
  exact hk _ _ _ _ _ hI2 hP hS hl
theorem zl_law_gt {L i : Nat} (hL : L ≤ 384) (hi : i ≤ 390) (h : L < i + 6) : Int32.ofNat L - 6 < nI i := by
  rw [Int32.lt_iff_toInt_lt]
  have e1 : (Int32.ofNat L - 6 : Int32).toInt = (L : Int) - 6 := pk_sub_toInt (a := L) (b := 6) (by omega) (by omega)
  rw [e1, nI_toInt (by omega)]
  omega
set_option maxHeartbeats 4000000 in
theorem zl_law_loop {p : Program} {l : Launch} {e : Env} {s : State} {m : MethodId} {below : List Frame} {c : Code} {D : va_G} {cA : Nat → ClassId} {ad : Nat → Nat} {A : Nat → Prop} {b L : Nat} {xs : Nat → Int32}  {meth : Method} (hr : meth.sig.returnType = ret) (hlocks : meth.locks = false) (hb1 : A = fun q : Nat => s.heap.size ≤ q) (Bz : zu_B p s m #[Value.ref b] c code 4 "StonePostLaw" D cA ad A) (hX : va_X b L xs s s.heap) (hbl : b < s.heap.size) (hbA : ¬ A b) (hL : L ≤ 384) : ∀ (n i : Nat), i ≤ 390 → L + 6 ≤ i + 6 * n → ∀ (X : IX) (Y : LX) (H : Heap) (locs : List Loc) (ls : Array Slot), zI_INV X → va_P D zu_cl (zu_pic cA ad X Y) H → va_S A s.heap H locs → lv_has ls 4 [(0, .ref b), (1, .ref (ad 0)), (2, .ref (ad 95)), (3, .int (nI i))] → W p l e room_1 s m #[Value.ref b] below meth c H locs 600000 7302250 (lw_Z below #[Value.ref b] s) (F0 m 18 ls []) := by
  obtain ⟨hx, hb, hml, hown, hts, hST⟩ := id Bz
  intro n
  induction n with
  | zero =>
    intro i h1 h2 X Y H locs ls hI hP hS hl
    refine lv_iload_n hx hb zd_law_18 rfl (lv_at hl 3 rfl) ?_
    refine lv_aload_n hx hb zd_law_19 rfl (lv_at hl 0 rfl) ?_
    refine va_slen hx hb hX hbl hbA hS zd_law_20 ?_
    refine lv_bipush (v := 6) hx hb zd_law_21 (by decide) ?_
    refine lv_isub hx hb zd_law_23 ?_
    refine lv_icmp_gt (tgt := 1710) hx hb zd_law_24 (by decide) (fun c_10 => ?_) (fun c_10 => absurd (zl_law_gt hL h1 (by omega)) c_10)
    refine lv_iconst (v := 1) hx hb zd_law_1710 (by decide) ?_
    refine va_forget (fun q hq => by have := hS.2.2 q hq; rw [hb1] at this; exact this) ?_
    exact lw_ret hx hb hr hlocks zd_law_1711
  | succ n ih =>
    intro i h1 h2 X Y H locs ls hI hP hS hl
    refine lv_iload_n hx hb zd_law_18 rfl (lv_at hl 3 rfl) ?_
    refine lv_aload_n hx hb zd_law_19 rfl (lv_at hl 0 rfl) ?_
    refine va_slen hx hb hX hbl hbA hS zd_law_20 ?_
    refine lv_bipush (v := 6) hx hb zd_law_21 (by decide) ?_
    refine lv_isub hx hb zd_law_23 ?_
    refine lv_icmp_gt (tgt := 1710) hx hb zd_law_24 (by decide) (fun c_10 => ?_) (fun c_10 => ?_)
    · refine lv_iconst (v := 1) hx hb zd_law_1710 (by decide) ?_
      refine va_forget (fun q hq => by have := hS.2.2 q hq; rw [hb1] at this; exact this) ?_
      exact lw_ret hx hb hr hlocks zd_law_1711
    · have hi : i + 6 ≤ L := by
        rcases Nat.lt_or_ge L (i + 6) with q | q
        · exact absurd (zl_law_gt hL h1 q) c_10
        · exact q
      have hk : ∀ (X : IX) (Y : LX) (H : Heap) (locs : List Loc) (ls : Array Slot), zI_INV X → va_P D zu_cl (zu_pic cA ad X Y) H → va_S A s.heap H locs → lv_has ls 4 [(0, .ref b), (1, .ref (ad 0)), (2, .ref (ad 95)), (3, .int (nI i))] → W p l e room_1 s m #[Value.ref b] below meth c H locs 600000 7302250 (lw_Z below #[Value.ref b] s) (F0 m 1704 ls []) := by
        intro X Y H locs ls hI hP hS hl
        refine lv_iinc (v := nI (i + 6)) (lv' := [(3, .int (nI (i + 6))), (0, .ref b), (1, .ref (ad 0)), (2, .ref (ad 95))]) hx hb zd_law_1704 hl (k := 3) rfl (by rw [← nI_add]; rfl) (by decide) rfl (fun ls hl => ?_)
        refine lv_goto (tgt := 18) hx hb zd_law_1707 (by decide) ?_
        exact ih (i + 6) (by omega) (by omega) X Y H locs ls hI hP hS (lv_sub hl [1, 2, 3, 0] rfl)
      refine lv_aload_n hx hb zd_law_27 rfl (lv_at hl 0 rfl) ?_
      refine lv_iload_n hx hb zd_law_28 rfl (lv_at hl 3 rfl) ?_
      refine va_sld hx hb hX hbl hbA hS (vp_in_nI (show i < L by omega) (by omega)) zd_law_29 ?_
      refine lv_bipush (v := 63) hx hb zd_law_30 (by decide) ?_
      refine lv_iand hx hb zd_law_32 ?_
      obtain ⟨w, hw⟩ : ∃ w : Int32, w = xs (nI i).toNatClampNeg &&& 63 := ⟨_, rfl⟩
      rw [← hw]
      clear hw
      by_cases h0 : w = 0
      · subst h0
        refine lv_tableIn (tgt := 240) (off := 207) hx hb zd_law_33 (by decide) (by decide) (by decide) (by decide) ?_
        exact zl_law_c0 Bz hX hbl hbA hL hi hI hP hS hl hk
      by_cases h1 : w = 1
      · subst h1
        refine lv_tableIn (tgt := 273) (off := 240) hx hb zd_law_33 (by decide) (by decide) (by decide) (by decide) ?_
        exact zl_law_c1 Bz hX hbl hbA hL hi hI hP hS hl hk
      by_cases h2 : w = 2
      · subst h2
        refine lv_tableIn (tgt := 306) (off := 273) hx hb zd_law_33 (by decide) (by decide) (by decide) (by decide) ?_
        exact zl_law_c2 Bz hX hbl hbA hL hi hI hP hS hl hk
      by_cases h3 : w = 3
      · subst h3
        refine lv_tableIn (tgt := 339) (off := 306) hx hb zd_law_33 (by decide) (by decide) (by decide) (by decide) ?_
        exact zl_law_c3 Bz hX hbl hbA hL hi hI hP hS hl hk
      by_cases h4 : w = 4
      · subst h4
        refine lv_tableIn (tgt := 372) (off := 339) hx hb zd_law_33 (by decide) (by decide) (by decide) (by decide) ?_
        exact zl_law_c4 Bz hX hbl hbA hL hi hI hP hS hl hk
      by_cases h5 : w = 5
      · subst h5
        refine lv_tableIn (tgt := 415) (off := 382) hx hb zd_law_33 (by decide) (by decide) (by decide) (by decide) ?_
        exact zl_law_c5 Bz hX hbl hbA hL hi hI hP hS hl hk
      by_cases h6 : w = 6
      · subst h6
        refine lv_tableIn (tgt := 448) (off := 415) hx hb zd_law_33 (by decide) (by decide) (by decide) (by decide) ?_
        exact zl_law_c6 Bz hX hbl hbA hL hi hI hP hS hl hk
      by_cases h7 : w = 7
      · subst h7
        refine lv_tableIn (tgt := 501) (off := 468) hx hb zd_law_33 (by decide) (by decide) (by decide) (by decide) ?_
        exact zl_law_c7 Bz hX hbl hbA hL hi hI hP hS hl hk
      by_cases h8 : w = 8
      · subst h8
        refine lv_tableIn (tgt := 570) (off := 537) hx hb zd_law_33 (by decide) (by decide) (by decide) (by decide) ?_
        exact zl_law_c8 Bz hX hbl hbA hL hi hI hP hS hl hk
      by_cases h9 : w = 9
      · subst h9
        refine lv_tableIn (tgt := 593) (off := 560) hx hb zd_law_33 (by decide) (by decide) (by decide) (by decide) ?_
        exact zl_law_c9 Bz hX hbl hbA hL hi hI hP hS hl hk
      by_cases h10 : w = 10
      · subst h10
        refine lv_tableIn (tgt := 616) (off := 583) hx hb zd_law_33 (by decide) (by decide) (by decide) (by decide) ?_
        exact zl_law_c10 Bz hX hbl hbA hL hi hI hP hS hl hk
      by_cases h11 : w = 11
      · subst h11
        refine lv_tableIn (tgt := 639) (off := 606) hx hb zd_law_33 (by decide) (by decide) (by decide) (by decide) ?_
        exact zl_law_c11 Bz hX hbl hbA hL hi hI hP hS hl hk
      by_cases h12 : w = 12
      · subst h12
        refine lv_tableIn (tgt := 662) (off := 629) hx hb zd_law_33 (by decide) (by decide) (by decide) (by decide) ?_
        exact zl_law_c12 Bz hX hbl hbA hL hi hI hP hS hl hk
      by_cases h13 : w = 13
      · subst h13
        refine lv_tableIn (tgt := 685) (off := 652) hx hb zd_law_33 (by decide) (by decide) (by decide) (by decide) ?_
        exact zl_law_c13 Bz hX hbl hbA hL hi hI hP hS hl hk
      by_cases h14 : w = 14
      · subst h14
        refine lv_tableIn (tgt := 708) (off := 675) hx hb zd_law_33 (by decide) (by decide) (by decide) (by decide) ?_
        exact zl_law_c14 Bz hX hbl hbA hL hi hI hP hS hl hk
      by_cases h15 : w = 15
      · subst h15
        refine lv_tableIn (tgt := 752) (off := 719) hx hb zd_law_33 (by decide) (by decide) (by decide) (by decide) ?_
        exact zl_law_c15 Bz hX hbl hbA hL hi hI hP hS hl hk
      by_cases h16 : w = 16
      · subst h16
        refine lv_tableIn (tgt := 786) (off := 753) hx hb zd_law_33 (by decide) (by decide) (by decide) (by decide) ?_
        exact zl_law_c16 Bz hX hbl hbA hL hi hI hP hS hl hk
      by_cases h17 : w = 17
      · subst h17
        refine lv_tableIn (tgt := 819) (off := 786) hx hb zd_law_33 (by decide) (by decide) (by decide) (by decide) ?_
        exact zl_law_c17 Bz hX hbl hbA hL hi hI hP hS hl hk
      by_cases h18 : w = 18
      · subst h18
        refine lv_tableIn (tgt := 842) (off := 809) hx hb zd_law_33 (by decide) (by decide) (by decide) (by decide) ?_
        exact zl_law_c18 Bz hX hbl hbA hL hi hI hP hS hl hk
      by_cases h19 : w = 19
      · subst h19
        refine lv_tableIn (tgt := 865) (off := 832) hx hb zd_law_33 (by decide) (by decide) (by decide) (by decide) ?_
        exact zl_law_c19 Bz hX hbl hbA hL hi hI hP hS hl hk
      by_cases h20 : w = 20
      · subst h20
        refine lv_tableIn (tgt := 898) (off := 865) hx hb zd_law_33 (by decide) (by decide) (by decide) (by decide) ?_
        exact zl_law_c20 Bz hX hbl hbA hL hi hI hP hS hl hk
      by_cases h21 : w = 21
      · subst h21
        refine lv_tableIn (tgt := 932) (off := 899) hx hb zd_law_33 (by decide) (by decide) (by decide) (by decide) ?_
        exact zl_law_c21 Bz hX hbl hbA hL hi hI hP hS hl hk
      by_cases h22 : w = 22
      · subst h22
        refine lv_tableIn (tgt := 965) (off := 932) hx hb zd_law_33 (by decide) (by decide) (by decide) (by decide) ?_
        exact zl_law_c22 Bz hX hbl hbA hL hi hI hP hS hl hk
      by_cases h23 : w = 23
      · subst h23
        refine lv_tableIn (tgt := 998) (off := 965) hx hb zd_law_33 (by decide) (by decide) (by decide) (by decide) ?_
        exact zl_law_c23 Bz hX hbl hbA hL hi hI hP hS hl hk
      by_cases h24 : w = 24
      · subst h24
        refine lv_tableIn (tgt := 1021) (off := 988) hx hb zd_law_33 (by decide) (by decide) (by decide) (by decide) ?_
        exact zl_law_c24 Bz hX hbl hbA hL hi hI hP hS hl hk
      by_cases h25 : w = 25
      · subst h25
        refine lv_tableIn (tgt := 1054) (off := 1021) hx hb zd_law_33 (by decide) (by decide) (by decide) (by decide) ?_
        exact zl_law_c25 Bz hX hbl hbA hL hi hI hP hS hl hk
      by_cases h26 : w = 26
      · subst h26
        refine lv_tableIn (tgt := 1087) (off := 1054) hx hb zd_law_33 (by decide) (by decide) (by decide) (by decide) ?_
        exact zl_law_c26 Bz hX hbl hbA hL hi hI hP hS hl hk
      by_cases h27 : w = 27
      · subst h27
        refine lv_tableIn (tgt := 1120) (off := 1087) hx hb zd_law_33 (by decide) (by decide) (by decide) (by decide) ?_
        exact zl_law_c27 Bz hX hbl hbA hL hi hI hP hS hl hk
      by_cases h28 : w = 28
      · subst h28
        refine lv_tableIn (tgt := 1154) (off := 1121) hx hb zd_law_33 (by decide) (by decide) (by decide) (by decide) ?_
        exact zl_law_c28 Bz hX hbl hbA hL hi hI hP hS hl hk
      by_cases h29 : w = 29
      · subst h29
        refine lv_tableIn (tgt := 1187) (off := 1154) hx hb zd_law_33 (by decide) (by decide) (by decide) (by decide) ?_
        exact zl_law_c29 Bz hX hbl hbA hL hi hI hP hS hl hk
      by_cases h30 : w = 30
      · subst h30
        refine lv_tableIn (tgt := 1220) (off := 1187) hx hb zd_law_33 (by decide) (by decide) (by decide) (by decide) ?_
        exact zl_law_c30 Bz hX hbl hbA hL hi hI hP hS hl hk
      by_cases h31 : w = 31
      · subst h31
        refine lv_tableIn (tgt := 1253) (off := 1220) hx hb zd_law_33 (by decide) (by decide) (by decide) (by decide) ?_
        exact zl_law_c31 Bz hX hbl hbA hL hi hI hP hS hl hk
      by_cases h32 : w = 32
      · subst h32
        refine lv_tableIn (tgt := 1266) (off := 1233) hx hb zd_law_33 (by decide) (by decide) (by decide) (by decide) ?_
        exact zl_law_c32 Bz hX hbl hbA hL hi hI hP hS hl hk
      by_cases h33 : w = 33
      · subst h33
        refine lv_tableIn (tgt := 1289) (off := 1256) hx hb zd_law_33 (by decide) (by decide) (by decide) (by decide) ?_
        exact zl_law_c33 Bz hX hbl hbA hL hi hI hP hS hl hk
      by_cases h34 : w = 34
      · subst h34
        refine lv_tableIn (tgt := 1322) (off := 1289) hx hb zd_law_33 (by decide) (by decide) (by decide) (by decide) ?_
        exact zl_law_c34 Bz hX hbl hbA hL hi hI hP hS hl hk
      by_cases h35 : w = 35
      · subst h35
        refine lv_tableIn (tgt := 1335) (off := 1302) hx hb zd_law_33 (by decide) (by decide) (by decide) (by decide) ?_
        exact zl_law_c35 Bz hX hbl hbA hL hi hI hP hS hl hk
      by_cases h36 : w = 36
      · subst h36
        refine lv_tableIn (tgt := 1348) (off := 1315) hx hb zd_law_33 (by decide) (by decide) (by decide) (by decide) ?_
        exact zl_law_c36 Bz hX hbl hbA hL hi hI hP hS hl hk
      by_cases h37 : w = 37
      · subst h37
        refine lv_tableIn (tgt := 1381) (off := 1348) hx hb zd_law_33 (by decide) (by decide) (by decide) (by decide) ?_
        exact zl_law_c37 Bz hX hbl hbA hL hi hI hP hS hl hk
      by_cases h38 : w = 38
      · subst h38
        refine lv_tableIn (tgt := 1414) (off := 1381) hx hb zd_law_33 (by decide) (by decide) (by decide) (by decide) ?_
        exact zl_law_c38 Bz hX hbl hbA hL hi hI hP hS hl hk
      by_cases h39 : w = 39
      · subst h39
        refine lv_tableIn (tgt := 1457) (off := 1424) hx hb zd_law_33 (by decide) (by decide) (by decide) (by decide) ?_
        exact zl_law_c39 Bz hX hbl hbA hL hi hI hP hS hl hk
      by_cases h40 : w = 40
      · subst h40
        refine lv_tableIn (tgt := 1500) (off := 1467) hx hb zd_law_33 (by decide) (by decide) (by decide) (by decide) ?_
        exact zl_law_c40 Bz hX hbl hbA hL hi hI hP hS hl hk
      by_cases h41 : w = 41
      · subst h41
        refine lv_tableIn (tgt := 1563) (off := 1530) hx hb zd_law_33 (by decide) (by decide) (by decide) (by decide) ?_
        exact zl_law_c41 Bz hX hbl hbA hL hi hI hP hS hl hk
      by_cases h42 : w = 42
      · subst h42
        refine lv_tableIn (tgt := 1586) (off := 1553) hx hb zd_law_33 (by decide) (by decide) (by decide) (by decide) ?_
        exact zl_law_c42 Bz hX hbl hbA hL hi hI hP hS hl hk
      by_cases h43 : w = 43
      · subst h43
        refine lv_tableIn (tgt := 1619) (off := 1586) hx hb zd_law_33 (by decide) (by decide) (by decide) (by decide) ?_
        exact zl_law_c43 Bz hX hbl hbA hL hi hI hP hS hl hk
      by_cases h44 : w = 44
      · subst h44
        refine lv_tableIn (tgt := 1632) (off := 1599) hx hb zd_law_33 (by decide) (by decide) (by decide) (by decide) ?_
        exact zl_law_c44 Bz hX hbl hbA hL hi hI hP hS hl hk
      by_cases h45 : w = 45
      · subst h45
        refine lv_tableIn (tgt := 1645) (off := 1612) hx hb zd_law_33 (by decide) (by decide) (by decide) (by decide) ?_
        exact zl_law_c45 Bz hX hbl hbA hL hi hI hP hS hl hk
      by_cases h46 : w = 46
      · subst h46
        refine lv_tableIn (tgt := 1658) (off := 1625) hx hb zd_law_33 (by decide) (by decide) (by decide) (by decide) ?_
        exact zl_law_c46 Bz hX hbl hbA hL hi hI hP hS hl hk
      by_cases h47 : w = 47
      · subst h47
        refine lv_tableIn (tgt := 1681) (off := 1648) hx hb zd_law_33 (by decide) (by decide) (by decide) (by decide) ?_
        exact zl_law_c47 Bz hX hbl hbA hL hi hI hP hS hl hk
      have hsw : w.toInt < 0 ∨ 47 < w.toInt := by
        have n0 := lv_neT h0 (a := 0) (by decide)
        have n1 := lv_neT h1 (a := 1) (by decide)
        have n2 := lv_neT h2 (a := 2) (by decide)
        have n3 := lv_neT h3 (a := 3) (by decide)
        have n4 := lv_neT h4 (a := 4) (by decide)
        have n5 := lv_neT h5 (a := 5) (by decide)
        have n6 := lv_neT h6 (a := 6) (by decide)
        have n7 := lv_neT h7 (a := 7) (by decide)
        have n8 := lv_neT h8 (a := 8) (by decide)
        have n9 := lv_neT h9 (a := 9) (by decide)
        have n10 := lv_neT h10 (a := 10) (by decide)
        have n11 := lv_neT h11 (a := 11) (by decide)
        have n12 := lv_neT h12 (a := 12) (by decide)
        have n13 := lv_neT h13 (a := 13) (by decide)
        have n14 := lv_neT h14 (a := 14) (by decide)
        have n15 := lv_neT h15 (a := 15) (by decide)
        have n16 := lv_neT h16 (a := 16) (by decide)
        have n17 := lv_neT h17 (a := 17) (by decide)
        have n18 := lv_neT h18 (a := 18) (by decide)
        have n19 := lv_neT h19 (a := 19) (by decide)
        have n20 := lv_neT h20 (a := 20) (by decide)
        have n21 := lv_neT h21 (a := 21) (by decide)
        have n22 := lv_neT h22 (a := 22) (by decide)
        have n23 := lv_neT h23 (a := 23) (by decide)
        have n24 := lv_neT h24 (a := 24) (by decide)
        have n25 := lv_neT h25 (a := 25) (by decide)
        have n26 := lv_neT h26 (a := 26) (by decide)
        have n27 := lv_neT h27 (a := 27) (by decide)
        have n28 := lv_neT h28 (a := 28) (by decide)
        have n29 := lv_neT h29 (a := 29) (by decide)
        have n30 := lv_neT h30 (a := 30) (by decide)
        have n31 := lv_neT h31 (a := 31) (by decide)
        have n32 := lv_neT h32 (a := 32) (by decide)
        have n33 := lv_neT h33 (a := 33) (by decide)
        have n34 := lv_neT h34 (a := 34) (by decide)
        have n35 := lv_neT h35 (a := 35) (by decide)
        have n36 := lv_neT h36 (a := 36) (by decide)
        have n37 := lv_neT h37 (a := 37) (by decide)
        have n38 := lv_neT h38 (a := 38) (by decide)
        have n39 := lv_neT h39 (a := 39) (by decide)
        have n40 := lv_neT h40 (a := 40) (by decide)
        have n41 := lv_neT h41 (a := 41) (by decide)
        have n42 := lv_neT h42 (a := 42) (by decide)
        have n43 := lv_neT h43 (a := 43) (by decide)
        have n44 := lv_neT h44 (a := 44) (by decide)
        have n45 := lv_neT h45 (a := 45) (by decide)
        have n46 := lv_neT h46 (a := 46) (by decide)
        have n47 := lv_neT h47 (a := 47) (by decide)
        omega
      refine lv_tableOut (tgt := 1704) hx hb zd_law_33 hsw (by decide) ?_
      exact hk X Y H locs ls hI hP hS hl
