/-! THE CLAIM OUT OF ONE WALK OF THE LAW'S BODY. Your part is whole_start (and what it stands on); all else here is the same for every law, but numbers. -/
def R_law : String := "StonePostLaw"
def lw_P (b : Addr) (xs : List Int32) (args : Array Value) (s : State) : Prop := args = #[.ref b] ∧ s.IntsAt b xs ∧ xs.length ≤ 384 ∧ (Jvm.Cond.and given_1 narrow_1).before args s = true
def lw_Q (_ : Array Value) (s : State) (o : Outcome) (t : State) : Prop := o = .returned (some (.int 1)) ∧ Framed s o t [] 600000 7302250
def lw_Z (below : List Frame) (a : Array Value) (s : State) : State → Prop := fun t => ∃ o, t.status = .running ∧ Ended t below o ∧ lw_Q a s o t
/-- the law's own end, with 1 on the stack, nothing written that was there before, its room as the claim has it -/
theorem lw_ret {p : Program} {l : Launch} {e : Env} {s : State} {m : MethodId} {below : List Frame} {meth : Method} {c : Code} {b : Nat} (hx : p.tables.exec = Jvm.exec) (hb : c.code = code) (hr : meth.sig.returnType = ret) (hlocks : meth.locks = false) {pc : Nat} {H : Heap} {ls : Array Slot} (hdg : decode code pc = .ok (.ireturn, 1)) : W p l e room_1 s m #[Value.ref b] below meth c H [] 600000 7302250 (lw_Z below #[Value.ref b] s) (F0 m pc ls [.int 1]) := by
  intro T hT X
  obtain ⟨fs, hret, hrun, hended, hW, hframe⟩ := X.leave (v := some (.int 1)) (hlocks := hlocks) (fun h => by rw [hr] at h; cases h)
  have hmeth' : T.vm.method? m = some meth := X.method'
  refine ⟨T.setFrames fs, ?_, .returned (some (.int 1)), hrun, hended, rfl, ⟨_, rfl⟩, hW, hframe⟩
  jvm_step X.here [X.here.top, hx, hb, hdg, hmeth', hr, ret, narrow_b1]
  (try refine ⟨rfl, ?_⟩); (try refine ⟨rfl, ?_⟩)
  first | (intro acts; rw [hret _ acts rfl rfl rfl]) | rw [hret _ _ rfl rfl rfl]
  exact Steps.refl _
/-- what holds at the law's entry: the machine, the code, the tables' words (any of lw_tbl by 'hts w (by decide +kernel)'), the script of L ints xs at the cell b, what the Statement gives of the start (any of its parts by flat_of_before) -/
def lw_At (p : Program) (s : State) (m : MethodId) (meth : Method) (c : Code) (b L : Nat) (xs : Nat → Int32) : Prop :=
  p.tables.exec = Jvm.exec ∧ c.code = code ∧ meth.sig.returnType = ret ∧ c.maxLocals = 4 ∧ s.vm.findClass R_law = some m.cls ∧ (∀ w ∈ lw_tbl, w.before #[Value.ref b] s = true) ∧ va_X b L xs s s.heap ∧ b < s.heap.size ∧ meth.locks = false ∧ (Jvm.Cond.and given_1 narrow_1).before #[Value.ref b] s = true
theorem zq_1018 : Cond.methodLink "StonePostLaw" 48 zm_Mod_falls ∈ zu_TB := zu_in 1018 (by decide +kernel) (by decide +kernel)
theorem zq_1026 : Cond.methodLink "StonePostLaw" 53 zm_Mod_next ∈ zu_TB := zu_in 1026 (by decide +kernel) (by decide +kernel)
theorem zq_1042 : Cond.methodLink "StonePostLaw" 57 zm_Mod_letter ∈ zu_TB := zu_in 1042 (by decide +kernel) (by decide +kernel)
theorem zq_1046 : Cond.methodLink "StonePostLaw" 61 zm_Mod_where ∈ zu_TB := zu_in 1046 (by decide +kernel) (by decide +kernel)
theorem zq_1054 : Cond.methodLink "StonePostLaw" 65 zm_Mod_take ∈ zu_TB := zu_in 1054 (by decide +kernel) (by decide +kernel)
theorem zq_1058 : Cond.methodLink "StonePostLaw" 69 zm_Mod_hours ∈ zu_TB := zu_in 1058 (by decide +kernel) (by decide +kernel)
theorem zq_1085 : Cond.methodLink "StonePostLaw" 73 zm_Mod_letters ∈ zu_TB := zu_in 1085 (by decide +kernel) (by decide +kernel)
theorem zq_1090 : Cond.methodLink "StonePostLaw" 78 zm_Mod_odds ∈ zu_TB := zu_in 1090 (by decide +kernel) (by decide +kernel)
theorem zq_1101 : Cond.methodLink "StonePostLaw" 83 zm_Mod_lost ∈ zu_TB := zu_in 1101 (by decide +kernel) (by decide +kernel)
theorem zq_1105 : Cond.methodLink "StonePostLaw" 87 zm_Mod_likeliest ∈ zu_TB := zu_in 1105 (by decide +kernel) (by decide +kernel)
theorem zq_1109 : Cond.methodLink "StonePostLaw" 91 zm_Mod_fewest ∈ zu_TB := zu_in 1109 (by decide +kernel) (by decide +kernel)
theorem zq_1128 : Cond.methodLink "StonePostLaw" 95 zm_Mod_free ∈ zu_TB := zu_in 1128 (by decide +kernel) (by decide +kernel)
theorem zq_1132 : Cond.methodLink "StonePostLaw" 99 zm_Mod_may ∈ zu_TB := zu_in 1132 (by decide +kernel) (by decide +kernel)
theorem zq_1140 : Cond.methodLink "StonePostLaw" 103 zm_Mod_best ∈ zu_TB := zu_in 1140 (by decide +kernel) (by decide +kernel)
theorem zq_1152 : Cond.methodLink "StonePostLaw" 107 zm_Mod_choose ∈ zu_TB := zu_in 1152 (by decide +kernel) (by decide +kernel)
theorem zq_1157 : Cond.methodLink "StonePostLaw" 111 zm_Mod_plan ∈ zu_TB := zu_in 1157 (by decide +kernel) (by decide +kernel)
theorem zq_1178 : Cond.methodLink "StonePostLaw" 115 zm_Mod_set ∈ zu_TB := zu_in 1178 (by decide +kernel) (by decide +kernel)
theorem zq_1182 : Cond.methodLink "StonePostLaw" 119 zm_Mod_missed ∈ zu_TB := zu_in 1182 (by decide +kernel) (by decide +kernel)
theorem zq_1190 : Cond.methodLink "StonePostLaw" 123 zm_Mod_stand ∈ zu_TB := zu_in 1190 (by decide +kernel) (by decide +kernel)
theorem zq_1194 : Cond.methodLink "StonePostLaw" 127 zm_Mod_fetchFor ∈ zu_TB := zu_in 1194 (by decide +kernel) (by decide +kernel)
theorem zq_1198 : Cond.methodLink "StonePostLaw" 131 zm_Mod_copies ∈ zu_TB := zu_in 1198 (by decide +kernel) (by decide +kernel)
theorem zq_1205 : Cond.methodLink "StonePostLaw" 135 zm_Mod_whose ∈ zu_TB := zu_in 1205 (by decide +kernel) (by decide +kernel)
theorem zq_1209 : Cond.methodLink "StonePostLaw" 139 zm_Mod_from ∈ zu_TB := zu_in 1209 (by decide +kernel) (by decide +kernel)
theorem zq_1213 : Cond.methodLink "StonePostLaw" 143 zm_Mod_thief ∈ zu_TB := zu_in 1213 (by decide +kernel) (by decide +kernel)
theorem zq_1218 : Cond.methodLink "StonePostLaw" 148 zm_Mod_gifts ∈ zu_TB := zu_in 1218 (by decide +kernel) (by decide +kernel)
theorem zq_1226 : Cond.methodLink "StonePostLaw" 152 zm_Mod_seed ∈ zu_TB := zu_in 1226 (by decide +kernel) (by decide +kernel)
theorem zq_1230 : Cond.methodLink "StonePostLaw" 156 zm_Mod_feed ∈ zu_TB := zu_in 1230 (by decide +kernel) (by decide +kernel)
theorem zq_1235 : Cond.methodLink "StonePostLaw" 160 zm_Mod_wipe ∈ zu_TB := zu_in 1235 (by decide +kernel) (by decide +kernel)
theorem zq_1239 : Cond.methodLink "StonePostLaw" 164 zm_Mod_text ∈ zu_TB := zu_in 1239 (by decide +kernel) (by decide +kernel)
theorem zq_1326 : Cond.methodLink "StonePostLaw" 168 zm_Mod_hold ∈ zu_TB := zu_in 1326 (by decide +kernel) (by decide +kernel)
theorem zq_1330 : Cond.methodLink "StonePostLaw" 172 zm_Mod_as ∈ zu_TB := zu_in 1330 (by decide +kernel) (by decide +kernel)
theorem zq_1336 : Cond.methodLink "StonePostLaw" 176 zm_Mod_sheet ∈ zu_TB := zu_in 1336 (by decide +kernel) (by decide +kernel)
theorem zq_1343 : Cond.methodLink "StonePostLaw" 180 zm_Mod_write ∈ zu_TB := zu_in 1343 (by decide +kernel) (by decide +kernel)
theorem zq_1354 : Cond.methodLink "StonePostLaw" 185 zm_Mod_copy ∈ zu_TB := zu_in 1354 (by decide +kernel) (by decide +kernel)
theorem zq_1358 : Cond.methodLink "StonePostLaw" 189 zm_Mod_load ∈ zu_TB := zu_in 1358 (by decide +kernel) (by decide +kernel)
theorem zq_1362 : Cond.methodLink "StonePostLaw" 193 zm_Mod_judge ∈ zu_TB := zu_in 1362 (by decide +kernel) (by decide +kernel)
theorem zq_1366 : Cond.methodLink "StonePostLaw" 197 zm_Mod_image ∈ zu_TB := zu_in 1366 (by decide +kernel) (by decide +kernel)
theorem zq_1370 : Cond.methodLink "StonePostLaw" 201 zm_Mod_undo ∈ zu_TB := zu_in 1370 (by decide +kernel) (by decide +kernel)
theorem zq_1374 : Cond.methodLink "StonePostLaw" 205 zm_Mod_tear ∈ zu_TB := zu_in 1374 (by decide +kernel) (by decide +kernel)
theorem zq_1378 : Cond.methodLink "StonePostLaw" 209 zm_Mod_count ∈ zu_TB := zu_in 1378 (by decide +kernel) (by decide +kernel)
theorem zq_1390 : Cond.methodLink "StonePostLaw" 213 zm_Mod_status ∈ zu_TB := zu_in 1390 (by decide +kernel) (by decide +kernel)
theorem zq_17 : Cond.classLink "StonePostLaw" 7 "StonePost" ∈ zu_TB := zu_in 17 (by decide +kernel) (by decide +kernel)
theorem zq_18 : Cond.instantiable "StonePost" 8 ∈ zu_TB := zu_in 18 (by decide +kernel) (by decide +kernel)
theorem zq_19 : Cond.methodLink "StonePostLaw" 9 zm_Post_init ∈ zu_TB := zu_in 19 (by decide +kernel) (by decide +kernel)
theorem zq_20 : Cond.instanceMethod zm_Post_init ∈ zu_TB := zu_in 20 (by decide +kernel) (by decide +kernel)
theorem zq_21 : Cond.code zm_Post_init zb_Post_init 2 none ∈ zu_TB := zu_in 21 (by decide +kernel) (by decide +kernel)
theorem zq_216 : Cond.methodLink "StonePostLaw" 13 zm_Post_stuff ∈ zu_TB := zu_in 216 (by decide +kernel) (by decide +kernel)
theorem zq_231 : Cond.methodLink "StonePostLaw" 18 zm_Post_rule ∈ zu_TB := zu_in 231 (by decide +kernel) (by decide +kernel)
theorem zq_235 : Cond.methodLink "StonePostLaw" 22 zm_Post_thrower ∈ zu_TB := zu_in 235 (by decide +kernel) (by decide +kernel)
theorem zq_261 : Cond.methodLink "StonePostLaw" 26 zm_Post_of ∈ zu_TB := zu_in 261 (by decide +kernel) (by decide +kernel)
theorem zq_269 : Cond.methodLink "StonePostLaw" 30 zm_Post_change ∈ zu_TB := zu_in 269 (by decide +kernel) (by decide +kernel)
theorem zq_281 : Cond.methodLink "StonePostLaw" 35 zm_Post_walk ∈ zu_TB := zu_in 281 (by decide +kernel) (by decide +kernel)
theorem zq_285 : Cond.methodLink "StonePostLaw" 39 zm_Post_told ∈ zu_TB := zu_in 285 (by decide +kernel) (by decide +kernel)
theorem zq_306 : Cond.methodLink "StonePostLaw" 44 zm_Post_falls ∈ zu_TB := zu_in 306 (by decide +kernel) (by decide +kernel)
theorem zq_326 : Cond.methodLink "StonePostLaw" 49 zm_Post_next ∈ zu_TB := zu_in 326 (by decide +kernel) (by decide +kernel)
theorem zq_358 : Cond.methodLink "StonePostLaw" 54 zm_Post_letter ∈ zu_TB := zu_in 358 (by decide +kernel) (by decide +kernel)
theorem zq_366 : Cond.methodLink "StonePostLaw" 58 zm_Post_where ∈ zu_TB := zu_in 366 (by decide +kernel) (by decide +kernel)
theorem zq_374 : Cond.methodLink "StonePostLaw" 62 zm_Post_take ∈ zu_TB := zu_in 374 (by decide +kernel) (by decide +kernel)
theorem zq_378 : Cond.methodLink "StonePostLaw" 66 zm_Post_hours ∈ zu_TB := zu_in 378 (by decide +kernel) (by decide +kernel)
theorem zq_441 : Cond.methodLink "StonePostLaw" 70 zm_Post_letters ∈ zu_TB := zu_in 441 (by decide +kernel) (by decide +kernel)
theorem zq_446 : Cond.methodLink "StonePostLaw" 74 zm_Post_odds ∈ zu_TB := zu_in 446 (by decide +kernel) (by decide +kernel)
theorem zq_459 : Cond.methodLink "StonePostLaw" 79 zm_Post_lost ∈ zu_TB := zu_in 459 (by decide +kernel) (by decide +kernel)
theorem zq_463 : Cond.methodLink "StonePostLaw" 84 zm_Post_likeliest ∈ zu_TB := zu_in 463 (by decide +kernel) (by decide +kernel)
theorem zq_467 : Cond.methodLink "StonePostLaw" 88 zm_Post_fewest ∈ zu_TB := zu_in 467 (by decide +kernel) (by decide +kernel)
theorem zq_487 : Cond.methodLink "StonePostLaw" 92 zm_Post_free ∈ zu_TB := zu_in 487 (by decide +kernel) (by decide +kernel)
theorem zq_491 : Cond.methodLink "StonePostLaw" 96 zm_Post_may ∈ zu_TB := zu_in 491 (by decide +kernel) (by decide +kernel)
theorem zq_495 : Cond.methodLink "StonePostLaw" 100 zm_Post_best ∈ zu_TB := zu_in 495 (by decide +kernel) (by decide +kernel)
theorem zq_510 : Cond.methodLink "StonePostLaw" 104 zm_Post_choose ∈ zu_TB := zu_in 510 (by decide +kernel) (by decide +kernel)
theorem zq_518 : Cond.methodLink "StonePostLaw" 108 zm_Post_plan ∈ zu_TB := zu_in 518 (by decide +kernel) (by decide +kernel)
theorem zq_524 : Cond.methodLink "StonePostLaw" 112 zm_Post_set ∈ zu_TB := zu_in 524 (by decide +kernel) (by decide +kernel)
theorem zq_535 : Cond.methodLink "StonePostLaw" 116 zm_Post_missed ∈ zu_TB := zu_in 535 (by decide +kernel) (by decide +kernel)
theorem zq_548 : Cond.methodLink "StonePostLaw" 120 zm_Post_stand ∈ zu_TB := zu_in 548 (by decide +kernel) (by decide +kernel)
theorem zq_552 : Cond.methodLink "StonePostLaw" 124 zm_Post_fetchFor ∈ zu_TB := zu_in 552 (by decide +kernel) (by decide +kernel)
theorem zq_556 : Cond.methodLink "StonePostLaw" 128 zm_Post_copies ∈ zu_TB := zu_in 556 (by decide +kernel) (by decide +kernel)
theorem zq_561 : Cond.methodLink "StonePostLaw" 132 zm_Post_whose ∈ zu_TB := zu_in 561 (by decide +kernel) (by decide +kernel)
theorem zq_572 : Cond.methodLink "StonePostLaw" 136 zm_Post_from ∈ zu_TB := zu_in 572 (by decide +kernel) (by decide +kernel)
theorem zq_580 : Cond.methodLink "StonePostLaw" 140 zm_Post_thief ∈ zu_TB := zu_in 580 (by decide +kernel) (by decide +kernel)
theorem zq_588 : Cond.methodLink "StonePostLaw" 144 zm_Post_gifts ∈ zu_TB := zu_in 588 (by decide +kernel) (by decide +kernel)
theorem zq_609 : Cond.methodLink "StonePostLaw" 149 zm_Post_seed ∈ zu_TB := zu_in 609 (by decide +kernel) (by decide +kernel)
theorem zq_613 : Cond.methodLink "StonePostLaw" 153 zm_Post_feed ∈ zu_TB := zu_in 613 (by decide +kernel) (by decide +kernel)
theorem zq_617 : Cond.methodLink "StonePostLaw" 157 zm_Post_wipe ∈ zu_TB := zu_in 617 (by decide +kernel) (by decide +kernel)
theorem zq_621 : Cond.methodLink "StonePostLaw" 161 zm_Post_text ∈ zu_TB := zu_in 621 (by decide +kernel) (by decide +kernel)
theorem zq_762 : Cond.methodLink "StonePostLaw" 165 zm_Post_hold ∈ zu_TB := zu_in 762 (by decide +kernel) (by decide +kernel)
theorem zq_766 : Cond.methodLink "StonePostLaw" 169 zm_Post_as ∈ zu_TB := zu_in 766 (by decide +kernel) (by decide +kernel)
theorem zq_779 : Cond.methodLink "StonePostLaw" 173 zm_Post_sheet ∈ zu_TB := zu_in 779 (by decide +kernel) (by decide +kernel)
theorem zq_794 : Cond.methodLink "StonePostLaw" 177 zm_Post_write ∈ zu_TB := zu_in 794 (by decide +kernel) (by decide +kernel)
theorem zq_806 : Cond.methodLink "StonePostLaw" 181 zm_Post_copy ∈ zu_TB := zu_in 806 (by decide +kernel) (by decide +kernel)
theorem zq_815 : Cond.methodLink "StonePostLaw" 186 zm_Post_load ∈ zu_TB := zu_in 815 (by decide +kernel) (by decide +kernel)
theorem zq_819 : Cond.methodLink "StonePostLaw" 190 zm_Post_judge ∈ zu_TB := zu_in 819 (by decide +kernel) (by decide +kernel)
theorem zq_827 : Cond.methodLink "StonePostLaw" 194 zm_Post_image ∈ zu_TB := zu_in 827 (by decide +kernel) (by decide +kernel)
theorem zq_831 : Cond.methodLink "StonePostLaw" 198 zm_Post_undo ∈ zu_TB := zu_in 831 (by decide +kernel) (by decide +kernel)
theorem zq_835 : Cond.methodLink "StonePostLaw" 202 zm_Post_tear ∈ zu_TB := zu_in 835 (by decide +kernel) (by decide +kernel)
theorem zq_839 : Cond.methodLink "StonePostLaw" 206 zm_Post_count ∈ zu_TB := zu_in 839 (by decide +kernel) (by decide +kernel)
theorem zq_851 : Cond.methodLink "StonePostLaw" 210 zm_Post_status ∈ zu_TB := zu_in 851 (by decide +kernel) (by decide +kernel)
theorem zq_855 : Cond.classLink "StonePostLaw" 10 "StonePostModel" ∈ zu_TB := zu_in 855 (by decide +kernel) (by decide +kernel)
theorem zq_856 : Cond.instantiable "StonePostModel" 23 ∈ zu_TB := zu_in 856 (by decide +kernel) (by decide +kernel)
theorem zq_857 : Cond.methodLink "StonePostLaw" 12 zm_Mod_init ∈ zu_TB := zu_in 857 (by decide +kernel) (by decide +kernel)
theorem zq_858 : Cond.instanceMethod zm_Mod_init ∈ zu_TB := zu_in 858 (by decide +kernel) (by decide +kernel)
theorem zq_859 : Cond.code zm_Mod_init zb_Mod_init 2 none ∈ zu_TB := zu_in 859 (by decide +kernel) (by decide +kernel)
theorem zq_931 : Cond.methodLink "StonePostLaw" 17 zm_Mod_stuff ∈ zu_TB := zu_in 931 (by decide +kernel) (by decide +kernel)
theorem zq_948 : Cond.methodLink "StonePostLaw" 21 zm_Mod_rule ∈ zu_TB := zu_in 948 (by decide +kernel) (by decide +kernel)
theorem zq_953 : Cond.methodLink "StonePostLaw" 25 zm_Mod_thrower ∈ zu_TB := zu_in 953 (by decide +kernel) (by decide +kernel)
theorem zq_975 : Cond.methodLink "StonePostLaw" 29 zm_Mod_of ∈ zu_TB := zu_in 975 (by decide +kernel) (by decide +kernel)
theorem zq_984 : Cond.methodLink "StonePostLaw" 34 zm_Mod_change ∈ zu_TB := zu_in 984 (by decide +kernel) (by decide +kernel)
theorem zq_992 : Cond.methodLink "StonePostLaw" 38 zm_Mod_walk ∈ zu_TB := zu_in 992 (by decide +kernel) (by decide +kernel)
theorem zq_996 : Cond.methodLink "StonePostLaw" 43 zm_Mod_told ∈ zu_TB := zu_in 996 (by decide +kernel) (by decide +kernel)
theorem zd_law_0 : decode code 0 = .ok (.new 7, 3) := by decide +kernel
theorem zd_law_3 : decode code 3 = .ok (.dup, 1) := by decide +kernel
theorem zd_law_4 : decode code 4 = .ok (.invokespecial 9, 3) := by decide +kernel
theorem zd_law_7 : decode code 7 = .ok (.astore_n 1, 1) := by decide +kernel
theorem zd_law_8 : decode code 8 = .ok (.new 10, 3) := by decide +kernel
theorem zd_law_11 : decode code 11 = .ok (.dup, 1) := by decide +kernel
theorem zd_law_12 : decode code 12 = .ok (.invokespecial 12, 3) := by decide +kernel
theorem zd_law_15 : decode code 15 = .ok (.astore_n 2, 1) := by decide +kernel
theorem zd_law_16 : decode code 16 = .ok (.iconst 0, 1) := by decide +kernel
theorem zd_law_17 : decode code 17 = .ok (.istore_n 3, 1) := by decide +kernel
theorem zd_law_18 : decode code 18 = .ok (.iload_n 3, 1) := by decide +kernel
theorem zd_law_19 : decode code 19 = .ok (.aload_n 0, 1) := by decide +kernel
theorem zd_law_20 : decode code 20 = .ok (.arraylength, 1) := by decide +kernel
theorem zd_law_21 : decode code 21 = .ok (.bipush 6, 2) := by decide +kernel
theorem zd_law_23 : decode code 23 = .ok (.isub, 1) := by decide +kernel
theorem zd_law_24 : decode code 24 = .ok (.if_icmp .gt 1686, 3) := by decide +kernel
theorem zd_law_27 : decode code 27 = .ok (.aload_n 0, 1) := by decide +kernel
theorem zd_law_28 : decode code 28 = .ok (.iload_n 3, 1) := by decide +kernel
theorem zd_law_29 : decode code 29 = .ok (.iaload, 1) := by decide +kernel
theorem zd_law_30 : decode code 30 = .ok (.bipush 63, 2) := by decide +kernel
theorem zd_law_32 : decode code 32 = .ok (.iand, 1) := by decide +kernel
theorem zd_law_33 : decode code 33 = .ok (.tableswitch 1671 0 47 #[207, 240, 273, 306, 339, 382, 415, 468, 537, 560, 583, 606, 629, 652, 675, 719, 753, 786, 809, 832, 865, 899, 932, 965, 988, 1021, 1054, 1087, 1121, 1154, 1187, 1220, 1233, 1256, 1289, 1302, 1315, 1348, 1381, 1424, 1467, 1530, 1553, 1586, 1599, 1612, 1625, 1648], 207) := by decide +kernel
theorem zd_law_240 : decode code 240 = .ok (.aload_n 1, 1) := by decide +kernel
theorem zd_law_241 : decode code 241 = .ok (.aload_n 0, 1) := by decide +kernel
theorem zd_law_242 : decode code 242 = .ok (.iload_n 3, 1) := by decide +kernel
theorem zd_law_243 : decode code 243 = .ok (.iconst 1, 1) := by decide +kernel
theorem zd_law_244 : decode code 244 = .ok (.iadd, 1) := by decide +kernel
theorem zd_law_245 : decode code 245 = .ok (.iaload, 1) := by decide +kernel
theorem zd_law_246 : decode code 246 = .ok (.aload_n 0, 1) := by decide +kernel
theorem zd_law_247 : decode code 247 = .ok (.iload_n 3, 1) := by decide +kernel
theorem zd_law_248 : decode code 248 = .ok (.iconst 2, 1) := by decide +kernel
theorem zd_law_249 : decode code 249 = .ok (.iadd, 1) := by decide +kernel
theorem zd_law_250 : decode code 250 = .ok (.iaload, 1) := by decide +kernel
theorem zd_law_251 : decode code 251 = .ok (.invokevirtual 13, 3) := by decide +kernel
theorem zd_law_254 : decode code 254 = .ok (.aload_n 2, 1) := by decide +kernel
theorem zd_law_255 : decode code 255 = .ok (.aload_n 0, 1) := by decide +kernel
theorem zd_law_256 : decode code 256 = .ok (.iload_n 3, 1) := by decide +kernel
theorem zd_law_257 : decode code 257 = .ok (.iconst 1, 1) := by decide +kernel
theorem zd_law_258 : decode code 258 = .ok (.iadd, 1) := by decide +kernel
theorem zd_law_259 : decode code 259 = .ok (.iaload, 1) := by decide +kernel
theorem zd_law_260 : decode code 260 = .ok (.aload_n 0, 1) := by decide +kernel
theorem zd_law_261 : decode code 261 = .ok (.iload_n 3, 1) := by decide +kernel
theorem zd_law_262 : decode code 262 = .ok (.iconst 2, 1) := by decide +kernel
theorem zd_law_263 : decode code 263 = .ok (.iadd, 1) := by decide +kernel
theorem zd_law_264 : decode code 264 = .ok (.iaload, 1) := by decide +kernel
theorem zd_law_265 : decode code 265 = .ok (.invokevirtual 17, 3) := by decide +kernel
theorem zd_law_268 : decode code 268 = .ok (.if_icmp .eq 1436, 3) := by decide +kernel
theorem zd_law_273 : decode code 273 = .ok (.aload_n 1, 1) := by decide +kernel
theorem zd_law_274 : decode code 274 = .ok (.aload_n 0, 1) := by decide +kernel
theorem zd_law_275 : decode code 275 = .ok (.iload_n 3, 1) := by decide +kernel
theorem zd_law_276 : decode code 276 = .ok (.iconst 1, 1) := by decide +kernel
theorem zd_law_277 : decode code 277 = .ok (.iadd, 1) := by decide +kernel
theorem zd_law_278 : decode code 278 = .ok (.iaload, 1) := by decide +kernel
theorem zd_law_279 : decode code 279 = .ok (.aload_n 0, 1) := by decide +kernel
theorem zd_law_280 : decode code 280 = .ok (.iload_n 3, 1) := by decide +kernel
theorem zd_law_281 : decode code 281 = .ok (.iconst 2, 1) := by decide +kernel
theorem zd_law_282 : decode code 282 = .ok (.iadd, 1) := by decide +kernel
theorem zd_law_283 : decode code 283 = .ok (.iaload, 1) := by decide +kernel
theorem zd_law_284 : decode code 284 = .ok (.invokevirtual 18, 3) := by decide +kernel
theorem zd_law_287 : decode code 287 = .ok (.aload_n 2, 1) := by decide +kernel
theorem zd_law_288 : decode code 288 = .ok (.aload_n 0, 1) := by decide +kernel
theorem zd_law_289 : decode code 289 = .ok (.iload_n 3, 1) := by decide +kernel
theorem zd_law_290 : decode code 290 = .ok (.iconst 1, 1) := by decide +kernel
theorem zd_law_291 : decode code 291 = .ok (.iadd, 1) := by decide +kernel
theorem zd_law_292 : decode code 292 = .ok (.iaload, 1) := by decide +kernel
theorem zd_law_293 : decode code 293 = .ok (.aload_n 0, 1) := by decide +kernel
theorem zd_law_294 : decode code 294 = .ok (.iload_n 3, 1) := by decide +kernel
theorem zd_law_295 : decode code 295 = .ok (.iconst 2, 1) := by decide +kernel
theorem zd_law_296 : decode code 296 = .ok (.iadd, 1) := by decide +kernel
theorem zd_law_297 : decode code 297 = .ok (.iaload, 1) := by decide +kernel
theorem zd_law_298 : decode code 298 = .ok (.invokevirtual 21, 3) := by decide +kernel
theorem zd_law_301 : decode code 301 = .ok (.if_icmp .eq 1403, 3) := by decide +kernel
theorem zd_law_306 : decode code 306 = .ok (.aload_n 1, 1) := by decide +kernel
theorem zd_law_307 : decode code 307 = .ok (.aload_n 0, 1) := by decide +kernel
theorem zd_law_308 : decode code 308 = .ok (.iload_n 3, 1) := by decide +kernel
theorem zd_law_309 : decode code 309 = .ok (.iconst 1, 1) := by decide +kernel
theorem zd_law_310 : decode code 310 = .ok (.iadd, 1) := by decide +kernel
theorem zd_law_311 : decode code 311 = .ok (.iaload, 1) := by decide +kernel
theorem zd_law_312 : decode code 312 = .ok (.aload_n 0, 1) := by decide +kernel
theorem zd_law_313 : decode code 313 = .ok (.iload_n 3, 1) := by decide +kernel
theorem zd_law_314 : decode code 314 = .ok (.iconst 2, 1) := by decide +kernel
theorem zd_law_315 : decode code 315 = .ok (.iadd, 1) := by decide +kernel
theorem zd_law_316 : decode code 316 = .ok (.iaload, 1) := by decide +kernel
theorem zd_law_317 : decode code 317 = .ok (.invokevirtual 22, 3) := by decide +kernel
theorem zd_law_320 : decode code 320 = .ok (.aload_n 2, 1) := by decide +kernel
theorem zd_law_321 : decode code 321 = .ok (.aload_n 0, 1) := by decide +kernel
theorem zd_law_322 : decode code 322 = .ok (.iload_n 3, 1) := by decide +kernel
theorem zd_law_323 : decode code 323 = .ok (.iconst 1, 1) := by decide +kernel
theorem zd_law_324 : decode code 324 = .ok (.iadd, 1) := by decide +kernel
theorem zd_law_325 : decode code 325 = .ok (.iaload, 1) := by decide +kernel
theorem zd_law_326 : decode code 326 = .ok (.aload_n 0, 1) := by decide +kernel
theorem zd_law_327 : decode code 327 = .ok (.iload_n 3, 1) := by decide +kernel
theorem zd_law_328 : decode code 328 = .ok (.iconst 2, 1) := by decide +kernel
theorem zd_law_329 : decode code 329 = .ok (.iadd, 1) := by decide +kernel
theorem zd_law_330 : decode code 330 = .ok (.iaload, 1) := by decide +kernel
theorem zd_law_331 : decode code 331 = .ok (.invokevirtual 25, 3) := by decide +kernel
theorem zd_law_334 : decode code 334 = .ok (.if_icmp .eq 1370, 3) := by decide +kernel
theorem zd_law_339 : decode code 339 = .ok (.aload_n 1, 1) := by decide +kernel
theorem zd_law_340 : decode code 340 = .ok (.aload_n 0, 1) := by decide +kernel
theorem zd_law_341 : decode code 341 = .ok (.iload_n 3, 1) := by decide +kernel
theorem zd_law_342 : decode code 342 = .ok (.iconst 1, 1) := by decide +kernel
theorem zd_law_343 : decode code 343 = .ok (.iadd, 1) := by decide +kernel
theorem zd_law_344 : decode code 344 = .ok (.iaload, 1) := by decide +kernel
theorem zd_law_345 : decode code 345 = .ok (.aload_n 0, 1) := by decide +kernel
theorem zd_law_346 : decode code 346 = .ok (.iload_n 3, 1) := by decide +kernel
theorem zd_law_347 : decode code 347 = .ok (.iconst 2, 1) := by decide +kernel
theorem zd_law_348 : decode code 348 = .ok (.iadd, 1) := by decide +kernel
theorem zd_law_349 : decode code 349 = .ok (.iaload, 1) := by decide +kernel
theorem zd_law_350 : decode code 350 = .ok (.invokevirtual 26, 3) := by decide +kernel
theorem zd_law_353 : decode code 353 = .ok (.aload_n 2, 1) := by decide +kernel
theorem zd_law_354 : decode code 354 = .ok (.aload_n 0, 1) := by decide +kernel
theorem zd_law_355 : decode code 355 = .ok (.iload_n 3, 1) := by decide +kernel
theorem zd_law_356 : decode code 356 = .ok (.iconst 1, 1) := by decide +kernel
theorem zd_law_357 : decode code 357 = .ok (.iadd, 1) := by decide +kernel
theorem zd_law_358 : decode code 358 = .ok (.iaload, 1) := by decide +kernel
theorem zd_law_359 : decode code 359 = .ok (.aload_n 0, 1) := by decide +kernel
theorem zd_law_360 : decode code 360 = .ok (.iload_n 3, 1) := by decide +kernel
theorem zd_law_361 : decode code 361 = .ok (.iconst 2, 1) := by decide +kernel
theorem zd_law_362 : decode code 362 = .ok (.iadd, 1) := by decide +kernel
theorem zd_law_363 : decode code 363 = .ok (.iaload, 1) := by decide +kernel
theorem zd_law_364 : decode code 364 = .ok (.invokevirtual 29, 3) := by decide +kernel
theorem zd_law_367 : decode code 367 = .ok (.if_icmp .eq 1337, 3) := by decide +kernel
theorem zd_law_372 : decode code 372 = .ok (.aload_n 1, 1) := by decide +kernel
theorem zd_law_373 : decode code 373 = .ok (.aload_n 0, 1) := by decide +kernel
theorem zd_law_374 : decode code 374 = .ok (.iload_n 3, 1) := by decide +kernel
theorem zd_law_375 : decode code 375 = .ok (.iconst 1, 1) := by decide +kernel
theorem zd_law_376 : decode code 376 = .ok (.iadd, 1) := by decide +kernel
theorem zd_law_377 : decode code 377 = .ok (.iaload, 1) := by decide +kernel
theorem zd_law_378 : decode code 378 = .ok (.aload_n 0, 1) := by decide +kernel
theorem zd_law_379 : decode code 379 = .ok (.iload_n 3, 1) := by decide +kernel
theorem zd_law_380 : decode code 380 = .ok (.iconst 2, 1) := by decide +kernel
theorem zd_law_381 : decode code 381 = .ok (.iadd, 1) := by decide +kernel
theorem zd_law_382 : decode code 382 = .ok (.iaload, 1) := by decide +kernel
theorem zd_law_383 : decode code 383 = .ok (.aload_n 0, 1) := by decide +kernel
theorem zd_law_384 : decode code 384 = .ok (.iload_n 3, 1) := by decide +kernel
theorem zd_law_385 : decode code 385 = .ok (.iconst 3, 1) := by decide +kernel
theorem zd_law_386 : decode code 386 = .ok (.iadd, 1) := by decide +kernel
theorem zd_law_387 : decode code 387 = .ok (.iaload, 1) := by decide +kernel
theorem zd_law_388 : decode code 388 = .ok (.invokevirtual 30, 3) := by decide +kernel
theorem zd_law_391 : decode code 391 = .ok (.aload_n 2, 1) := by decide +kernel
theorem zd_law_392 : decode code 392 = .ok (.aload_n 0, 1) := by decide +kernel
theorem zd_law_393 : decode code 393 = .ok (.iload_n 3, 1) := by decide +kernel
theorem zd_law_394 : decode code 394 = .ok (.iconst 1, 1) := by decide +kernel
theorem zd_law_395 : decode code 395 = .ok (.iadd, 1) := by decide +kernel
theorem zd_law_396 : decode code 396 = .ok (.iaload, 1) := by decide +kernel
theorem zd_law_397 : decode code 397 = .ok (.aload_n 0, 1) := by decide +kernel
theorem zd_law_398 : decode code 398 = .ok (.iload_n 3, 1) := by decide +kernel
theorem zd_law_399 : decode code 399 = .ok (.iconst 2, 1) := by decide +kernel
theorem zd_law_400 : decode code 400 = .ok (.iadd, 1) := by decide +kernel
theorem zd_law_401 : decode code 401 = .ok (.iaload, 1) := by decide +kernel
theorem zd_law_402 : decode code 402 = .ok (.aload_n 0, 1) := by decide +kernel
theorem zd_law_403 : decode code 403 = .ok (.iload_n 3, 1) := by decide +kernel
theorem zd_law_404 : decode code 404 = .ok (.iconst 3, 1) := by decide +kernel
theorem zd_law_405 : decode code 405 = .ok (.iadd, 1) := by decide +kernel
theorem zd_law_406 : decode code 406 = .ok (.iaload, 1) := by decide +kernel
theorem zd_law_407 : decode code 407 = .ok (.invokevirtual 34, 3) := by decide +kernel
theorem zd_law_410 : decode code 410 = .ok (.if_icmp .eq 1294, 3) := by decide +kernel
theorem zd_law_415 : decode code 415 = .ok (.aload_n 1, 1) := by decide +kernel
theorem zd_law_416 : decode code 416 = .ok (.aload_n 0, 1) := by decide +kernel
theorem zd_law_417 : decode code 417 = .ok (.iload_n 3, 1) := by decide +kernel
theorem zd_law_418 : decode code 418 = .ok (.iconst 1, 1) := by decide +kernel
theorem zd_law_419 : decode code 419 = .ok (.iadd, 1) := by decide +kernel
theorem zd_law_420 : decode code 420 = .ok (.iaload, 1) := by decide +kernel
theorem zd_law_421 : decode code 421 = .ok (.aload_n 0, 1) := by decide +kernel
theorem zd_law_422 : decode code 422 = .ok (.iload_n 3, 1) := by decide +kernel
theorem zd_law_423 : decode code 423 = .ok (.iconst 2, 1) := by decide +kernel
theorem zd_law_424 : decode code 424 = .ok (.iadd, 1) := by decide +kernel
theorem zd_law_425 : decode code 425 = .ok (.iaload, 1) := by decide +kernel
theorem zd_law_426 : decode code 426 = .ok (.invokevirtual 35, 3) := by decide +kernel
theorem zd_law_429 : decode code 429 = .ok (.aload_n 2, 1) := by decide +kernel
theorem zd_law_430 : decode code 430 = .ok (.aload_n 0, 1) := by decide +kernel
theorem zd_law_431 : decode code 431 = .ok (.iload_n 3, 1) := by decide +kernel
theorem zd_law_432 : decode code 432 = .ok (.iconst 1, 1) := by decide +kernel
theorem zd_law_433 : decode code 433 = .ok (.iadd, 1) := by decide +kernel
theorem zd_law_434 : decode code 434 = .ok (.iaload, 1) := by decide +kernel
theorem zd_law_435 : decode code 435 = .ok (.aload_n 0, 1) := by decide +kernel
theorem zd_law_436 : decode code 436 = .ok (.iload_n 3, 1) := by decide +kernel
theorem zd_law_437 : decode code 437 = .ok (.iconst 2, 1) := by decide +kernel
theorem zd_law_438 : decode code 438 = .ok (.iadd, 1) := by decide +kernel
theorem zd_law_439 : decode code 439 = .ok (.iaload, 1) := by decide +kernel
theorem zd_law_440 : decode code 440 = .ok (.invokevirtual 38, 3) := by decide +kernel
theorem zd_law_443 : decode code 443 = .ok (.if_icmp .eq 1261, 3) := by decide +kernel
theorem zd_law_448 : decode code 448 = .ok (.aload_n 1, 1) := by decide +kernel
theorem zd_law_449 : decode code 449 = .ok (.aload_n 0, 1) := by decide +kernel
theorem zd_law_450 : decode code 450 = .ok (.iload_n 3, 1) := by decide +kernel
theorem zd_law_451 : decode code 451 = .ok (.iconst 1, 1) := by decide +kernel
theorem zd_law_452 : decode code 452 = .ok (.iadd, 1) := by decide +kernel
theorem zd_law_453 : decode code 453 = .ok (.iaload, 1) := by decide +kernel
theorem zd_law_454 : decode code 454 = .ok (.aload_n 0, 1) := by decide +kernel
theorem zd_law_455 : decode code 455 = .ok (.iload_n 3, 1) := by decide +kernel
theorem zd_law_456 : decode code 456 = .ok (.iconst 2, 1) := by decide +kernel
theorem zd_law_457 : decode code 457 = .ok (.iadd, 1) := by decide +kernel
theorem zd_law_458 : decode code 458 = .ok (.iaload, 1) := by decide +kernel
theorem zd_law_459 : decode code 459 = .ok (.aload_n 0, 1) := by decide +kernel
theorem zd_law_460 : decode code 460 = .ok (.iload_n 3, 1) := by decide +kernel
theorem zd_law_461 : decode code 461 = .ok (.iconst 3, 1) := by decide +kernel
theorem zd_law_462 : decode code 462 = .ok (.iadd, 1) := by decide +kernel
theorem zd_law_463 : decode code 463 = .ok (.iaload, 1) := by decide +kernel
theorem zd_law_464 : decode code 464 = .ok (.aload_n 0, 1) := by decide +kernel
theorem zd_law_465 : decode code 465 = .ok (.iload_n 3, 1) := by decide +kernel
theorem zd_law_466 : decode code 466 = .ok (.iconst 4, 1) := by decide +kernel
theorem zd_law_467 : decode code 467 = .ok (.iadd, 1) := by decide +kernel
theorem zd_law_468 : decode code 468 = .ok (.iaload, 1) := by decide +kernel
theorem zd_law_469 : decode code 469 = .ok (.invokevirtual 39, 3) := by decide +kernel
theorem zd_law_472 : decode code 472 = .ok (.aload_n 2, 1) := by decide +kernel
theorem zd_law_473 : decode code 473 = .ok (.aload_n 0, 1) := by decide +kernel
theorem zd_law_474 : decode code 474 = .ok (.iload_n 3, 1) := by decide +kernel
theorem zd_law_475 : decode code 475 = .ok (.iconst 1, 1) := by decide +kernel
theorem zd_law_476 : decode code 476 = .ok (.iadd, 1) := by decide +kernel
theorem zd_law_477 : decode code 477 = .ok (.iaload, 1) := by decide +kernel
theorem zd_law_478 : decode code 478 = .ok (.aload_n 0, 1) := by decide +kernel
theorem zd_law_479 : decode code 479 = .ok (.iload_n 3, 1) := by decide +kernel
theorem zd_law_480 : decode code 480 = .ok (.iconst 2, 1) := by decide +kernel
theorem zd_law_481 : decode code 481 = .ok (.iadd, 1) := by decide +kernel
theorem zd_law_482 : decode code 482 = .ok (.iaload, 1) := by decide +kernel
theorem zd_law_483 : decode code 483 = .ok (.aload_n 0, 1) := by decide +kernel
theorem zd_law_484 : decode code 484 = .ok (.iload_n 3, 1) := by decide +kernel
theorem zd_law_485 : decode code 485 = .ok (.iconst 3, 1) := by decide +kernel
theorem zd_law_486 : decode code 486 = .ok (.iadd, 1) := by decide +kernel
theorem zd_law_487 : decode code 487 = .ok (.iaload, 1) := by decide +kernel
theorem zd_law_488 : decode code 488 = .ok (.aload_n 0, 1) := by decide +kernel
theorem zd_law_489 : decode code 489 = .ok (.iload_n 3, 1) := by decide +kernel
theorem zd_law_490 : decode code 490 = .ok (.iconst 4, 1) := by decide +kernel
theorem zd_law_491 : decode code 491 = .ok (.iadd, 1) := by decide +kernel
theorem zd_law_492 : decode code 492 = .ok (.iaload, 1) := by decide +kernel
theorem zd_law_493 : decode code 493 = .ok (.invokevirtual 43, 3) := by decide +kernel
theorem zd_law_496 : decode code 496 = .ok (.if_icmp .eq 1208, 3) := by decide +kernel
theorem zd_law_501 : decode code 501 = .ok (.aload_n 1, 1) := by decide +kernel
theorem zd_law_502 : decode code 502 = .ok (.aload_n 0, 1) := by decide +kernel
theorem zd_law_503 : decode code 503 = .ok (.iload_n 3, 1) := by decide +kernel
theorem zd_law_504 : decode code 504 = .ok (.iconst 1, 1) := by decide +kernel
theorem zd_law_505 : decode code 505 = .ok (.iadd, 1) := by decide +kernel
theorem zd_law_506 : decode code 506 = .ok (.iaload, 1) := by decide +kernel
theorem zd_law_507 : decode code 507 = .ok (.aload_n 0, 1) := by decide +kernel
theorem zd_law_508 : decode code 508 = .ok (.iload_n 3, 1) := by decide +kernel
theorem zd_law_509 : decode code 509 = .ok (.iconst 2, 1) := by decide +kernel
theorem zd_law_510 : decode code 510 = .ok (.iadd, 1) := by decide +kernel
theorem zd_law_511 : decode code 511 = .ok (.iaload, 1) := by decide +kernel
theorem zd_law_512 : decode code 512 = .ok (.aload_n 0, 1) := by decide +kernel
theorem zd_law_513 : decode code 513 = .ok (.iload_n 3, 1) := by decide +kernel
theorem zd_law_514 : decode code 514 = .ok (.iconst 3, 1) := by decide +kernel
theorem zd_law_515 : decode code 515 = .ok (.iadd, 1) := by decide +kernel
theorem zd_law_516 : decode code 516 = .ok (.iaload, 1) := by decide +kernel
theorem zd_law_517 : decode code 517 = .ok (.aload_n 0, 1) := by decide +kernel
theorem zd_law_518 : decode code 518 = .ok (.iload_n 3, 1) := by decide +kernel
theorem zd_law_519 : decode code 519 = .ok (.iconst 4, 1) := by decide +kernel
theorem zd_law_520 : decode code 520 = .ok (.iadd, 1) := by decide +kernel
theorem zd_law_521 : decode code 521 = .ok (.iaload, 1) := by decide +kernel
theorem zd_law_522 : decode code 522 = .ok (.ifCond .eq 7, 3) := by decide +kernel
theorem zd_law_525 : decode code 525 = .ok (.iconst 1, 1) := by decide +kernel
theorem zd_law_526 : decode code 526 = .ok (.goto 4, 3) := by decide +kernel
theorem zd_law_529 : decode code 529 = .ok (.iconst 0, 1) := by decide +kernel
theorem zd_law_530 : decode code 530 = .ok (.invokevirtual 44, 3) := by decide +kernel
theorem zd_law_533 : decode code 533 = .ok (.aload_n 2, 1) := by decide +kernel
theorem zd_law_534 : decode code 534 = .ok (.aload_n 0, 1) := by decide +kernel
theorem zd_law_535 : decode code 535 = .ok (.iload_n 3, 1) := by decide +kernel
theorem zd_law_536 : decode code 536 = .ok (.iconst 1, 1) := by decide +kernel
theorem zd_law_537 : decode code 537 = .ok (.iadd, 1) := by decide +kernel
theorem zd_law_538 : decode code 538 = .ok (.iaload, 1) := by decide +kernel
theorem zd_law_539 : decode code 539 = .ok (.aload_n 0, 1) := by decide +kernel
theorem zd_law_540 : decode code 540 = .ok (.iload_n 3, 1) := by decide +kernel
theorem zd_law_541 : decode code 541 = .ok (.iconst 2, 1) := by decide +kernel
theorem zd_law_542 : decode code 542 = .ok (.iadd, 1) := by decide +kernel
theorem zd_law_543 : decode code 543 = .ok (.iaload, 1) := by decide +kernel
theorem zd_law_544 : decode code 544 = .ok (.aload_n 0, 1) := by decide +kernel
theorem zd_law_545 : decode code 545 = .ok (.iload_n 3, 1) := by decide +kernel
theorem zd_law_546 : decode code 546 = .ok (.iconst 3, 1) := by decide +kernel
theorem zd_law_547 : decode code 547 = .ok (.iadd, 1) := by decide +kernel
theorem zd_law_548 : decode code 548 = .ok (.iaload, 1) := by decide +kernel
theorem zd_law_549 : decode code 549 = .ok (.aload_n 0, 1) := by decide +kernel
theorem zd_law_550 : decode code 550 = .ok (.iload_n 3, 1) := by decide +kernel
theorem zd_law_551 : decode code 551 = .ok (.iconst 4, 1) := by decide +kernel
theorem zd_law_552 : decode code 552 = .ok (.iadd, 1) := by decide +kernel
theorem zd_law_553 : decode code 553 = .ok (.iaload, 1) := by decide +kernel
theorem zd_law_554 : decode code 554 = .ok (.ifCond .eq 7, 3) := by decide +kernel
theorem zd_law_557 : decode code 557 = .ok (.iconst 1, 1) := by decide +kernel
theorem zd_law_558 : decode code 558 = .ok (.goto 4, 3) := by decide +kernel
theorem zd_law_561 : decode code 561 = .ok (.iconst 0, 1) := by decide +kernel
theorem zd_law_562 : decode code 562 = .ok (.invokevirtual 48, 3) := by decide +kernel
theorem zd_law_565 : decode code 565 = .ok (.if_icmp .eq 1139, 3) := by decide +kernel
theorem zd_law_570 : decode code 570 = .ok (.aload_n 1, 1) := by decide +kernel
theorem zd_law_571 : decode code 571 = .ok (.aload_n 0, 1) := by decide +kernel
theorem zd_law_572 : decode code 572 = .ok (.iload_n 3, 1) := by decide +kernel
theorem zd_law_573 : decode code 573 = .ok (.iconst 1, 1) := by decide +kernel
theorem zd_law_574 : decode code 574 = .ok (.iadd, 1) := by decide +kernel
theorem zd_law_575 : decode code 575 = .ok (.iaload, 1) := by decide +kernel
theorem zd_law_576 : decode code 576 = .ok (.invokevirtual 49, 3) := by decide +kernel
theorem zd_law_579 : decode code 579 = .ok (.aload_n 2, 1) := by decide +kernel
theorem zd_law_580 : decode code 580 = .ok (.aload_n 0, 1) := by decide +kernel
theorem zd_law_581 : decode code 581 = .ok (.iload_n 3, 1) := by decide +kernel
theorem zd_law_582 : decode code 582 = .ok (.iconst 1, 1) := by decide +kernel
theorem zd_law_583 : decode code 583 = .ok (.iadd, 1) := by decide +kernel
theorem zd_law_584 : decode code 584 = .ok (.iaload, 1) := by decide +kernel
theorem zd_law_585 : decode code 585 = .ok (.invokevirtual 53, 3) := by decide +kernel
theorem zd_law_588 : decode code 588 = .ok (.if_icmp .eq 1116, 3) := by decide +kernel
theorem zd_law_593 : decode code 593 = .ok (.aload_n 1, 1) := by decide +kernel
theorem zd_law_594 : decode code 594 = .ok (.aload_n 0, 1) := by decide +kernel
theorem zd_law_595 : decode code 595 = .ok (.iload_n 3, 1) := by decide +kernel
theorem zd_law_596 : decode code 596 = .ok (.iconst 1, 1) := by decide +kernel
theorem zd_law_597 : decode code 597 = .ok (.iadd, 1) := by decide +kernel
theorem zd_law_598 : decode code 598 = .ok (.iaload, 1) := by decide +kernel
theorem zd_law_599 : decode code 599 = .ok (.invokevirtual 54, 3) := by decide +kernel
theorem zd_law_602 : decode code 602 = .ok (.aload_n 2, 1) := by decide +kernel
theorem zd_law_603 : decode code 603 = .ok (.aload_n 0, 1) := by decide +kernel
theorem zd_law_604 : decode code 604 = .ok (.iload_n 3, 1) := by decide +kernel
theorem zd_law_605 : decode code 605 = .ok (.iconst 1, 1) := by decide +kernel
theorem zd_law_606 : decode code 606 = .ok (.iadd, 1) := by decide +kernel
theorem zd_law_607 : decode code 607 = .ok (.iaload, 1) := by decide +kernel
theorem zd_law_608 : decode code 608 = .ok (.invokevirtual 57, 3) := by decide +kernel
theorem zd_law_611 : decode code 611 = .ok (.if_icmp .eq 1093, 3) := by decide +kernel
theorem zd_law_616 : decode code 616 = .ok (.aload_n 1, 1) := by decide +kernel
theorem zd_law_617 : decode code 617 = .ok (.aload_n 0, 1) := by decide +kernel
theorem zd_law_618 : decode code 618 = .ok (.iload_n 3, 1) := by decide +kernel
theorem zd_law_619 : decode code 619 = .ok (.iconst 1, 1) := by decide +kernel
theorem zd_law_620 : decode code 620 = .ok (.iadd, 1) := by decide +kernel
theorem zd_law_621 : decode code 621 = .ok (.iaload, 1) := by decide +kernel
theorem zd_law_622 : decode code 622 = .ok (.invokevirtual 58, 3) := by decide +kernel
theorem zd_law_625 : decode code 625 = .ok (.aload_n 2, 1) := by decide +kernel
theorem zd_law_626 : decode code 626 = .ok (.aload_n 0, 1) := by decide +kernel
theorem zd_law_627 : decode code 627 = .ok (.iload_n 3, 1) := by decide +kernel
theorem zd_law_628 : decode code 628 = .ok (.iconst 1, 1) := by decide +kernel
theorem zd_law_629 : decode code 629 = .ok (.iadd, 1) := by decide +kernel
theorem zd_law_630 : decode code 630 = .ok (.iaload, 1) := by decide +kernel
theorem zd_law_631 : decode code 631 = .ok (.invokevirtual 61, 3) := by decide +kernel
theorem zd_law_634 : decode code 634 = .ok (.if_icmp .eq 1070, 3) := by decide +kernel
theorem zd_law_639 : decode code 639 = .ok (.aload_n 1, 1) := by decide +kernel
theorem zd_law_640 : decode code 640 = .ok (.aload_n 0, 1) := by decide +kernel
theorem zd_law_641 : decode code 641 = .ok (.iload_n 3, 1) := by decide +kernel
theorem zd_law_642 : decode code 642 = .ok (.iconst 1, 1) := by decide +kernel
theorem zd_law_643 : decode code 643 = .ok (.iadd, 1) := by decide +kernel
theorem zd_law_644 : decode code 644 = .ok (.iaload, 1) := by decide +kernel
theorem zd_law_645 : decode code 645 = .ok (.invokevirtual 62, 3) := by decide +kernel
theorem zd_law_648 : decode code 648 = .ok (.aload_n 2, 1) := by decide +kernel
theorem zd_law_649 : decode code 649 = .ok (.aload_n 0, 1) := by decide +kernel
theorem zd_law_650 : decode code 650 = .ok (.iload_n 3, 1) := by decide +kernel
theorem zd_law_651 : decode code 651 = .ok (.iconst 1, 1) := by decide +kernel
theorem zd_law_652 : decode code 652 = .ok (.iadd, 1) := by decide +kernel
theorem zd_law_653 : decode code 653 = .ok (.iaload, 1) := by decide +kernel
theorem zd_law_654 : decode code 654 = .ok (.invokevirtual 65, 3) := by decide +kernel
theorem zd_law_657 : decode code 657 = .ok (.if_icmp .eq 1047, 3) := by decide +kernel
theorem zd_law_662 : decode code 662 = .ok (.aload_n 1, 1) := by decide +kernel
theorem zd_law_663 : decode code 663 = .ok (.aload_n 0, 1) := by decide +kernel
theorem zd_law_664 : decode code 664 = .ok (.iload_n 3, 1) := by decide +kernel
theorem zd_law_665 : decode code 665 = .ok (.iconst 1, 1) := by decide +kernel
theorem zd_law_666 : decode code 666 = .ok (.iadd, 1) := by decide +kernel
theorem zd_law_667 : decode code 667 = .ok (.iaload, 1) := by decide +kernel
theorem zd_law_668 : decode code 668 = .ok (.invokevirtual 66, 3) := by decide +kernel
theorem zd_law_671 : decode code 671 = .ok (.aload_n 2, 1) := by decide +kernel
theorem zd_law_672 : decode code 672 = .ok (.aload_n 0, 1) := by decide +kernel
theorem zd_law_673 : decode code 673 = .ok (.iload_n 3, 1) := by decide +kernel
theorem zd_law_674 : decode code 674 = .ok (.iconst 1, 1) := by decide +kernel
theorem zd_law_675 : decode code 675 = .ok (.iadd, 1) := by decide +kernel
theorem zd_law_676 : decode code 676 = .ok (.iaload, 1) := by decide +kernel
theorem zd_law_677 : decode code 677 = .ok (.invokevirtual 69, 3) := by decide +kernel
theorem zd_law_680 : decode code 680 = .ok (.if_icmp .eq 1024, 3) := by decide +kernel
theorem zd_law_685 : decode code 685 = .ok (.aload_n 1, 1) := by decide +kernel
theorem zd_law_686 : decode code 686 = .ok (.aload_n 0, 1) := by decide +kernel
theorem zd_law_687 : decode code 687 = .ok (.iload_n 3, 1) := by decide +kernel
theorem zd_law_688 : decode code 688 = .ok (.iconst 1, 1) := by decide +kernel
theorem zd_law_689 : decode code 689 = .ok (.iadd, 1) := by decide +kernel
theorem zd_law_690 : decode code 690 = .ok (.iaload, 1) := by decide +kernel
theorem zd_law_691 : decode code 691 = .ok (.invokevirtual 70, 3) := by decide +kernel
theorem zd_law_694 : decode code 694 = .ok (.aload_n 2, 1) := by decide +kernel
theorem zd_law_695 : decode code 695 = .ok (.aload_n 0, 1) := by decide +kernel
theorem zd_law_696 : decode code 696 = .ok (.iload_n 3, 1) := by decide +kernel
theorem zd_law_697 : decode code 697 = .ok (.iconst 1, 1) := by decide +kernel
theorem zd_law_698 : decode code 698 = .ok (.iadd, 1) := by decide +kernel
theorem zd_law_699 : decode code 699 = .ok (.iaload, 1) := by decide +kernel
theorem zd_law_700 : decode code 700 = .ok (.invokevirtual 73, 3) := by decide +kernel
theorem zd_law_703 : decode code 703 = .ok (.if_icmp .eq 1001, 3) := by decide +kernel
theorem zd_law_708 : decode code 708 = .ok (.aload_n 1, 1) := by decide +kernel
theorem zd_law_709 : decode code 709 = .ok (.aload_n 0, 1) := by decide +kernel
theorem zd_law_710 : decode code 710 = .ok (.iload_n 3, 1) := by decide +kernel
theorem zd_law_711 : decode code 711 = .ok (.iconst 1, 1) := by decide +kernel
theorem zd_law_712 : decode code 712 = .ok (.iadd, 1) := by decide +kernel
theorem zd_law_713 : decode code 713 = .ok (.iaload, 1) := by decide +kernel
theorem zd_law_714 : decode code 714 = .ok (.aload_n 0, 1) := by decide +kernel
theorem zd_law_715 : decode code 715 = .ok (.iload_n 3, 1) := by decide +kernel
theorem zd_law_716 : decode code 716 = .ok (.iconst 2, 1) := by decide +kernel
theorem zd_law_717 : decode code 717 = .ok (.iadd, 1) := by decide +kernel
theorem zd_law_718 : decode code 718 = .ok (.iaload, 1) := by decide +kernel
theorem zd_law_719 : decode code 719 = .ok (.aload_n 0, 1) := by decide +kernel
theorem zd_law_720 : decode code 720 = .ok (.iload_n 3, 1) := by decide +kernel
theorem zd_law_721 : decode code 721 = .ok (.iconst 3, 1) := by decide +kernel
theorem zd_law_722 : decode code 722 = .ok (.iadd, 1) := by decide +kernel
theorem zd_law_723 : decode code 723 = .ok (.iaload, 1) := by decide +kernel
theorem zd_law_724 : decode code 724 = .ok (.invokevirtual 74, 3) := by decide +kernel
theorem zd_law_727 : decode code 727 = .ok (.aload_n 2, 1) := by decide +kernel
theorem zd_law_728 : decode code 728 = .ok (.aload_n 0, 1) := by decide +kernel
theorem zd_law_729 : decode code 729 = .ok (.iload_n 3, 1) := by decide +kernel
theorem zd_law_730 : decode code 730 = .ok (.iconst 1, 1) := by decide +kernel
theorem zd_law_731 : decode code 731 = .ok (.iadd, 1) := by decide +kernel
theorem zd_law_732 : decode code 732 = .ok (.iaload, 1) := by decide +kernel
theorem zd_law_733 : decode code 733 = .ok (.aload_n 0, 1) := by decide +kernel
theorem zd_law_734 : decode code 734 = .ok (.iload_n 3, 1) := by decide +kernel
theorem zd_law_735 : decode code 735 = .ok (.iconst 2, 1) := by decide +kernel
theorem zd_law_736 : decode code 736 = .ok (.iadd, 1) := by decide +kernel
theorem zd_law_737 : decode code 737 = .ok (.iaload, 1) := by decide +kernel
theorem zd_law_738 : decode code 738 = .ok (.aload_n 0, 1) := by decide +kernel
theorem zd_law_739 : decode code 739 = .ok (.iload_n 3, 1) := by decide +kernel
theorem zd_law_740 : decode code 740 = .ok (.iconst 3, 1) := by decide +kernel
theorem zd_law_741 : decode code 741 = .ok (.iadd, 1) := by decide +kernel
theorem zd_law_742 : decode code 742 = .ok (.iaload, 1) := by decide +kernel
theorem zd_law_743 : decode code 743 = .ok (.invokevirtual 78, 3) := by decide +kernel
theorem zd_law_746 : decode code 746 = .ok (.lcmp, 1) := by decide +kernel
theorem zd_law_747 : decode code 747 = .ok (.ifCond .eq 957, 3) := by decide +kernel
theorem zd_law_752 : decode code 752 = .ok (.aload_n 1, 1) := by decide +kernel
theorem zd_law_753 : decode code 753 = .ok (.aload_n 0, 1) := by decide +kernel
theorem zd_law_754 : decode code 754 = .ok (.iload_n 3, 1) := by decide +kernel
theorem zd_law_755 : decode code 755 = .ok (.iconst 1, 1) := by decide +kernel
theorem zd_law_756 : decode code 756 = .ok (.iadd, 1) := by decide +kernel
theorem zd_law_757 : decode code 757 = .ok (.iaload, 1) := by decide +kernel
theorem zd_law_758 : decode code 758 = .ok (.aload_n 0, 1) := by decide +kernel
theorem zd_law_759 : decode code 759 = .ok (.iload_n 3, 1) := by decide +kernel
theorem zd_law_760 : decode code 760 = .ok (.iconst 2, 1) := by decide +kernel
theorem zd_law_761 : decode code 761 = .ok (.iadd, 1) := by decide +kernel
theorem zd_law_762 : decode code 762 = .ok (.iaload, 1) := by decide +kernel
theorem zd_law_763 : decode code 763 = .ok (.invokevirtual 79, 3) := by decide +kernel
theorem zd_law_766 : decode code 766 = .ok (.aload_n 2, 1) := by decide +kernel
theorem zd_law_767 : decode code 767 = .ok (.aload_n 0, 1) := by decide +kernel
theorem zd_law_768 : decode code 768 = .ok (.iload_n 3, 1) := by decide +kernel
theorem zd_law_769 : decode code 769 = .ok (.iconst 1, 1) := by decide +kernel
theorem zd_law_770 : decode code 770 = .ok (.iadd, 1) := by decide +kernel
theorem zd_law_771 : decode code 771 = .ok (.iaload, 1) := by decide +kernel
theorem zd_law_772 : decode code 772 = .ok (.aload_n 0, 1) := by decide +kernel
theorem zd_law_773 : decode code 773 = .ok (.iload_n 3, 1) := by decide +kernel
theorem zd_law_774 : decode code 774 = .ok (.iconst 2, 1) := by decide +kernel
theorem zd_law_775 : decode code 775 = .ok (.iadd, 1) := by decide +kernel
theorem zd_law_776 : decode code 776 = .ok (.iaload, 1) := by decide +kernel
theorem zd_law_777 : decode code 777 = .ok (.invokevirtual 83, 3) := by decide +kernel
theorem zd_law_780 : decode code 780 = .ok (.lcmp, 1) := by decide +kernel
theorem zd_law_781 : decode code 781 = .ok (.ifCond .eq 923, 3) := by decide +kernel
theorem zd_law_786 : decode code 786 = .ok (.aload_n 1, 1) := by decide +kernel
theorem zd_law_787 : decode code 787 = .ok (.aload_n 0, 1) := by decide +kernel
theorem zd_law_788 : decode code 788 = .ok (.iload_n 3, 1) := by decide +kernel
theorem zd_law_789 : decode code 789 = .ok (.iconst 1, 1) := by decide +kernel
theorem zd_law_790 : decode code 790 = .ok (.iadd, 1) := by decide +kernel
theorem zd_law_791 : decode code 791 = .ok (.iaload, 1) := by decide +kernel
theorem zd_law_792 : decode code 792 = .ok (.aload_n 0, 1) := by decide +kernel
theorem zd_law_793 : decode code 793 = .ok (.iload_n 3, 1) := by decide +kernel
theorem zd_law_794 : decode code 794 = .ok (.iconst 2, 1) := by decide +kernel
theorem zd_law_795 : decode code 795 = .ok (.iadd, 1) := by decide +kernel
theorem zd_law_796 : decode code 796 = .ok (.iaload, 1) := by decide +kernel
theorem zd_law_797 : decode code 797 = .ok (.invokevirtual 84, 3) := by decide +kernel
theorem zd_law_800 : decode code 800 = .ok (.aload_n 2, 1) := by decide +kernel
theorem zd_law_801 : decode code 801 = .ok (.aload_n 0, 1) := by decide +kernel
theorem zd_law_802 : decode code 802 = .ok (.iload_n 3, 1) := by decide +kernel
theorem zd_law_803 : decode code 803 = .ok (.iconst 1, 1) := by decide +kernel
theorem zd_law_804 : decode code 804 = .ok (.iadd, 1) := by decide +kernel
theorem zd_law_805 : decode code 805 = .ok (.iaload, 1) := by decide +kernel
theorem zd_law_806 : decode code 806 = .ok (.aload_n 0, 1) := by decide +kernel
theorem zd_law_807 : decode code 807 = .ok (.iload_n 3, 1) := by decide +kernel
theorem zd_law_808 : decode code 808 = .ok (.iconst 2, 1) := by decide +kernel
theorem zd_law_809 : decode code 809 = .ok (.iadd, 1) := by decide +kernel
theorem zd_law_810 : decode code 810 = .ok (.iaload, 1) := by decide +kernel
theorem zd_law_811 : decode code 811 = .ok (.invokevirtual 87, 3) := by decide +kernel
theorem zd_law_814 : decode code 814 = .ok (.if_icmp .eq 890, 3) := by decide +kernel
theorem zd_law_819 : decode code 819 = .ok (.aload_n 1, 1) := by decide +kernel
theorem zd_law_820 : decode code 820 = .ok (.aload_n 0, 1) := by decide +kernel
theorem zd_law_821 : decode code 821 = .ok (.iload_n 3, 1) := by decide +kernel
theorem zd_law_822 : decode code 822 = .ok (.iconst 1, 1) := by decide +kernel
theorem zd_law_823 : decode code 823 = .ok (.iadd, 1) := by decide +kernel
theorem zd_law_824 : decode code 824 = .ok (.iaload, 1) := by decide +kernel
theorem zd_law_825 : decode code 825 = .ok (.invokevirtual 88, 3) := by decide +kernel
theorem zd_law_828 : decode code 828 = .ok (.aload_n 2, 1) := by decide +kernel
theorem zd_law_829 : decode code 829 = .ok (.aload_n 0, 1) := by decide +kernel
theorem zd_law_830 : decode code 830 = .ok (.iload_n 3, 1) := by decide +kernel
theorem zd_law_831 : decode code 831 = .ok (.iconst 1, 1) := by decide +kernel
theorem zd_law_832 : decode code 832 = .ok (.iadd, 1) := by decide +kernel
theorem zd_law_833 : decode code 833 = .ok (.iaload, 1) := by decide +kernel
theorem zd_law_834 : decode code 834 = .ok (.invokevirtual 91, 3) := by decide +kernel
theorem zd_law_837 : decode code 837 = .ok (.if_icmp .eq 867, 3) := by decide +kernel
theorem zd_law_842 : decode code 842 = .ok (.aload_n 1, 1) := by decide +kernel
theorem zd_law_843 : decode code 843 = .ok (.aload_n 0, 1) := by decide +kernel
theorem zd_law_844 : decode code 844 = .ok (.iload_n 3, 1) := by decide +kernel
theorem zd_law_845 : decode code 845 = .ok (.iconst 1, 1) := by decide +kernel
theorem zd_law_846 : decode code 846 = .ok (.iadd, 1) := by decide +kernel
theorem zd_law_847 : decode code 847 = .ok (.iaload, 1) := by decide +kernel
theorem zd_law_848 : decode code 848 = .ok (.invokevirtual 92, 3) := by decide +kernel
theorem zd_law_851 : decode code 851 = .ok (.aload_n 2, 1) := by decide +kernel
theorem zd_law_852 : decode code 852 = .ok (.aload_n 0, 1) := by decide +kernel
theorem zd_law_853 : decode code 853 = .ok (.iload_n 3, 1) := by decide +kernel
theorem zd_law_854 : decode code 854 = .ok (.iconst 1, 1) := by decide +kernel
theorem zd_law_855 : decode code 855 = .ok (.iadd, 1) := by decide +kernel
theorem zd_law_856 : decode code 856 = .ok (.iaload, 1) := by decide +kernel
theorem zd_law_857 : decode code 857 = .ok (.invokevirtual 95, 3) := by decide +kernel
theorem zd_law_860 : decode code 860 = .ok (.if_icmp .eq 844, 3) := by decide +kernel
theorem zd_law_865 : decode code 865 = .ok (.aload_n 1, 1) := by decide +kernel
theorem zd_law_866 : decode code 866 = .ok (.aload_n 0, 1) := by decide +kernel
theorem zd_law_867 : decode code 867 = .ok (.iload_n 3, 1) := by decide +kernel
theorem zd_law_868 : decode code 868 = .ok (.iconst 1, 1) := by decide +kernel
theorem zd_law_869 : decode code 869 = .ok (.iadd, 1) := by decide +kernel
theorem zd_law_870 : decode code 870 = .ok (.iaload, 1) := by decide +kernel
theorem zd_law_871 : decode code 871 = .ok (.aload_n 0, 1) := by decide +kernel
theorem zd_law_872 : decode code 872 = .ok (.iload_n 3, 1) := by decide +kernel
theorem zd_law_873 : decode code 873 = .ok (.iconst 2, 1) := by decide +kernel
theorem zd_law_874 : decode code 874 = .ok (.iadd, 1) := by decide +kernel
theorem zd_law_875 : decode code 875 = .ok (.iaload, 1) := by decide +kernel
theorem zd_law_876 : decode code 876 = .ok (.invokevirtual 96, 3) := by decide +kernel
theorem zd_law_879 : decode code 879 = .ok (.aload_n 2, 1) := by decide +kernel
theorem zd_law_880 : decode code 880 = .ok (.aload_n 0, 1) := by decide +kernel
theorem zd_law_881 : decode code 881 = .ok (.iload_n 3, 1) := by decide +kernel
theorem zd_law_882 : decode code 882 = .ok (.iconst 1, 1) := by decide +kernel
theorem zd_law_883 : decode code 883 = .ok (.iadd, 1) := by decide +kernel
theorem zd_law_884 : decode code 884 = .ok (.iaload, 1) := by decide +kernel
theorem zd_law_885 : decode code 885 = .ok (.aload_n 0, 1) := by decide +kernel
theorem zd_law_886 : decode code 886 = .ok (.iload_n 3, 1) := by decide +kernel
theorem zd_law_887 : decode code 887 = .ok (.iconst 2, 1) := by decide +kernel
theorem zd_law_888 : decode code 888 = .ok (.iadd, 1) := by decide +kernel
theorem zd_law_889 : decode code 889 = .ok (.iaload, 1) := by decide +kernel
theorem zd_law_890 : decode code 890 = .ok (.invokevirtual 99, 3) := by decide +kernel
theorem zd_law_893 : decode code 893 = .ok (.if_icmp .eq 811, 3) := by decide +kernel
theorem zd_law_898 : decode code 898 = .ok (.aload_n 1, 1) := by decide +kernel
theorem zd_law_899 : decode code 899 = .ok (.aload_n 0, 1) := by decide +kernel
theorem zd_law_900 : decode code 900 = .ok (.iload_n 3, 1) := by decide +kernel
theorem zd_law_901 : decode code 901 = .ok (.iconst 1, 1) := by decide +kernel
theorem zd_law_902 : decode code 902 = .ok (.iadd, 1) := by decide +kernel
theorem zd_law_903 : decode code 903 = .ok (.iaload, 1) := by decide +kernel
theorem zd_law_904 : decode code 904 = .ok (.aload_n 0, 1) := by decide +kernel
theorem zd_law_905 : decode code 905 = .ok (.iload_n 3, 1) := by decide +kernel
theorem zd_law_906 : decode code 906 = .ok (.iconst 2, 1) := by decide +kernel
theorem zd_law_907 : decode code 907 = .ok (.iadd, 1) := by decide +kernel
theorem zd_law_908 : decode code 908 = .ok (.iaload, 1) := by decide +kernel
theorem zd_law_909 : decode code 909 = .ok (.invokevirtual 100, 3) := by decide +kernel
theorem zd_law_912 : decode code 912 = .ok (.aload_n 2, 1) := by decide +kernel
theorem zd_law_913 : decode code 913 = .ok (.aload_n 0, 1) := by decide +kernel
theorem zd_law_914 : decode code 914 = .ok (.iload_n 3, 1) := by decide +kernel
theorem zd_law_915 : decode code 915 = .ok (.iconst 1, 1) := by decide +kernel
theorem zd_law_916 : decode code 916 = .ok (.iadd, 1) := by decide +kernel
theorem zd_law_917 : decode code 917 = .ok (.iaload, 1) := by decide +kernel
theorem zd_law_918 : decode code 918 = .ok (.aload_n 0, 1) := by decide +kernel
theorem zd_law_919 : decode code 919 = .ok (.iload_n 3, 1) := by decide +kernel
theorem zd_law_920 : decode code 920 = .ok (.iconst 2, 1) := by decide +kernel
theorem zd_law_921 : decode code 921 = .ok (.iadd, 1) := by decide +kernel
theorem zd_law_922 : decode code 922 = .ok (.iaload, 1) := by decide +kernel
theorem zd_law_923 : decode code 923 = .ok (.invokevirtual 103, 3) := by decide +kernel
theorem zd_law_926 : decode code 926 = .ok (.lcmp, 1) := by decide +kernel
theorem zd_law_927 : decode code 927 = .ok (.ifCond .eq 777, 3) := by decide +kernel
theorem zd_law_932 : decode code 932 = .ok (.aload_n 1, 1) := by decide +kernel
theorem zd_law_933 : decode code 933 = .ok (.aload_n 0, 1) := by decide +kernel
theorem zd_law_934 : decode code 934 = .ok (.iload_n 3, 1) := by decide +kernel
theorem zd_law_935 : decode code 935 = .ok (.iconst 1, 1) := by decide +kernel
theorem zd_law_936 : decode code 936 = .ok (.iadd, 1) := by decide +kernel
theorem zd_law_937 : decode code 937 = .ok (.iaload, 1) := by decide +kernel
theorem zd_law_938 : decode code 938 = .ok (.aload_n 0, 1) := by decide +kernel
theorem zd_law_939 : decode code 939 = .ok (.iload_n 3, 1) := by decide +kernel
theorem zd_law_940 : decode code 940 = .ok (.iconst 2, 1) := by decide +kernel
theorem zd_law_941 : decode code 941 = .ok (.iadd, 1) := by decide +kernel
theorem zd_law_942 : decode code 942 = .ok (.iaload, 1) := by decide +kernel
theorem zd_law_943 : decode code 943 = .ok (.invokevirtual 104, 3) := by decide +kernel
theorem zd_law_946 : decode code 946 = .ok (.aload_n 2, 1) := by decide +kernel
theorem zd_law_947 : decode code 947 = .ok (.aload_n 0, 1) := by decide +kernel
theorem zd_law_948 : decode code 948 = .ok (.iload_n 3, 1) := by decide +kernel
theorem zd_law_949 : decode code 949 = .ok (.iconst 1, 1) := by decide +kernel
theorem zd_law_950 : decode code 950 = .ok (.iadd, 1) := by decide +kernel
theorem zd_law_951 : decode code 951 = .ok (.iaload, 1) := by decide +kernel
theorem zd_law_952 : decode code 952 = .ok (.aload_n 0, 1) := by decide +kernel
theorem zd_law_953 : decode code 953 = .ok (.iload_n 3, 1) := by decide +kernel
theorem zd_law_954 : decode code 954 = .ok (.iconst 2, 1) := by decide +kernel
theorem zd_law_955 : decode code 955 = .ok (.iadd, 1) := by decide +kernel
theorem zd_law_956 : decode code 956 = .ok (.iaload, 1) := by decide +kernel
theorem zd_law_957 : decode code 957 = .ok (.invokevirtual 107, 3) := by decide +kernel
theorem zd_law_960 : decode code 960 = .ok (.if_icmp .eq 744, 3) := by decide +kernel
theorem zd_law_965 : decode code 965 = .ok (.aload_n 1, 1) := by decide +kernel
theorem zd_law_966 : decode code 966 = .ok (.aload_n 0, 1) := by decide +kernel
theorem zd_law_967 : decode code 967 = .ok (.iload_n 3, 1) := by decide +kernel
theorem zd_law_968 : decode code 968 = .ok (.iconst 1, 1) := by decide +kernel
theorem zd_law_969 : decode code 969 = .ok (.iadd, 1) := by decide +kernel
theorem zd_law_970 : decode code 970 = .ok (.iaload, 1) := by decide +kernel
theorem zd_law_971 : decode code 971 = .ok (.aload_n 0, 1) := by decide +kernel
theorem zd_law_972 : decode code 972 = .ok (.iload_n 3, 1) := by decide +kernel
theorem zd_law_973 : decode code 973 = .ok (.iconst 2, 1) := by decide +kernel
theorem zd_law_974 : decode code 974 = .ok (.iadd, 1) := by decide +kernel
theorem zd_law_975 : decode code 975 = .ok (.iaload, 1) := by decide +kernel
theorem zd_law_976 : decode code 976 = .ok (.invokevirtual 108, 3) := by decide +kernel
theorem zd_law_979 : decode code 979 = .ok (.aload_n 2, 1) := by decide +kernel
theorem zd_law_980 : decode code 980 = .ok (.aload_n 0, 1) := by decide +kernel
theorem zd_law_981 : decode code 981 = .ok (.iload_n 3, 1) := by decide +kernel
theorem zd_law_982 : decode code 982 = .ok (.iconst 1, 1) := by decide +kernel
theorem zd_law_983 : decode code 983 = .ok (.iadd, 1) := by decide +kernel
theorem zd_law_984 : decode code 984 = .ok (.iaload, 1) := by decide +kernel
theorem zd_law_985 : decode code 985 = .ok (.aload_n 0, 1) := by decide +kernel
theorem zd_law_986 : decode code 986 = .ok (.iload_n 3, 1) := by decide +kernel
theorem zd_law_987 : decode code 987 = .ok (.iconst 2, 1) := by decide +kernel
theorem zd_law_988 : decode code 988 = .ok (.iadd, 1) := by decide +kernel
theorem zd_law_989 : decode code 989 = .ok (.iaload, 1) := by decide +kernel
theorem zd_law_990 : decode code 990 = .ok (.invokevirtual 111, 3) := by decide +kernel
theorem zd_law_993 : decode code 993 = .ok (.if_icmp .eq 711, 3) := by decide +kernel
theorem zd_law_998 : decode code 998 = .ok (.aload_n 1, 1) := by decide +kernel
theorem zd_law_999 : decode code 999 = .ok (.aload_n 0, 1) := by decide +kernel
theorem zd_law_1000 : decode code 1000 = .ok (.iload_n 3, 1) := by decide +kernel
theorem zd_law_1001 : decode code 1001 = .ok (.iconst 1, 1) := by decide +kernel
theorem zd_law_1002 : decode code 1002 = .ok (.iadd, 1) := by decide +kernel
theorem zd_law_1003 : decode code 1003 = .ok (.iaload, 1) := by decide +kernel
theorem zd_law_1004 : decode code 1004 = .ok (.invokevirtual 112, 3) := by decide +kernel
theorem zd_law_1007 : decode code 1007 = .ok (.aload_n 2, 1) := by decide +kernel
theorem zd_law_1008 : decode code 1008 = .ok (.aload_n 0, 1) := by decide +kernel
theorem zd_law_1009 : decode code 1009 = .ok (.iload_n 3, 1) := by decide +kernel
theorem zd_law_1010 : decode code 1010 = .ok (.iconst 1, 1) := by decide +kernel
theorem zd_law_1011 : decode code 1011 = .ok (.iadd, 1) := by decide +kernel
theorem zd_law_1012 : decode code 1012 = .ok (.iaload, 1) := by decide +kernel
theorem zd_law_1013 : decode code 1013 = .ok (.invokevirtual 115, 3) := by decide +kernel
theorem zd_law_1016 : decode code 1016 = .ok (.if_icmp .eq 688, 3) := by decide +kernel
theorem zd_law_1021 : decode code 1021 = .ok (.aload_n 1, 1) := by decide +kernel
theorem zd_law_1022 : decode code 1022 = .ok (.aload_n 0, 1) := by decide +kernel
theorem zd_law_1023 : decode code 1023 = .ok (.iload_n 3, 1) := by decide +kernel
theorem zd_law_1024 : decode code 1024 = .ok (.iconst 1, 1) := by decide +kernel
theorem zd_law_1025 : decode code 1025 = .ok (.iadd, 1) := by decide +kernel
theorem zd_law_1026 : decode code 1026 = .ok (.iaload, 1) := by decide +kernel
theorem zd_law_1027 : decode code 1027 = .ok (.aload_n 0, 1) := by decide +kernel
theorem zd_law_1028 : decode code 1028 = .ok (.iload_n 3, 1) := by decide +kernel
theorem zd_law_1029 : decode code 1029 = .ok (.iconst 2, 1) := by decide +kernel
theorem zd_law_1030 : decode code 1030 = .ok (.iadd, 1) := by decide +kernel
theorem zd_law_1031 : decode code 1031 = .ok (.iaload, 1) := by decide +kernel
theorem zd_law_1032 : decode code 1032 = .ok (.invokevirtual 116, 3) := by decide +kernel
theorem zd_law_1035 : decode code 1035 = .ok (.aload_n 2, 1) := by decide +kernel
theorem zd_law_1036 : decode code 1036 = .ok (.aload_n 0, 1) := by decide +kernel
theorem zd_law_1037 : decode code 1037 = .ok (.iload_n 3, 1) := by decide +kernel
theorem zd_law_1038 : decode code 1038 = .ok (.iconst 1, 1) := by decide +kernel
theorem zd_law_1039 : decode code 1039 = .ok (.iadd, 1) := by decide +kernel
theorem zd_law_1040 : decode code 1040 = .ok (.iaload, 1) := by decide +kernel
theorem zd_law_1041 : decode code 1041 = .ok (.aload_n 0, 1) := by decide +kernel
theorem zd_law_1042 : decode code 1042 = .ok (.iload_n 3, 1) := by decide +kernel
theorem zd_law_1043 : decode code 1043 = .ok (.iconst 2, 1) := by decide +kernel
theorem zd_law_1044 : decode code 1044 = .ok (.iadd, 1) := by decide +kernel
theorem zd_law_1045 : decode code 1045 = .ok (.iaload, 1) := by decide +kernel
theorem zd_law_1046 : decode code 1046 = .ok (.invokevirtual 119, 3) := by decide +kernel
theorem zd_law_1049 : decode code 1049 = .ok (.if_icmp .eq 655, 3) := by decide +kernel
theorem zd_law_1054 : decode code 1054 = .ok (.aload_n 1, 1) := by decide +kernel
theorem zd_law_1055 : decode code 1055 = .ok (.aload_n 0, 1) := by decide +kernel
theorem zd_law_1056 : decode code 1056 = .ok (.iload_n 3, 1) := by decide +kernel
theorem zd_law_1057 : decode code 1057 = .ok (.iconst 1, 1) := by decide +kernel
theorem zd_law_1058 : decode code 1058 = .ok (.iadd, 1) := by decide +kernel
theorem zd_law_1059 : decode code 1059 = .ok (.iaload, 1) := by decide +kernel
theorem zd_law_1060 : decode code 1060 = .ok (.aload_n 0, 1) := by decide +kernel
theorem zd_law_1061 : decode code 1061 = .ok (.iload_n 3, 1) := by decide +kernel
theorem zd_law_1062 : decode code 1062 = .ok (.iconst 2, 1) := by decide +kernel
theorem zd_law_1063 : decode code 1063 = .ok (.iadd, 1) := by decide +kernel
theorem zd_law_1064 : decode code 1064 = .ok (.iaload, 1) := by decide +kernel
theorem zd_law_1065 : decode code 1065 = .ok (.invokevirtual 120, 3) := by decide +kernel
theorem zd_law_1068 : decode code 1068 = .ok (.aload_n 2, 1) := by decide +kernel
theorem zd_law_1069 : decode code 1069 = .ok (.aload_n 0, 1) := by decide +kernel
theorem zd_law_1070 : decode code 1070 = .ok (.iload_n 3, 1) := by decide +kernel
theorem zd_law_1071 : decode code 1071 = .ok (.iconst 1, 1) := by decide +kernel
theorem zd_law_1072 : decode code 1072 = .ok (.iadd, 1) := by decide +kernel
theorem zd_law_1073 : decode code 1073 = .ok (.iaload, 1) := by decide +kernel
theorem zd_law_1074 : decode code 1074 = .ok (.aload_n 0, 1) := by decide +kernel
theorem zd_law_1075 : decode code 1075 = .ok (.iload_n 3, 1) := by decide +kernel
theorem zd_law_1076 : decode code 1076 = .ok (.iconst 2, 1) := by decide +kernel
theorem zd_law_1077 : decode code 1077 = .ok (.iadd, 1) := by decide +kernel
theorem zd_law_1078 : decode code 1078 = .ok (.iaload, 1) := by decide +kernel
theorem zd_law_1079 : decode code 1079 = .ok (.invokevirtual 123, 3) := by decide +kernel
theorem zd_law_1082 : decode code 1082 = .ok (.if_icmp .eq 622, 3) := by decide +kernel
theorem zd_law_1087 : decode code 1087 = .ok (.aload_n 1, 1) := by decide +kernel
theorem zd_law_1088 : decode code 1088 = .ok (.aload_n 0, 1) := by decide +kernel
theorem zd_law_1089 : decode code 1089 = .ok (.iload_n 3, 1) := by decide +kernel
theorem zd_law_1090 : decode code 1090 = .ok (.iconst 1, 1) := by decide +kernel
theorem zd_law_1091 : decode code 1091 = .ok (.iadd, 1) := by decide +kernel
theorem zd_law_1092 : decode code 1092 = .ok (.iaload, 1) := by decide +kernel
theorem zd_law_1093 : decode code 1093 = .ok (.aload_n 0, 1) := by decide +kernel
theorem zd_law_1094 : decode code 1094 = .ok (.iload_n 3, 1) := by decide +kernel
theorem zd_law_1095 : decode code 1095 = .ok (.iconst 2, 1) := by decide +kernel
theorem zd_law_1096 : decode code 1096 = .ok (.iadd, 1) := by decide +kernel
theorem zd_law_1097 : decode code 1097 = .ok (.iaload, 1) := by decide +kernel
theorem zd_law_1098 : decode code 1098 = .ok (.invokevirtual 124, 3) := by decide +kernel
theorem zd_law_1101 : decode code 1101 = .ok (.aload_n 2, 1) := by decide +kernel
theorem zd_law_1102 : decode code 1102 = .ok (.aload_n 0, 1) := by decide +kernel
theorem zd_law_1103 : decode code 1103 = .ok (.iload_n 3, 1) := by decide +kernel
theorem zd_law_1104 : decode code 1104 = .ok (.iconst 1, 1) := by decide +kernel
theorem zd_law_1105 : decode code 1105 = .ok (.iadd, 1) := by decide +kernel
theorem zd_law_1106 : decode code 1106 = .ok (.iaload, 1) := by decide +kernel
theorem zd_law_1107 : decode code 1107 = .ok (.aload_n 0, 1) := by decide +kernel
theorem zd_law_1108 : decode code 1108 = .ok (.iload_n 3, 1) := by decide +kernel
theorem zd_law_1109 : decode code 1109 = .ok (.iconst 2, 1) := by decide +kernel
theorem zd_law_1110 : decode code 1110 = .ok (.iadd, 1) := by decide +kernel
theorem zd_law_1111 : decode code 1111 = .ok (.iaload, 1) := by decide +kernel
theorem zd_law_1112 : decode code 1112 = .ok (.invokevirtual 127, 3) := by decide +kernel
theorem zd_law_1115 : decode code 1115 = .ok (.if_icmp .eq 589, 3) := by decide +kernel
theorem zd_law_1120 : decode code 1120 = .ok (.aload_n 1, 1) := by decide +kernel
theorem zd_law_1121 : decode code 1121 = .ok (.aload_n 0, 1) := by decide +kernel
theorem zd_law_1122 : decode code 1122 = .ok (.iload_n 3, 1) := by decide +kernel
theorem zd_law_1123 : decode code 1123 = .ok (.iconst 1, 1) := by decide +kernel
theorem zd_law_1124 : decode code 1124 = .ok (.iadd, 1) := by decide +kernel
theorem zd_law_1125 : decode code 1125 = .ok (.iaload, 1) := by decide +kernel
theorem zd_law_1126 : decode code 1126 = .ok (.aload_n 0, 1) := by decide +kernel
theorem zd_law_1127 : decode code 1127 = .ok (.iload_n 3, 1) := by decide +kernel
theorem zd_law_1128 : decode code 1128 = .ok (.iconst 2, 1) := by decide +kernel
theorem zd_law_1129 : decode code 1129 = .ok (.iadd, 1) := by decide +kernel
theorem zd_law_1130 : decode code 1130 = .ok (.iaload, 1) := by decide +kernel
theorem zd_law_1131 : decode code 1131 = .ok (.invokevirtual 128, 3) := by decide +kernel
theorem zd_law_1134 : decode code 1134 = .ok (.aload_n 2, 1) := by decide +kernel
theorem zd_law_1135 : decode code 1135 = .ok (.aload_n 0, 1) := by decide +kernel
theorem zd_law_1136 : decode code 1136 = .ok (.iload_n 3, 1) := by decide +kernel
theorem zd_law_1137 : decode code 1137 = .ok (.iconst 1, 1) := by decide +kernel
theorem zd_law_1138 : decode code 1138 = .ok (.iadd, 1) := by decide +kernel
theorem zd_law_1139 : decode code 1139 = .ok (.iaload, 1) := by decide +kernel
theorem zd_law_1140 : decode code 1140 = .ok (.aload_n 0, 1) := by decide +kernel
theorem zd_law_1141 : decode code 1141 = .ok (.iload_n 3, 1) := by decide +kernel
theorem zd_law_1142 : decode code 1142 = .ok (.iconst 2, 1) := by decide +kernel
theorem zd_law_1143 : decode code 1143 = .ok (.iadd, 1) := by decide +kernel
theorem zd_law_1144 : decode code 1144 = .ok (.iaload, 1) := by decide +kernel
theorem zd_law_1145 : decode code 1145 = .ok (.invokevirtual 131, 3) := by decide +kernel
theorem zd_law_1148 : decode code 1148 = .ok (.lcmp, 1) := by decide +kernel
theorem zd_law_1149 : decode code 1149 = .ok (.ifCond .eq 555, 3) := by decide +kernel
theorem zd_law_1154 : decode code 1154 = .ok (.aload_n 1, 1) := by decide +kernel
theorem zd_law_1155 : decode code 1155 = .ok (.aload_n 0, 1) := by decide +kernel
theorem zd_law_1156 : decode code 1156 = .ok (.iload_n 3, 1) := by decide +kernel
theorem zd_law_1157 : decode code 1157 = .ok (.iconst 1, 1) := by decide +kernel
theorem zd_law_1158 : decode code 1158 = .ok (.iadd, 1) := by decide +kernel
theorem zd_law_1159 : decode code 1159 = .ok (.iaload, 1) := by decide +kernel
theorem zd_law_1160 : decode code 1160 = .ok (.aload_n 0, 1) := by decide +kernel
theorem zd_law_1161 : decode code 1161 = .ok (.iload_n 3, 1) := by decide +kernel
theorem zd_law_1162 : decode code 1162 = .ok (.iconst 2, 1) := by decide +kernel
theorem zd_law_1163 : decode code 1163 = .ok (.iadd, 1) := by decide +kernel
theorem zd_law_1164 : decode code 1164 = .ok (.iaload, 1) := by decide +kernel
theorem zd_law_1165 : decode code 1165 = .ok (.invokevirtual 132, 3) := by decide +kernel
theorem zd_law_1168 : decode code 1168 = .ok (.aload_n 2, 1) := by decide +kernel
theorem zd_law_1169 : decode code 1169 = .ok (.aload_n 0, 1) := by decide +kernel
theorem zd_law_1170 : decode code 1170 = .ok (.iload_n 3, 1) := by decide +kernel
theorem zd_law_1171 : decode code 1171 = .ok (.iconst 1, 1) := by decide +kernel
theorem zd_law_1172 : decode code 1172 = .ok (.iadd, 1) := by decide +kernel
theorem zd_law_1173 : decode code 1173 = .ok (.iaload, 1) := by decide +kernel
theorem zd_law_1174 : decode code 1174 = .ok (.aload_n 0, 1) := by decide +kernel
theorem zd_law_1175 : decode code 1175 = .ok (.iload_n 3, 1) := by decide +kernel
theorem zd_law_1176 : decode code 1176 = .ok (.iconst 2, 1) := by decide +kernel
theorem zd_law_1177 : decode code 1177 = .ok (.iadd, 1) := by decide +kernel
theorem zd_law_1178 : decode code 1178 = .ok (.iaload, 1) := by decide +kernel
theorem zd_law_1179 : decode code 1179 = .ok (.invokevirtual 135, 3) := by decide +kernel
theorem zd_law_1182 : decode code 1182 = .ok (.if_icmp .eq 522, 3) := by decide +kernel
theorem zd_law_1187 : decode code 1187 = .ok (.aload_n 1, 1) := by decide +kernel
theorem zd_law_1188 : decode code 1188 = .ok (.aload_n 0, 1) := by decide +kernel
theorem zd_law_1189 : decode code 1189 = .ok (.iload_n 3, 1) := by decide +kernel
theorem zd_law_1190 : decode code 1190 = .ok (.iconst 1, 1) := by decide +kernel
theorem zd_law_1191 : decode code 1191 = .ok (.iadd, 1) := by decide +kernel
theorem zd_law_1192 : decode code 1192 = .ok (.iaload, 1) := by decide +kernel
theorem zd_law_1193 : decode code 1193 = .ok (.aload_n 0, 1) := by decide +kernel
theorem zd_law_1194 : decode code 1194 = .ok (.iload_n 3, 1) := by decide +kernel
theorem zd_law_1195 : decode code 1195 = .ok (.iconst 2, 1) := by decide +kernel
theorem zd_law_1196 : decode code 1196 = .ok (.iadd, 1) := by decide +kernel
theorem zd_law_1197 : decode code 1197 = .ok (.iaload, 1) := by decide +kernel
theorem zd_law_1198 : decode code 1198 = .ok (.invokevirtual 136, 3) := by decide +kernel
theorem zd_law_1201 : decode code 1201 = .ok (.aload_n 2, 1) := by decide +kernel
theorem zd_law_1202 : decode code 1202 = .ok (.aload_n 0, 1) := by decide +kernel
theorem zd_law_1203 : decode code 1203 = .ok (.iload_n 3, 1) := by decide +kernel
theorem zd_law_1204 : decode code 1204 = .ok (.iconst 1, 1) := by decide +kernel
theorem zd_law_1205 : decode code 1205 = .ok (.iadd, 1) := by decide +kernel
theorem zd_law_1206 : decode code 1206 = .ok (.iaload, 1) := by decide +kernel
theorem zd_law_1207 : decode code 1207 = .ok (.aload_n 0, 1) := by decide +kernel
theorem zd_law_1208 : decode code 1208 = .ok (.iload_n 3, 1) := by decide +kernel
theorem zd_law_1209 : decode code 1209 = .ok (.iconst 2, 1) := by decide +kernel
theorem zd_law_1210 : decode code 1210 = .ok (.iadd, 1) := by decide +kernel
theorem zd_law_1211 : decode code 1211 = .ok (.iaload, 1) := by decide +kernel
theorem zd_law_1212 : decode code 1212 = .ok (.invokevirtual 139, 3) := by decide +kernel
theorem zd_law_1215 : decode code 1215 = .ok (.if_icmp .eq 489, 3) := by decide +kernel
theorem zd_law_1220 : decode code 1220 = .ok (.aload_n 1, 1) := by decide +kernel
theorem zd_law_1221 : decode code 1221 = .ok (.aload_n 0, 1) := by decide +kernel
theorem zd_law_1222 : decode code 1222 = .ok (.iload_n 3, 1) := by decide +kernel
theorem zd_law_1223 : decode code 1223 = .ok (.iconst 1, 1) := by decide +kernel
theorem zd_law_1224 : decode code 1224 = .ok (.iadd, 1) := by decide +kernel
theorem zd_law_1225 : decode code 1225 = .ok (.iaload, 1) := by decide +kernel
theorem zd_law_1226 : decode code 1226 = .ok (.aload_n 0, 1) := by decide +kernel
theorem zd_law_1227 : decode code 1227 = .ok (.iload_n 3, 1) := by decide +kernel
theorem zd_law_1228 : decode code 1228 = .ok (.iconst 2, 1) := by decide +kernel
theorem zd_law_1229 : decode code 1229 = .ok (.iadd, 1) := by decide +kernel
theorem zd_law_1230 : decode code 1230 = .ok (.iaload, 1) := by decide +kernel
theorem zd_law_1231 : decode code 1231 = .ok (.invokevirtual 140, 3) := by decide +kernel
theorem zd_law_1234 : decode code 1234 = .ok (.aload_n 2, 1) := by decide +kernel
theorem zd_law_1235 : decode code 1235 = .ok (.aload_n 0, 1) := by decide +kernel
theorem zd_law_1236 : decode code 1236 = .ok (.iload_n 3, 1) := by decide +kernel
theorem zd_law_1237 : decode code 1237 = .ok (.iconst 1, 1) := by decide +kernel
theorem zd_law_1238 : decode code 1238 = .ok (.iadd, 1) := by decide +kernel
theorem zd_law_1239 : decode code 1239 = .ok (.iaload, 1) := by decide +kernel
theorem zd_law_1240 : decode code 1240 = .ok (.aload_n 0, 1) := by decide +kernel
theorem zd_law_1241 : decode code 1241 = .ok (.iload_n 3, 1) := by decide +kernel
theorem zd_law_1242 : decode code 1242 = .ok (.iconst 2, 1) := by decide +kernel
theorem zd_law_1243 : decode code 1243 = .ok (.iadd, 1) := by decide +kernel
theorem zd_law_1244 : decode code 1244 = .ok (.iaload, 1) := by decide +kernel
theorem zd_law_1245 : decode code 1245 = .ok (.invokevirtual 143, 3) := by decide +kernel
theorem zd_law_1248 : decode code 1248 = .ok (.if_icmp .eq 456, 3) := by decide +kernel
theorem zd_law_1253 : decode code 1253 = .ok (.aload_n 1, 1) := by decide +kernel
theorem zd_law_1254 : decode code 1254 = .ok (.invokevirtual 144, 3) := by decide +kernel
theorem zd_law_1257 : decode code 1257 = .ok (.aload_n 2, 1) := by decide +kernel
theorem zd_law_1258 : decode code 1258 = .ok (.invokevirtual 148, 3) := by decide +kernel
theorem zd_law_1261 : decode code 1261 = .ok (.if_icmp .eq 443, 3) := by decide +kernel
theorem zd_law_1266 : decode code 1266 = .ok (.aload_n 1, 1) := by decide +kernel
theorem zd_law_1267 : decode code 1267 = .ok (.aload_n 0, 1) := by decide +kernel
theorem zd_law_1268 : decode code 1268 = .ok (.iload_n 3, 1) := by decide +kernel
theorem zd_law_1269 : decode code 1269 = .ok (.iconst 1, 1) := by decide +kernel
theorem zd_law_1270 : decode code 1270 = .ok (.iadd, 1) := by decide +kernel
theorem zd_law_1271 : decode code 1271 = .ok (.iaload, 1) := by decide +kernel
theorem zd_law_1272 : decode code 1272 = .ok (.invokevirtual 149, 3) := by decide +kernel
theorem zd_law_1275 : decode code 1275 = .ok (.aload_n 2, 1) := by decide +kernel
theorem zd_law_1276 : decode code 1276 = .ok (.aload_n 0, 1) := by decide +kernel
theorem zd_law_1277 : decode code 1277 = .ok (.iload_n 3, 1) := by decide +kernel
theorem zd_law_1278 : decode code 1278 = .ok (.iconst 1, 1) := by decide +kernel
theorem zd_law_1279 : decode code 1279 = .ok (.iadd, 1) := by decide +kernel
theorem zd_law_1280 : decode code 1280 = .ok (.iaload, 1) := by decide +kernel
theorem zd_law_1281 : decode code 1281 = .ok (.invokevirtual 152, 3) := by decide +kernel
theorem zd_law_1284 : decode code 1284 = .ok (.if_icmp .eq 420, 3) := by decide +kernel
theorem zd_law_1289 : decode code 1289 = .ok (.aload_n 1, 1) := by decide +kernel
theorem zd_law_1290 : decode code 1290 = .ok (.aload_n 0, 1) := by decide +kernel
theorem zd_law_1291 : decode code 1291 = .ok (.iload_n 3, 1) := by decide +kernel
theorem zd_law_1292 : decode code 1292 = .ok (.iconst 1, 1) := by decide +kernel
theorem zd_law_1293 : decode code 1293 = .ok (.iadd, 1) := by decide +kernel
theorem zd_law_1294 : decode code 1294 = .ok (.iaload, 1) := by decide +kernel
theorem zd_law_1295 : decode code 1295 = .ok (.aload_n 0, 1) := by decide +kernel
theorem zd_law_1296 : decode code 1296 = .ok (.iload_n 3, 1) := by decide +kernel
theorem zd_law_1297 : decode code 1297 = .ok (.iconst 2, 1) := by decide +kernel
theorem zd_law_1298 : decode code 1298 = .ok (.iadd, 1) := by decide +kernel
theorem zd_law_1299 : decode code 1299 = .ok (.iaload, 1) := by decide +kernel
theorem zd_law_1300 : decode code 1300 = .ok (.invokevirtual 153, 3) := by decide +kernel
theorem zd_law_1303 : decode code 1303 = .ok (.aload_n 2, 1) := by decide +kernel
theorem zd_law_1304 : decode code 1304 = .ok (.aload_n 0, 1) := by decide +kernel
theorem zd_law_1305 : decode code 1305 = .ok (.iload_n 3, 1) := by decide +kernel
theorem zd_law_1306 : decode code 1306 = .ok (.iconst 1, 1) := by decide +kernel
theorem zd_law_1307 : decode code 1307 = .ok (.iadd, 1) := by decide +kernel
theorem zd_law_1308 : decode code 1308 = .ok (.iaload, 1) := by decide +kernel
theorem zd_law_1309 : decode code 1309 = .ok (.aload_n 0, 1) := by decide +kernel
theorem zd_law_1310 : decode code 1310 = .ok (.iload_n 3, 1) := by decide +kernel
theorem zd_law_1311 : decode code 1311 = .ok (.iconst 2, 1) := by decide +kernel
theorem zd_law_1312 : decode code 1312 = .ok (.iadd, 1) := by decide +kernel
theorem zd_law_1313 : decode code 1313 = .ok (.iaload, 1) := by decide +kernel
theorem zd_law_1314 : decode code 1314 = .ok (.invokevirtual 156, 3) := by decide +kernel
theorem zd_law_1317 : decode code 1317 = .ok (.if_icmp .eq 387, 3) := by decide +kernel
theorem zd_law_1322 : decode code 1322 = .ok (.aload_n 1, 1) := by decide +kernel
theorem zd_law_1323 : decode code 1323 = .ok (.invokevirtual 157, 3) := by decide +kernel
theorem zd_law_1326 : decode code 1326 = .ok (.aload_n 2, 1) := by decide +kernel
theorem zd_law_1327 : decode code 1327 = .ok (.invokevirtual 160, 3) := by decide +kernel
theorem zd_law_1330 : decode code 1330 = .ok (.if_icmp .eq 374, 3) := by decide +kernel
theorem zd_law_1335 : decode code 1335 = .ok (.aload_n 1, 1) := by decide +kernel
theorem zd_law_1336 : decode code 1336 = .ok (.invokevirtual 161, 3) := by decide +kernel
theorem zd_law_1339 : decode code 1339 = .ok (.aload_n 2, 1) := by decide +kernel
theorem zd_law_1340 : decode code 1340 = .ok (.invokevirtual 164, 3) := by decide +kernel
theorem zd_law_1343 : decode code 1343 = .ok (.if_icmp .eq 361, 3) := by decide +kernel
theorem zd_law_1348 : decode code 1348 = .ok (.aload_n 1, 1) := by decide +kernel
theorem zd_law_1349 : decode code 1349 = .ok (.aload_n 0, 1) := by decide +kernel
theorem zd_law_1350 : decode code 1350 = .ok (.iload_n 3, 1) := by decide +kernel
theorem zd_law_1351 : decode code 1351 = .ok (.iconst 1, 1) := by decide +kernel
theorem zd_law_1352 : decode code 1352 = .ok (.iadd, 1) := by decide +kernel
theorem zd_law_1353 : decode code 1353 = .ok (.iaload, 1) := by decide +kernel
theorem zd_law_1354 : decode code 1354 = .ok (.aload_n 0, 1) := by decide +kernel
theorem zd_law_1355 : decode code 1355 = .ok (.iload_n 3, 1) := by decide +kernel
theorem zd_law_1356 : decode code 1356 = .ok (.iconst 2, 1) := by decide +kernel
theorem zd_law_1357 : decode code 1357 = .ok (.iadd, 1) := by decide +kernel
theorem zd_law_1358 : decode code 1358 = .ok (.iaload, 1) := by decide +kernel
theorem zd_law_1359 : decode code 1359 = .ok (.invokevirtual 165, 3) := by decide +kernel
theorem zd_law_1362 : decode code 1362 = .ok (.aload_n 2, 1) := by decide +kernel
theorem zd_law_1363 : decode code 1363 = .ok (.aload_n 0, 1) := by decide +kernel
theorem zd_law_1364 : decode code 1364 = .ok (.iload_n 3, 1) := by decide +kernel
theorem zd_law_1365 : decode code 1365 = .ok (.iconst 1, 1) := by decide +kernel
theorem zd_law_1366 : decode code 1366 = .ok (.iadd, 1) := by decide +kernel
theorem zd_law_1367 : decode code 1367 = .ok (.iaload, 1) := by decide +kernel
theorem zd_law_1368 : decode code 1368 = .ok (.aload_n 0, 1) := by decide +kernel
theorem zd_law_1369 : decode code 1369 = .ok (.iload_n 3, 1) := by decide +kernel
theorem zd_law_1370 : decode code 1370 = .ok (.iconst 2, 1) := by decide +kernel
theorem zd_law_1371 : decode code 1371 = .ok (.iadd, 1) := by decide +kernel
theorem zd_law_1372 : decode code 1372 = .ok (.iaload, 1) := by decide +kernel
theorem zd_law_1373 : decode code 1373 = .ok (.invokevirtual 168, 3) := by decide +kernel
theorem zd_law_1376 : decode code 1376 = .ok (.if_icmp .eq 328, 3) := by decide +kernel
theorem zd_law_1381 : decode code 1381 = .ok (.aload_n 1, 1) := by decide +kernel
theorem zd_law_1382 : decode code 1382 = .ok (.aload_n 0, 1) := by decide +kernel
theorem zd_law_1383 : decode code 1383 = .ok (.iload_n 3, 1) := by decide +kernel
theorem zd_law_1384 : decode code 1384 = .ok (.iconst 1, 1) := by decide +kernel
theorem zd_law_1385 : decode code 1385 = .ok (.iadd, 1) := by decide +kernel
theorem zd_law_1386 : decode code 1386 = .ok (.iaload, 1) := by decide +kernel
theorem zd_law_1387 : decode code 1387 = .ok (.aload_n 0, 1) := by decide +kernel
theorem zd_law_1388 : decode code 1388 = .ok (.iload_n 3, 1) := by decide +kernel
theorem zd_law_1389 : decode code 1389 = .ok (.iconst 2, 1) := by decide +kernel
theorem zd_law_1390 : decode code 1390 = .ok (.iadd, 1) := by decide +kernel
theorem zd_law_1391 : decode code 1391 = .ok (.iaload, 1) := by decide +kernel
theorem zd_law_1392 : decode code 1392 = .ok (.invokevirtual 169, 3) := by decide +kernel
theorem zd_law_1395 : decode code 1395 = .ok (.aload_n 2, 1) := by decide +kernel
theorem zd_law_1396 : decode code 1396 = .ok (.aload_n 0, 1) := by decide +kernel
theorem zd_law_1397 : decode code 1397 = .ok (.iload_n 3, 1) := by decide +kernel
theorem zd_law_1398 : decode code 1398 = .ok (.iconst 1, 1) := by decide +kernel
theorem zd_law_1399 : decode code 1399 = .ok (.iadd, 1) := by decide +kernel
theorem zd_law_1400 : decode code 1400 = .ok (.iaload, 1) := by decide +kernel
theorem zd_law_1401 : decode code 1401 = .ok (.aload_n 0, 1) := by decide +kernel
theorem zd_law_1402 : decode code 1402 = .ok (.iload_n 3, 1) := by decide +kernel
theorem zd_law_1403 : decode code 1403 = .ok (.iconst 2, 1) := by decide +kernel
theorem zd_law_1404 : decode code 1404 = .ok (.iadd, 1) := by decide +kernel
theorem zd_law_1405 : decode code 1405 = .ok (.iaload, 1) := by decide +kernel
theorem zd_law_1406 : decode code 1406 = .ok (.invokevirtual 172, 3) := by decide +kernel
theorem zd_law_1409 : decode code 1409 = .ok (.if_icmp .eq 295, 3) := by decide +kernel
theorem zd_law_1414 : decode code 1414 = .ok (.aload_n 1, 1) := by decide +kernel
theorem zd_law_1415 : decode code 1415 = .ok (.aload_n 0, 1) := by decide +kernel
theorem zd_law_1416 : decode code 1416 = .ok (.iload_n 3, 1) := by decide +kernel
theorem zd_law_1417 : decode code 1417 = .ok (.iconst 1, 1) := by decide +kernel
theorem zd_law_1418 : decode code 1418 = .ok (.iadd, 1) := by decide +kernel
theorem zd_law_1419 : decode code 1419 = .ok (.iaload, 1) := by decide +kernel
theorem zd_law_1420 : decode code 1420 = .ok (.aload_n 0, 1) := by decide +kernel
theorem zd_law_1421 : decode code 1421 = .ok (.iload_n 3, 1) := by decide +kernel
theorem zd_law_1422 : decode code 1422 = .ok (.iconst 2, 1) := by decide +kernel
theorem zd_law_1423 : decode code 1423 = .ok (.iadd, 1) := by decide +kernel
theorem zd_law_1424 : decode code 1424 = .ok (.iaload, 1) := by decide +kernel
theorem zd_law_1425 : decode code 1425 = .ok (.aload_n 0, 1) := by decide +kernel
theorem zd_law_1426 : decode code 1426 = .ok (.iload_n 3, 1) := by decide +kernel
theorem zd_law_1427 : decode code 1427 = .ok (.iconst 3, 1) := by decide +kernel
theorem zd_law_1428 : decode code 1428 = .ok (.iadd, 1) := by decide +kernel
theorem zd_law_1429 : decode code 1429 = .ok (.iaload, 1) := by decide +kernel
theorem zd_law_1430 : decode code 1430 = .ok (.invokevirtual 173, 3) := by decide +kernel
theorem zd_law_1433 : decode code 1433 = .ok (.aload_n 2, 1) := by decide +kernel
theorem zd_law_1434 : decode code 1434 = .ok (.aload_n 0, 1) := by decide +kernel
theorem zd_law_1435 : decode code 1435 = .ok (.iload_n 3, 1) := by decide +kernel
theorem zd_law_1436 : decode code 1436 = .ok (.iconst 1, 1) := by decide +kernel
theorem zd_law_1437 : decode code 1437 = .ok (.iadd, 1) := by decide +kernel
theorem zd_law_1438 : decode code 1438 = .ok (.iaload, 1) := by decide +kernel
theorem zd_law_1439 : decode code 1439 = .ok (.aload_n 0, 1) := by decide +kernel
theorem zd_law_1440 : decode code 1440 = .ok (.iload_n 3, 1) := by decide +kernel
theorem zd_law_1441 : decode code 1441 = .ok (.iconst 2, 1) := by decide +kernel
theorem zd_law_1442 : decode code 1442 = .ok (.iadd, 1) := by decide +kernel
theorem zd_law_1443 : decode code 1443 = .ok (.iaload, 1) := by decide +kernel
theorem zd_law_1444 : decode code 1444 = .ok (.aload_n 0, 1) := by decide +kernel
theorem zd_law_1445 : decode code 1445 = .ok (.iload_n 3, 1) := by decide +kernel
theorem zd_law_1446 : decode code 1446 = .ok (.iconst 3, 1) := by decide +kernel
theorem zd_law_1447 : decode code 1447 = .ok (.iadd, 1) := by decide +kernel
theorem zd_law_1448 : decode code 1448 = .ok (.iaload, 1) := by decide +kernel
theorem zd_law_1449 : decode code 1449 = .ok (.invokevirtual 176, 3) := by decide +kernel
theorem zd_law_1452 : decode code 1452 = .ok (.if_icmp .eq 252, 3) := by decide +kernel
theorem zd_law_1457 : decode code 1457 = .ok (.aload_n 1, 1) := by decide +kernel
theorem zd_law_1458 : decode code 1458 = .ok (.aload_n 0, 1) := by decide +kernel
theorem zd_law_1459 : decode code 1459 = .ok (.iload_n 3, 1) := by decide +kernel
theorem zd_law_1460 : decode code 1460 = .ok (.iconst 1, 1) := by decide +kernel
theorem zd_law_1461 : decode code 1461 = .ok (.iadd, 1) := by decide +kernel
theorem zd_law_1462 : decode code 1462 = .ok (.iaload, 1) := by decide +kernel
theorem zd_law_1463 : decode code 1463 = .ok (.aload_n 0, 1) := by decide +kernel
theorem zd_law_1464 : decode code 1464 = .ok (.iload_n 3, 1) := by decide +kernel
theorem zd_law_1465 : decode code 1465 = .ok (.iconst 2, 1) := by decide +kernel
theorem zd_law_1466 : decode code 1466 = .ok (.iadd, 1) := by decide +kernel
theorem zd_law_1467 : decode code 1467 = .ok (.iaload, 1) := by decide +kernel
theorem zd_law_1468 : decode code 1468 = .ok (.aload_n 0, 1) := by decide +kernel
theorem zd_law_1469 : decode code 1469 = .ok (.iload_n 3, 1) := by decide +kernel
theorem zd_law_1470 : decode code 1470 = .ok (.iconst 3, 1) := by decide +kernel
theorem zd_law_1471 : decode code 1471 = .ok (.iadd, 1) := by decide +kernel
theorem zd_law_1472 : decode code 1472 = .ok (.iaload, 1) := by decide +kernel
theorem zd_law_1473 : decode code 1473 = .ok (.invokevirtual 177, 3) := by decide +kernel
theorem zd_law_1476 : decode code 1476 = .ok (.aload_n 2, 1) := by decide +kernel
theorem zd_law_1477 : decode code 1477 = .ok (.aload_n 0, 1) := by decide +kernel
theorem zd_law_1478 : decode code 1478 = .ok (.iload_n 3, 1) := by decide +kernel
theorem zd_law_1479 : decode code 1479 = .ok (.iconst 1, 1) := by decide +kernel
theorem zd_law_1480 : decode code 1480 = .ok (.iadd, 1) := by decide +kernel
theorem zd_law_1481 : decode code 1481 = .ok (.iaload, 1) := by decide +kernel
theorem zd_law_1482 : decode code 1482 = .ok (.aload_n 0, 1) := by decide +kernel
theorem zd_law_1483 : decode code 1483 = .ok (.iload_n 3, 1) := by decide +kernel
theorem zd_law_1484 : decode code 1484 = .ok (.iconst 2, 1) := by decide +kernel
theorem zd_law_1485 : decode code 1485 = .ok (.iadd, 1) := by decide +kernel
theorem zd_law_1486 : decode code 1486 = .ok (.iaload, 1) := by decide +kernel
theorem zd_law_1487 : decode code 1487 = .ok (.aload_n 0, 1) := by decide +kernel
theorem zd_law_1488 : decode code 1488 = .ok (.iload_n 3, 1) := by decide +kernel
theorem zd_law_1489 : decode code 1489 = .ok (.iconst 3, 1) := by decide +kernel
theorem zd_law_1490 : decode code 1490 = .ok (.iadd, 1) := by decide +kernel
theorem zd_law_1491 : decode code 1491 = .ok (.iaload, 1) := by decide +kernel
theorem zd_law_1492 : decode code 1492 = .ok (.invokevirtual 180, 3) := by decide +kernel
theorem zd_law_1495 : decode code 1495 = .ok (.if_icmp .eq 209, 3) := by decide +kernel
theorem zd_law_1500 : decode code 1500 = .ok (.aload_n 1, 1) := by decide +kernel
theorem zd_law_1501 : decode code 1501 = .ok (.aload_n 0, 1) := by decide +kernel
theorem zd_law_1502 : decode code 1502 = .ok (.iload_n 3, 1) := by decide +kernel
theorem zd_law_1503 : decode code 1503 = .ok (.iconst 1, 1) := by decide +kernel
theorem zd_law_1504 : decode code 1504 = .ok (.iadd, 1) := by decide +kernel
theorem zd_law_1505 : decode code 1505 = .ok (.iaload, 1) := by decide +kernel
theorem zd_law_1506 : decode code 1506 = .ok (.aload_n 0, 1) := by decide +kernel
theorem zd_law_1507 : decode code 1507 = .ok (.iload_n 3, 1) := by decide +kernel
theorem zd_law_1508 : decode code 1508 = .ok (.iconst 2, 1) := by decide +kernel
theorem zd_law_1509 : decode code 1509 = .ok (.iadd, 1) := by decide +kernel
theorem zd_law_1510 : decode code 1510 = .ok (.iaload, 1) := by decide +kernel
theorem zd_law_1511 : decode code 1511 = .ok (.aload_n 0, 1) := by decide +kernel
theorem zd_law_1512 : decode code 1512 = .ok (.iload_n 3, 1) := by decide +kernel
theorem zd_law_1513 : decode code 1513 = .ok (.iconst 3, 1) := by decide +kernel
theorem zd_law_1514 : decode code 1514 = .ok (.iadd, 1) := by decide +kernel
theorem zd_law_1515 : decode code 1515 = .ok (.iaload, 1) := by decide +kernel
theorem zd_law_1516 : decode code 1516 = .ok (.aload_n 0, 1) := by decide +kernel
theorem zd_law_1517 : decode code 1517 = .ok (.iload_n 3, 1) := by decide +kernel
theorem zd_law_1518 : decode code 1518 = .ok (.iconst 4, 1) := by decide +kernel
theorem zd_law_1519 : decode code 1519 = .ok (.iadd, 1) := by decide +kernel
theorem zd_law_1520 : decode code 1520 = .ok (.iaload, 1) := by decide +kernel
theorem zd_law_1521 : decode code 1521 = .ok (.aload_n 0, 1) := by decide +kernel
theorem zd_law_1522 : decode code 1522 = .ok (.iload_n 3, 1) := by decide +kernel
theorem zd_law_1523 : decode code 1523 = .ok (.iconst 5, 1) := by decide +kernel
theorem zd_law_1524 : decode code 1524 = .ok (.iadd, 1) := by decide +kernel
theorem zd_law_1525 : decode code 1525 = .ok (.iaload, 1) := by decide +kernel
theorem zd_law_1526 : decode code 1526 = .ok (.invokevirtual 181, 3) := by decide +kernel
theorem zd_law_1529 : decode code 1529 = .ok (.aload_n 2, 1) := by decide +kernel
theorem zd_law_1530 : decode code 1530 = .ok (.aload_n 0, 1) := by decide +kernel
theorem zd_law_1531 : decode code 1531 = .ok (.iload_n 3, 1) := by decide +kernel
theorem zd_law_1532 : decode code 1532 = .ok (.iconst 1, 1) := by decide +kernel
theorem zd_law_1533 : decode code 1533 = .ok (.iadd, 1) := by decide +kernel
theorem zd_law_1534 : decode code 1534 = .ok (.iaload, 1) := by decide +kernel
theorem zd_law_1535 : decode code 1535 = .ok (.aload_n 0, 1) := by decide +kernel
theorem zd_law_1536 : decode code 1536 = .ok (.iload_n 3, 1) := by decide +kernel
theorem zd_law_1537 : decode code 1537 = .ok (.iconst 2, 1) := by decide +kernel
theorem zd_law_1538 : decode code 1538 = .ok (.iadd, 1) := by decide +kernel
theorem zd_law_1539 : decode code 1539 = .ok (.iaload, 1) := by decide +kernel
theorem zd_law_1540 : decode code 1540 = .ok (.aload_n 0, 1) := by decide +kernel
theorem zd_law_1541 : decode code 1541 = .ok (.iload_n 3, 1) := by decide +kernel
theorem zd_law_1542 : decode code 1542 = .ok (.iconst 3, 1) := by decide +kernel
theorem zd_law_1543 : decode code 1543 = .ok (.iadd, 1) := by decide +kernel
theorem zd_law_1544 : decode code 1544 = .ok (.iaload, 1) := by decide +kernel
theorem zd_law_1545 : decode code 1545 = .ok (.aload_n 0, 1) := by decide +kernel
theorem zd_law_1546 : decode code 1546 = .ok (.iload_n 3, 1) := by decide +kernel
theorem zd_law_1547 : decode code 1547 = .ok (.iconst 4, 1) := by decide +kernel
theorem zd_law_1548 : decode code 1548 = .ok (.iadd, 1) := by decide +kernel
theorem zd_law_1549 : decode code 1549 = .ok (.iaload, 1) := by decide +kernel
theorem zd_law_1550 : decode code 1550 = .ok (.aload_n 0, 1) := by decide +kernel
theorem zd_law_1551 : decode code 1551 = .ok (.iload_n 3, 1) := by decide +kernel
theorem zd_law_1552 : decode code 1552 = .ok (.iconst 5, 1) := by decide +kernel
theorem zd_law_1553 : decode code 1553 = .ok (.iadd, 1) := by decide +kernel
theorem zd_law_1554 : decode code 1554 = .ok (.iaload, 1) := by decide +kernel
theorem zd_law_1555 : decode code 1555 = .ok (.invokevirtual 185, 3) := by decide +kernel
theorem zd_law_1558 : decode code 1558 = .ok (.if_icmp .eq 146, 3) := by decide +kernel
theorem zd_law_1563 : decode code 1563 = .ok (.aload_n 1, 1) := by decide +kernel
theorem zd_law_1564 : decode code 1564 = .ok (.aload_n 0, 1) := by decide +kernel
theorem zd_law_1565 : decode code 1565 = .ok (.iload_n 3, 1) := by decide +kernel
theorem zd_law_1566 : decode code 1566 = .ok (.iconst 1, 1) := by decide +kernel
theorem zd_law_1567 : decode code 1567 = .ok (.iadd, 1) := by decide +kernel
theorem zd_law_1568 : decode code 1568 = .ok (.iaload, 1) := by decide +kernel
theorem zd_law_1569 : decode code 1569 = .ok (.invokevirtual 186, 3) := by decide +kernel
theorem zd_law_1572 : decode code 1572 = .ok (.aload_n 2, 1) := by decide +kernel
theorem zd_law_1573 : decode code 1573 = .ok (.aload_n 0, 1) := by decide +kernel
theorem zd_law_1574 : decode code 1574 = .ok (.iload_n 3, 1) := by decide +kernel
theorem zd_law_1575 : decode code 1575 = .ok (.iconst 1, 1) := by decide +kernel
theorem zd_law_1576 : decode code 1576 = .ok (.iadd, 1) := by decide +kernel
theorem zd_law_1577 : decode code 1577 = .ok (.iaload, 1) := by decide +kernel
theorem zd_law_1578 : decode code 1578 = .ok (.invokevirtual 189, 3) := by decide +kernel
theorem zd_law_1581 : decode code 1581 = .ok (.if_icmp .eq 123, 3) := by decide +kernel
theorem zd_law_1586 : decode code 1586 = .ok (.aload_n 1, 1) := by decide +kernel
theorem zd_law_1587 : decode code 1587 = .ok (.aload_n 0, 1) := by decide +kernel
theorem zd_law_1588 : decode code 1588 = .ok (.iload_n 3, 1) := by decide +kernel
theorem zd_law_1589 : decode code 1589 = .ok (.iconst 1, 1) := by decide +kernel
theorem zd_law_1590 : decode code 1590 = .ok (.iadd, 1) := by decide +kernel
theorem zd_law_1591 : decode code 1591 = .ok (.iaload, 1) := by decide +kernel
theorem zd_law_1592 : decode code 1592 = .ok (.aload_n 0, 1) := by decide +kernel
theorem zd_law_1593 : decode code 1593 = .ok (.iload_n 3, 1) := by decide +kernel
theorem zd_law_1594 : decode code 1594 = .ok (.iconst 2, 1) := by decide +kernel
theorem zd_law_1595 : decode code 1595 = .ok (.iadd, 1) := by decide +kernel
theorem zd_law_1596 : decode code 1596 = .ok (.iaload, 1) := by decide +kernel
theorem zd_law_1597 : decode code 1597 = .ok (.invokevirtual 190, 3) := by decide +kernel
theorem zd_law_1600 : decode code 1600 = .ok (.aload_n 2, 1) := by decide +kernel
theorem zd_law_1601 : decode code 1601 = .ok (.aload_n 0, 1) := by decide +kernel
theorem zd_law_1602 : decode code 1602 = .ok (.iload_n 3, 1) := by decide +kernel
theorem zd_law_1603 : decode code 1603 = .ok (.iconst 1, 1) := by decide +kernel
theorem zd_law_1604 : decode code 1604 = .ok (.iadd, 1) := by decide +kernel
theorem zd_law_1605 : decode code 1605 = .ok (.iaload, 1) := by decide +kernel
theorem zd_law_1606 : decode code 1606 = .ok (.aload_n 0, 1) := by decide +kernel
theorem zd_law_1607 : decode code 1607 = .ok (.iload_n 3, 1) := by decide +kernel
theorem zd_law_1608 : decode code 1608 = .ok (.iconst 2, 1) := by decide +kernel
theorem zd_law_1609 : decode code 1609 = .ok (.iadd, 1) := by decide +kernel
theorem zd_law_1610 : decode code 1610 = .ok (.iaload, 1) := by decide +kernel
theorem zd_law_1611 : decode code 1611 = .ok (.invokevirtual 193, 3) := by decide +kernel
theorem zd_law_1614 : decode code 1614 = .ok (.if_icmp .eq 90, 3) := by decide +kernel
theorem zd_law_1619 : decode code 1619 = .ok (.aload_n 1, 1) := by decide +kernel
theorem zd_law_1620 : decode code 1620 = .ok (.invokevirtual 194, 3) := by decide +kernel
theorem zd_law_1623 : decode code 1623 = .ok (.aload_n 2, 1) := by decide +kernel
theorem zd_law_1624 : decode code 1624 = .ok (.invokevirtual 197, 3) := by decide +kernel
theorem zd_law_1627 : decode code 1627 = .ok (.if_icmp .eq 77, 3) := by decide +kernel
theorem zd_law_1632 : decode code 1632 = .ok (.aload_n 1, 1) := by decide +kernel
theorem zd_law_1633 : decode code 1633 = .ok (.invokevirtual 198, 3) := by decide +kernel
theorem zd_law_1636 : decode code 1636 = .ok (.aload_n 2, 1) := by decide +kernel
theorem zd_law_1637 : decode code 1637 = .ok (.invokevirtual 201, 3) := by decide +kernel
theorem zd_law_1640 : decode code 1640 = .ok (.if_icmp .eq 64, 3) := by decide +kernel
theorem zd_law_1645 : decode code 1645 = .ok (.aload_n 1, 1) := by decide +kernel
theorem zd_law_1646 : decode code 1646 = .ok (.invokevirtual 202, 3) := by decide +kernel
theorem zd_law_1649 : decode code 1649 = .ok (.aload_n 2, 1) := by decide +kernel
theorem zd_law_1650 : decode code 1650 = .ok (.invokevirtual 205, 3) := by decide +kernel
theorem zd_law_1653 : decode code 1653 = .ok (.if_icmp .eq 51, 3) := by decide +kernel
theorem zd_law_1658 : decode code 1658 = .ok (.aload_n 1, 1) := by decide +kernel
theorem zd_law_1659 : decode code 1659 = .ok (.aload_n 0, 1) := by decide +kernel
theorem zd_law_1660 : decode code 1660 = .ok (.iload_n 3, 1) := by decide +kernel
theorem zd_law_1661 : decode code 1661 = .ok (.iconst 1, 1) := by decide +kernel
theorem zd_law_1662 : decode code 1662 = .ok (.iadd, 1) := by decide +kernel
theorem zd_law_1663 : decode code 1663 = .ok (.iaload, 1) := by decide +kernel
theorem zd_law_1664 : decode code 1664 = .ok (.invokevirtual 206, 3) := by decide +kernel
theorem zd_law_1667 : decode code 1667 = .ok (.aload_n 2, 1) := by decide +kernel
theorem zd_law_1668 : decode code 1668 = .ok (.aload_n 0, 1) := by decide +kernel
theorem zd_law_1669 : decode code 1669 = .ok (.iload_n 3, 1) := by decide +kernel
theorem zd_law_1670 : decode code 1670 = .ok (.iconst 1, 1) := by decide +kernel
theorem zd_law_1671 : decode code 1671 = .ok (.iadd, 1) := by decide +kernel
theorem zd_law_1672 : decode code 1672 = .ok (.iaload, 1) := by decide +kernel
theorem zd_law_1673 : decode code 1673 = .ok (.invokevirtual 209, 3) := by decide +kernel
theorem zd_law_1676 : decode code 1676 = .ok (.if_icmp .eq 28, 3) := by decide +kernel
theorem zd_law_1681 : decode code 1681 = .ok (.aload_n 1, 1) := by decide +kernel
theorem zd_law_1682 : decode code 1682 = .ok (.aload_n 0, 1) := by decide +kernel
theorem zd_law_1683 : decode code 1683 = .ok (.iload_n 3, 1) := by decide +kernel
theorem zd_law_1684 : decode code 1684 = .ok (.iconst 1, 1) := by decide +kernel
theorem zd_law_1685 : decode code 1685 = .ok (.iadd, 1) := by decide +kernel
theorem zd_law_1686 : decode code 1686 = .ok (.iaload, 1) := by decide +kernel
theorem zd_law_1687 : decode code 1687 = .ok (.invokevirtual 210, 3) := by decide +kernel
theorem zd_law_1690 : decode code 1690 = .ok (.aload_n 2, 1) := by decide +kernel
theorem zd_law_1691 : decode code 1691 = .ok (.aload_n 0, 1) := by decide +kernel
theorem zd_law_1692 : decode code 1692 = .ok (.iload_n 3, 1) := by decide +kernel
theorem zd_law_1693 : decode code 1693 = .ok (.iconst 1, 1) := by decide +kernel
theorem zd_law_1694 : decode code 1694 = .ok (.iadd, 1) := by decide +kernel
theorem zd_law_1695 : decode code 1695 = .ok (.iaload, 1) := by decide +kernel
theorem zd_law_1696 : decode code 1696 = .ok (.invokevirtual 213, 3) := by decide +kernel
theorem zd_law_1699 : decode code 1699 = .ok (.if_icmp .eq 5, 3) := by decide +kernel
theorem zd_law_1704 : decode code 1704 = .ok (.iinc 3 6, 3) := by decide +kernel
theorem zd_law_1707 : decode code 1707 = .ok (.goto (-1689), 3) := by decide +kernel
theorem zd_law_1710 : decode code 1710 = .ok (.iconst 1, 1) := by decide +kernel
theorem zd_law_1711 : decode code 1711 = .ok (.ireturn, 1) := by decide +kernel
