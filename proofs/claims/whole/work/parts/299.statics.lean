
def zi_flat : List Cond := flatC (Jvm.Cond.and given_1 narrow_1)
theorem zi_at {args : Array Value} {s : State} {w : Cond} (hgv : (Jvm.Cond.and given_1 narrow_1).before args s = true) (i : Nat) (h : zi_flat[i]? = some w) : w.before args s = true := flat_of_before _ hgv w (List.mem_of_getElem? h)
theorem zi_tb {args : Array Value} {s : State} {w : Cond} (hts0 : ∀ w ∈ lw_tbl, w.before args s = true) (i : Nat) (h : tables_1[i]? = some w) : w.before args s = true := hts0 w (List.mem_append_right _ (List.mem_of_getElem? h))
theorem zi_AT_FIRST {args : Array Value} {s : State} {A : Nat → Prop} (hgv : (Jvm.Cond.and given_1 narrow_1).before args s = true) (hts0 : ∀ w ∈ lw_tbl, w.before args s = true) (hA : ∀ a : Nat, a < s.heap.size → ¬ A a) : ∃ t : Nat, va_Z "StonePost$Thrower" "AT_FIRST" "[I" (.ref t) A s s.heap ∧ va_T .int t 9 (fun j => .int (zs_first j)) A s s.heap := by
  have e : ∀ j : Nat, j < 9 → (Term.elem (Term.static "StonePost$Thrower" "AT_FIRST" "[I") (.int (Int32.ofNat j))).eval args s none [] s = some (.int (zs_first j)) := by
    intro j hj
    rcases (show j = 0 ∨ j = 1 ∨ j = 2 ∨ j = 3 ∨ j = 4 ∨ j = 5 ∨ j = 6 ∨ j = 7 ∨ j = 8 by omega) with rfl | rfl | rfl | rfl | rfl | rfl | rfl | rfl | rfl
    · exact va_eqt (z := 0) (zi_at hgv 7 (by decide +kernel))
    · exact va_eqt (z := 0) (zi_at hgv 8 (by decide +kernel))
    · exact va_eqt (z := 2) (zi_at hgv 9 (by decide +kernel))
    · exact va_eqt (z := 5) (zi_at hgv 10 (by decide +kernel))
    · exact va_eqt (z := 1) (zi_at hgv 11 (by decide +kernel))
    · exact va_eqt (z := 8) (zi_at hgv 12 (by decide +kernel))
    · exact va_eqt (z := 0) (zi_at hgv 13 (by decide +kernel))
    · exact va_eqt (z := 0) (zi_at hgv 14 (by decide +kernel))
    · exact va_eqt (z := 0) (zi_at hgv 15 (by decide +kernel))
  obtain ⟨t, h1, h2⟩ := va_Tof (tm := (Term.static "StonePost$Thrower" "AT_FIRST" "[I")) (ty := .int) (N := 9) (f := fun j => .int (zs_first j)) (by decide) (zi_at hgv 5 (by decide +kernel)) (va_eqt (zi_at hgv 6 (by decide +kernel))) e hA
  exact ⟨t, va_Zref (zi_tb hts0 256 (by decide +kernel)) (zi_tb hts0 3 (by decide +kernel)) h1 hA, h2⟩
theorem zi_LEAST {args : Array Value} {s : State} {A : Nat → Prop} (hgv : (Jvm.Cond.and given_1 narrow_1).before args s = true) (hts0 : ∀ w ∈ lw_tbl, w.before args s = true) (hA : ∀ a : Nat, a < s.heap.size → ¬ A a) : ∃ t : Nat, va_Z "StonePost$Thrower" "LEAST" "[I" (.ref t) A s s.heap ∧ va_T .int t 9 (fun j => .int (zs_least j)) A s s.heap := by
  have e : ∀ j : Nat, j < 9 → (Term.elem (Term.static "StonePost$Thrower" "LEAST" "[I") (.int (Int32.ofNat j))).eval args s none [] s = some (.int (zs_least j)) := by
    intro j hj
    rcases (show j = 0 ∨ j = 1 ∨ j = 2 ∨ j = 3 ∨ j = 4 ∨ j = 5 ∨ j = 6 ∨ j = 7 ∨ j = 8 by omega) with rfl | rfl | rfl | rfl | rfl | rfl | rfl | rfl | rfl
    · exact va_eqt (z := 0) (zi_at hgv 19 (by decide +kernel))
    · exact va_eqt (z := 0) (zi_at hgv 20 (by decide +kernel))
    · exact va_eqt (z := 1) (zi_at hgv 21 (by decide +kernel))
    · exact va_eqt (z := 1) (zi_at hgv 22 (by decide +kernel))
    · exact va_eqt (z := 0) (zi_at hgv 23 (by decide +kernel))
    · exact va_eqt (z := 0) (zi_at hgv 24 (by decide +kernel))
    · exact va_eqt (z := 0) (zi_at hgv 25 (by decide +kernel))
    · exact va_eqt (z := 0) (zi_at hgv 26 (by decide +kernel))
    · exact va_eqt (z := 0) (zi_at hgv 27 (by decide +kernel))
  obtain ⟨t, h1, h2⟩ := va_Tof (tm := (Term.static "StonePost$Thrower" "LEAST" "[I")) (ty := .int) (N := 9) (f := fun j => .int (zs_least j)) (by decide) (zi_at hgv 17 (by decide +kernel)) (va_eqt (zi_at hgv 18 (by decide +kernel))) e hA
  exact ⟨t, va_Zref (zi_tb hts0 278 (by decide +kernel)) (zi_tb hts0 3 (by decide +kernel)) h1 hA, h2⟩
theorem zi_MOST {args : Array Value} {s : State} {A : Nat → Prop} (hgv : (Jvm.Cond.and given_1 narrow_1).before args s = true) (hts0 : ∀ w ∈ lw_tbl, w.before args s = true) (hA : ∀ a : Nat, a < s.heap.size → ¬ A a) : ∃ t : Nat, va_Z "StonePost$Thrower" "MOST" "[I" (.ref t) A s s.heap ∧ va_T .int t 9 (fun j => .int (zs_most j)) A s s.heap := by
  have e : ∀ j : Nat, j < 9 → (Term.elem (Term.static "StonePost$Thrower" "MOST" "[I") (.int (Int32.ofNat j))).eval args s none [] s = some (.int (zs_most j)) := by
    intro j hj
    rcases (show j = 0 ∨ j = 1 ∨ j = 2 ∨ j = 3 ∨ j = 4 ∨ j = 5 ∨ j = 6 ∨ j = 7 ∨ j = 8 by omega) with rfl | rfl | rfl | rfl | rfl | rfl | rfl | rfl | rfl
    · exact va_eqt (z := 6) (zi_at hgv 31 (by decide +kernel))
    · exact va_eqt (z := -1) (zi_at hgv 32 (by decide +kernel))
    · exact va_eqt (z := 9) (zi_at hgv 33 (by decide +kernel))
    · exact va_eqt (z := 12) (zi_at hgv 34 (by decide +kernel))
    · exact va_eqt (z := 1) (zi_at hgv 35 (by decide +kernel))
    · exact va_eqt (z := 12) (zi_at hgv 36 (by decide +kernel))
    · exact va_eqt (z := 1) (zi_at hgv 37 (by decide +kernel))
    · exact va_eqt (z := 1) (zi_at hgv 38 (by decide +kernel))
    · exact va_eqt (z := -1) (zi_at hgv 39 (by decide +kernel))
  obtain ⟨t, h1, h2⟩ := va_Tof (tm := (Term.static "StonePost$Thrower" "MOST" "[I")) (ty := .int) (N := 9) (f := fun j => .int (zs_most j)) (by decide) (zi_at hgv 29 (by decide +kernel)) (va_eqt (zi_at hgv 30 (by decide +kernel))) e hA
  exact ⟨t, va_Zref (zi_tb hts0 280 (by decide +kernel)) (zi_tb hts0 3 (by decide +kernel)) h1 hA, h2⟩
theorem zi_KIND_ABOVE {args : Array Value} {s : State} {A : Nat → Prop} (hgv : (Jvm.Cond.and given_1 narrow_1).before args s = true) (hts0 : ∀ w ∈ lw_tbl, w.before args s = true) (hA : ∀ a : Nat, a < s.heap.size → ¬ A a) : ∃ t : Nat, va_Z "StonePost$Thrower" "KIND_ABOVE" "[I" (.ref t) A s s.heap ∧ va_T .int t 7 (fun j => .int (zs_above j)) A s s.heap := by
  have e : ∀ j : Nat, j < 7 → (Term.elem (Term.static "StonePost$Thrower" "KIND_ABOVE" "[I") (.int (Int32.ofNat j))).eval args s none [] s = some (.int (zs_above j)) := by
    intro j hj
    rcases (show j = 0 ∨ j = 1 ∨ j = 2 ∨ j = 3 ∨ j = 4 ∨ j = 5 ∨ j = 6 by omega) with rfl | rfl | rfl | rfl | rfl | rfl | rfl
    · exact va_eqt (z := -1) (zi_at hgv 48 (by decide +kernel))
    · exact va_eqt (z := 0) (zi_at hgv 49 (by decide +kernel))
    · exact va_eqt (z := 0) (zi_at hgv 50 (by decide +kernel))
    · exact va_eqt (z := 1) (zi_at hgv 51 (by decide +kernel))
    · exact va_eqt (z := 2) (zi_at hgv 52 (by decide +kernel))
    · exact va_eqt (z := 0) (zi_at hgv 53 (by decide +kernel))
    · exact va_eqt (z := 0) (zi_at hgv 54 (by decide +kernel))
  obtain ⟨t, h1, h2⟩ := va_Tof (tm := (Term.static "StonePost$Thrower" "KIND_ABOVE" "[I")) (ty := .int) (N := 7) (f := fun j => .int (zs_above j)) (by decide) (zi_at hgv 46 (by decide +kernel)) (va_eqt (zi_at hgv 47 (by decide +kernel))) e hA
  exact ⟨t, va_Zref (zi_tb hts0 777 (by decide +kernel)) (zi_tb hts0 3 (by decide +kernel)) h1 hA, h2⟩
def zi_tm (i : Nat) : Term := Term.string "StonePost$TextReader" (zs_ix.getD i 0)
def zi_pex : List Nat := [345, 370, 397, 69, 78, 88, 99, 120, 136, 152, 168, 185, 203, 220, 110, 238, 256, 277, 298, 321]
def zi_pco : List Nat := [346, 371, 398, 70, 79, 89, 100, 121, 137, 153, 169, 186, 204, 221, 111, 239, 257, 278, 299, 322]
def zi_par : List Nat := [347, 372, 399, 71, 80, 90, 101, 122, 138, 154, 170, 187, 205, 222, 112, 240, 258, 279, 300, 323]
def zi_ple : List Nat := [348, 373, 400, 72, 81, 91, 102, 123, 139, 155, 171, 188, 206, 223, 113, 241, 259, 280, 301, 324]
def zi_pel : List (List Nat) := [[349, 350, 351, 352], [374, 375, 376, 377, 378], [401, 402, 403, 404, 405, 406], [73, 74, 75, 76, 77], [82, 83, 84, 85, 86], [92, 93, 94, 95, 96], [103, 104, 105, 106], [124, 125, 126, 127, 128, 129, 130], [140, 141, 142, 143, 144, 145], [156, 157, 158, 159, 160], [172, 173, 174, 175, 176], [189, 190, 191, 192, 193], [207, 208, 209], [224, 225, 226], [114, 115], [242, 243], [260, 261, 262, 263], [281, 282, 283], [302, 303, 304, 305], [325, 326, 327, 328]]
def zi_pne : List (List (Nat × Nat)) := [[(0, 0), (396, 0), (424, 0), (353, 1), (354, 1), (355, 1), (356, 1), (358, 1), (359, 1), (360, 1), (361, 1), (362, 1), (363, 1), (364, 1), (357, 1), (365, 1), (366, 1), (367, 1), (368, 1), (369, 1)], [(396, 1), (0, 0), (425, 0), (379, 1), (380, 1), (381, 1), (382, 1), (384, 1), (385, 1), (386, 1), (387, 1), (388, 1), (389, 1), (390, 1), (383, 1), (391, 1), (392, 1), (393, 1), (394, 1), (395, 1)], [(424, 1), (425, 1), (0, 0), (407, 1), (408, 1), (409, 1), (410, 1), (412, 1), (413, 1), (414, 1), (415, 1), (416, 1), (417, 1), (418, 1), (411, 1), (419, 1), (420, 1), (421, 1), (422, 1), (423, 1)], [(353, 0), (379, 0), (407, 0), (0, 0), (87, 0), (97, 0), (107, 0), (131, 0), (146, 0), (161, 0), (177, 0), (194, 0), (210, 0), (227, 0), (116, 0), (244, 0), (264, 0), (284, 0), (306, 0), (329, 0)], [(354, 0), (380, 0), (408, 0), (87, 1), (0, 0), (98, 0), (108, 0), (132, 0), (147, 0), (162, 0), (178, 0), (195, 0), (211, 0), (228, 0), (117, 0), (245, 0), (265, 0), (285, 0), (307, 0), (330, 0)], [(355, 0), (381, 0), (409, 0), (97, 1), (98, 1), (0, 0), (109, 0), (133, 0), (148, 0), (163, 0), (179, 0), (196, 0), (212, 0), (229, 0), (118, 0), (246, 0), (266, 0), (286, 0), (308, 0), (331, 0)], [(356, 0), (382, 0), (410, 0), (107, 1), (108, 1), (109, 1), (0, 0), (134, 0), (149, 0), (164, 0), (180, 0), (197, 0), (213, 0), (230, 0), (119, 0), (247, 0), (267, 0), (287, 0), (309, 0), (332, 0)], [(358, 0), (384, 0), (412, 0), (131, 1), (132, 1), (133, 1), (134, 1), (0, 0), (151, 0), (166, 0), (182, 0), (199, 0), (215, 0), (232, 0), (135, 1), (249, 0), (269, 0), (289, 0), (311, 0), (334, 0)], [(359, 0), (385, 0), (413, 0), (146, 1), (147, 1), (148, 1), (149, 1), (151, 1), (0, 0), (167, 0), (183, 0), (200, 0), (216, 0), (233, 0), (150, 1), (250, 0), (270, 0), (290, 0), (312, 0), (335, 0)], [(360, 0), (386, 0), (414, 0), (161, 1), (162, 1), (163, 1), (164, 1), (166, 1), (167, 1), (0, 0), (184, 0), (201, 0), (217, 0), (234, 0), (165, 1), (251, 0), (271, 0), (291, 0), (313, 0), (336, 0)], [(361, 0), (387, 0), (415, 0), (177, 1), (178, 1), (179, 1), (180, 1), (182, 1), (183, 1), (184, 1), (0, 0), (202, 0), (218, 0), (235, 0), (181, 1), (252, 0), (272, 0), (292, 0), (314, 0), (337, 0)], [(362, 0), (388, 0), (416, 0), (194, 1), (195, 1), (196, 1), (197, 1), (199, 1), (200, 1), (201, 1), (202, 1), (0, 0), (219, 0), (236, 0), (198, 1), (253, 0), (273, 0), (293, 0), (315, 0), (338, 0)], [(363, 0), (389, 0), (417, 0), (210, 1), (211, 1), (212, 1), (213, 1), (215, 1), (216, 1), (217, 1), (218, 1), (219, 1), (0, 0), (237, 0), (214, 1), (254, 0), (274, 0), (294, 0), (316, 0), (339, 0)], [(364, 0), (390, 0), (418, 0), (227, 1), (228, 1), (229, 1), (230, 1), (232, 1), (233, 1), (234, 1), (235, 1), (236, 1), (237, 1), (0, 0), (231, 1), (255, 0), (275, 0), (295, 0), (317, 0), (340, 0)], [(357, 0), (383, 0), (411, 0), (116, 1), (117, 1), (118, 1), (119, 1), (135, 0), (150, 0), (165, 0), (181, 0), (198, 0), (214, 0), (231, 0), (0, 0), (248, 0), (268, 0), (288, 0), (310, 0), (333, 0)], [(365, 0), (391, 0), (419, 0), (244, 1), (245, 1), (246, 1), (247, 1), (249, 1), (250, 1), (251, 1), (252, 1), (253, 1), (254, 1), (255, 1), (248, 1), (0, 0), (276, 0), (296, 0), (318, 0), (341, 0)], [(366, 0), (392, 0), (420, 0), (264, 1), (265, 1), (266, 1), (267, 1), (269, 1), (270, 1), (271, 1), (272, 1), (273, 1), (274, 1), (275, 1), (268, 1), (276, 1), (0, 0), (297, 0), (319, 0), (342, 0)], [(367, 0), (393, 0), (421, 0), (284, 1), (285, 1), (286, 1), (287, 1), (289, 1), (290, 1), (291, 1), (292, 1), (293, 1), (294, 1), (295, 1), (288, 1), (296, 1), (297, 1), (0, 0), (320, 0), (343, 0)], [(368, 0), (394, 0), (422, 0), (306, 1), (307, 1), (308, 1), (309, 1), (311, 1), (312, 1), (313, 1), (314, 1), (315, 1), (316, 1), (317, 1), (310, 1), (318, 1), (319, 1), (320, 1), (0, 0), (344, 0)], [(369, 0), (395, 0), (423, 0), (329, 1), (330, 1), (331, 1), (332, 1), (334, 1), (335, 1), (336, 1), (337, 1), (338, 1), (339, 1), (340, 1), (333, 1), (341, 1), (342, 1), (343, 1), (344, 1), (0, 0)]]
theorem zi_k1 : ∀ i : Fin 20, zi_flat[zi_pex.getD i.val 0]? = some (Cond.exactly (zi_tm i.val) "java/lang/String") := by decide +kernel
theorem zi_k2 : ∀ i : Fin 20, zi_flat[zi_pco.getD i.val 0]? = some (Cond.eq (.field (zi_tm i.val) "java/lang/String" "coder" "B") (.int 0)) := by decide +kernel
theorem zi_k3 : ∀ i : Fin 20, zi_flat[zi_par.getD i.val 0]? = some (Cond.arrayOf (.field (zi_tm i.val) "java/lang/String" "value" "[B") .byte) := by decide +kernel
theorem zi_k4 : ∀ i : Fin 20, zi_flat[zi_ple.getD i.val 0]? = some (Cond.eq (.length (.field (zi_tm i.val) "java/lang/String" "value" "[B")) (.int (Int32.ofNat (zs_len.getD i.val 0)))) := by decide +kernel
theorem zi_k5 : ∀ i : Fin 20, ∀ j : Fin 8, j.val < zs_len.getD i.val 0 → zi_flat[(zi_pel.getD i.val []).getD j.val 0]? = some (Cond.eq (.elem (.field (zi_tm i.val) "java/lang/String" "value" "[B") (.int (Int32.ofNat j.val))) (.int ((zs_byt.getD i.val []).getD j.val 0))) := by decide +kernel
theorem zi_k6 : ∀ i : Fin 20, ∀ j : Fin 20, i.val ≠ j.val → zi_flat[((zi_pne.getD i.val []).getD j.val (0, 0)).1]? = some (if ((zi_pne.getD i.val []).getD j.val (0, 0)).2 = 0 then Cond.not (Cond.eq (zi_tm i.val) (zi_tm j.val)) else Cond.not (Cond.eq (zi_tm j.val) (zi_tm i.val))) := by decide +kernel
theorem zi_k7 : ∀ i : Fin 20, zs_len.getD i.val 0 ≤ 7 := by decide +kernel
def zi_psr : List Nat := [748, 752, 756, 657, 710, 711, 712, 726, 727, 728, 729, 730, 731, 732, 722, 736, 739, 745, 746, 747]
theorem zi_k8 : ∀ i : Fin 20, tables_1[zi_psr.getD i.val 0]? = some (Cond.stringRef "StonePost$TextReader" (zs_ix.getD i.val 0) (zs_tx.getD i.val "")) := by decide +kernel
theorem zi_strings {args : Array Value} {s : State} {A : Nat → Prop} (hgv : (Jvm.Cond.and given_1 narrow_1).before args s = true) (hts0 : ∀ w ∈ lw_tbl, w.before args s = true) (hA : ∀ a : Nat, a < s.heap.size → ¬ A a) : ∃ adK adV : Nat → Nat, vk_S 20 zs_len zs_byt adK adV A s s.heap ∧ ∀ i : Nat, i < 20 → vk_R "StonePost$TextReader" (zs_ix.getD i 0) (zs_tx.getD i "") (adK i) s := by
  obtain ⟨adK, adV, h1, h2⟩ := vk_Sof (args := args) (s := s) (N := 20) (tm := zi_tm) (len := zs_len) (byt := zs_byt) (A := A) (fun i hi => by have := zi_k7 ⟨i, hi⟩; simp only at this; omega)
    (fun i hi => zi_at hgv _ (zi_k1 ⟨i, hi⟩)) (fun i hi => zi_at hgv _ (zi_k2 ⟨i, hi⟩)) (fun i hi => zi_at hgv _ (zi_k3 ⟨i, hi⟩)) (fun i hi => zi_at hgv _ (zi_k4 ⟨i, hi⟩))
    (fun i hi j hj => zi_at hgv _ (zi_k5 ⟨i, hi⟩ ⟨j, by have := zi_k7 ⟨i, hi⟩; simp only at this; omega⟩ hj))
    (fun i j hi hj hij => by
      have h := zi_at hgv _ (zi_k6 ⟨i, hi⟩ ⟨j, hj⟩ hij)
      split at h
      · exact Or.inl h
      · exact Or.inr h) hA
  exact ⟨adK, adV, h1, fun i hi => vk_R.of (zi_tb hts0 _ (zi_k8 ⟨i, hi⟩)) (h2 i hi)⟩
theorem zi_jdk {args : Array Value} {s : State} {A : Nat → Prop} (hgv : (Jvm.Cond.and given_1 narrow_1).before args s = true) (hts0 : ∀ w ∈ lw_tbl, w.before args s = true) (hA : ∀ a : Nat, a < s.heap.size → ¬ A a) : va_Z "java/lang/String" "COMPACT_STRINGS" "Z" (.int 1) A s s.heap ∧ va_Zq "jdk/internal/util/Preconditions" "SIOOBE_FORMATTER" "Ljava/util/function/BiFunction;" A s s.heap :=
  ⟨va_Zof (zi_tb hts0 671 (by decide +kernel)) (zi_tb hts0 13 (by decide +kernel)) (va_eqi (zi_at hgv 40 (by decide +kernel))) hA, va_Zqof (zi_tb hts0 687 (by decide +kernel)) (zi_tb hts0 15 (by decide +kernel)) (zi_at hgv 41 (by decide +kernel)) hA⟩
theorem zi_nest {args : Array Value} {s : State} (hts0 : ∀ w ∈ lw_tbl, w.before args s = true) : zu_Sd s := ⟨va_Nw.of rfl (zi_tb hts0 34 (by decide +kernel)), va_Nw.of rfl (zi_tb hts0 102 (by decide +kernel)), va_Nw.of rfl (zi_tb hts0 143 (by decide +kernel)), va_Nw.of rfl (zi_tb hts0 174 (by decide +kernel)), va_Nw.of rfl (zi_tb hts0 276 (by decide +kernel)), va_Nw.of rfl (zi_tb hts0 431 (by decide +kernel)), va_Nw.of rfl (zi_tb hts0 721 (by decide +kernel)), va_Nw.of rfl (zi_tb hts0 743 (by decide +kernel)), va_Nw.of rfl (zi_tb hts0 744 (by decide +kernel)), va_Nw.of rfl (zi_tb hts0 775 (by decide +kernel))⟩
theorem zi_K {args : Array Value} {s : State} (hts0 : ∀ w ∈ lw_tbl, w.before args s = true) : ∃ (D : va_G) (cA : Nat → ClassId), zu_Kc D cA s := by
  have hts : ∀ w ∈ zu_TB, w.before args s = true := fun w hw => hts0 w (List.mem_filter.mp hw).1
  obtain ⟨c0, iS0, hKn0⟩ := u_known (C := zc_Chart) (T := zt_Chart) (N := 9) (n := 9) hts zi_Chart (hts _ zq_101)
  obtain ⟨c1, iS1, hKn1⟩ := u_known (C := zc_Land) (T := zt_Land) (N := 10) (n := 10) hts zi_Land (hts _ zq_26)
  obtain ⟨c2, iS2, hKn2⟩ := u_known (C := zc_Sheet) (T := zt_Sheet) (N := 3) (n := 3) hts zi_Sheet (hts _ zq_173)
  obtain ⟨c3, iS3, hKn3⟩ := u_known (C := zc_Tape) (T := zt_Tape) (N := 6) (n := 6) hts zi_Tape (hts _ zq_142)
  obtain ⟨c4, iS4, hKn4⟩ := u_known (C := zc_Thr) (T := zt_Thr) (N := 1) (n := 1) hts zi_Thr (hts _ zq_33)
  obtain ⟨c5, iS5, hKn5⟩ := u_known (C := zc_Post) (T := zt_Post) (N := 8) (n := 8) hts zi_Post (hts _ zq_18)
  obtain ⟨c6, iS6, hKn6⟩ := u_known (C := zc_Mod) (T := zt_Mod) (N := 23) (n := 23) hts zi_Mod (hts _ zq_856)
  obtain ⟨a0, k0, m0, e0, f0, g0⟩ := Cond.arrayClass_spec (zi_tb hts0 46 (by decide +kernel) : (Cond.arrayClass .int).before args s = true)
  obtain ⟨a1, k1, m1, e1, f1, g1⟩ := Cond.arrayClass_spec (zi_tb hts0 140 (by decide +kernel) : (Cond.arrayClass .long).before args s = true)
  have o2 : (Cond.arrayOver (.object "StonePost$Sheet")).before args s = true := zi_tb hts0 172 (by decide +kernel)
  have o3 : (Cond.arrayOver (.object "StonePost$Thrower")).before args s = true := zi_tb hts0 32 (by decide +kernel)
  obtain ⟨m2, a2, k2, r2, s2, f2, g2, e2⟩ := Cond.arrayOver_spec o2
  obtain ⟨m3, a3, k3, r3, s3, f3, g3, e3⟩ := Cond.arrayOver_spec o3
  refine ⟨(fun k => if k = 0 then c0 else if k = 1 then c1 else if k = 2 then c2 else if k = 3 then c3 else if k = 4 then c4 else if k = 5 then c5 else c6, fun k => if k = 0 then iS0 else if k = 1 then iS1 else if k = 2 then iS2 else if k = 3 then iS3 else if k = 4 then iS4 else if k = 5 then iS5 else iS6), fun k => if k = 0 then a0 else if k = 1 then a1 else if k = 2 then a2 else a3, ⟨?_, ?_⟩, va_AO.of o3, va_AO.of o2, zi_nest hts0⟩
  · intro k q hq
    match k, hq with
    | 0, hq => cases hq; exact hKn0
    | 1, hq => cases hq; exact hKn1
    | 2, hq => cases hq; exact hKn2
    | 3, hq => cases hq; exact hKn3
    | 4, hq => cases hq; exact hKn4
    | 5, hq => cases hq; exact hKn5
    | 6, hq => cases hq; exact hKn6
    | k + 7, hq => simp [zu_cl] at hq
  · intro k q hq
    match k, hq with
    | 0, hq => cases hq; exact ⟨fun n z => ⟨fun k h => (by cases h), k0, f0, m0, g0⟩, e0⟩
    | 1, hq => cases hq; exact ⟨fun n z => ⟨fun k h => (by cases h), k1, f1, m1, g1⟩, e1⟩
    | 2, hq => cases hq; exact ⟨fun n z => ⟨fun k h => (by cases h), k2, f2, m2, g2⟩, k2, m2, f2, g2, r2, e2⟩
    | 3, hq => cases hq; exact ⟨fun n z => ⟨fun k h => (by cases h), k3, f3, m3, g3⟩, k3, m3, f3, g3, r3, e3⟩
    | k + 4, hq => simp [zu_tys] at hq
def zo_s : Nat → Int32 := (upd (upd (upd (upd (upd (upd (upd (upd (upd (upd (upd (upd (upd (fun _ => 0) 3 (23)) 4 (2)) 5 (1)) 132 (-1)) 133 (-1)) 134 (-1)) 135 (-1)) 136 (-1)) 137 (-1)) 138 (-1)) 139 (-1)) 140 (-1)) 141 (-1))
def zi_X0 : IX := fun r => if r < 95 then zo_X0 r else if r = 96 then zo_s else fun _ => 0
def zi_ad (aP : Nat → Nat) (y : Nat) (qM : Nat → Nat) (T : List Nat) (adK adV : Nat → Nat) : Nat → Nat := fun r => if r < 95 then aP r else if r = 95 then y else if r < 109 then qM (r - 96) else if r < 200 then T.getD (r - 120) 0 else if r < 300 then adK (r - 200) else adV (r - 300)
theorem zi_P {D : va_G} {cA : Nat → ClassId} {H : Heap} {aP : Nat → Nat} {y : Nat} {qM : Nat → Nat} {T : List Nat} {adK adV : Nat → Nat} (hP : va_P D zu_cl (zo_Post_init cA aP ++ zo_Mod_init cA y qM) H) : va_P D zu_cl (zu_pic cA (zi_ad aP y qM T adK adV) zi_X0 zo_Y0) H := by
  have hp := zu_Pl hP
  have hm := zu_Pr hP
  have hh : ∀ r, r < 95 → va_at D zu_cl (aP r, zu_ent cA aP zo_X0 zo_Y0 r) H := fun r hr => hp r _ (by simp [zo_Post_init, List.getElem?_range hr])
  have ht0 : va_at D zu_cl (zi_ad aP y qM T adK adV 0, zu_ent cA (zi_ad aP y qM T adK adV) zi_X0 zo_Y0 0) H := hh 0 (by decide)
  have ht1 : va_at D zu_cl (zi_ad aP y qM T adK adV 1, zu_ent cA (zi_ad aP y qM T adK adV) zi_X0 zo_Y0 1) H := hh 1 (by decide)
  have ht2 : va_at D zu_cl (zi_ad aP y qM T adK adV 2, zu_ent cA (zi_ad aP y qM T adK adV) zi_X0 zo_Y0 2) H := hh 2 (by decide)
  have ht3 : va_at D zu_cl (zi_ad aP y qM T adK adV 3, zu_ent cA (zi_ad aP y qM T adK adV) zi_X0 zo_Y0 3) H := hh 3 (by decide)
  have ht4 : va_at D zu_cl (zi_ad aP y qM T adK adV 4, zu_ent cA (zi_ad aP y qM T adK adV) zi_X0 zo_Y0 4) H := hh 4 (by decide)
  have ht5 : va_at D zu_cl (zi_ad aP y qM T adK adV 5, zu_ent cA (zi_ad aP y qM T adK adV) zi_X0 zo_Y0 5) H := hh 5 (by decide)
  have ht6 : va_at D zu_cl (zi_ad aP y qM T adK adV 6, zu_ent cA (zi_ad aP y qM T adK adV) zi_X0 zo_Y0 6) H := hh 6 (by decide)
  have ht7 : va_at D zu_cl (zi_ad aP y qM T adK adV 7, zu_ent cA (zi_ad aP y qM T adK adV) zi_X0 zo_Y0 7) H := hh 7 (by decide)
  have ht8 : va_at D zu_cl (zi_ad aP y qM T adK adV 8, zu_ent cA (zi_ad aP y qM T adK adV) zi_X0 zo_Y0 8) H := hh 8 (by decide)
  have ht9 : va_at D zu_cl (zi_ad aP y qM T adK adV 9, zu_ent cA (zi_ad aP y qM T adK adV) zi_X0 zo_Y0 9) H := hh 9 (by decide)
  have ht10 : va_at D zu_cl (zi_ad aP y qM T adK adV 10, zu_ent cA (zi_ad aP y qM T adK adV) zi_X0 zo_Y0 10) H := zu_reat (n := 4) (f := fun j => some (aP (12 + j))) (g := fun j => some (zi_ad aP y qM T adK adV (12 + j))) (hh 10 (by decide)) (fun j hj => by rcases (show j = 0 ∨ j = 1 ∨ j = 2 ∨ j = 3 by omega) with rfl | rfl | rfl | rfl <;> rfl)
  have ht11 : va_at D zu_cl (zi_ad aP y qM T adK adV 11, zu_ent cA (zi_ad aP y qM T adK adV) zi_X0 zo_Y0 11) H := hh 11 (by decide)
  have ht12 : va_at D zu_cl (zi_ad aP y qM T adK adV 12, zu_ent cA (zi_ad aP y qM T adK adV) zi_X0 zo_Y0 12) H := hh 12 (by decide)
  have ht13 : va_at D zu_cl (zi_ad aP y qM T adK adV 13, zu_ent cA (zi_ad aP y qM T adK adV) zi_X0 zo_Y0 13) H := hh 13 (by decide)
  have ht14 : va_at D zu_cl (zi_ad aP y qM T adK adV 14, zu_ent cA (zi_ad aP y qM T adK adV) zi_X0 zo_Y0 14) H := hh 14 (by decide)
  have ht15 : va_at D zu_cl (zi_ad aP y qM T adK adV 15, zu_ent cA (zi_ad aP y qM T adK adV) zi_X0 zo_Y0 15) H := hh 15 (by decide)
  have ht16 : va_at D zu_cl (zi_ad aP y qM T adK adV 16, zu_ent cA (zi_ad aP y qM T adK adV) zi_X0 zo_Y0 16) H := hh 16 (by decide)
  have ht17 : va_at D zu_cl (zi_ad aP y qM T adK adV 17, zu_ent cA (zi_ad aP y qM T adK adV) zi_X0 zo_Y0 17) H := hh 17 (by decide)
  have ht18 : va_at D zu_cl (zi_ad aP y qM T adK adV 18, zu_ent cA (zi_ad aP y qM T adK adV) zi_X0 zo_Y0 18) H := hh 18 (by decide)
  have ht19 : va_at D zu_cl (zi_ad aP y qM T adK adV 19, zu_ent cA (zi_ad aP y qM T adK adV) zi_X0 zo_Y0 19) H := hh 19 (by decide)
  have ht20 : va_at D zu_cl (zi_ad aP y qM T adK adV 20, zu_ent cA (zi_ad aP y qM T adK adV) zi_X0 zo_Y0 20) H := hh 20 (by decide)
  have ht21 : va_at D zu_cl (zi_ad aP y qM T adK adV 21, zu_ent cA (zi_ad aP y qM T adK adV) zi_X0 zo_Y0 21) H := hh 21 (by decide)
  have ht22 : va_at D zu_cl (zi_ad aP y qM T adK adV 22, zu_ent cA (zi_ad aP y qM T adK adV) zi_X0 zo_Y0 22) H := hh 22 (by decide)
  have ht23 : va_at D zu_cl (zi_ad aP y qM T adK adV 23, zu_ent cA (zi_ad aP y qM T adK adV) zi_X0 zo_Y0 23) H := hh 23 (by decide)
  have ht24 : va_at D zu_cl (zi_ad aP y qM T adK adV 24, zu_ent cA (zi_ad aP y qM T adK adV) zi_X0 zo_Y0 24) H := hh 24 (by decide)
  have ht25 : va_at D zu_cl (zi_ad aP y qM T adK adV 25, zu_ent cA (zi_ad aP y qM T adK adV) zi_X0 zo_Y0 25) H := hh 25 (by decide)
  have ht26 : va_at D zu_cl (zi_ad aP y qM T adK adV 26, zu_ent cA (zi_ad aP y qM T adK adV) zi_X0 zo_Y0 26) H := zu_reat (n := 10) (f := fun j => some (aP (zu_th 26 j))) (g := fun j => some (zi_ad aP y qM T adK adV (zu_th 26 j))) (hh 26 (by decide)) (fun j hj => by rcases (show j = 0 ∨ j = 1 ∨ j = 2 ∨ j = 3 ∨ j = 4 ∨ j = 5 ∨ j = 6 ∨ j = 7 ∨ j = 8 ∨ j = 9 by omega) with rfl | rfl | rfl | rfl | rfl | rfl | rfl | rfl | rfl | rfl <;> rfl)
  have ht27 : va_at D zu_cl (zi_ad aP y qM T adK adV 27, zu_ent cA (zi_ad aP y qM T adK adV) zi_X0 zo_Y0 27) H := zu_reat (n := 10) (f := fun j => some (aP (zu_th 27 j))) (g := fun j => some (zi_ad aP y qM T adK adV (zu_th 27 j))) (hh 27 (by decide)) (fun j hj => by rcases (show j = 0 ∨ j = 1 ∨ j = 2 ∨ j = 3 ∨ j = 4 ∨ j = 5 ∨ j = 6 ∨ j = 7 ∨ j = 8 ∨ j = 9 by omega) with rfl | rfl | rfl | rfl | rfl | rfl | rfl | rfl | rfl | rfl <;> rfl)
  have ht28 : va_at D zu_cl (zi_ad aP y qM T adK adV 28, zu_ent cA (zi_ad aP y qM T adK adV) zi_X0 zo_Y0 28) H := zu_reat (n := 10) (f := fun j => some (aP (zu_th 28 j))) (g := fun j => some (zi_ad aP y qM T adK adV (zu_th 28 j))) (hh 28 (by decide)) (fun j hj => by rcases (show j = 0 ∨ j = 1 ∨ j = 2 ∨ j = 3 ∨ j = 4 ∨ j = 5 ∨ j = 6 ∨ j = 7 ∨ j = 8 ∨ j = 9 by omega) with rfl | rfl | rfl | rfl | rfl | rfl | rfl | rfl | rfl | rfl <;> rfl)
  have ht29 : va_at D zu_cl (zi_ad aP y qM T adK adV 29, zu_ent cA (zi_ad aP y qM T adK adV) zi_X0 zo_Y0 29) H := hh 29 (by decide)
  have ht30 : va_at D zu_cl (zi_ad aP y qM T adK adV 30, zu_ent cA (zi_ad aP y qM T adK adV) zi_X0 zo_Y0 30) H := hh 30 (by decide)
  have ht31 : va_at D zu_cl (zi_ad aP y qM T adK adV 31, zu_ent cA (zi_ad aP y qM T adK adV) zi_X0 zo_Y0 31) H := hh 31 (by decide)
  have ht32 : va_at D zu_cl (zi_ad aP y qM T adK adV 32, zu_ent cA (zi_ad aP y qM T adK adV) zi_X0 zo_Y0 32) H := hh 32 (by decide)
  have ht33 : va_at D zu_cl (zi_ad aP y qM T adK adV 33, zu_ent cA (zi_ad aP y qM T adK adV) zi_X0 zo_Y0 33) H := hh 33 (by decide)
  have ht34 : va_at D zu_cl (zi_ad aP y qM T adK adV 34, zu_ent cA (zi_ad aP y qM T adK adV) zi_X0 zo_Y0 34) H := hh 34 (by decide)
  have ht35 : va_at D zu_cl (zi_ad aP y qM T adK adV 35, zu_ent cA (zi_ad aP y qM T adK adV) zi_X0 zo_Y0 35) H := hh 35 (by decide)
  have ht36 : va_at D zu_cl (zi_ad aP y qM T adK adV 36, zu_ent cA (zi_ad aP y qM T adK adV) zi_X0 zo_Y0 36) H := hh 36 (by decide)
  have ht37 : va_at D zu_cl (zi_ad aP y qM T adK adV 37, zu_ent cA (zi_ad aP y qM T adK adV) zi_X0 zo_Y0 37) H := hh 37 (by decide)
  have ht38 : va_at D zu_cl (zi_ad aP y qM T adK adV 38, zu_ent cA (zi_ad aP y qM T adK adV) zi_X0 zo_Y0 38) H := hh 38 (by decide)
  have ht39 : va_at D zu_cl (zi_ad aP y qM T adK adV 39, zu_ent cA (zi_ad aP y qM T adK adV) zi_X0 zo_Y0 39) H := hh 39 (by decide)
  have ht40 : va_at D zu_cl (zi_ad aP y qM T adK adV 40, zu_ent cA (zi_ad aP y qM T adK adV) zi_X0 zo_Y0 40) H := hh 40 (by decide)
  have ht41 : va_at D zu_cl (zi_ad aP y qM T adK adV 41, zu_ent cA (zi_ad aP y qM T adK adV) zi_X0 zo_Y0 41) H := hh 41 (by decide)
  have ht42 : va_at D zu_cl (zi_ad aP y qM T adK adV 42, zu_ent cA (zi_ad aP y qM T adK adV) zi_X0 zo_Y0 42) H := hh 42 (by decide)
  have ht43 : va_at D zu_cl (zi_ad aP y qM T adK adV 43, zu_ent cA (zi_ad aP y qM T adK adV) zi_X0 zo_Y0 43) H := hh 43 (by decide)
  have ht44 : va_at D zu_cl (zi_ad aP y qM T adK adV 44, zu_ent cA (zi_ad aP y qM T adK adV) zi_X0 zo_Y0 44) H := hh 44 (by decide)
  have ht45 : va_at D zu_cl (zi_ad aP y qM T adK adV 45, zu_ent cA (zi_ad aP y qM T adK adV) zi_X0 zo_Y0 45) H := hh 45 (by decide)
  have ht46 : va_at D zu_cl (zi_ad aP y qM T adK adV 46, zu_ent cA (zi_ad aP y qM T adK adV) zi_X0 zo_Y0 46) H := hh 46 (by decide)
  have ht47 : va_at D zu_cl (zi_ad aP y qM T adK adV 47, zu_ent cA (zi_ad aP y qM T adK adV) zi_X0 zo_Y0 47) H := hh 47 (by decide)
  have ht48 : va_at D zu_cl (zi_ad aP y qM T adK adV 48, zu_ent cA (zi_ad aP y qM T adK adV) zi_X0 zo_Y0 48) H := hh 48 (by decide)
  have ht49 : va_at D zu_cl (zi_ad aP y qM T adK adV 49, zu_ent cA (zi_ad aP y qM T adK adV) zi_X0 zo_Y0 49) H := hh 49 (by decide)
  have ht50 : va_at D zu_cl (zi_ad aP y qM T adK adV 50, zu_ent cA (zi_ad aP y qM T adK adV) zi_X0 zo_Y0 50) H := hh 50 (by decide)
  have ht51 : va_at D zu_cl (zi_ad aP y qM T adK adV 51, zu_ent cA (zi_ad aP y qM T adK adV) zi_X0 zo_Y0 51) H := hh 51 (by decide)
  have ht52 : va_at D zu_cl (zi_ad aP y qM T adK adV 52, zu_ent cA (zi_ad aP y qM T adK adV) zi_X0 zo_Y0 52) H := hh 52 (by decide)
  have ht53 : va_at D zu_cl (zi_ad aP y qM T adK adV 53, zu_ent cA (zi_ad aP y qM T adK adV) zi_X0 zo_Y0 53) H := hh 53 (by decide)
  have ht54 : va_at D zu_cl (zi_ad aP y qM T adK adV 54, zu_ent cA (zi_ad aP y qM T adK adV) zi_X0 zo_Y0 54) H := hh 54 (by decide)
  have ht55 : va_at D zu_cl (zi_ad aP y qM T adK adV 55, zu_ent cA (zi_ad aP y qM T adK adV) zi_X0 zo_Y0 55) H := hh 55 (by decide)
  have ht56 : va_at D zu_cl (zi_ad aP y qM T adK adV 56, zu_ent cA (zi_ad aP y qM T adK adV) zi_X0 zo_Y0 56) H := hh 56 (by decide)
  have ht57 : va_at D zu_cl (zi_ad aP y qM T adK adV 57, zu_ent cA (zi_ad aP y qM T adK adV) zi_X0 zo_Y0 57) H := hh 57 (by decide)
  have ht58 : va_at D zu_cl (zi_ad aP y qM T adK adV 58, zu_ent cA (zi_ad aP y qM T adK adV) zi_X0 zo_Y0 58) H := hh 58 (by decide)
  have ht59 : va_at D zu_cl (zi_ad aP y qM T adK adV 59, zu_ent cA (zi_ad aP y qM T adK adV) zi_X0 zo_Y0 59) H := hh 59 (by decide)
  have ht60 : va_at D zu_cl (zi_ad aP y qM T adK adV 60, zu_ent cA (zi_ad aP y qM T adK adV) zi_X0 zo_Y0 60) H := hh 60 (by decide)
  have ht61 : va_at D zu_cl (zi_ad aP y qM T adK adV 61, zu_ent cA (zi_ad aP y qM T adK adV) zi_X0 zo_Y0 61) H := hh 61 (by decide)
  have ht62 : va_at D zu_cl (zi_ad aP y qM T adK adV 62, zu_ent cA (zi_ad aP y qM T adK adV) zi_X0 zo_Y0 62) H := hh 62 (by decide)
  have ht63 : va_at D zu_cl (zi_ad aP y qM T adK adV 63, zu_ent cA (zi_ad aP y qM T adK adV) zi_X0 zo_Y0 63) H := hh 63 (by decide)
  have ht64 : va_at D zu_cl (zi_ad aP y qM T adK adV 64, zu_ent cA (zi_ad aP y qM T adK adV) zi_X0 zo_Y0 64) H := hh 64 (by decide)
  have ht65 : va_at D zu_cl (zi_ad aP y qM T adK adV 65, zu_ent cA (zi_ad aP y qM T adK adV) zi_X0 zo_Y0 65) H := hh 65 (by decide)
  have ht66 : va_at D zu_cl (zi_ad aP y qM T adK adV 66, zu_ent cA (zi_ad aP y qM T adK adV) zi_X0 zo_Y0 66) H := hh 66 (by decide)
  have ht67 : va_at D zu_cl (zi_ad aP y qM T adK adV 67, zu_ent cA (zi_ad aP y qM T adK adV) zi_X0 zo_Y0 67) H := hh 67 (by decide)
  have ht68 : va_at D zu_cl (zi_ad aP y qM T adK adV 68, zu_ent cA (zi_ad aP y qM T adK adV) zi_X0 zo_Y0 68) H := hh 68 (by decide)
  have ht69 : va_at D zu_cl (zi_ad aP y qM T adK adV 69, zu_ent cA (zi_ad aP y qM T adK adV) zi_X0 zo_Y0 69) H := hh 69 (by decide)
  have ht70 : va_at D zu_cl (zi_ad aP y qM T adK adV 70, zu_ent cA (zi_ad aP y qM T adK adV) zi_X0 zo_Y0 70) H := hh 70 (by decide)
  have ht71 : va_at D zu_cl (zi_ad aP y qM T adK adV 71, zu_ent cA (zi_ad aP y qM T adK adV) zi_X0 zo_Y0 71) H := hh 71 (by decide)
  have ht72 : va_at D zu_cl (zi_ad aP y qM T adK adV 72, zu_ent cA (zi_ad aP y qM T adK adV) zi_X0 zo_Y0 72) H := hh 72 (by decide)
  have ht73 : va_at D zu_cl (zi_ad aP y qM T adK adV 73, zu_ent cA (zi_ad aP y qM T adK adV) zi_X0 zo_Y0 73) H := hh 73 (by decide)
  have ht74 : va_at D zu_cl (zi_ad aP y qM T adK adV 74, zu_ent cA (zi_ad aP y qM T adK adV) zi_X0 zo_Y0 74) H := hh 74 (by decide)
  have ht75 : va_at D zu_cl (zi_ad aP y qM T adK adV 75, zu_ent cA (zi_ad aP y qM T adK adV) zi_X0 zo_Y0 75) H := hh 75 (by decide)
  have ht76 : va_at D zu_cl (zi_ad aP y qM T adK adV 76, zu_ent cA (zi_ad aP y qM T adK adV) zi_X0 zo_Y0 76) H := hh 76 (by decide)
  have ht77 : va_at D zu_cl (zi_ad aP y qM T adK adV 77, zu_ent cA (zi_ad aP y qM T adK adV) zi_X0 zo_Y0 77) H := hh 77 (by decide)
  have ht78 : va_at D zu_cl (zi_ad aP y qM T adK adV 78, zu_ent cA (zi_ad aP y qM T adK adV) zi_X0 zo_Y0 78) H := hh 78 (by decide)
  have ht79 : va_at D zu_cl (zi_ad aP y qM T adK adV 79, zu_ent cA (zi_ad aP y qM T adK adV) zi_X0 zo_Y0 79) H := hh 79 (by decide)
  have ht80 : va_at D zu_cl (zi_ad aP y qM T adK adV 80, zu_ent cA (zi_ad aP y qM T adK adV) zi_X0 zo_Y0 80) H := hh 80 (by decide)
  have ht81 : va_at D zu_cl (zi_ad aP y qM T adK adV 81, zu_ent cA (zi_ad aP y qM T adK adV) zi_X0 zo_Y0 81) H := hh 81 (by decide)
  have ht82 : va_at D zu_cl (zi_ad aP y qM T adK adV 82, zu_ent cA (zi_ad aP y qM T adK adV) zi_X0 zo_Y0 82) H := hh 82 (by decide)
  have ht83 : va_at D zu_cl (zi_ad aP y qM T adK adV 83, zu_ent cA (zi_ad aP y qM T adK adV) zi_X0 zo_Y0 83) H := hh 83 (by decide)
  have ht84 : va_at D zu_cl (zi_ad aP y qM T adK adV 84, zu_ent cA (zi_ad aP y qM T adK adV) zi_X0 zo_Y0 84) H := hh 84 (by decide)
  have ht85 : va_at D zu_cl (zi_ad aP y qM T adK adV 85, zu_ent cA (zi_ad aP y qM T adK adV) zi_X0 zo_Y0 85) H := hh 85 (by decide)
  have ht86 : va_at D zu_cl (zi_ad aP y qM T adK adV 86, zu_ent cA (zi_ad aP y qM T adK adV) zi_X0 zo_Y0 86) H := hh 86 (by decide)
  have ht87 : va_at D zu_cl (zi_ad aP y qM T adK adV 87, zu_ent cA (zi_ad aP y qM T adK adV) zi_X0 zo_Y0 87) H := hh 87 (by decide)
  have ht88 : va_at D zu_cl (zi_ad aP y qM T adK adV 88, zu_ent cA (zi_ad aP y qM T adK adV) zi_X0 zo_Y0 88) H := hh 88 (by decide)
  have ht89 : va_at D zu_cl (zi_ad aP y qM T adK adV 89, zu_ent cA (zi_ad aP y qM T adK adV) zi_X0 zo_Y0 89) H := hh 89 (by decide)
  have ht90 : va_at D zu_cl (zi_ad aP y qM T adK adV 90, zu_ent cA (zi_ad aP y qM T adK adV) zi_X0 zo_Y0 90) H := hh 90 (by decide)
  have ht91 : va_at D zu_cl (zi_ad aP y qM T adK adV 91, zu_ent cA (zi_ad aP y qM T adK adV) zi_X0 zo_Y0 91) H := hh 91 (by decide)
  have ht92 : va_at D zu_cl (zi_ad aP y qM T adK adV 92, zu_ent cA (zi_ad aP y qM T adK adV) zi_X0 zo_Y0 92) H := hh 92 (by decide)
  have ht93 : va_at D zu_cl (zi_ad aP y qM T adK adV 93, zu_ent cA (zi_ad aP y qM T adK adV) zi_X0 zo_Y0 93) H := hh 93 (by decide)
  have ht94 : va_at D zu_cl (zi_ad aP y qM T adK adV 94, zu_ent cA (zi_ad aP y qM T adK adV) zi_X0 zo_Y0 94) H := hh 94 (by decide)
  have ht95 : va_at D zu_cl (zi_ad aP y qM T adK adV 95, zu_ent cA (zi_ad aP y qM T adK adV) zi_X0 zo_Y0 95) H := hm 0 _ rfl
  have ht96 : va_at D zu_cl (zi_ad aP y qM T adK adV 96, zu_ent cA (zi_ad aP y qM T adK adV) zi_X0 zo_Y0 96) H := hm 1 _ rfl
  have ht97 : va_at D zu_cl (zi_ad aP y qM T adK adV 97, zu_ent cA (zi_ad aP y qM T adK adV) zi_X0 zo_Y0 97) H := hm 2 _ rfl
  have ht98 : va_at D zu_cl (zi_ad aP y qM T adK adV 98, zu_ent cA (zi_ad aP y qM T adK adV) zi_X0 zo_Y0 98) H := hm 3 _ rfl
  have ht99 : va_at D zu_cl (zi_ad aP y qM T adK adV 99, zu_ent cA (zi_ad aP y qM T adK adV) zi_X0 zo_Y0 99) H := hm 4 _ rfl
  have ht100 : va_at D zu_cl (zi_ad aP y qM T adK adV 100, zu_ent cA (zi_ad aP y qM T adK adV) zi_X0 zo_Y0 100) H := hm 5 _ rfl
  have ht101 : va_at D zu_cl (zi_ad aP y qM T adK adV 101, zu_ent cA (zi_ad aP y qM T adK adV) zi_X0 zo_Y0 101) H := hm 6 _ rfl
  have ht102 : va_at D zu_cl (zi_ad aP y qM T adK adV 102, zu_ent cA (zi_ad aP y qM T adK adV) zi_X0 zo_Y0 102) H := hm 7 _ rfl
  have ht103 : va_at D zu_cl (zi_ad aP y qM T adK adV 103, zu_ent cA (zi_ad aP y qM T adK adV) zi_X0 zo_Y0 103) H := hm 8 _ rfl
  have ht104 : va_at D zu_cl (zi_ad aP y qM T adK adV 104, zu_ent cA (zi_ad aP y qM T adK adV) zi_X0 zo_Y0 104) H := hm 9 _ rfl
  have ht105 : va_at D zu_cl (zi_ad aP y qM T adK adV 105, zu_ent cA (zi_ad aP y qM T adK adV) zi_X0 zo_Y0 105) H := hm 10 _ rfl
  have ht106 : va_at D zu_cl (zi_ad aP y qM T adK adV 106, zu_ent cA (zi_ad aP y qM T adK adV) zi_X0 zo_Y0 106) H := hm 11 _ rfl
  have ht107 : va_at D zu_cl (zi_ad aP y qM T adK adV 107, zu_ent cA (zi_ad aP y qM T adK adV) zi_X0 zo_Y0 107) H := hm 12 _ rfl
  have ht108 : va_at D zu_cl (zi_ad aP y qM T adK adV 108, zu_ent cA (zi_ad aP y qM T adK adV) zi_X0 zo_Y0 108) H := hm 13 _ rfl
  have key : ∀ r, r < 109 → va_at D zu_cl (zi_ad aP y qM T adK adV r, zu_ent cA (zi_ad aP y qM T adK adV) zi_X0 zo_Y0 r) H := lt_s (lt_s (lt_s (lt_s (lt_s (lt_s (lt_s (lt_s (lt_s (lt_s (lt_s (lt_s (lt_s (lt_s (lt_s (lt_s (lt_s (lt_s (lt_s (lt_s (lt_s (lt_s (lt_s (lt_s (lt_s (lt_s (lt_s (lt_s (lt_s (lt_s (lt_s (lt_s (lt_s (lt_s (lt_s (lt_s (lt_s (lt_s (lt_s (lt_s (lt_s (lt_s (lt_s (lt_s (lt_s (lt_s (lt_s (lt_s (lt_s (lt_s (lt_s (lt_s (lt_s (lt_s (lt_s (lt_s (lt_s (lt_s (lt_s (lt_s (lt_s (lt_s (lt_s (lt_s (lt_s (lt_s (lt_s (lt_s (lt_s (lt_s (lt_s (lt_s (lt_s (lt_s (lt_s (lt_s (lt_s (lt_s (lt_s (lt_s (lt_s (lt_s (lt_s (lt_s (lt_s (lt_s (lt_s (lt_s (lt_s (lt_s (lt_s (lt_s (lt_s (lt_s (lt_s (lt_s (lt_s (lt_s (lt_s (lt_s (lt_s (lt_s (lt_s (lt_s (lt_s (lt_s (lt_s (lt_s (lt_s (lt_0) ht0) ht1) ht2) ht3) ht4) ht5) ht6) ht7) ht8) ht9) ht10) ht11) ht12) ht13) ht14) ht15) ht16) ht17) ht18) ht19) ht20) ht21) ht22) ht23) ht24) ht25) ht26) ht27) ht28) ht29) ht30) ht31) ht32) ht33) ht34) ht35) ht36) ht37) ht38) ht39) ht40) ht41) ht42) ht43) ht44) ht45) ht46) ht47) ht48) ht49) ht50) ht51) ht52) ht53) ht54) ht55) ht56) ht57) ht58) ht59) ht60) ht61) ht62) ht63) ht64) ht65) ht66) ht67) ht68) ht69) ht70) ht71) ht72) ht73) ht74) ht75) ht76) ht77) ht78) ht79) ht80) ht81) ht82) ht83) ht84) ht85) ht86) ht87) ht88) ht89) ht90) ht91) ht92) ht93) ht94) ht95) ht96) ht97) ht98) ht99) ht100) ht101) ht102) ht103) ht104) ht105) ht106) ht107) ht108
  intro k q hk
  have hl : k < 109 := by
    have := (List.getElem?_eq_some_iff.mp hk).1
    simpa [zu_pic] using this
  rw [zu_at _ _ _ _ hl] at hk
  cases hk
  exact key k hl
theorem zi_Se {A : Nat → Prop} {cA : Nat → ClassId} {aP : Nat → Nat} {y : Nat} {qM : Nat → Nat} {T : List Nat} {adK adV : Nat → Nat} (hD : va_D A (zo_Post_init cA aP ++ zo_Mod_init cA y qM)) : zu_Se (zi_ad aP y qM T adK adV) A := by
  have len : (zo_Post_init cA aP).length = 95 := by simp [zo_Post_init]
  have key : ∀ r, r < 109 → ∃ e, (zo_Post_init cA aP ++ zo_Mod_init cA y qM)[r]? = some (zi_ad aP y qM T adK adV r, e) := by
    intro r hr
    by_cases h : r < 95
    · refine ⟨zu_ent cA aP zo_X0 zo_Y0 r, ?_⟩
      rw [List.getElem?_append_left (by omega)]
      simp [zo_Post_init, zi_ad, h, List.getElem?_range h]
    · rw [List.getElem?_append_right (by omega), len]
      obtain ⟨k, hk⟩ : ∃ k, k = r - 95 := ⟨_, rfl⟩
      have hr2 : r = 95 + k := by omega
      subst hr2
      rw [← hk]
      rcases (show k = 0 ∨ k = 1 ∨ k = 2 ∨ k = 3 ∨ k = 4 ∨ k = 5 ∨ k = 6 ∨ k = 7 ∨ k = 8 ∨ k = 9 ∨ k = 10 ∨ k = 11 ∨ k = 12 ∨ k = 13 by omega) with rfl | rfl | rfl | rfl | rfl | rfl | rfl | rfl | rfl | rfl | rfl | rfl | rfl | rfl
      · exact ⟨_, rfl⟩
      · exact ⟨_, rfl⟩
      · exact ⟨_, rfl⟩
      · exact ⟨_, rfl⟩
      · exact ⟨_, rfl⟩
      · exact ⟨_, rfl⟩
      · exact ⟨_, rfl⟩
      · exact ⟨_, rfl⟩
      · exact ⟨_, rfl⟩
      · exact ⟨_, rfl⟩
      · exact ⟨_, rfl⟩
      · exact ⟨_, rfl⟩
      · exact ⟨_, rfl⟩
      · exact ⟨_, rfl⟩
  refine ⟨fun i j hi hj e => ?_, fun r hr => ?_⟩
  · obtain ⟨e1, h1⟩ := key i hi
    obtain ⟨e2, h2⟩ := key j hj
    exact hD.1 i j _ _ h1 h2 e
  · obtain ⟨e1, h1⟩ := key r hr
    exact hD.2 r _ h1
theorem zi_Sb {A : Nat → Prop} {s : State} {H : Heap} {aP : Nat → Nat} {y : Nat} {qM : Nat → Nat} {T : List Nat} {adK adV : Nat → Nat} (h : vk_S 20 zs_len zs_byt adK adV A s H) : vk_S 20 zs_len zs_byt (fun i => zi_ad aP y qM T adK adV (200 + i)) (fun i => zi_ad aP y qM T adK adV (300 + i)) A s H := by
  have e1 : ∀ i, i < 20 → zi_ad aP y qM T adK adV (200 + i) = adK i := by
    intro i hi
    unfold zi_ad
    rw [if_neg (by omega), if_neg (by omega), if_neg (by omega), if_neg (by omega), if_pos (by omega)]
    rw [Nat.add_sub_cancel_left]
  have e2 : ∀ i, i < 20 → zi_ad aP y qM T adK adV (300 + i) = adV i := by
    intro i hi
    unfold zi_ad
    rw [if_neg (by omega), if_neg (by omega), if_neg (by omega), if_neg (by omega), if_neg (by omega)]
    rw [Nat.add_sub_cancel_left]
  refine ⟨fun i hi => ?_, fun i j hi hj e => h.2 i j hi hj ?_⟩
  · simp only [e1 i hi, e2 i hi]
    exact h.1 i hi
  · simp only [e1 i hi, e1 j hj] at e
    exact e
theorem zi_Sc {s : State} {aP : Nat → Nat} {y : Nat} {qM : Nat → Nat} {T : List Nat} {adK adV : Nat → Nat} (h : ∀ i : Nat, i < 20 → vk_R "StonePost$TextReader" (zs_ix.getD i 0) (zs_tx.getD i "") (adK i) s) : zu_Sc (zi_ad aP y qM T adK adV) s := by
  intro i hi
  have e1 : zi_ad aP y qM T adK adV (200 + i) = adK i := by
    unfold zi_ad
    rw [if_neg (by omega), if_neg (by omega), if_neg (by omega), if_neg (by omega), if_pos (by omega)]
    rw [Nat.add_sub_cancel_left]
  rw [e1]
  exact h i hi
