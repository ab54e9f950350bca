def zu_Kc (D : va_G) (cA : Nat → ClassId) (U : State) : Prop := va_K D zu_cl (zu_tys cA) U ∧ va_AO "StonePost$Thrower" U ∧ va_AO "StonePost$Sheet" U ∧ zu_Sd U
theorem zu_Kc.warm {D : va_G} {cA : Nat → ClassId} {s U : State} (h : zu_Kc D cA s) (hW : s.WarmedH U.vm) : zu_Kc D cA U := ⟨va_K.moved hW.alike h.1, h.2.1.moved hW.alike, h.2.2.1.moved hW.alike, h.2.2.2.warm hW⟩
theorem zu_Kc.same {D : va_G} {cA : Nat → ClassId} {u U : State} (hv : u.vm = U.vm) (h : zu_Kc D cA u) : zu_Kc D cA U := by
  have al : u.vm.Alike U.vm := by rw [← hv]; exact Vm.Alike.refl _
  exact ⟨va_K.moved al h.1, h.2.1.moved al, h.2.2.1.moved al, h.2.2.2.same hv⟩
abbrev zu_PreC (D : va_G) (cA : Nat → ClassId) (sz : Nat) (ws : va_W) (U : State) : Prop := U.heap.size = sz ∧ va_P D zu_cl ws U.heap ∧ zu_Kc D cA U ∧ va_D (fun _ => True) ws
theorem zu_blindC {D : va_G} {cA : Nat → ClassId} {sz : Nat} {ws : va_W} {av : List Value} : FrameBlind (va_Pc av (zu_PreC D cA sz ws)) := fun a U g mk q => ⟨q.1, q.2.1, q.2.2.1, zu_Kc.same (u := U) (U := U.calling g mk a) rfl q.2.2.2.1, q.2.2.2.2⟩
abbrev zu_QvC {S : Type} (D : va_G) (sz : Nat) (w0 : va_W) (w1 : S → va_W) : Array Value → State → Outcome → State → Prop := va_Qv (fun _ : S => True) (fun q t => va_P D zu_cl (w1 q) t.heap ∧ va_D (va_A w0 sz) (w1 q)) (va_A w0 sz)
theorem zu_ci {D : va_G} {cA : Nat → ClassId} {c1 : ClassId} {s : State} (h : va_K D zu_cl (zu_tys cA ++ [(c1, .int)]) s) : c1 = cA 0 := by
  have e1 := (h.2 0 _ rfl).2
  have e2 := (h.2 4 _ rfl).2
  exact Option.some.inj (e2.symm.trans e1)
theorem zu_cl' {D : va_G} {cA : Nat → ClassId} {c1 : ClassId} {s : State} (h : va_K D zu_cl (zu_tys cA ++ [(c1, .long)]) s) : c1 = cA 1 := by
  have e1 := (h.2 1 _ rfl).2
  have e2 := (h.2 4 _ rfl).2
  exact Option.some.inj (e2.symm.trans e1)
theorem zu_cs {D : va_G} {cA : Nat → ClassId} {c1 : ClassId} {s : State} (h : va_K D zu_cl (zu_tys cA ++ [(c1, .object "StonePost$Sheet")]) s) : c1 = cA 2 := by
  obtain ⟨_, _, _, _, _, e1⟩ := (h.2 2 _ rfl).2
  obtain ⟨_, _, _, _, _, e2⟩ := (h.2 4 _ rfl).2
  exact Option.some.inj (e2.symm.trans e1)
theorem zu_ct {D : va_G} {cA : Nat → ClassId} {c1 : ClassId} {s : State} (h : va_K D zu_cl (zu_tys cA ++ [(c1, .object "StonePost$Thrower")]) s) : c1 = cA 3 := by
  obtain ⟨_, _, _, _, _, e1⟩ := (h.2 3 _ rfl).2
  obtain ⟨_, _, _, _, _, e2⟩ := (h.2 4 _ rfl).2
  exact Option.some.inj (e2.symm.trans e1)
def zo_fill (f : Nat → Int32) (v : Int32) : Nat → Int32 := upd (upd (upd (upd (upd (upd (upd (upd (upd (upd f 0 v) 1 v) 2 v) 3 v) 4 v) 5 v) 6 v) 7 v) 8 v) 9 v

theorem zu_arrV {c : ClassId} {n : Nat} {f g : Nat → Value} (h : ∀ j, j < n → f j = g j) : arrV c n f = arrV c n g := by
  unfold arrV
  congr 1
  apply Array.ext
  · simp
  · intro i h1 h2
    simp at h1
    simp [h i h1]
theorem zu_front {D : va_G} {cl : List vw_C} {A : Nat → Prop} {ws : va_W} {x : Nat × va_E} {H : Heap} (hP : va_P D cl (ws ++ [x]) H) (hD : va_D A (ws ++ [x])) : va_P D cl (x :: ws) H ∧ va_D A (x :: ws) := by
  have hx : (ws ++ [x])[ws.length]? = some x := by simp
  have hs : ∀ (k : Nat) (q : Nat × va_E), ws[k]? = some q → (ws ++ [x])[k]? = some q := fun k q h => by rw [List.getElem?_append_left (List.getElem?_eq_some_iff.mp h).1]; exact h
  have key : ∀ (k : Nat) (q : Nat × va_E), (x :: ws)[k]? = some q → (ws ++ [x])[if k = 0 then ws.length else k - 1]? = some q := by
    intro k q h
    cases k with
    | zero => rw [if_pos rfl, hx]; exact h
    | succ k => rw [if_neg (by omega)]; exact hs _ _ (by simpa using h)
  have klt : ∀ (k : Nat) (q : Nat × va_E), (x :: ws)[k]? = some q → k ≤ ws.length := fun k q h => by have := (List.getElem?_eq_some_iff.mp h).1; simp at this; omega
  refine ⟨fun k q h => hP _ q (key k q h), fun i j p q hi hj e => ?_, fun k q h => hD.2 _ q (key k q h)⟩
  have h1 := hD.1 _ _ p q (key i p hi) (key j q hj) e
  have h2 := klt i p hi
  have h3 := klt j q hj
  by_cases hi0 : i = 0 <;> by_cases hj0 : j = 0 <;> simp [hi0, hj0] at h1 <;> omega
theorem zu_back {D : va_G} {cl : List vw_C} {A : Nat → Prop} {ws : va_W} {x : Nat × va_E} {H : Heap} (hP : va_P D cl (x :: ws) H) (hD : va_D A (x :: ws)) : va_P D cl (ws ++ [x]) H ∧ va_D A (ws ++ [x]) := by
  have key : ∀ (k : Nat) (q : Nat × va_E), (ws ++ [x])[k]? = some q → (x :: ws)[if k = ws.length then 0 else k + 1]? = some q := by
    intro k q h
    by_cases hk : k = ws.length
    · subst hk
      rw [if_pos rfl]
      simpa using h
    · rw [if_neg hk]
      have hl : k < (ws ++ [x]).length := (List.getElem?_eq_some_iff.mp h).1
      simp at hl
      rw [List.getElem?_append_left (by omega)] at h
      simpa using h
  refine ⟨fun k q h => hP _ q (key k q h), fun i j p q hi hj e => ?_, fun k q h => hD.2 _ q (key k q h)⟩
  have h1 := hD.1 _ _ p q (key i p hi) (key j q hj) e
  by_cases hi0 : i = ws.length <;> by_cases hj0 : j = ws.length <;> simp [hi0, hj0] at h1 <;> omega
theorem zu_last {D : va_G} {cl : List vw_C} {ws : va_W} {x : Nat × va_E} {H : Heap} (hP : va_P D cl (ws ++ [x]) H) : va_P D cl [x] H := by
  intro k q h
  cases k with
  | zero =>
    cases h
    exact hP ws.length _ (by simp)
  | succ k => simp at h
theorem zu_lastD {A : Nat → Prop} {ws : va_W} {x : Nat × va_E} (hD : va_D A (ws ++ [x])) : va_D A [x] := by
  refine ⟨fun i j p q hi hj _ => ?_, fun k q h => ?_⟩
  · have h1 := (List.getElem?_eq_some_iff.mp hi).1
    have h2 := (List.getElem?_eq_some_iff.mp hj).1
    simp at h1 h2
    omega
  · cases k with
    | zero =>
      cases h
      exact hD.2 ws.length _ (by simp)
    | succ k => simp at h
theorem zu_lastF {A0 : Nat → Prop} {ws : va_W} {x : Nat × va_E} {H0 H : Heap} {locs : List Loc} (hD : va_D A0 (ws ++ [x])) (hS : va_S A0 H0 H locs) (hA : ∀ q, H0.size ≤ q → A0 q) : ∀ q, va_A [x] H.size q → A0 q := by
  intro q h
  rcases h with ⟨k, e, h⟩ | h
  · have h1 := (zu_lastD hD).2 k _ h
    exact h1
  · exact hA q (Nat.le_trans hS.1 h)
theorem zu_lastJ {A0 : Nat → Prop} {D : va_G} {cl : List vw_C} {ws w1 : va_W} {x : Nat × va_E} {H H1 : Heap} (hP : va_P D cl (ws ++ [x]) H) (hD : va_D A0 (ws ++ [x])) (hk : ∀ q : Nat, q < H.size → ¬ va_A [x] H.size q → H1[q]? = H[q]?) (hF : ∀ q, va_A [x] H.size q → A0 q) (hP1 : va_P D cl w1 H1) (hD1 : va_D (va_A [x] H.size) w1) : va_P D cl (ws ++ w1) H1 ∧ va_D A0 (ws ++ w1) := by
  refine va_join (wc := [x]) (wr := ws) hP hD [ws.length] (List.range ws.length) (by simp) ?_ ?_ ?_ hk hF hP1 hD1
  · apply List.ext_getElem?
    intro k
    simp only [List.getElem?_map]
    by_cases h : k < ws.length
    · rw [List.getElem?_range h]
      simp [List.getElem?_append_left h, List.getElem?_eq_getElem h]
    · rw [List.getElem?_eq_none (by simpa using h), List.getElem?_eq_none (by simpa using h)]
      rfl
  · have gen : ∀ n : Nat, va_nd (List.range n) = true := by
      intro n
      have g2 : ∀ (l : List Nat), l.Nodup → va_nd l = true := by
        intro l
        induction l with
        | nil => intro _; rfl
        | cons a l ih =>
          intro h
          have := List.nodup_cons.mp h
          simp [va_nd, this.1, ih this.2]
      exact g2 _ List.nodup_range
    exact gen _
  · intro i hi hc
    simp at hi hc
    omega
theorem zu_recell {D : va_G} {cl : List vw_C} {A : Nat → Prop} {ws : va_W} {H : Heap} {i a n : Nat} {c : ClassId} {f g : Nat → Option Nat} (hP : va_P D cl ws H) (hD : va_D A ws) (h : ws[i]? = some (a, .inl (c, n, .inr (.inr (.inr (.inr f)))))) (e : ∀ j, j < n → f j = g j) : va_P D cl (ws.set i (a, .inl (c, n, .inr (.inr (.inr (.inr g)))))) H ∧ va_D A (ws.set i (a, .inl (c, n, .inr (.inr (.inr (.inr g)))))) := by
  refine ⟨hP.set hD h ?_ (fun _ _ => rfl), hD.set h⟩
  have h1 : H[a]? = some (vp_cell c (n, .inr (.inr (.inr (.inr f))))) := hP i _ h
  show H[a]? = some (vp_cell c (n, .inr (.inr (.inr (.inr g)))))
  rw [h1, vp_cell_q, vp_cell_q, zu_arrV (fun j hj => by rw [e j hj])]

abbrev zR_Arr_fillE : Room := { frames := 1, cells := 0, slots := 0, locals := 12 }
theorem zd_Arr_fillE_0 : decode zb_Arr_fill 0 = .ok (.iconst 0, 1) := by decide +kernel
theorem zd_Arr_fillE_1 : decode zb_Arr_fill 1 = .ok (.istore_n 2, 1) := by decide +kernel
theorem zd_Arr_fillE_2 : decode zb_Arr_fill 2 = .ok (.aload_n 0, 1) := by decide +kernel
theorem zd_Arr_fillE_3 : decode zb_Arr_fill 3 = .ok (.arraylength, 1) := by decide +kernel
theorem zd_Arr_fillE_4 : decode zb_Arr_fill 4 = .ok (.istore_n 3, 1) := by decide +kernel
theorem zd_Arr_fillE_5 : decode zb_Arr_fill 5 = .ok (.iload_n 2, 1) := by decide +kernel
theorem zd_Arr_fillE_6 : decode zb_Arr_fill 6 = .ok (.iload_n 3, 1) := by decide +kernel
theorem zd_Arr_fillE_7 : decode zb_Arr_fill 7 = .ok (.if_icmp .ge 13, 3) := by decide +kernel
theorem zd_Arr_fillE_10 : decode zb_Arr_fill 10 = .ok (.aload_n 0, 1) := by decide +kernel
theorem zd_Arr_fillE_11 : decode zb_Arr_fill 11 = .ok (.iload_n 2, 1) := by decide +kernel
theorem zd_Arr_fillE_12 : decode zb_Arr_fill 12 = .ok (.iload_n 1, 1) := by decide +kernel
theorem zd_Arr_fillE_13 : decode zb_Arr_fill 13 = .ok (.iastore, 1) := by decide +kernel
theorem zd_Arr_fillE_14 : decode zb_Arr_fill 14 = .ok (.iinc 2 1, 3) := by decide +kernel
theorem zd_Arr_fillE_17 : decode zb_Arr_fill 17 = .ok (.goto (-12), 3) := by decide +kernel
theorem zd_Arr_fillE_20 : decode zb_Arr_fill 20 = .ok (.return_, 1) := by decide +kernel

set_option maxHeartbeats 8000000 in
set_option maxRecDepth 100000 in
theorem zC_Arr_fillE (l : Launch) {D : va_G} {cA : Nat → ClassId} (h0 sz : Nat) (f0 : Nat → Int32) (v0 : Int32) : Met l zm_Arr_fill (zu_ws zm_Arr_fill zb_Arr_fill 4 none) zR_Arr_fillE (va_Pc [.ref h0, .int v0] (zu_PreC D cA sz [(h0, .inl (cA 0, 10, .inl f0))])) (va_Qv (fun _ : Unit => True) (fun q t => va_P D zu_cl ([(h0, .inl (cA 0, 10, .inl (zo_fill f0 v0)))]) t.heap ∧ va_D (va_A [(h0, .inl (cA 0, 10, .inl f0))] sz) ([(h0, .inl (cA 0, 10, .inl (zo_fill f0 v0)))])) (va_A [(h0, .inl (cA 0, 10, .inl f0))] sz)) 0 0 (va_A [(h0, .inl (cA 0, 10, .inl f0))] sz) := by
  refine Met.ofW (cc := zb_Arr_fill) (maxL := 4) (ret := none) (by decide +kernel) rfl ?_
  intro p e s m args below meth c s₁ B hml hv
  obtain ⟨rfl, hsz, hP, hK, hD0⟩ := hv
  have hx := B.exec
  have hb := B.bytes
  have hr := B.returns
  have hts : ∀ w ∈ zu_TB, w.before _ s = true := fun w hw => atoms_spec (ws := zu_ws zm_Arr_fill zb_Arr_fill 4 none) B.pre w (List.mem_cons_of_mem _ hw)
  have hown : s.vm.findClass "java/util/Arrays" = some m.cls := findClass_of_methodNamed B.named
  have hlocks := B.notSynchronized
  subst hsz
  have hD := hD0.self (sz := s.heap.size)
  generalize hAe : va_A [(h0, .inl (cA 0, 10, .inl f0))] s.heap.size = A at hD ⊢
  have hA : ∀ q : Nat, s.heap.size ≤ q → A q := fun q h => by rw [← hAe]; exact Or.inr h
  have hS : va_S A s.heap s.heap [] := va_S.rf
  have hl := lv_entry ([.ref h0, .int v0]) (n := 4) (Nat.le_of_ble_eq_true rfl)
  rw [lg_entry_eq]
  generalize (lg_sl ([.ref h0, .int v0]) ++ List.replicate (4 - (lg_sl ([.ref h0, .int v0])).length) Slot.unset).toArray = ls at hl ⊢
  have hl : lv_has ls 4 [(0, .ref h0), (1, .int v0)] := hl
  have hP : va_P D zu_cl [(h0, .inl (cA 0, 10, .inl f0))] s.heap := hP
  refine lv_iconst (v := 0) hx hb zd_Arr_fillE_0 (by decide) ?_
  refine lv_istore_n (lv' := [(2, .int (0)), (0, .ref h0), (1, .int v0)]) hx hb zd_Arr_fillE_1 rfl hl (by decide) rfl (fun ls hl => ?_)
  refine lv_aload_n hx hb zd_Arr_fillE_2 rfl (lv_at hl 1 rfl) ?_
  refine va_alen (x := (10, .inl f0)) (v := 10) hx hb hK.1 hP 0 0 rfl rfl rfl zd_Arr_fillE_3 ?_
  refine lv_istore_n (lv' := [(3, .int (10)), (2, .int (0)), (0, .ref h0), (1, .int v0)]) hx hb zd_Arr_fillE_4 rfl hl (by decide) rfl (fun ls hl => ?_)
  refine lv_iload_n hx hb zd_Arr_fillE_5 rfl (lv_at hl 1 rfl) ?_
  refine lv_iload_n hx hb zd_Arr_fillE_6 rfl (lv_at hl 0 rfl) ?_
  refine lv_icmp_ge (tgt := 20) hx hb zd_Arr_fillE_7 (by decide) (fun h9 => absurd h9 (by decide)) (fun _ => ?_)
  refine lv_aload_n hx hb zd_Arr_fillE_10 rfl (lv_at hl 2 rfl) ?_
  refine lv_iload_n hx hb zd_Arr_fillE_11 rfl (lv_at hl 1 rfl) ?_
  refine lv_iload_n hx hb zd_Arr_fillE_12 rfl (lv_at hl 3 rfl) ?_
  refine va_iast hx hb hK.1 hP hD hS 0 0 rfl rfl (by unfold vp_in; decide) zd_Arr_fillE_13 (fun H locs hP hD hS => ?_)
  have hP : va_P D zu_cl ((h0, .inl (cA 0, 10, .inl (upd f0 0 v0))) :: []) H := hP
  have hD : va_D A ((h0, .inl (cA 0, 10, .inl (upd f0 0 v0))) :: []) := hD
  refine lv_iinc (v := 1) (lv' := [(2, .int (1)), (3, .int (10)), (0, .ref h0), (1, .int v0)]) hx hb zd_Arr_fillE_14 hl (k := 1) rfl (by decide) (by decide) rfl (fun ls hl => ?_)
  refine lv_goto (tgt := 5) hx hb zd_Arr_fillE_17 (by decide) ?_
  refine lv_iload_n hx hb zd_Arr_fillE_5 rfl (lv_at hl 0 rfl) ?_
  refine lv_iload_n hx hb zd_Arr_fillE_6 rfl (lv_at hl 1 rfl) ?_
  refine lv_icmp_ge (tgt := 20) hx hb zd_Arr_fillE_7 (by decide) (fun h9 => absurd h9 (by decide)) (fun _ => ?_)
  refine lv_aload_n hx hb zd_Arr_fillE_10 rfl (lv_at hl 2 rfl) ?_
  refine lv_iload_n hx hb zd_Arr_fillE_11 rfl (lv_at hl 0 rfl) ?_
  refine lv_iload_n hx hb zd_Arr_fillE_12 rfl (lv_at hl 3 rfl) ?_
  refine va_iast hx hb hK.1 hP hD hS 0 0 rfl rfl (by unfold vp_in; decide) zd_Arr_fillE_13 (fun H locs hP hD hS => ?_)
  have hP : va_P D zu_cl ((h0, .inl (cA 0, 10, .inl (upd (upd f0 0 v0) 1 v0))) :: []) H := hP
  have hD : va_D A ((h0, .inl (cA 0, 10, .inl (upd (upd f0 0 v0) 1 v0))) :: []) := hD
  refine lv_iinc (v := 2) (lv' := [(2, .int (2)), (3, .int (10)), (0, .ref h0), (1, .int v0)]) hx hb zd_Arr_fillE_14 hl (k := 0) rfl (by decide) (by decide) rfl (fun ls hl => ?_)
  refine lv_goto (tgt := 5) hx hb zd_Arr_fillE_17 (by decide) ?_
  refine lv_iload_n hx hb zd_Arr_fillE_5 rfl (lv_at hl 0 rfl) ?_
  refine lv_iload_n hx hb zd_Arr_fillE_6 rfl (lv_at hl 1 rfl) ?_
  refine lv_icmp_ge (tgt := 20) hx hb zd_Arr_fillE_7 (by decide) (fun h9 => absurd h9 (by decide)) (fun _ => ?_)
  refine lv_aload_n hx hb zd_Arr_fillE_10 rfl (lv_at hl 2 rfl) ?_
  refine lv_iload_n hx hb zd_Arr_fillE_11 rfl (lv_at hl 0 rfl) ?_
  refine lv_iload_n hx hb zd_Arr_fillE_12 rfl (lv_at hl 3 rfl) ?_
  refine va_iast hx hb hK.1 hP hD hS 0 0 rfl rfl (by unfold vp_in; decide) zd_Arr_fillE_13 (fun H locs hP hD hS => ?_)
  have hP : va_P D zu_cl ((h0, .inl (cA 0, 10, .inl (upd (upd (upd f0 0 v0) 1 v0) 2 v0))) :: []) H := hP
  have hD : va_D A ((h0, .inl (cA 0, 10, .inl (upd (upd (upd f0 0 v0) 1 v0) 2 v0))) :: []) := hD
  refine lv_iinc (v := 3) (lv' := [(2, .int (3)), (3, .int (10)), (0, .ref h0), (1, .int v0)]) hx hb zd_Arr_fillE_14 hl (k := 0) rfl (by decide) (by decide) rfl (fun ls hl => ?_)
  refine lv_goto (tgt := 5) hx hb zd_Arr_fillE_17 (by decide) ?_
  refine lv_iload_n hx hb zd_Arr_fillE_5 rfl (lv_at hl 0 rfl) ?_
  refine lv_iload_n hx hb zd_Arr_fillE_6 rfl (lv_at hl 1 rfl) ?_
  refine lv_icmp_ge (tgt := 20) hx hb zd_Arr_fillE_7 (by decide) (fun h9 => absurd h9 (by decide)) (fun _ => ?_)
  refine lv_aload_n hx hb zd_Arr_fillE_10 rfl (lv_at hl 2 rfl) ?_
  refine lv_iload_n hx hb zd_Arr_fillE_11 rfl (lv_at hl 0 rfl) ?_
  refine lv_iload_n hx hb zd_Arr_fillE_12 rfl (lv_at hl 3 rfl) ?_
  refine va_iast hx hb hK.1 hP hD hS 0 0 rfl rfl (by unfold vp_in; decide) zd_Arr_fillE_13 (fun H locs hP hD hS => ?_)
  have hP : va_P D zu_cl ((h0, .inl (cA 0, 10, .inl (upd (upd (upd (upd f0 0 v0) 1 v0) 2 v0) 3 v0))) :: []) H := hP
  have hD : va_D A ((h0, .inl (cA 0, 10, .inl (upd (upd (upd (upd f0 0 v0) 1 v0) 2 v0) 3 v0))) :: []) := hD
  refine lv_iinc (v := 4) (lv' := [(2, .int (4)), (3, .int (10)), (0, .ref h0), (1, .int v0)]) hx hb zd_Arr_fillE_14 hl (k := 0) rfl (by decide) (by decide) rfl (fun ls hl => ?_)
  refine lv_goto (tgt := 5) hx hb zd_Arr_fillE_17 (by decide) ?_
  refine lv_iload_n hx hb zd_Arr_fillE_5 rfl (lv_at hl 0 rfl) ?_
  refine lv_iload_n hx hb zd_Arr_fillE_6 rfl (lv_at hl 1 rfl) ?_
  refine lv_icmp_ge (tgt := 20) hx hb zd_Arr_fillE_7 (by decide) (fun h9 => absurd h9 (by decide)) (fun _ => ?_)
  refine lv_aload_n hx hb zd_Arr_fillE_10 rfl (lv_at hl 2 rfl) ?_
  refine lv_iload_n hx hb zd_Arr_fillE_11 rfl (lv_at hl 0 rfl) ?_
  refine lv_iload_n hx hb zd_Arr_fillE_12 rfl (lv_at hl 3 rfl) ?_
  refine va_iast hx hb hK.1 hP hD hS 0 0 rfl rfl (by unfold vp_in; decide) zd_Arr_fillE_13 (fun H locs hP hD hS => ?_)
  have hP : va_P D zu_cl ((h0, .inl (cA 0, 10, .inl (upd (upd (upd (upd (upd f0 0 v0) 1 v0) 2 v0) 3 v0) 4 v0))) :: []) H := hP
  have hD : va_D A ((h0, .inl (cA 0, 10, .inl (upd (upd (upd (upd (upd f0 0 v0) 1 v0) 2 v0) 3 v0) 4 v0))) :: []) := hD
  refine lv_iinc (v := 5) (lv' := [(2, .int (5)), (3, .int (10)), (0, .ref h0), (1, .int v0)]) hx hb zd_Arr_fillE_14 hl (k := 0) rfl (by decide) (by decide) rfl (fun ls hl => ?_)
  refine lv_goto (tgt := 5) hx hb zd_Arr_fillE_17 (by decide) ?_
  refine lv_iload_n hx hb zd_Arr_fillE_5 rfl (lv_at hl 0 rfl) ?_
  refine lv_iload_n hx hb zd_Arr_fillE_6 rfl (lv_at hl 1 rfl) ?_
  refine lv_icmp_ge (tgt := 20) hx hb zd_Arr_fillE_7 (by decide) (fun h9 => absurd h9 (by decide)) (fun _ => ?_)
  refine lv_aload_n hx hb zd_Arr_fillE_10 rfl (lv_at hl 2 rfl) ?_
  refine lv_iload_n hx hb zd_Arr_fillE_11 rfl (lv_at hl 0 rfl) ?_
  refine lv_iload_n hx hb zd_Arr_fillE_12 rfl (lv_at hl 3 rfl) ?_
  refine va_iast hx hb hK.1 hP hD hS 0 0 rfl rfl (by unfold vp_in; decide) zd_Arr_fillE_13 (fun H locs hP hD hS => ?_)
  have hP : va_P D zu_cl ((h0, .inl (cA 0, 10, .inl (upd (upd (upd (upd (upd (upd f0 0 v0) 1 v0) 2 v0) 3 v0) 4 v0) 5 v0))) :: []) H := hP
  have hD : va_D A ((h0, .inl (cA 0, 10, .inl (upd (upd (upd (upd (upd (upd f0 0 v0) 1 v0) 2 v0) 3 v0) 4 v0) 5 v0))) :: []) := hD
  refine lv_iinc (v := 6) (lv' := [(2, .int (6)), (3, .int (10)), (0, .ref h0), (1, .int v0)]) hx hb zd_Arr_fillE_14 hl (k := 0) rfl (by decide) (by decide) rfl (fun ls hl => ?_)
  refine lv_goto (tgt := 5) hx hb zd_Arr_fillE_17 (by decide) ?_
  refine lv_iload_n hx hb zd_Arr_fillE_5 rfl (lv_at hl 0 rfl) ?_
  refine lv_iload_n hx hb zd_Arr_fillE_6 rfl (lv_at hl 1 rfl) ?_
  refine lv_icmp_ge (tgt := 20) hx hb zd_Arr_fillE_7 (by decide) (fun h9 => absurd h9 (by decide)) (fun _ => ?_)
  refine lv_aload_n hx hb zd_Arr_fillE_10 rfl (lv_at hl 2 rfl) ?_
  refine lv_iload_n hx hb zd_Arr_fillE_11 rfl (lv_at hl 0 rfl) ?_
  refine lv_iload_n hx hb zd_Arr_fillE_12 rfl (lv_at hl 3 rfl) ?_
  refine va_iast hx hb hK.1 hP hD hS 0 0 rfl rfl (by unfold vp_in; decide) zd_Arr_fillE_13 (fun H locs hP hD hS => ?_)
  have hP : va_P D zu_cl ((h0, .inl (cA 0, 10, .inl (upd (upd (upd (upd (upd (upd (upd f0 0 v0) 1 v0) 2 v0) 3 v0) 4 v0) 5 v0) 6 v0))) :: []) H := hP
  have hD : va_D A ((h0, .inl (cA 0, 10, .inl (upd (upd (upd (upd (upd (upd (upd f0 0 v0) 1 v0) 2 v0) 3 v0) 4 v0) 5 v0) 6 v0))) :: []) := hD
  refine lv_iinc (v := 7) (lv' := [(2, .int (7)), (3, .int (10)), (0, .ref h0), (1, .int v0)]) hx hb zd_Arr_fillE_14 hl (k := 0) rfl (by decide) (by decide) rfl (fun ls hl => ?_)
  refine lv_goto (tgt := 5) hx hb zd_Arr_fillE_17 (by decide) ?_
  refine lv_iload_n hx hb zd_Arr_fillE_5 rfl (lv_at hl 0 rfl) ?_
  refine lv_iload_n hx hb zd_Arr_fillE_6 rfl (lv_at hl 1 rfl) ?_
  refine lv_icmp_ge (tgt := 20) hx hb zd_Arr_fillE_7 (by decide) (fun h9 => absurd h9 (by decide)) (fun _ => ?_)
  refine lv_aload_n hx hb zd_Arr_fillE_10 rfl (lv_at hl 2 rfl) ?_
  refine lv_iload_n hx hb zd_Arr_fillE_11 rfl (lv_at hl 0 rfl) ?_
  refine lv_iload_n hx hb zd_Arr_fillE_12 rfl (lv_at hl 3 rfl) ?_
  refine va_iast hx hb hK.1 hP hD hS 0 0 rfl rfl (by unfold vp_in; decide) zd_Arr_fillE_13 (fun H locs hP hD hS => ?_)
  have hP : va_P D zu_cl ((h0, .inl (cA 0, 10, .inl (upd (upd (upd (upd (upd (upd (upd (upd f0 0 v0) 1 v0) 2 v0) 3 v0) 4 v0) 5 v0) 6 v0) 7 v0))) :: []) H := hP
  have hD : va_D A ((h0, .inl (cA 0, 10, .inl (upd (upd (upd (upd (upd (upd (upd (upd f0 0 v0) 1 v0) 2 v0) 3 v0) 4 v0) 5 v0) 6 v0) 7 v0))) :: []) := hD
  refine lv_iinc (v := 8) (lv' := [(2, .int (8)), (3, .int (10)), (0, .ref h0), (1, .int v0)]) hx hb zd_Arr_fillE_14 hl (k := 0) rfl (by decide) (by decide) rfl (fun ls hl => ?_)
  refine lv_goto (tgt := 5) hx hb zd_Arr_fillE_17 (by decide) ?_
  refine lv_iload_n hx hb zd_Arr_fillE_5 rfl (lv_at hl 0 rfl) ?_
  refine lv_iload_n hx hb zd_Arr_fillE_6 rfl (lv_at hl 1 rfl) ?_
  refine lv_icmp_ge (tgt := 20) hx hb zd_Arr_fillE_7 (by decide) (fun h9 => absurd h9 (by decide)) (fun _ => ?_)
  refine lv_aload_n hx hb zd_Arr_fillE_10 rfl (lv_at hl 2 rfl) ?_
  refine lv_iload_n hx hb zd_Arr_fillE_11 rfl (lv_at hl 0 rfl) ?_
  refine lv_iload_n hx hb zd_Arr_fillE_12 rfl (lv_at hl 3 rfl) ?_
  refine va_iast hx hb hK.1 hP hD hS 0 0 rfl rfl (by unfold vp_in; decide) zd_Arr_fillE_13 (fun H locs hP hD hS => ?_)
  have hP : va_P D zu_cl ((h0, .inl (cA 0, 10, .inl (upd (upd (upd (upd (upd (upd (upd (upd (upd f0 0 v0) 1 v0) 2 v0) 3 v0) 4 v0) 5 v0) 6 v0) 7 v0) 8 v0))) :: []) H := hP
  have hD : va_D A ((h0, .inl (cA 0, 10, .inl (upd (upd (upd (upd (upd (upd (upd (upd (upd f0 0 v0) 1 v0) 2 v0) 3 v0) 4 v0) 5 v0) 6 v0) 7 v0) 8 v0))) :: []) := hD
  refine lv_iinc (v := 9) (lv' := [(2, .int (9)), (3, .int (10)), (0, .ref h0), (1, .int v0)]) hx hb zd_Arr_fillE_14 hl (k := 0) rfl (by decide) (by decide) rfl (fun ls hl => ?_)
  refine lv_goto (tgt := 5) hx hb zd_Arr_fillE_17 (by decide) ?_
  refine lv_iload_n hx hb zd_Arr_fillE_5 rfl (lv_at hl 0 rfl) ?_
  refine lv_iload_n hx hb zd_Arr_fillE_6 rfl (lv_at hl 1 rfl) ?_
  refine lv_icmp_ge (tgt := 20) hx hb zd_Arr_fillE_7 (by decide) (fun h9 => absurd h9 (by decide)) (fun _ => ?_)
  refine lv_aload_n hx hb zd_Arr_fillE_10 rfl (lv_at hl 2 rfl) ?_
  refine lv_iload_n hx hb zd_Arr_fillE_11 rfl (lv_at hl 0 rfl) ?_
  refine lv_iload_n hx hb zd_Arr_fillE_12 rfl (lv_at hl 3 rfl) ?_
  refine va_iast hx hb hK.1 hP hD hS 0 0 rfl rfl (by unfold vp_in; decide) zd_Arr_fillE_13 (fun H locs hP hD hS => ?_)
  have hP : va_P D zu_cl ((h0, .inl (cA 0, 10, .inl (upd (upd (upd (upd (upd (upd (upd (upd (upd (upd f0 0 v0) 1 v0) 2 v0) 3 v0) 4 v0) 5 v0) 6 v0) 7 v0) 8 v0) 9 v0))) :: []) H := hP
  have hD : va_D A ((h0, .inl (cA 0, 10, .inl (upd (upd (upd (upd (upd (upd (upd (upd (upd (upd f0 0 v0) 1 v0) 2 v0) 3 v0) 4 v0) 5 v0) 6 v0) 7 v0) 8 v0) 9 v0))) :: []) := hD
  refine lv_iinc (v := 10) (lv' := [(2, .int (10)), (3, .int (10)), (0, .ref h0), (1, .int v0)]) hx hb zd_Arr_fillE_14 hl (k := 0) rfl (by decide) (by decide) rfl (fun ls hl => ?_)
  refine lv_goto (tgt := 5) hx hb zd_Arr_fillE_17 (by decide) ?_
  refine lv_iload_n hx hb zd_Arr_fillE_5 rfl (lv_at hl 0 rfl) ?_
  refine lv_iload_n hx hb zd_Arr_fillE_6 rfl (lv_at hl 1 rfl) ?_
  refine lv_icmp_ge (tgt := 20) hx hb zd_Arr_fillE_7 (by decide) (fun _ => ?_) (fun h9 => absurd (by decide) h9)
  exact W.vret hx hb hr (fun t ht hW => ⟨⟨(), rfl, trivial, by subst ht; exact hP, hD⟩, hS.F ht⟩) hS.2.2 zd_Arr_fillE_20
abbrev zR_Thr_init : Room := { frames := 1, cells := 1, slots := 9, locals := 12 }
theorem zd_Thr_init_0 : decode zb_Thr_init 0 = .ok (.aload_n 0, 1) := by decide +kernel
theorem zd_Thr_init_1 : decode zb_Thr_init 1 = .ok (.invokespecial 3, 3) := by decide +kernel
theorem zd_Thr_init_4 : decode zb_Thr_init 4 = .ok (.aload_n 0, 1) := by decide +kernel
theorem zd_Thr_init_5 : decode zb_Thr_init 5 = .ok (.bipush 9, 2) := by decide +kernel
theorem zd_Thr_init_7 : decode zb_Thr_init 7 = .ok (.newarray .int, 2) := by decide +kernel
theorem zd_Thr_init_9 : decode zb_Thr_init 9 = .ok (.putfield 11, 3) := by decide +kernel
theorem zd_Thr_init_12 : decode zb_Thr_init 12 = .ok (.return_, 1) := by decide +kernel
def zo_Thr_init (cA : Nat → ClassId) (h q : Nat) : va_W := [(h, .inr (4, [.ref q])), (q, .inl (cA 0, 9, .inl (fun _ => 0)))]
set_option maxHeartbeats 8000000 in
set_option maxRecDepth 100000 in
theorem zC_Thr_init (l : Launch) {D : va_G} {cA : Nat → ClassId} (h0 sz : Nat) : Met l zm_Thr_init (zu_ws zm_Thr_init zb_Thr_init 1 none) zR_Thr_init (va_Pc [.ref h0] (zu_PreC D cA sz [(h0, .inr (4, [.null]))])) (va_Qv (fun _ : Nat => True) (fun q t => va_P D zu_cl (zo_Thr_init cA h0 q) t.heap ∧ va_D (va_A [(h0, .inr (4, [.null]))] sz) (zo_Thr_init cA h0 q)) (va_A [(h0, .inr (4, [.null]))] sz)) 1 9 (va_A [(h0, .inr (4, [.null]))] sz) := by
  refine Met.ofW (cc := zb_Thr_init) (maxL := 1) (ret := none) (by decide +kernel) rfl ?_
  intro p e s m args below meth c s₁ B hml hv
  obtain ⟨rfl, hsz, hP, hK, hD0⟩ := hv
  have hx := B.exec
  have hb := B.bytes
  have hr := B.returns
  have hts : ∀ w ∈ zu_TB, w.before _ s = true := fun w hw => atoms_spec (ws := zu_ws zm_Thr_init zb_Thr_init 1 none) B.pre w (List.mem_cons_of_mem _ hw)
  have hown : s.vm.findClass "StonePost$Thrower" = some m.cls := findClass_of_methodNamed B.named
  have hlocks := B.notSynchronized
  have hin : meth.name = "<init>" := (name_of_methodNamed B.named B.method).1
  subst hsz
  have hD := hD0.self (sz := s.heap.size)
  generalize hAe : va_A [(h0, .inr (4, [.null]))] s.heap.size = A at hD ⊢
  have hA : ∀ q : Nat, s.heap.size ≤ q → A q := fun q h => by rw [← hAe]; exact Or.inr h
  have hS : va_S A s.heap s.heap [] := va_S.rf
  have hl := lv_entry ([.ref h0]) (n := 1) (Nat.le_of_ble_eq_true rfl)
  rw [lg_entry_eq]
  generalize (lg_sl ([.ref h0]) ++ List.replicate (1 - (lg_sl ([.ref h0])).length) Slot.unset).toArray = ls at hl ⊢
  have hl : lv_has ls 1 [(0, .ref h0)] := hl
  have hP : va_P D zu_cl [(h0, .inr (4, [.null]))] s.heap := hP
  refine lv_aload_n hx hb zd_Thr_init_0 rfl (lv_at hl 0 rfl) ?_
  refine W.objInit hx hb hown (hts _ zq_37) (hts _ zq_23) (hts _ zq_24) rfl (by rw [hml]; exact hl.1) rfl zd_Thr_init_1 (Nat.le_of_ble_eq_true rfl) (Nat.le_of_ble_eq_true rfl) ?_
  refine W.eq (g2 := F0 m 4 ls []) rfl ?_
  refine lv_aload_n hx hb zd_Thr_init_4 rfl (lv_at hl 0 rfl) ?_
  refine lv_bipush (v := 9) hx hb zd_Thr_init_5 (by decide) ?_
  refine va_newa (atype := .int) (ty := .int) (N' := 9) (a0 := (9, .inl (fun _ => 0))) hx hb (hts _ zq_46) rfl hK.1 hP hD hS hA (fun _ => rfl) (by decide) (by decide) (Nat.le_of_ble_eq_true rfl) (Nat.le_of_ble_eq_true rfl) (Nat.le_of_ble_eq_true rfl) zd_Thr_init_7 (fun o1 c9 H hK9 hP hD hS => ?_)
  obtain rfl := zu_ci hK9
  obtain ⟨hP, hD⟩ := zu_front hP hD
  have hP : va_P D zu_cl ((o1, .inl (cA 0, 9, .inl (fun _ => 0))) :: (h0, .inr (4, [.null])) :: []) H := hP
  have hD : va_D A ((o1, .inl (cA 0, 9, .inl (fun _ => 0))) :: (h0, .inr (4, [.null])) :: []) := hD
  refine W.widen (k := 1) (n := 9) (Nat.le_of_ble_eq_true rfl) (Nat.le_of_ble_eq_true rfl) ?_
  refine va_putF (D := D) (ci := 4) (v := .ref o1) (ty := .array .int) (C := zc_Thr) (T := zt_Thr) (N := 1) hx hb hts zi_Thr zy_Thr zy_Thr_ok zn_Thr hown hK.1 hP hD hS 1 rfl rfl 0 (by decide) (hts _ zq_38) (fun _ h9 => h9) rfl hin rfl (by decide +kernel) rfl rfl (Nat.le_of_ble_eq_true rfl) zd_Thr_init_9 (fun H locs hP hD hS => ?_)
  have hP : va_P D zu_cl ((o1, .inl (cA 0, 9, .inl (fun _ => 0))) :: (h0, .inr (4, [.ref o1])) :: []) H := hP
  have hD : va_D A ((o1, .inl (cA 0, 9, .inl (fun _ => 0))) :: (h0, .inr (4, [.ref o1])) :: []) := hD
  have hP := hP.sub (ws' := zo_Thr_init cA h0 o1) [1, 0] rfl
  have hD := hD.sub (ws' := zo_Thr_init cA h0 o1) [1, 0] (by decide) rfl
  exact W.vret hx hb hr (fun t ht hW => ⟨⟨o1, rfl, trivial, by subst ht; exact hP, hD⟩, hS.F ht⟩) hS.2.2 zd_Thr_init_12
abbrev zR_Sheet_init : Room := { frames := 1, cells := 1, slots := 40, locals := 12 }
theorem zd_Sheet_init_0 : decode zb_Sheet_init 0 = .ok (.aload_n 0, 1) := by decide +kernel
theorem zd_Sheet_init_1 : decode zb_Sheet_init 1 = .ok (.invokespecial 3, 3) := by decide +kernel
theorem zd_Sheet_init_4 : decode zb_Sheet_init 4 = .ok (.aload_n 0, 1) := by decide +kernel
theorem zd_Sheet_init_5 : decode zb_Sheet_init 5 = .ok (.bipush 40, 2) := by decide +kernel
theorem zd_Sheet_init_7 : decode zb_Sheet_init 7 = .ok (.newarray .int, 2) := by decide +kernel
theorem zd_Sheet_init_9 : decode zb_Sheet_init 9 = .ok (.putfield 9, 3) := by decide +kernel
theorem zd_Sheet_init_12 : decode zb_Sheet_init 12 = .ok (.return_, 1) := by decide +kernel
def zo_Sheet_init (cA : Nat → ClassId) (h q : Nat) : va_W := [(h, .inr (2, [.ref q, .int 0, .int 0])), (q, .inl (cA 0, 40, .inl (fun _ => 0)))]
set_option maxHeartbeats 8000000 in
set_option maxRecDepth 100000 in
theorem zC_Sheet_init (l : Launch) {D : va_G} {cA : Nat → ClassId} (h0 sz : Nat) : Met l zm_Sheet_init (zu_ws zm_Sheet_init zb_Sheet_init 1 none) zR_Sheet_init (va_Pc [.ref h0] (zu_PreC D cA sz [(h0, .inr (2, [.null, .int 0, .int 0]))])) (va_Qv (fun _ : Nat => True) (fun q t => va_P D zu_cl (zo_Sheet_init cA h0 q) t.heap ∧ va_D (va_A [(h0, .inr (2, [.null, .int 0, .int 0]))] sz) (zo_Sheet_init cA h0 q)) (va_A [(h0, .inr (2, [.null, .int 0, .int 0]))] sz)) 1 40 (va_A [(h0, .inr (2, [.null, .int 0, .int 0]))] sz) := by
  refine Met.ofW (cc := zb_Sheet_init) (maxL := 1) (ret := none) (by decide +kernel) rfl ?_
  intro p e s m args below meth c s₁ B hml hv
  obtain ⟨rfl, hsz, hP, hK, hD0⟩ := hv
  have hx := B.exec
  have hb := B.bytes
  have hr := B.returns
  have hts : ∀ w ∈ zu_TB, w.before _ s = true := fun w hw => atoms_spec (ws := zu_ws zm_Sheet_init zb_Sheet_init 1 none) B.pre w (List.mem_cons_of_mem _ hw)
  have hown : s.vm.findClass "StonePost$Sheet" = some m.cls := findClass_of_methodNamed B.named
  have hlocks := B.notSynchronized
  have hin : meth.name = "<init>" := (name_of_methodNamed B.named B.method).1
  subst hsz
  have hD := hD0.self (sz := s.heap.size)
  generalize hAe : va_A [(h0, .inr (2, [.null, .int 0, .int 0]))] s.heap.size = A at hD ⊢
  have hA : ∀ q : Nat, s.heap.size ≤ q → A q := fun q h => by rw [← hAe]; exact Or.inr h
  have hS : va_S A s.heap s.heap [] := va_S.rf
  have hl := lv_entry ([.ref h0]) (n := 1) (Nat.le_of_ble_eq_true rfl)
  rw [lg_entry_eq]
  generalize (lg_sl ([.ref h0]) ++ List.replicate (1 - (lg_sl ([.ref h0])).length) Slot.unset).toArray = ls at hl ⊢
  have hl : lv_has ls 1 [(0, .ref h0)] := hl
  have hP : va_P D zu_cl [(h0, .inr (2, [.null, .int 0, .int 0]))] s.heap := hP
  refine lv_aload_n hx hb zd_Sheet_init_0 rfl (lv_at hl 0 rfl) ?_
  refine W.objInit hx hb hown (hts _ zq_177) (hts _ zq_23) (hts _ zq_24) rfl (by rw [hml]; exact hl.1) rfl zd_Sheet_init_1 (Nat.le_of_ble_eq_true rfl) (Nat.le_of_ble_eq_true rfl) ?_
  refine W.eq (g2 := F0 m 4 ls []) rfl ?_
  refine lv_aload_n hx hb zd_Sheet_init_4 rfl (lv_at hl 0 rfl) ?_
  refine lv_bipush (v := 40) hx hb zd_Sheet_init_5 (by decide) ?_
  refine va_newa (atype := .int) (ty := .int) (N' := 40) (a0 := (40, .inl (fun _ => 0))) hx hb (hts _ zq_46) rfl hK.1 hP hD hS hA (fun _ => rfl) (by decide) (by decide) (Nat.le_of_ble_eq_true rfl) (Nat.le_of_ble_eq_true rfl) (Nat.le_of_ble_eq_true rfl) zd_Sheet_init_7 (fun o1 c9 H hK9 hP hD hS => ?_)
  obtain rfl := zu_ci hK9
  obtain ⟨hP, hD⟩ := zu_front hP hD
  have hP : va_P D zu_cl ((o1, .inl (cA 0, 40, .inl (fun _ => 0))) :: (h0, .inr (2, [.null, .int 0, .int 0])) :: []) H := hP
  have hD : va_D A ((o1, .inl (cA 0, 40, .inl (fun _ => 0))) :: (h0, .inr (2, [.null, .int 0, .int 0])) :: []) := hD
  refine W.widen (k := 1) (n := 40) (Nat.le_of_ble_eq_true rfl) (Nat.le_of_ble_eq_true rfl) ?_
  refine va_putF (D := D) (ci := 2) (v := .ref o1) (ty := .array .int) (C := zc_Sheet) (T := zt_Sheet) (N := 3) hx hb hts zi_Sheet zy_Sheet zy_Sheet_ok zn_Sheet hown hK.1 hP hD hS 1 rfl rfl 0 (by decide) (hts _ zq_178) (fun _ h9 => h9) rfl hin rfl (by decide +kernel) rfl rfl (Nat.le_of_ble_eq_true rfl) zd_Sheet_init_9 (fun H locs hP hD hS => ?_)
  have hP : va_P D zu_cl ((o1, .inl (cA 0, 40, .inl (fun _ => 0))) :: (h0, .inr (2, [.ref o1, .int 0, .int 0])) :: []) H := hP
  have hD : va_D A ((o1, .inl (cA 0, 40, .inl (fun _ => 0))) :: (h0, .inr (2, [.ref o1, .int 0, .int 0])) :: []) := hD
  have hP := hP.sub (ws' := zo_Sheet_init cA h0 o1) [1, 0] rfl
  have hD := hD.sub (ws' := zo_Sheet_init cA h0 o1) [1, 0] (by decide) rfl
  exact W.vret hx hb hr (fun t ht hW => ⟨⟨o1, rfl, trivial, by subst ht; exact hP, hD⟩, hS.F ht⟩) hS.2.2 zd_Sheet_init_12
abbrev zR_Tape_init : Room := { frames := 1, cells := 1, slots := 120, locals := 12 }
theorem zd_Tape_init_0 : decode zb_Tape_init 0 = .ok (.aload_n 0, 1) := by decide +kernel
theorem zd_Tape_init_1 : decode zb_Tape_init 1 = .ok (.invokespecial 3, 3) := by decide +kernel
theorem zd_Tape_init_4 : decode zb_Tape_init 4 = .ok (.aload_n 0, 1) := by decide +kernel
theorem zd_Tape_init_5 : decode zb_Tape_init 5 = .ok (.bipush 120, 2) := by decide +kernel
theorem zd_Tape_init_7 : decode zb_Tape_init 7 = .ok (.newarray .int, 2) := by decide +kernel
theorem zd_Tape_init_9 : decode zb_Tape_init 9 = .ok (.putfield 9, 3) := by decide +kernel
theorem zd_Tape_init_12 : decode zb_Tape_init 12 = .ok (.return_, 1) := by decide +kernel
def zo_Tape_init (cA : Nat → ClassId) (h q : Nat) : va_W := [(h, .inr (3, [.ref q, .int 0, .int 0, .int 0, .int 0, .int 0])), (q, .inl (cA 0, 120, .inl (fun _ => 0)))]
set_option maxHeartbeats 8000000 in
set_option maxRecDepth 100000 in
theorem zC_Tape_init (l : Launch) {D : va_G} {cA : Nat → ClassId} (h0 sz : Nat) : Met l zm_Tape_init (zu_ws zm_Tape_init zb_Tape_init 1 none) zR_Tape_init (va_Pc [.ref h0] (zu_PreC D cA sz [(h0, .inr (3, [.null, .int 0, .int 0, .int 0, .int 0, .int 0]))])) (va_Qv (fun _ : Nat => True) (fun q t => va_P D zu_cl (zo_Tape_init cA h0 q) t.heap ∧ va_D (va_A [(h0, .inr (3, [.null, .int 0, .int 0, .int 0, .int 0, .int 0]))] sz) (zo_Tape_init cA h0 q)) (va_A [(h0, .inr (3, [.null, .int 0, .int 0, .int 0, .int 0, .int 0]))] sz)) 1 120 (va_A [(h0, .inr (3, [.null, .int 0, .int 0, .int 0, .int 0, .int 0]))] sz) := by
  refine Met.ofW (cc := zb_Tape_init) (maxL := 1) (ret := none) (by decide +kernel) rfl ?_
  intro p e s m args below meth c s₁ B hml hv
  obtain ⟨rfl, hsz, hP, hK, hD0⟩ := hv
  have hx := B.exec
  have hb := B.bytes
  have hr := B.returns
  have hts : ∀ w ∈ zu_TB, w.before _ s = true := fun w hw => atoms_spec (ws := zu_ws zm_Tape_init zb_Tape_init 1 none) B.pre w (List.mem_cons_of_mem _ hw)
  have hown : s.vm.findClass "StonePost$Tape" = some m.cls := findClass_of_methodNamed B.named
  have hlocks := B.notSynchronized
  have hin : meth.name = "<init>" := (name_of_methodNamed B.named B.method).1
  subst hsz
  have hD := hD0.self (sz := s.heap.size)
  generalize hAe : va_A [(h0, .inr (3, [.null, .int 0, .int 0, .int 0, .int 0, .int 0]))] s.heap.size = A at hD ⊢
  have hA : ∀ q : Nat, s.heap.size ≤ q → A q := fun q h => by rw [← hAe]; exact Or.inr h
  have hS : va_S A s.heap s.heap [] := va_S.rf
  have hl := lv_entry ([.ref h0]) (n := 1) (Nat.le_of_ble_eq_true rfl)
  rw [lg_entry_eq]
  generalize (lg_sl ([.ref h0]) ++ List.replicate (1 - (lg_sl ([.ref h0])).length) Slot.unset).toArray = ls at hl ⊢
  have hl : lv_has ls 1 [(0, .ref h0)] := hl
  have hP : va_P D zu_cl [(h0, .inr (3, [.null, .int 0, .int 0, .int 0, .int 0, .int 0]))] s.heap := hP
  refine lv_aload_n hx hb zd_Tape_init_0 rfl (lv_at hl 0 rfl) ?_
  refine W.objInit hx hb hown (hts _ zq_146) (hts _ zq_23) (hts _ zq_24) rfl (by rw [hml]; exact hl.1) rfl zd_Tape_init_1 (Nat.le_of_ble_eq_true rfl) (Nat.le_of_ble_eq_true rfl) ?_
  refine W.eq (g2 := F0 m 4 ls []) rfl ?_
  refine lv_aload_n hx hb zd_Tape_init_4 rfl (lv_at hl 0 rfl) ?_
  refine lv_bipush (v := 120) hx hb zd_Tape_init_5 (by decide) ?_
  refine va_newa (atype := .int) (ty := .int) (N' := 120) (a0 := (120, .inl (fun _ => 0))) hx hb (hts _ zq_46) rfl hK.1 hP hD hS hA (fun _ => rfl) (by decide) (by decide) (Nat.le_of_ble_eq_true rfl) (Nat.le_of_ble_eq_true rfl) (Nat.le_of_ble_eq_true rfl) zd_Tape_init_7 (fun o1 c9 H hK9 hP hD hS => ?_)
  obtain rfl := zu_ci hK9
  obtain ⟨hP, hD⟩ := zu_front hP hD
  have hP : va_P D zu_cl ((o1, .inl (cA 0, 120, .inl (fun _ => 0))) :: (h0, .inr (3, [.null, .int 0, .int 0, .int 0, .int 0, .int 0])) :: []) H := hP
  have hD : va_D A ((o1, .inl (cA 0, 120, .inl (fun _ => 0))) :: (h0, .inr (3, [.null, .int 0, .int 0, .int 0, .int 0, .int 0])) :: []) := hD
  refine W.widen (k := 1) (n := 120) (Nat.le_of_ble_eq_true rfl) (Nat.le_of_ble_eq_true rfl) ?_
  refine va_putF (D := D) (ci := 3) (v := .ref o1) (ty := .array .int) (C := zc_Tape) (T := zt_Tape) (N := 6) hx hb hts zi_Tape zy_Tape zy_Tape_ok zn_Tape hown hK.1 hP hD hS 1 rfl rfl 0 (by decide) (hts _ zq_147) (fun _ h9 => h9) rfl hin rfl (by decide +kernel) rfl rfl (Nat.le_of_ble_eq_true rfl) zd_Tape_init_9 (fun H locs hP hD hS => ?_)
  have hP : va_P D zu_cl ((o1, .inl (cA 0, 120, .inl (fun _ => 0))) :: (h0, .inr (3, [.ref o1, .int 0, .int 0, .int 0, .int 0, .int 0])) :: []) H := hP
  have hD : va_D A ((o1, .inl (cA 0, 120, .inl (fun _ => 0))) :: (h0, .inr (3, [.ref o1, .int 0, .int 0, .int 0, .int 0, .int 0])) :: []) := hD
  have hP := hP.sub (ws' := zo_Tape_init cA h0 o1) [1, 0] rfl
  have hD := hD.sub (ws' := zo_Tape_init cA h0 o1) [1, 0] (by decide) rfl
  exact W.vret hx hb hr (fun t ht hW => ⟨⟨o1, rfl, trivial, by subst ht; exact hP, hD⟩, hS.F ht⟩) hS.2.2 zd_Tape_init_12
abbrev zR_Chart_init : Room := { frames := 1, cells := 6, slots := 360, locals := 12 }
theorem zd_Chart_init_0 : decode zb_Chart_init 0 = .ok (.aload_n 0, 1) := by decide +kernel
theorem zd_Chart_init_1 : decode zb_Chart_init 1 = .ok (.invokespecial 3, 3) := by decide +kernel
theorem zd_Chart_init_4 : decode zb_Chart_init 4 = .ok (.aload_n 0, 1) := by decide +kernel
theorem zd_Chart_init_5 : decode zb_Chart_init 5 = .ok (.bipush 96, 2) := by decide +kernel
theorem zd_Chart_init_7 : decode zb_Chart_init 7 = .ok (.newarray .int, 2) := by decide +kernel
theorem zd_Chart_init_9 : decode zb_Chart_init 9 = .ok (.putfield 11, 3) := by decide +kernel
theorem zd_Chart_init_12 : decode zb_Chart_init 12 = .ok (.aload_n 0, 1) := by decide +kernel
theorem zd_Chart_init_13 : decode zb_Chart_init 13 = .ok (.bipush 96, 2) := by decide +kernel
theorem zd_Chart_init_15 : decode zb_Chart_init 15 = .ok (.newarray .int, 2) := by decide +kernel
theorem zd_Chart_init_17 : decode zb_Chart_init 17 = .ok (.putfield 15, 3) := by decide +kernel
theorem zd_Chart_init_20 : decode zb_Chart_init 20 = .ok (.aload_n 0, 1) := by decide +kernel
theorem zd_Chart_init_21 : decode zb_Chart_init 21 = .ok (.bipush 96, 2) := by decide +kernel
theorem zd_Chart_init_23 : decode zb_Chart_init 23 = .ok (.newarray .int, 2) := by decide +kernel
theorem zd_Chart_init_25 : decode zb_Chart_init 25 = .ok (.putfield 18, 3) := by decide +kernel
theorem zd_Chart_init_28 : decode zb_Chart_init 28 = .ok (.aload_n 0, 1) := by decide +kernel
theorem zd_Chart_init_29 : decode zb_Chart_init 29 = .ok (.bipush 24, 2) := by decide +kernel
theorem zd_Chart_init_31 : decode zb_Chart_init 31 = .ok (.newarray .int, 2) := by decide +kernel
theorem zd_Chart_init_33 : decode zb_Chart_init 33 = .ok (.putfield 21, 3) := by decide +kernel
theorem zd_Chart_init_36 : decode zb_Chart_init 36 = .ok (.aload_n 0, 1) := by decide +kernel
theorem zd_Chart_init_37 : decode zb_Chart_init 37 = .ok (.bipush 24, 2) := by decide +kernel
theorem zd_Chart_init_39 : decode zb_Chart_init 39 = .ok (.newarray .long, 2) := by decide +kernel
theorem zd_Chart_init_41 : decode zb_Chart_init 41 = .ok (.putfield 24, 3) := by decide +kernel
theorem zd_Chart_init_44 : decode zb_Chart_init 44 = .ok (.aload_n 0, 1) := by decide +kernel
theorem zd_Chart_init_45 : decode zb_Chart_init 45 = .ok (.bipush 24, 2) := by decide +kernel
theorem zd_Chart_init_47 : decode zb_Chart_init 47 = .ok (.newarray .long, 2) := by decide +kernel
theorem zd_Chart_init_49 : decode zb_Chart_init 49 = .ok (.putfield 28, 3) := by decide +kernel
theorem zd_Chart_init_52 : decode zb_Chart_init 52 = .ok (.return_, 1) := by decide +kernel
def zo_Chart_init (cA : Nat → ClassId) (h : Nat) (q : Nat → Nat) : va_W := [(h, .inr (0, [.ref (q 0), .ref (q 1), .ref (q 2), .ref (q 3), .ref (q 4), .ref (q 5), .int 0, .int 0, .int 0])), (q 0, .inl (cA 0, 96, .inl (fun _ => 0))), (q 1, .inl (cA 0, 96, .inl (fun _ => 0))), (q 2, .inl (cA 0, 96, .inl (fun _ => 0))), (q 3, .inl (cA 0, 24, .inl (fun _ => 0))), (q 4, .inl (cA 1, 24, .inr (.inl (fun _ => 0)))), (q 5, .inl (cA 1, 24, .inr (.inl (fun _ => 0))))]
set_option maxHeartbeats 8000000 in
set_option maxRecDepth 100000 in
theorem zC_Chart_init (l : Launch) {D : va_G} {cA : Nat → ClassId} (h0 sz : Nat) : Met l zm_Chart_init (zu_ws zm_Chart_init zb_Chart_init 1 none) zR_Chart_init (va_Pc [.ref h0] (zu_PreC D cA sz [(h0, .inr (0, [.null, .null, .null, .null, .null, .null, .int 0, .int 0, .int 0]))])) (va_Qv (fun _ : Nat → Nat => True) (fun q t => va_P D zu_cl (zo_Chart_init cA h0 q) t.heap ∧ va_D (va_A [(h0, .inr (0, [.null, .null, .null, .null, .null, .null, .int 0, .int 0, .int 0]))] sz) (zo_Chart_init cA h0 q)) (va_A [(h0, .inr (0, [.null, .null, .null, .null, .null, .null, .int 0, .int 0, .int 0]))] sz)) 6 360 (va_A [(h0, .inr (0, [.null, .null, .null, .null, .null, .null, .int 0, .int 0, .int 0]))] sz) := by
  refine Met.ofW (cc := zb_Chart_init) (maxL := 1) (ret := none) (by decide +kernel) rfl ?_
  intro p e s m args below meth c s₁ B hml hv
  obtain ⟨rfl, hsz, hP, hK, hD0⟩ := hv
  have hx := B.exec
  have hb := B.bytes
  have hr := B.returns
  have hts : ∀ w ∈ zu_TB, w.before _ s = true := fun w hw => atoms_spec (ws := zu_ws zm_Chart_init zb_Chart_init 1 none) B.pre w (List.mem_cons_of_mem _ hw)
  have hown : s.vm.findClass "StonePost$Chart" = some m.cls := findClass_of_methodNamed B.named
  have hlocks := B.notSynchronized
  have hin : meth.name = "<init>" := (name_of_methodNamed B.named B.method).1
  subst hsz
  have hD := hD0.self (sz := s.heap.size)
  generalize hAe : va_A [(h0, .inr (0, [.null, .null, .null, .null, .null, .null, .int 0, .int 0, .int 0]))] s.heap.size = A at hD ⊢
  have hA : ∀ q : Nat, s.heap.size ≤ q → A q := fun q h => by rw [← hAe]; exact Or.inr h
  have hS : va_S A s.heap s.heap [] := va_S.rf
  have hl := lv_entry ([.ref h0]) (n := 1) (Nat.le_of_ble_eq_true rfl)
  rw [lg_entry_eq]
  generalize (lg_sl ([.ref h0]) ++ List.replicate (1 - (lg_sl ([.ref h0])).length) Slot.unset).toArray = ls at hl ⊢
  have hl : lv_has ls 1 [(0, .ref h0)] := hl
  have hP : va_P D zu_cl [(h0, .inr (0, [.null, .null, .null, .null, .null, .null, .int 0, .int 0, .int 0]))] s.heap := hP
  refine lv_aload_n hx hb zd_Chart_init_0 rfl (lv_at hl 0 rfl) ?_
  refine W.objInit hx hb hown (hts _ zq_105) (hts _ zq_23) (hts _ zq_24) rfl (by rw [hml]; exact hl.1) rfl zd_Chart_init_1 (Nat.le_of_ble_eq_true rfl) (Nat.le_of_ble_eq_true rfl) ?_
  refine W.eq (g2 := F0 m 4 ls []) rfl ?_
  refine lv_aload_n hx hb zd_Chart_init_4 rfl (lv_at hl 0 rfl) ?_
  refine lv_bipush (v := 96) hx hb zd_Chart_init_5 (by decide) ?_
  refine va_newa (atype := .int) (ty := .int) (N' := 96) (a0 := (96, .inl (fun _ => 0))) hx hb (hts _ zq_46) rfl hK.1 hP hD hS hA (fun _ => rfl) (by decide) (by decide) (Nat.le_of_ble_eq_true rfl) (Nat.le_of_ble_eq_true rfl) (Nat.le_of_ble_eq_true rfl) zd_Chart_init_7 (fun o1 c9 H hK9 hP hD hS => ?_)
  obtain rfl := zu_ci hK9
  obtain ⟨hP, hD⟩ := zu_front hP hD
  have hP : va_P D zu_cl ((o1, .inl (cA 0, 96, .inl (fun _ => 0))) :: (h0, .inr (0, [.null, .null, .null, .null, .null, .null, .int 0, .int 0, .int 0])) :: []) H := hP
  have hD : va_D A ((o1, .inl (cA 0, 96, .inl (fun _ => 0))) :: (h0, .inr (0, [.null, .null, .null, .null, .null, .null, .int 0, .int 0, .int 0])) :: []) := hD
  refine W.widen (k := 1) (n := 96) (Nat.le_of_ble_eq_true rfl) (Nat.le_of_ble_eq_true rfl) ?_
  refine va_putF (D := D) (ci := 0) (v := .ref o1) (ty := .array .int) (C := zc_Chart) (T := zt_Chart) (N := 9) hx hb hts zi_Chart zy_Chart zy_Chart_ok zn_Chart hown hK.1 hP hD hS 1 rfl rfl 0 (by decide) (hts _ zq_106) (fun _ h9 => h9) rfl hin rfl (by decide +kernel) rfl rfl (Nat.le_of_ble_eq_true rfl) zd_Chart_init_9 (fun H locs hP hD hS => ?_)
  have hP : va_P D zu_cl ((o1, .inl (cA 0, 96, .inl (fun _ => 0))) :: (h0, .inr (0, [.ref o1, .null, .null, .null, .null, .null, .int 0, .int 0, .int 0])) :: []) H := hP
  have hD : va_D A ((o1, .inl (cA 0, 96, .inl (fun _ => 0))) :: (h0, .inr (0, [.ref o1, .null, .null, .null, .null, .null, .int 0, .int 0, .int 0])) :: []) := hD
  refine lv_aload_n hx hb zd_Chart_init_12 rfl (lv_at hl 0 rfl) ?_
  refine lv_bipush (v := 96) hx hb zd_Chart_init_13 (by decide) ?_
  refine va_newa (atype := .int) (ty := .int) (N' := 96) (a0 := (96, .inl (fun _ => 0))) hx hb (hts _ zq_46) rfl hK.1 hP hD hS hA (fun _ => rfl) (by decide) (by decide) (Nat.le_of_ble_eq_true rfl) (Nat.le_of_ble_eq_true rfl) (Nat.le_of_ble_eq_true rfl) zd_Chart_init_15 (fun o2 c9 H hK9 hP hD hS => ?_)
  obtain rfl := zu_ci hK9
  obtain ⟨hP, hD⟩ := zu_front hP hD
  have hP : va_P D zu_cl ((o2, .inl (cA 0, 96, .inl (fun _ => 0))) :: (o1, .inl (cA 0, 96, .inl (fun _ => 0))) :: (h0, .inr (0, [.ref o1, .null, .null, .null, .null, .null, .int 0, .int 0, .int 0])) :: []) H := hP
  have hD : va_D A ((o2, .inl (cA 0, 96, .inl (fun _ => 0))) :: (o1, .inl (cA 0, 96, .inl (fun _ => 0))) :: (h0, .inr (0, [.ref o1, .null, .null, .null, .null, .null, .int 0, .int 0, .int 0])) :: []) := hD
  refine W.widen (k := 2) (n := 192) (Nat.le_of_ble_eq_true rfl) (Nat.le_of_ble_eq_true rfl) ?_
  refine va_putF (D := D) (ci := 0) (v := .ref o2) (ty := .array .int) (C := zc_Chart) (T := zt_Chart) (N := 9) hx hb hts zi_Chart zy_Chart zy_Chart_ok zn_Chart hown hK.1 hP hD hS 2 rfl rfl 1 (by decide) (hts _ zq_108) (fun _ h9 => h9) rfl hin rfl (by decide +kernel) rfl rfl (Nat.le_of_ble_eq_true rfl) zd_Chart_init_17 (fun H locs hP hD hS => ?_)
  have hP : va_P D zu_cl ((o2, .inl (cA 0, 96, .inl (fun _ => 0))) :: (o1, .inl (cA 0, 96, .inl (fun _ => 0))) :: (h0, .inr (0, [.ref o1, .ref o2, .null, .null, .null, .null, .int 0, .int 0, .int 0])) :: []) H := hP
  have hD : va_D A ((o2, .inl (cA 0, 96, .inl (fun _ => 0))) :: (o1, .inl (cA 0, 96, .inl (fun _ => 0))) :: (h0, .inr (0, [.ref o1, .ref o2, .null, .null, .null, .null, .int 0, .int 0, .int 0])) :: []) := hD
  refine lv_aload_n hx hb zd_Chart_init_20 rfl (lv_at hl 0 rfl) ?_
  refine lv_bipush (v := 96) hx hb zd_Chart_init_21 (by decide) ?_
  refine va_newa (atype := .int) (ty := .int) (N' := 96) (a0 := (96, .inl (fun _ => 0))) hx hb (hts _ zq_46) rfl hK.1 hP hD hS hA (fun _ => rfl) (by decide) (by decide) (Nat.le_of_ble_eq_true rfl) (Nat.le_of_ble_eq_true rfl) (Nat.le_of_ble_eq_true rfl) zd_Chart_init_23 (fun o3 c9 H hK9 hP hD hS => ?_)
  obtain rfl := zu_ci hK9
  obtain ⟨hP, hD⟩ := zu_front hP hD
  have hP : va_P D zu_cl ((o3, .inl (cA 0, 96, .inl (fun _ => 0))) :: (o2, .inl (cA 0, 96, .inl (fun _ => 0))) :: (o1, .inl (cA 0, 96, .inl (fun _ => 0))) :: (h0, .inr (0, [.ref o1, .ref o2, .null, .null, .null, .null, .int 0, .int 0, .int 0])) :: []) H := hP
  have hD : va_D A ((o3, .inl (cA 0, 96, .inl (fun _ => 0))) :: (o2, .inl (cA 0, 96, .inl (fun _ => 0))) :: (o1, .inl (cA 0, 96, .inl (fun _ => 0))) :: (h0, .inr (0, [.ref o1, .ref o2, .null, .null, .null, .null, .int 0, .int 0, .int 0])) :: []) := hD
  refine W.widen (k := 3) (n := 288) (Nat.le_of_ble_eq_true rfl) (Nat.le_of_ble_eq_true rfl) ?_
  refine va_putF (D := D) (ci := 0) (v := .ref o3) (ty := .array .int) (C := zc_Chart) (T := zt_Chart) (N := 9) hx hb hts zi_Chart zy_Chart zy_Chart_ok zn_Chart hown hK.1 hP hD hS 3 rfl rfl 2 (by decide) (hts _ zq_110) (fun _ h9 => h9) rfl hin rfl (by decide +kernel) rfl rfl (Nat.le_of_ble_eq_true rfl) zd_Chart_init_25 (fun H locs hP hD hS => ?_)
  have hP : va_P D zu_cl ((o3, .inl (cA 0, 96, .inl (fun _ => 0))) :: (o2, .inl (cA 0, 96, .inl (fun _ => 0))) :: (o1, .inl (cA 0, 96, .inl (fun _ => 0))) :: (h0, .inr (0, [.ref o1, .ref o2, .ref o3, .null, .null, .null, .int 0, .int 0, .int 0])) :: []) H := hP
  have hD : va_D A ((o3, .inl (cA 0, 96, .inl (fun _ => 0))) :: (o2, .inl (cA 0, 96, .inl (fun _ => 0))) :: (o1, .inl (cA 0, 96, .inl (fun _ => 0))) :: (h0, .inr (0, [.ref o1, .ref o2, .ref o3, .null, .null, .null, .int 0, .int 0, .int 0])) :: []) := hD
  refine lv_aload_n hx hb zd_Chart_init_28 rfl (lv_at hl 0 rfl) ?_
  refine lv_bipush (v := 24) hx hb zd_Chart_init_29 (by decide) ?_
  refine va_newa (atype := .int) (ty := .int) (N' := 24) (a0 := (24, .inl (fun _ => 0))) hx hb (hts _ zq_46) rfl hK.1 hP hD hS hA (fun _ => rfl) (by decide) (by decide) (Nat.le_of_ble_eq_true rfl) (Nat.le_of_ble_eq_true rfl) (Nat.le_of_ble_eq_true rfl) zd_Chart_init_31 (fun o4 c9 H hK9 hP hD hS => ?_)
  obtain rfl := zu_ci hK9
  obtain ⟨hP, hD⟩ := zu_front hP hD
  have hP : va_P D zu_cl ((o4, .inl (cA 0, 24, .inl (fun _ => 0))) :: (o3, .inl (cA 0, 96, .inl (fun _ => 0))) :: (o2, .inl (cA 0, 96, .inl (fun _ => 0))) :: (o1, .inl (cA 0, 96, .inl (fun _ => 0))) :: (h0, .inr (0, [.ref o1, .ref o2, .ref o3, .null, .null, .null, .int 0, .int 0, .int 0])) :: []) H := hP
  have hD : va_D A ((o4, .inl (cA 0, 24, .inl (fun _ => 0))) :: (o3, .inl (cA 0, 96, .inl (fun _ => 0))) :: (o2, .inl (cA 0, 96, .inl (fun _ => 0))) :: (o1, .inl (cA 0, 96, .inl (fun _ => 0))) :: (h0, .inr (0, [.ref o1, .ref o2, .ref o3, .null, .null, .null, .int 0, .int 0, .int 0])) :: []) := hD
  refine W.widen (k := 4) (n := 312) (Nat.le_of_ble_eq_true rfl) (Nat.le_of_ble_eq_true rfl) ?_
  refine va_putF (D := D) (ci := 0) (v := .ref o4) (ty := .array .int) (C := zc_Chart) (T := zt_Chart) (N := 9) hx hb hts zi_Chart zy_Chart zy_Chart_ok zn_Chart hown hK.1 hP hD hS 4 rfl rfl 3 (by decide) (hts _ zq_112) (fun _ h9 => h9) rfl hin rfl (by decide +kernel) rfl rfl (Nat.le_of_ble_eq_true rfl) zd_Chart_init_33 (fun H locs hP hD hS => ?_)
  have hP : va_P D zu_cl ((o4, .inl (cA 0, 24, .inl (fun _ => 0))) :: (o3, .inl (cA 0, 96, .inl (fun _ => 0))) :: (o2, .inl (cA 0, 96, .inl (fun _ => 0))) :: (o1, .inl (cA 0, 96, .inl (fun _ => 0))) :: (h0, .inr (0, [.ref o1, .ref o2, .ref o3, .ref o4, .null, .null, .int 0, .int 0, .int 0])) :: []) H := hP
  have hD : va_D A ((o4, .inl (cA 0, 24, .inl (fun _ => 0))) :: (o3, .inl (cA 0, 96, .inl (fun _ => 0))) :: (o2, .inl (cA 0, 96, .inl (fun _ => 0))) :: (o1, .inl (cA 0, 96, .inl (fun _ => 0))) :: (h0, .inr (0, [.ref o1, .ref o2, .ref o3, .ref o4, .null, .null, .int 0, .int 0, .int 0])) :: []) := hD
  refine lv_aload_n hx hb zd_Chart_init_36 rfl (lv_at hl 0 rfl) ?_
  refine lv_bipush (v := 24) hx hb zd_Chart_init_37 (by decide) ?_
  refine va_newa (atype := .long) (ty := .long) (N' := 24) (a0 := (24, .inr (.inl (fun _ => 0)))) hx hb (hts _ zq_140) rfl hK.1 hP hD hS hA (fun _ => rfl) (by decide) (by decide) (Nat.le_of_ble_eq_true rfl) (Nat.le_of_ble_eq_true rfl) (Nat.le_of_ble_eq_true rfl) zd_Chart_init_39 (fun o5 c9 H hK9 hP hD hS => ?_)
  obtain rfl := zu_cl' hK9
  obtain ⟨hP, hD⟩ := zu_front hP hD
  have hP : va_P D zu_cl ((o5, .inl (cA 1, 24, .inr (.inl (fun _ => 0)))) :: (o4, .inl (cA 0, 24, .inl (fun _ => 0))) :: (o3, .inl (cA 0, 96, .inl (fun _ => 0))) :: (o2, .inl (cA 0, 96, .inl (fun _ => 0))) :: (o1, .inl (cA 0, 96, .inl (fun _ => 0))) :: (h0, .inr (0, [.ref o1, .ref o2, .ref o3, .ref o4, .null, .null, .int 0, .int 0, .int 0])) :: []) H := hP
  have hD : va_D A ((o5, .inl (cA 1, 24, .inr (.inl (fun _ => 0)))) :: (o4, .inl (cA 0, 24, .inl (fun _ => 0))) :: (o3, .inl (cA 0, 96, .inl (fun _ => 0))) :: (o2, .inl (cA 0, 96, .inl (fun _ => 0))) :: (o1, .inl (cA 0, 96, .inl (fun _ => 0))) :: (h0, .inr (0, [.ref o1, .ref o2, .ref o3, .ref o4, .null, .null, .int 0, .int 0, .int 0])) :: []) := hD
  refine W.widen (k := 5) (n := 336) (Nat.le_of_ble_eq_true rfl) (Nat.le_of_ble_eq_true rfl) ?_
  refine va_putF (D := D) (ci := 0) (v := .ref o5) (ty := .array .long) (C := zc_Chart) (T := zt_Chart) (N := 9) hx hb hts zi_Chart zy_Chart zy_Chart_ok zn_Chart hown hK.1 hP hD hS 5 rfl rfl 4 (by decide) (hts _ zq_114) (fun _ h9 => h9) rfl hin rfl (by decide +kernel) rfl rfl (Nat.le_of_ble_eq_true rfl) zd_Chart_init_41 (fun H locs hP hD hS => ?_)
  have hP : va_P D zu_cl ((o5, .inl (cA 1, 24, .inr (.inl (fun _ => 0)))) :: (o4, .inl (cA 0, 24, .inl (fun _ => 0))) :: (o3, .inl (cA 0, 96, .inl (fun _ => 0))) :: (o2, .inl (cA 0, 96, .inl (fun _ => 0))) :: (o1, .inl (cA 0, 96, .inl (fun _ => 0))) :: (h0, .inr (0, [.ref o1, .ref o2, .ref o3, .ref o4, .ref o5, .null, .int 0, .int 0, .int 0])) :: []) H := hP
  have hD : va_D A ((o5, .inl (cA 1, 24, .inr (.inl (fun _ => 0)))) :: (o4, .inl (cA 0, 24, .inl (fun _ => 0))) :: (o3, .inl (cA 0, 96, .inl (fun _ => 0))) :: (o2, .inl (cA 0, 96, .inl (fun _ => 0))) :: (o1, .inl (cA 0, 96, .inl (fun _ => 0))) :: (h0, .inr (0, [.ref o1, .ref o2, .ref o3, .ref o4, .ref o5, .null, .int 0, .int 0, .int 0])) :: []) := hD
  refine lv_aload_n hx hb zd_Chart_init_44 rfl (lv_at hl 0 rfl) ?_
  refine lv_bipush (v := 24) hx hb zd_Chart_init_45 (by decide) ?_
  refine va_newa (atype := .long) (ty := .long) (N' := 24) (a0 := (24, .inr (.inl (fun _ => 0)))) hx hb (hts _ zq_140) rfl hK.1 hP hD hS hA (fun _ => rfl) (by decide) (by decide) (Nat.le_of_ble_eq_true rfl) (Nat.le_of_ble_eq_true rfl) (Nat.le_of_ble_eq_true rfl) zd_Chart_init_47 (fun o6 c9 H hK9 hP hD hS => ?_)
  obtain rfl := zu_cl' hK9
  obtain ⟨hP, hD⟩ := zu_front hP hD
  have hP : va_P D zu_cl ((o6, .inl (cA 1, 24, .inr (.inl (fun _ => 0)))) :: (o5, .inl (cA 1, 24, .inr (.inl (fun _ => 0)))) :: (o4, .inl (cA 0, 24, .inl (fun _ => 0))) :: (o3, .inl (cA 0, 96, .inl (fun _ => 0))) :: (o2, .inl (cA 0, 96, .inl (fun _ => 0))) :: (o1, .inl (cA 0, 96, .inl (fun _ => 0))) :: (h0, .inr (0, [.ref o1, .ref o2, .ref o3, .ref o4, .ref o5, .null, .int 0, .int 0, .int 0])) :: []) H := hP
  have hD : va_D A ((o6, .inl (cA 1, 24, .inr (.inl (fun _ => 0)))) :: (o5, .inl (cA 1, 24, .inr (.inl (fun _ => 0)))) :: (o4, .inl (cA 0, 24, .inl (fun _ => 0))) :: (o3, .inl (cA 0, 96, .inl (fun _ => 0))) :: (o2, .inl (cA 0, 96, .inl (fun _ => 0))) :: (o1, .inl (cA 0, 96, .inl (fun _ => 0))) :: (h0, .inr (0, [.ref o1, .ref o2, .ref o3, .ref o4, .ref o5, .null, .int 0, .int 0, .int 0])) :: []) := hD
  refine W.widen (k := 6) (n := 360) (Nat.le_of_ble_eq_true rfl) (Nat.le_of_ble_eq_true rfl) ?_
  refine va_putF (D := D) (ci := 0) (v := .ref o6) (ty := .array .long) (C := zc_Chart) (T := zt_Chart) (N := 9) hx hb hts zi_Chart zy_Chart zy_Chart_ok zn_Chart hown hK.1 hP hD hS 6 rfl rfl 5 (by decide) (hts _ zq_116) (fun _ h9 => h9) rfl hin rfl (by decide +kernel) rfl rfl (Nat.le_of_ble_eq_true rfl) zd_Chart_init_49 (fun H locs hP hD hS => ?_)
  have hP : va_P D zu_cl ((o6, .inl (cA 1, 24, .inr (.inl (fun _ => 0)))) :: (o5, .inl (cA 1, 24, .inr (.inl (fun _ => 0)))) :: (o4, .inl (cA 0, 24, .inl (fun _ => 0))) :: (o3, .inl (cA 0, 96, .inl (fun _ => 0))) :: (o2, .inl (cA 0, 96, .inl (fun _ => 0))) :: (o1, .inl (cA 0, 96, .inl (fun _ => 0))) :: (h0, .inr (0, [.ref o1, .ref o2, .ref o3, .ref o4, .ref o5, .ref o6, .int 0, .int 0, .int 0])) :: []) H := hP
  have hD : va_D A ((o6, .inl (cA 1, 24, .inr (.inl (fun _ => 0)))) :: (o5, .inl (cA 1, 24, .inr (.inl (fun _ => 0)))) :: (o4, .inl (cA 0, 24, .inl (fun _ => 0))) :: (o3, .inl (cA 0, 96, .inl (fun _ => 0))) :: (o2, .inl (cA 0, 96, .inl (fun _ => 0))) :: (o1, .inl (cA 0, 96, .inl (fun _ => 0))) :: (h0, .inr (0, [.ref o1, .ref o2, .ref o3, .ref o4, .ref o5, .ref o6, .int 0, .int 0, .int 0])) :: []) := hD
  have hP := hP.sub (ws' := zo_Chart_init cA h0 (fun j => ([o1, o2, o3, o4, o5, o6] : List Nat).getD j 0)) [6, 5, 4, 3, 2, 1, 0] rfl
  have hD := hD.sub (ws' := zo_Chart_init cA h0 (fun j => ([o1, o2, o3, o4, o5, o6] : List Nat).getD j 0)) [6, 5, 4, 3, 2, 1, 0] (by decide) rfl
  exact W.vret hx hb hr (fun t ht hW => ⟨⟨fun j => ([o1, o2, o3, o4, o5, o6] : List Nat).getD j 0, rfl, trivial, by subst ht; exact hP, hD⟩, hS.F ht⟩) hS.2.2 zd_Chart_init_52
abbrev zR_Land_init : Room := { frames := 2, cells := 24, slots := 156, locals := 35 }
theorem zd_Land_init_0 : decode zb_Land_init 0 = .ok (.aload_n 0, 1) := by decide +kernel
theorem zd_Land_init_1 : decode zb_Land_init 1 = .ok (.invokespecial 3, 3) := by decide +kernel
theorem zd_Land_init_4 : decode zb_Land_init 4 = .ok (.aload_n 0, 1) := by decide +kernel
theorem zd_Land_init_5 : decode zb_Land_init 5 = .ok (.bipush 24, 2) := by decide +kernel
theorem zd_Land_init_7 : decode zb_Land_init 7 = .ok (.newarray .int, 2) := by decide +kernel
theorem zd_Land_init_9 : decode zb_Land_init 9 = .ok (.putfield 9, 3) := by decide +kernel
theorem zd_Land_init_12 : decode zb_Land_init 12 = .ok (.aload_n 0, 1) := by decide +kernel
theorem zd_Land_init_13 : decode zb_Land_init 13 = .ok (.bipush 10, 2) := by decide +kernel
theorem zd_Land_init_15 : decode zb_Land_init 15 = .ok (.anewarray 15, 3) := by decide +kernel
theorem zd_Land_init_18 : decode zb_Land_init 18 = .ok (.putfield 17, 3) := by decide +kernel
theorem zd_Land_init_21 : decode zb_Land_init 21 = .ok (.aload_n 0, 1) := by decide +kernel
theorem zd_Land_init_22 : decode zb_Land_init 22 = .ok (.bipush 12, 2) := by decide +kernel
theorem zd_Land_init_24 : decode zb_Land_init 24 = .ok (.newarray .int, 2) := by decide +kernel
theorem zd_Land_init_26 : decode zb_Land_init 26 = .ok (.putfield 21, 3) := by decide +kernel
theorem zd_Land_init_29 : decode zb_Land_init 29 = .ok (.aload_n 0, 1) := by decide +kernel
theorem zd_Land_init_30 : decode zb_Land_init 30 = .ok (.bipush 10, 2) := by decide +kernel
theorem zd_Land_init_32 : decode zb_Land_init 32 = .ok (.newarray .int, 2) := by decide +kernel
theorem zd_Land_init_34 : decode zb_Land_init 34 = .ok (.putfield 24, 3) := by decide +kernel
theorem zd_Land_init_37 : decode zb_Land_init 37 = .ok (.aload_n 0, 1) := by decide +kernel
theorem zd_Land_init_38 : decode zb_Land_init 38 = .ok (.bipush 23, 2) := by decide +kernel
theorem zd_Land_init_40 : decode zb_Land_init 40 = .ok (.putfield 27, 3) := by decide +kernel
theorem zd_Land_init_43 : decode zb_Land_init 43 = .ok (.aload_n 0, 1) := by decide +kernel
theorem zd_Land_init_44 : decode zb_Land_init 44 = .ok (.iconst 2, 1) := by decide +kernel
theorem zd_Land_init_45 : decode zb_Land_init 45 = .ok (.putfield 31, 3) := by decide +kernel
theorem zd_Land_init_48 : decode zb_Land_init 48 = .ok (.aload_n 0, 1) := by decide +kernel
theorem zd_Land_init_49 : decode zb_Land_init 49 = .ok (.iconst 1, 1) := by decide +kernel
theorem zd_Land_init_50 : decode zb_Land_init 50 = .ok (.putfield 34, 3) := by decide +kernel
theorem zd_Land_init_53 : decode zb_Land_init 53 = .ok (.iconst 0, 1) := by decide +kernel
theorem zd_Land_init_54 : decode zb_Land_init 54 = .ok (.istore_n 1, 1) := by decide +kernel
theorem zd_Land_init_55 : decode zb_Land_init 55 = .ok (.iload_n 1, 1) := by decide +kernel
theorem zd_Land_init_56 : decode zb_Land_init 56 = .ok (.bipush 10, 2) := by decide +kernel
theorem zd_Land_init_58 : decode zb_Land_init 58 = .ok (.if_icmp .ge 22, 3) := by decide +kernel
theorem zd_Land_init_61 : decode zb_Land_init 61 = .ok (.aload_n 0, 1) := by decide +kernel
theorem zd_Land_init_62 : decode zb_Land_init 62 = .ok (.getfield 17, 3) := by decide +kernel
theorem zd_Land_init_65 : decode zb_Land_init 65 = .ok (.iload_n 1, 1) := by decide +kernel
theorem zd_Land_init_66 : decode zb_Land_init 66 = .ok (.new 15, 3) := by decide +kernel
theorem zd_Land_init_69 : decode zb_Land_init 69 = .ok (.dup, 1) := by decide +kernel
theorem zd_Land_init_70 : decode zb_Land_init 70 = .ok (.invokespecial 37, 3) := by decide +kernel
theorem zd_Land_init_73 : decode zb_Land_init 73 = .ok (.aastore, 1) := by decide +kernel
theorem zd_Land_init_74 : decode zb_Land_init 74 = .ok (.iinc 1 1, 3) := by decide +kernel
theorem zd_Land_init_77 : decode zb_Land_init 77 = .ok (.goto (-22), 3) := by decide +kernel
theorem zd_Land_init_80 : decode zb_Land_init 80 = .ok (.aload_n 0, 1) := by decide +kernel
theorem zd_Land_init_81 : decode zb_Land_init 81 = .ok (.getfield 24, 3) := by decide +kernel
theorem zd_Land_init_84 : decode zb_Land_init 84 = .ok (.iconst (-1), 1) := by decide +kernel
theorem zd_Land_init_85 : decode zb_Land_init 85 = .ok (.invokestatic 38, 3) := by decide +kernel
theorem zd_Land_init_88 : decode zb_Land_init 88 = .ok (.return_, 1) := by decide +kernel
def zo_Land_init (cA : Nat → ClassId) (h : Nat) (q : Nat → Nat) : va_W := [(h, .inr (1, [.ref (q 0), .ref (q 1), .ref (q 2), .ref (q 3), .int 0, .int 0, .int 23, .int 2, .int 0, .int 1])), (q 0, .inl (cA 0, 24, .inl (fun _ => 0))), (q 1, .inl (cA 3, 10, .inr (.inr (.inr (.inr (fun j => some (q (4 + 2 * j)))))))), (q 2, .inl (cA 0, 12, .inl (fun _ => 0))), (q 4, .inr (4, [.ref (q 5)])), (q 5, .inl (cA 0, 9, .inl (fun _ => 0))), (q 6, .inr (4, [.ref (q 7)])), (q 7, .inl (cA 0, 9, .inl (fun _ => 0))), (q 8, .inr (4, [.ref (q 9)])), (q 9, .inl (cA 0, 9, .inl (fun _ => 0))), (q 10, .inr (4, [.ref (q 11)])), (q 11, .inl (cA 0, 9, .inl (fun _ => 0))), (q 12, .inr (4, [.ref (q 13)])), (q 13, .inl (cA 0, 9, .inl (fun _ => 0))), (q 14, .inr (4, [.ref (q 15)])), (q 15, .inl (cA 0, 9, .inl (fun _ => 0))), (q 16, .inr (4, [.ref (q 17)])), (q 17, .inl (cA 0, 9, .inl (fun _ => 0))), (q 18, .inr (4, [.ref (q 19)])), (q 19, .inl (cA 0, 9, .inl (fun _ => 0))), (q 20, .inr (4, [.ref (q 21)])), (q 21, .inl (cA 0, 9, .inl (fun _ => 0))), (q 22, .inr (4, [.ref (q 23)])), (q 23, .inl (cA 0, 9, .inl (fun _ => 0))), (q 3, .inl (cA 0, 10, .inl (zo_fill (fun _ => 0) (-1))))]
set_option maxHeartbeats 8000000 in
set_option maxRecDepth 100000 in
theorem zC_Land_init (l : Launch) {D : va_G} {cA : Nat → ClassId} (h0 sz : Nat) : Met l zm_Land_init (zu_ws zm_Land_init zb_Land_init 2 none) zR_Land_init (va_Pc [.ref h0] (zu_PreC D cA sz [(h0, .inr (1, [.null, .null, .null, .null, .int 0, .int 0, .int 0, .int 0, .int 0, .int 0]))])) (va_Qv (fun _ : Nat → Nat => True) (fun q t => va_P D zu_cl (zo_Land_init cA h0 q) t.heap ∧ va_D (va_A [(h0, .inr (1, [.null, .null, .null, .null, .int 0, .int 0, .int 0, .int 0, .int 0, .int 0]))] sz) (zo_Land_init cA h0 q)) (va_A [(h0, .inr (1, [.null, .null, .null, .null, .int 0, .int 0, .int 0, .int 0, .int 0, .int 0]))] sz)) 24 156 (va_A [(h0, .inr (1, [.null, .null, .null, .null, .int 0, .int 0, .int 0, .int 0, .int 0, .int 0]))] sz) := by
  refine Met.ofW (cc := zb_Land_init) (maxL := 2) (ret := none) (by decide +kernel) rfl ?_
  intro p e s m args below meth c s₁ B hml hv
  obtain ⟨rfl, hsz, hP, hK, hD0⟩ := hv
  have hx := B.exec
  have hb := B.bytes
  have hr := B.returns
  have hts : ∀ w ∈ zu_TB, w.before _ s = true := fun w hw => atoms_spec (ws := zu_ws zm_Land_init zb_Land_init 2 none) B.pre w (List.mem_cons_of_mem _ hw)
  have hown : s.vm.findClass "StonePost$Land" = some m.cls := findClass_of_methodNamed B.named
  have hlocks := B.notSynchronized
  have hin : meth.name = "<init>" := (name_of_methodNamed B.named B.method).1
  subst hsz
  have hD := hD0.self (sz := s.heap.size)
  generalize hAe : va_A [(h0, .inr (1, [.null, .null, .null, .null, .int 0, .int 0, .int 0, .int 0, .int 0, .int 0]))] s.heap.size = A at hD ⊢
  have hA : ∀ q : Nat, s.heap.size ≤ q → A q := fun q h => by rw [← hAe]; exact Or.inr h
  have hS : va_S A s.heap s.heap [] := va_S.rf
  have hl := lv_entry ([.ref h0]) (n := 2) (Nat.le_of_ble_eq_true rfl)
  rw [lg_entry_eq]
  generalize (lg_sl ([.ref h0]) ++ List.replicate (2 - (lg_sl ([.ref h0])).length) Slot.unset).toArray = ls at hl ⊢
  have hl : lv_has ls 2 [(0, .ref h0)] := hl
  have hP : va_P D zu_cl [(h0, .inr (1, [.null, .null, .null, .null, .int 0, .int 0, .int 0, .int 0, .int 0, .int 0]))] s.heap := hP
  refine lv_aload_n hx hb zd_Land_init_0 rfl (lv_at hl 0 rfl) ?_
  refine W.objInit hx hb hown (hts _ zq_30) (hts _ zq_23) (hts _ zq_24) rfl (by rw [hml]; exact hl.1) rfl zd_Land_init_1 (Nat.le_of_ble_eq_true rfl) (Nat.le_of_ble_eq_true rfl) ?_
  refine W.eq (g2 := F0 m 4 ls []) rfl ?_
  refine lv_aload_n hx hb zd_Land_init_4 rfl (lv_at hl 0 rfl) ?_
  refine lv_bipush (v := 24) hx hb zd_Land_init_5 (by decide) ?_
  refine va_newa (atype := .int) (ty := .int) (N' := 24) (a0 := (24, .inl (fun _ => 0))) hx hb (hts _ zq_46) rfl hK.1 hP hD hS hA (fun _ => rfl) (by decide) (by decide) (Nat.le_of_ble_eq_true rfl) (Nat.le_of_ble_eq_true rfl) (Nat.le_of_ble_eq_true rfl) zd_Land_init_7 (fun o1 c9 H hK9 hP hD hS => ?_)
  obtain rfl := zu_ci hK9
  obtain ⟨hP, hD⟩ := zu_front hP hD
  have hP : va_P D zu_cl ((o1, .inl (cA 0, 24, .inl (fun _ => 0))) :: (h0, .inr (1, [.null, .null, .null, .null, .int 0, .int 0, .int 0, .int 0, .int 0, .int 0])) :: []) H := hP
  have hD : va_D A ((o1, .inl (cA 0, 24, .inl (fun _ => 0))) :: (h0, .inr (1, [.null, .null, .null, .null, .int 0, .int 0, .int 0, .int 0, .int 0, .int 0])) :: []) := hD
  refine W.widen (k := 1) (n := 24) (Nat.le_of_ble_eq_true rfl) (Nat.le_of_ble_eq_true rfl) ?_
  refine va_putF (D := D) (ci := 1) (v := .ref o1) (ty := .array .int) (C := zc_Land) (T := zt_Land) (N := 10) hx hb hts zi_Land zy_Land zy_Land_ok zn_Land hown hK.1 hP hD hS 1 rfl rfl 0 (by decide) (hts _ zq_50) (fun _ h9 => h9) rfl hin rfl (by decide +kernel) rfl rfl (Nat.le_of_ble_eq_true rfl) zd_Land_init_9 (fun H locs hP hD hS => ?_)
  have hP : va_P D zu_cl ((o1, .inl (cA 0, 24, .inl (fun _ => 0))) :: (h0, .inr (1, [.ref o1, .null, .null, .null, .int 0, .int 0, .int 0, .int 0, .int 0, .int 0])) :: []) H := hP
  have hD : va_D A ((o1, .inl (cA 0, 24, .inl (fun _ => 0))) :: (h0, .inr (1, [.ref o1, .null, .null, .null, .int 0, .int 0, .int 0, .int 0, .int 0, .int 0])) :: []) := hD
  refine lv_aload_n hx hb zd_Land_init_12 rfl (lv_at hl 0 rfl) ?_
  refine lv_bipush (v := 10) hx hb zd_Land_init_13 (by decide) ?_
  refine va_newq (C := "StonePost$Thrower") (N' := 10) hx hb hown (hts _ zq_31) hK.2.1 hK.1 hP hD hS hA (by decide) (by decide) (Nat.le_of_ble_eq_true rfl) (Nat.le_of_ble_eq_true rfl) (Nat.le_of_ble_eq_true rfl) zd_Land_init_15 (fun o2 c9 H hK9 hP hD hS => ?_)
  obtain rfl := zu_ct hK9
  obtain ⟨hP, hD⟩ := zu_front hP hD
  have hP : va_P D zu_cl ((o2, .inl (cA 3, 10, .inr (.inr (.inr (.inr (fun _ => none)))))) :: (o1, .inl (cA 0, 24, .inl (fun _ => 0))) :: (h0, .inr (1, [.ref o1, .null, .null, .null, .int 0, .int 0, .int 0, .int 0, .int 0, .int 0])) :: []) H := hP
  have hD : va_D A ((o2, .inl (cA 3, 10, .inr (.inr (.inr (.inr (fun _ => none)))))) :: (o1, .inl (cA 0, 24, .inl (fun _ => 0))) :: (h0, .inr (1, [.ref o1, .null, .null, .null, .int 0, .int 0, .int 0, .int 0, .int 0, .int 0])) :: []) := hD
  refine W.widen (k := 2) (n := 34) (Nat.le_of_ble_eq_true rfl) (Nat.le_of_ble_eq_true rfl) ?_
  refine va_putF (D := D) (ci := 1) (v := .ref o2) (ty := .array (.object "StonePost$Thrower")) (C := zc_Land) (T := zt_Land) (N := 10) hx hb hts zi_Land zy_Land zy_Land_ok zn_Land hown hK.1 hP hD hS 2 rfl rfl 1 (by decide) (hts _ zq_53) (fun _ h9 => h9) rfl hin rfl (by decide +kernel) rfl rfl (Nat.le_of_ble_eq_true rfl) zd_Land_init_18 (fun H locs hP hD hS => ?_)
  have hP : va_P D zu_cl ((o2, .inl (cA 3, 10, .inr (.inr (.inr (.inr (fun _ => none)))))) :: (o1, .inl (cA 0, 24, .inl (fun _ => 0))) :: (h0, .inr (1, [.ref o1, .ref o2, .null, .null, .int 0, .int 0, .int 0, .int 0, .int 0, .int 0])) :: []) H := hP
  have hD : va_D A ((o2, .inl (cA 3, 10, .inr (.inr (.inr (.inr (fun _ => none)))))) :: (o1, .inl (cA 0, 24, .inl (fun _ => 0))) :: (h0, .inr (1, [.ref o1, .ref o2, .null, .null, .int 0, .int 0, .int 0, .int 0, .int 0, .int 0])) :: []) := hD
  refine lv_aload_n hx hb zd_Land_init_21 rfl (lv_at hl 0 rfl) ?_
  refine lv_bipush (v := 12) hx hb zd_Land_init_22 (by decide) ?_
  refine va_newa (atype := .int) (ty := .int) (N' := 12) (a0 := (12, .inl (fun _ => 0))) hx hb (hts _ zq_46) rfl hK.1 hP hD hS hA (fun _ => rfl) (by decide) (by decide) (Nat.le_of_ble_eq_true rfl) (Nat.le_of_ble_eq_true rfl) (Nat.le_of_ble_eq_true rfl) zd_Land_init_24 (fun o3 c9 H hK9 hP hD hS => ?_)
  obtain rfl := zu_ci hK9
  obtain ⟨hP, hD⟩ := zu_front hP hD
  have hP : va_P D zu_cl ((o3, .inl (cA 0, 12, .inl (fun _ => 0))) :: (o2, .inl (cA 3, 10, .inr (.inr (.inr (.inr (fun _ => none)))))) :: (o1, .inl (cA 0, 24, .inl (fun _ => 0))) :: (h0, .inr (1, [.ref o1, .ref o2, .null, .null, .int 0, .int 0, .int 0, .int 0, .int 0, .int 0])) :: []) H := hP
  have hD : va_D A ((o3, .inl (cA 0, 12, .inl (fun _ => 0))) :: (o2, .inl (cA 3, 10, .inr (.inr (.inr (.inr (fun _ => none)))))) :: (o1, .inl (cA 0, 24, .inl (fun _ => 0))) :: (h0, .inr (1, [.ref o1, .ref o2, .null, .null, .int 0, .int 0, .int 0, .int 0, .int 0, .int 0])) :: []) := hD
  refine W.widen (k := 3) (n := 46) (Nat.le_of_ble_eq_true rfl) (Nat.le_of_ble_eq_true rfl) ?_
  refine va_putF (D := D) (ci := 1) (v := .ref o3) (ty := .array .int) (C := zc_Land) (T := zt_Land) (N := 10) hx hb hts zi_Land zy_Land zy_Land_ok zn_Land hown hK.1 hP hD hS 3 rfl rfl 2 (by decide) (hts _ zq_57) (fun _ h9 => h9) rfl hin rfl (by decide +kernel) rfl rfl (Nat.le_of_ble_eq_true rfl) zd_Land_init_26 (fun H locs hP hD hS => ?_)
  have hP : va_P D zu_cl ((o3, .inl (cA 0, 12, .inl (fun _ => 0))) :: (o2, .inl (cA 3, 10, .inr (.inr (.inr (.inr (fun _ => none)))))) :: (o1, .inl (cA 0, 24, .inl (fun _ => 0))) :: (h0, .inr (1, [.ref o1, .ref o2, .ref o3, .null, .int 0, .int 0, .int 0, .int 0, .int 0, .int 0])) :: []) H := hP
  have hD : va_D A ((o3, .inl (cA 0, 12, .inl (fun _ => 0))) :: (o2, .inl (cA 3, 10, .inr (.inr (.inr (.inr (fun _ => none)))))) :: (o1, .inl (cA 0, 24, .inl (fun _ => 0))) :: (h0, .inr (1, [.ref o1, .ref o2, .ref o3, .null, .int 0, .int 0, .int 0, .int 0, .int 0, .int 0])) :: []) := hD
  refine lv_aload_n hx hb zd_Land_init_29 rfl (lv_at hl 0 rfl) ?_
  refine lv_bipush (v := 10) hx hb zd_Land_init_30 (by decide) ?_
  refine va_newa (atype := .int) (ty := .int) (N' := 10) (a0 := (10, .inl (fun _ => 0))) hx hb (hts _ zq_46) rfl hK.1 hP hD hS hA (fun _ => rfl) (by decide) (by decide) (Nat.le_of_ble_eq_true rfl) (Nat.le_of_ble_eq_true rfl) (Nat.le_of_ble_eq_true rfl) zd_Land_init_32 (fun o4 c9 H hK9 hP hD hS => ?_)
  obtain rfl := zu_ci hK9
  obtain ⟨hP, hD⟩ := zu_front hP hD
  have hP : va_P D zu_cl ((o4, .inl (cA 0, 10, .inl (fun _ => 0))) :: (o3, .inl (cA 0, 12, .inl (fun _ => 0))) :: (o2, .inl (cA 3, 10, .inr (.inr (.inr (.inr (fun _ => none)))))) :: (o1, .inl (cA 0, 24, .inl (fun _ => 0))) :: (h0, .inr (1, [.ref o1, .ref o2, .ref o3, .null, .int 0, .int 0, .int 0, .int 0, .int 0, .int 0])) :: []) H := hP
  have hD : va_D A ((o4, .inl (cA 0, 10, .inl (fun _ => 0))) :: (o3, .inl (cA 0, 12, .inl (fun _ => 0))) :: (o2, .inl (cA 3, 10, .inr (.inr (.inr (.inr (fun _ => none)))))) :: (o1, .inl (cA 0, 24, .inl (fun _ => 0))) :: (h0, .inr (1, [.ref o1, .ref o2, .ref o3, .null, .int 0, .int 0, .int 0, .int 0, .int 0, .int 0])) :: []) := hD
  refine W.widen (k := 4) (n := 56) (Nat.le_of_ble_eq_true rfl) (Nat.le_of_ble_eq_true rfl) ?_
  refine va_putF (D := D) (ci := 1) (v := .ref o4) (ty := .array .int) (C := zc_Land) (T := zt_Land) (N := 10) hx hb hts zi_Land zy_Land zy_Land_ok zn_Land hown hK.1 hP hD hS 4 rfl rfl 3 (by decide) (hts _ zq_59) (fun _ h9 => h9) rfl hin rfl (by decide +kernel) rfl rfl (Nat.le_of_ble_eq_true rfl) zd_Land_init_34 (fun H locs hP hD hS => ?_)
  have hP : va_P D zu_cl ((o4, .inl (cA 0, 10, .inl (fun _ => 0))) :: (o3, .inl (cA 0, 12, .inl (fun _ => 0))) :: (o2, .inl (cA 3, 10, .inr (.inr (.inr (.inr (fun _ => none)))))) :: (o1, .inl (cA 0, 24, .inl (fun _ => 0))) :: (h0, .inr (1, [.ref o1, .ref o2, .ref o3, .ref o4, .int 0, .int 0, .int 0, .int 0, .int 0, .int 0])) :: []) H := hP
  have hD : va_D A ((o4, .inl (cA 0, 10, .inl (fun _ => 0))) :: (o3, .inl (cA 0, 12, .inl (fun _ => 0))) :: (o2, .inl (cA 3, 10, .inr (.inr (.inr (.inr (fun _ => none)))))) :: (o1, .inl (cA 0, 24, .inl (fun _ => 0))) :: (h0, .inr (1, [.ref o1, .ref o2, .ref o3, .ref o4, .int 0, .int 0, .int 0, .int 0, .int 0, .int 0])) :: []) := hD
  refine lv_aload_n hx hb zd_Land_init_37 rfl (lv_at hl 0 rfl) ?_
  refine lv_bipush (v := 23) hx hb zd_Land_init_38 (by decide) ?_
  refine va_put (D := D) (ci := 1) (v := .int (23)) (ty := .int) (C := zc_Land) (T := zt_Land) (N := 10) hx hb hts zi_Land zy_Land zy_Land_ok zn_Land hown hK.1 hP hD hS 4 rfl rfl 6 (by decide) (hts _ zq_67) (fun _ h9 => h9) rfl (by decide +kernel) rfl rfl (Nat.le_of_ble_eq_true rfl) zd_Land_init_40 (fun H locs hP hD hS => ?_)
  have hP : va_P D zu_cl ((o4, .inl (cA 0, 10, .inl (fun _ => 0))) :: (o3, .inl (cA 0, 12, .inl (fun _ => 0))) :: (o2, .inl (cA 3, 10, .inr (.inr (.inr (.inr (fun _ => none)))))) :: (o1, .inl (cA 0, 24, .inl (fun _ => 0))) :: (h0, .inr (1, [.ref o1, .ref o2, .ref o3, .ref o4, .int 0, .int 0, .int (23), .int 0, .int 0, .int 0])) :: []) H := hP
  have hD : va_D A ((o4, .inl (cA 0, 10, .inl (fun _ => 0))) :: (o3, .inl (cA 0, 12, .inl (fun _ => 0))) :: (o2, .inl (cA 3, 10, .inr (.inr (.inr (.inr (fun _ => none)))))) :: (o1, .inl (cA 0, 24, .inl (fun _ => 0))) :: (h0, .inr (1, [.ref o1, .ref o2, .ref o3, .ref o4, .int 0, .int 0, .int (23), .int 0, .int 0, .int 0])) :: []) := hD
  refine lv_aload_n hx hb zd_Land_init_43 rfl (lv_at hl 0 rfl) ?_
  refine lv_iconst (v := 2) hx hb zd_Land_init_44 (by decide) ?_
  refine va_put (D := D) (ci := 1) (v := .int (2)) (ty := .int) (C := zc_Land) (T := zt_Land) (N := 10) hx hb hts zi_Land zy_Land zy_Land_ok zn_Land hown hK.1 hP hD hS 4 rfl rfl 7 (by decide) (hts _ zq_71) (fun _ h9 => h9) rfl (by decide +kernel) rfl rfl (Nat.le_of_ble_eq_true rfl) zd_Land_init_45 (fun H locs hP hD hS => ?_)
  have hP : va_P D zu_cl ((o4, .inl (cA 0, 10, .inl (fun _ => 0))) :: (o3, .inl (cA 0, 12, .inl (fun _ => 0))) :: (o2, .inl (cA 3, 10, .inr (.inr (.inr (.inr (fun _ => none)))))) :: (o1, .inl (cA 0, 24, .inl (fun _ => 0))) :: (h0, .inr (1, [.ref o1, .ref o2, .ref o3, .ref o4, .int 0, .int 0, .int (23), .int (2), .int 0, .int 0])) :: []) H := hP
  have hD : va_D A ((o4, .inl (cA 0, 10, .inl (fun _ => 0))) :: (o3, .inl (cA 0, 12, .inl (fun _ => 0))) :: (o2, .inl (cA 3, 10, .inr (.inr (.inr (.inr (fun _ => none)))))) :: (o1, .inl (cA 0, 24, .inl (fun _ => 0))) :: (h0, .inr (1, [.ref o1, .ref o2, .ref o3, .ref o4, .int 0, .int 0, .int (23), .int (2), .int 0, .int 0])) :: []) := hD
  refine lv_aload_n hx hb zd_Land_init_48 rfl (lv_at hl 0 rfl) ?_
  refine lv_iconst (v := 1) hx hb zd_Land_init_49 (by decide) ?_
  refine va_put (D := D) (ci := 1) (v := .int (1)) (ty := .int) (C := zc_Land) (T := zt_Land) (N := 10) hx hb hts zi_Land zy_Land zy_Land_ok zn_Land hown hK.1 hP hD hS 4 rfl rfl 9 (by decide) (hts _ zq_77) (fun _ h9 => h9) rfl (by decide +kernel) rfl rfl (Nat.le_of_ble_eq_true rfl) zd_Land_init_50 (fun H locs hP hD hS => ?_)
  have hP : va_P D zu_cl ((o4, .inl (cA 0, 10, .inl (fun _ => 0))) :: (o3, .inl (cA 0, 12, .inl (fun _ => 0))) :: (o2, .inl (cA 3, 10, .inr (.inr (.inr (.inr (fun _ => none)))))) :: (o1, .inl (cA 0, 24, .inl (fun _ => 0))) :: (h0, .inr (1, [.ref o1, .ref o2, .ref o3, .ref o4, .int 0, .int 0, .int (23), .int (2), .int 0, .int (1)])) :: []) H := hP
  have hD : va_D A ((o4, .inl (cA 0, 10, .inl (fun _ => 0))) :: (o3, .inl (cA 0, 12, .inl (fun _ => 0))) :: (o2, .inl (cA 3, 10, .inr (.inr (.inr (.inr (fun _ => none)))))) :: (o1, .inl (cA 0, 24, .inl (fun _ => 0))) :: (h0, .inr (1, [.ref o1, .ref o2, .ref o3, .ref o4, .int 0, .int 0, .int (23), .int (2), .int 0, .int (1)])) :: []) := hD
  refine lv_iconst (v := 0) hx hb zd_Land_init_53 (by decide) ?_
  refine lv_istore_n (lv' := [(1, .int (0)), (0, .ref h0)]) hx hb zd_Land_init_54 rfl hl (by decide) rfl (fun ls hl => ?_)
  refine lv_iload_n hx hb zd_Land_init_55 rfl (lv_at hl 0 rfl) ?_
  refine lv_bipush (v := 10) hx hb zd_Land_init_56 (by decide) ?_
  refine lv_icmp_ge (tgt := 80) hx hb zd_Land_init_58 (by decide) (fun h9 => absurd h9 (by decide)) (fun _ => ?_)
  refine lv_aload_n hx hb zd_Land_init_61 rfl (lv_at hl 1 rfl) ?_
  refine va_get (D := D) (ci := 1) (v := .ref o2) (C := zc_Land) (T := zt_Land) (N := 10) hx hb hts zi_Land hown hK.1 hP 4 rfl rfl 1 (by decide) (hts _ zq_53) (fun _ h9 => h9) rfl zd_Land_init_62 ?_
  refine lv_iload_n hx hb zd_Land_init_65 rfl (lv_at hl 0 rfl) ?_
  refine va_new (ci := 4) (fs := [.null]) (C := zc_Thr) (T := zt_Thr) (N := 1) hx hb hts zi_Thr zy_Thr zy_Thr_ok hown (hts _ zq_31) (hts _ zq_33) (hts _ zq_3) hK.1 hP hD hS hA rfl (fun j hj => by rcases (show j = 0 by omega) with rfl <;> rfl) (Nat.le_of_ble_eq_true rfl) (Nat.le_of_ble_eq_true rfl) zd_Land_init_66 (fun o5 H hP hD hS => ?_)
  refine W.widen (k := 5) (n := 57) (Nat.le_of_ble_eq_true rfl) (Nat.le_of_ble_eq_true rfl) ?_
  refine lv_dup hx hb zd_Land_init_69 rfl ?_
  have hPc := zu_last hP
  have hDc := zu_lastD hD
  have hFc := zu_lastF hD hS hA
  refine va_callv (va_runIN (As := []) (rest := [.ref o5, .int (0), .ref o2]) ⟨hx, hb, hml, hown, hts⟩ (zC_Thr_init l o5 H.size) ⟨va_cnB 0 hts (zu_goodN zq_36) rfl rfl rfl (hK.2.2.2.1) (hts _ zq_3) (by decide +kernel) ⟨Nat.le_of_ble_eq_true rfl, Nat.le_of_ble_eq_true rfl⟩, rfl, hts _ zq_35⟩ ⟨zu_blindC, fun U hU hW => ⟨rfl, by rw [hU], by rw [hU]; exact hPc, hK.warm hW, hDc.weaken (fun _ _ _ _ => trivial)⟩⟩ rfl rfl hl.1 rfl (lv_room (Nat.le_of_ble_eq_true rfl)) zd_Land_init_70 ⟨Nat.le_of_ble_eq_true rfl, Nat.le_of_ble_eq_true rfl⟩) hS (fun q _ h => hFc q h) hFc (fun q6 t H1 locs ht hvm _ hB hz1 hk1 hS => ?_)
  obtain ⟨hP1, hD1⟩ := hB
  rw [ht] at hP1
  obtain ⟨hP, hD⟩ := zu_lastJ (w1 := zo_Thr_init cA o5 q6) hP hD hk1 hFc hP1 hD1
  generalize H1 = H at hP hS ⊢
  have hP : va_P D zu_cl ((o4, .inl (cA 0, 10, .inl (fun _ => 0))) :: (o3, .inl (cA 0, 12, .inl (fun _ => 0))) :: (o2, .inl (cA 3, 10, .inr (.inr (.inr (.inr (fun _ => none)))))) :: (o1, .inl (cA 0, 24, .inl (fun _ => 0))) :: (h0, .inr (1, [.ref o1, .ref o2, .ref o3, .ref o4, .int 0, .int 0, .int (23), .int (2), .int 0, .int (1)])) :: (zo_Thr_init cA o5 q6)) H := hP
  have hD : va_D A ((o4, .inl (cA 0, 10, .inl (fun _ => 0))) :: (o3, .inl (cA 0, 12, .inl (fun _ => 0))) :: (o2, .inl (cA 3, 10, .inr (.inr (.inr (.inr (fun _ => none)))))) :: (o1, .inl (cA 0, 24, .inl (fun _ => 0))) :: (h0, .inr (1, [.ref o1, .ref o2, .ref o3, .ref o4, .int 0, .int 0, .int (23), .int (2), .int 0, .int (1)])) :: (zo_Thr_init cA o5 q6)) := hD
  refine W.widen (k := 6) (n := 66) (Nat.le_of_ble_eq_true rfl) (Nat.le_of_ble_eq_true rfl) ?_
  refine va_astq hx hb hK.1 hP hD hS 2 3 5 4 (r := zu_cl[4]) rfl rfl rfl rfl (by unfold vp_in; decide) zd_Land_init_73 (fun H locs hP hD hS => ?_)
  have hP : va_P D zu_cl ((o4, .inl (cA 0, 10, .inl (fun _ => 0))) :: (o3, .inl (cA 0, 12, .inl (fun _ => 0))) :: (o2, .inl (cA 3, 10, .inr (.inr (.inr (.inr (va_up (fun _ => none) 0 (some o5))))))) :: (o1, .inl (cA 0, 24, .inl (fun _ => 0))) :: (h0, .inr (1, [.ref o1, .ref o2, .ref o3, .ref o4, .int 0, .int 0, .int (23), .int (2), .int 0, .int (1)])) :: (zo_Thr_init cA o5 q6)) H := hP
  have hD : va_D A ((o4, .inl (cA 0, 10, .inl (fun _ => 0))) :: (o3, .inl (cA 0, 12, .inl (fun _ => 0))) :: (o2, .inl (cA 3, 10, .inr (.inr (.inr (.inr (va_up (fun _ => none) 0 (some o5))))))) :: (o1, .inl (cA 0, 24, .inl (fun _ => 0))) :: (h0, .inr (1, [.ref o1, .ref o2, .ref o3, .ref o4, .int 0, .int 0, .int (23), .int (2), .int 0, .int (1)])) :: (zo_Thr_init cA o5 q6)) := hD
  refine lv_iinc (v := 1) (lv' := [(1, .int (1)), (0, .ref h0)]) hx hb zd_Land_init_74 hl (k := 0) rfl (by decide) (by decide) rfl (fun ls hl => ?_)
  refine lv_goto (tgt := 55) hx hb zd_Land_init_77 (by decide) ?_
  refine lv_iload_n hx hb zd_Land_init_55 rfl (lv_at hl 0 rfl) ?_
  refine lv_bipush (v := 10) hx hb zd_Land_init_56 (by decide) ?_
  refine lv_icmp_ge (tgt := 80) hx hb zd_Land_init_58 (by decide) (fun h9 => absurd h9 (by decide)) (fun _ => ?_)
  refine lv_aload_n hx hb zd_Land_init_61 rfl (lv_at hl 1 rfl) ?_
  refine va_get (D := D) (ci := 1) (v := .ref o2) (C := zc_Land) (T := zt_Land) (N := 10) hx hb hts zi_Land hown hK.1 hP 4 rfl rfl 1 (by decide) (hts _ zq_53) (fun _ h9 => h9) rfl zd_Land_init_62 ?_
  refine lv_iload_n hx hb zd_Land_init_65 rfl (lv_at hl 0 rfl) ?_
  refine va_new (ci := 4) (fs := [.null]) (C := zc_Thr) (T := zt_Thr) (N := 1) hx hb hts zi_Thr zy_Thr zy_Thr_ok hown (hts _ zq_31) (hts _ zq_33) (hts _ zq_3) hK.1 hP hD hS hA rfl (fun j hj => by rcases (show j = 0 by omega) with rfl <;> rfl) (Nat.le_of_ble_eq_true rfl) (Nat.le_of_ble_eq_true rfl) zd_Land_init_66 (fun o7 H hP hD hS => ?_)
  refine W.widen (k := 7) (n := 67) (Nat.le_of_ble_eq_true rfl) (Nat.le_of_ble_eq_true rfl) ?_
  refine lv_dup hx hb zd_Land_init_69 rfl ?_
  have hPc := zu_last hP
  have hDc := zu_lastD hD
  have hFc := zu_lastF hD hS hA
  refine va_callv (va_runIN (As := []) (rest := [.ref o7, .int (1), .ref o2]) ⟨hx, hb, hml, hown, hts⟩ (zC_Thr_init l o7 H.size) ⟨va_cnB 0 hts (zu_goodN zq_36) rfl rfl rfl (hK.2.2.2.1) (hts _ zq_3) (by decide +kernel) ⟨Nat.le_of_ble_eq_true rfl, Nat.le_of_ble_eq_true rfl⟩, rfl, hts _ zq_35⟩ ⟨zu_blindC, fun U hU hW => ⟨rfl, by rw [hU], by rw [hU]; exact hPc, hK.warm hW, hDc.weaken (fun _ _ _ _ => trivial)⟩⟩ rfl rfl hl.1 rfl (lv_room (Nat.le_of_ble_eq_true rfl)) zd_Land_init_70 ⟨Nat.le_of_ble_eq_true rfl, Nat.le_of_ble_eq_true rfl⟩) hS (fun q _ h => hFc q h) hFc (fun q8 t H1 locs ht hvm _ hB hz1 hk1 hS => ?_)
  obtain ⟨hP1, hD1⟩ := hB
  rw [ht] at hP1
  obtain ⟨hP, hD⟩ := zu_lastJ (w1 := zo_Thr_init cA o7 q8) hP hD hk1 hFc hP1 hD1
  generalize H1 = H at hP hS ⊢
  have hP : va_P D zu_cl ((o4, .inl (cA 0, 10, .inl (fun _ => 0))) :: (o3, .inl (cA 0, 12, .inl (fun _ => 0))) :: (o2, .inl (cA 3, 10, .inr (.inr (.inr (.inr (va_up (fun _ => none) 0 (some o5))))))) :: (o1, .inl (cA 0, 24, .inl (fun _ => 0))) :: (h0, .inr (1, [.ref o1, .ref o2, .ref o3, .ref o4, .int 0, .int 0, .int (23), .int (2), .int 0, .int (1)])) :: (zo_Thr_init cA o5 q6 ++ zo_Thr_init cA o7 q8)) H := hP
  have hD : va_D A ((o4, .inl (cA 0, 10, .inl (fun _ => 0))) :: (o3, .inl (cA 0, 12, .inl (fun _ => 0))) :: (o2, .inl (cA 3, 10, .inr (.inr (.inr (.inr (va_up (fun _ => none) 0 (some o5))))))) :: (o1, .inl (cA 0, 24, .inl (fun _ => 0))) :: (h0, .inr (1, [.ref o1, .ref o2, .ref o3, .ref o4, .int 0, .int 0, .int (23), .int (2), .int 0, .int (1)])) :: (zo_Thr_init cA o5 q6 ++ zo_Thr_init cA o7 q8)) := hD
  refine W.widen (k := 8) (n := 76) (Nat.le_of_ble_eq_true rfl) (Nat.le_of_ble_eq_true rfl) ?_
  refine va_astq hx hb hK.1 hP hD hS 2 3 7 4 (r := zu_cl[4]) rfl rfl rfl rfl (by unfold vp_in; decide) zd_Land_init_73 (fun H locs hP hD hS => ?_)
  have hP : va_P D zu_cl ((o4, .inl (cA 0, 10, .inl (fun _ => 0))) :: (o3, .inl (cA 0, 12, .inl (fun _ => 0))) :: (o2, .inl (cA 3, 10, .inr (.inr (.inr (.inr (va_up (va_up (fun _ => none) 0 (some o5)) 1 (some o7))))))) :: (o1, .inl (cA 0, 24, .inl (fun _ => 0))) :: (h0, .inr (1, [.ref o1, .ref o2, .ref o3, .ref o4, .int 0, .int 0, .int (23), .int (2), .int 0, .int (1)])) :: (zo_Thr_init cA o5 q6 ++ zo_Thr_init cA o7 q8)) H := hP
  have hD : va_D A ((o4, .inl (cA 0, 10, .inl (fun _ => 0))) :: (o3, .inl (cA 0, 12, .inl (fun _ => 0))) :: (o2, .inl (cA 3, 10, .inr (.inr (.inr (.inr (va_up (va_up (fun _ => none) 0 (some o5)) 1 (some o7))))))) :: (o1, .inl (cA 0, 24, .inl (fun _ => 0))) :: (h0, .inr (1, [.ref o1, .ref o2, .ref o3, .ref o4, .int 0, .int 0, .int (23), .int (2), .int 0, .int (1)])) :: (zo_Thr_init cA o5 q6 ++ zo_Thr_init cA o7 q8)) := hD
  refine lv_iinc (v := 2) (lv' := [(1, .int (2)), (0, .ref h0)]) hx hb zd_Land_init_74 hl (k := 0) rfl (by decide) (by decide) rfl (fun ls hl => ?_)
  refine lv_goto (tgt := 55) hx hb zd_Land_init_77 (by decide) ?_
  refine lv_iload_n hx hb zd_Land_init_55 rfl (lv_at hl 0 rfl) ?_
  refine lv_bipush (v := 10) hx hb zd_Land_init_56 (by decide) ?_
  refine lv_icmp_ge (tgt := 80) hx hb zd_Land_init_58 (by decide) (fun h9 => absurd h9 (by decide)) (fun _ => ?_)
  refine lv_aload_n hx hb zd_Land_init_61 rfl (lv_at hl 1 rfl) ?_
  refine va_get (D := D) (ci := 1) (v := .ref o2) (C := zc_Land) (T := zt_Land) (N := 10) hx hb hts zi_Land hown hK.1 hP 4 rfl rfl 1 (by decide) (hts _ zq_53) (fun _ h9 => h9) rfl zd_Land_init_62 ?_
  refine lv_iload_n hx hb zd_Land_init_65 rfl (lv_at hl 0 rfl) ?_
  refine va_new (ci := 4) (fs := [.null]) (C := zc_Thr) (T := zt_Thr) (N := 1) hx hb hts zi_Thr zy_Thr zy_Thr_ok hown (hts _ zq_31) (hts _ zq_33) (hts _ zq_3) hK.1 hP hD hS hA rfl (fun j hj => by rcases (show j = 0 by omega) with rfl <;> rfl) (Nat.le_of_ble_eq_true rfl) (Nat.le_of_ble_eq_true rfl) zd_Land_init_66 (fun o9 H hP hD hS => ?_)
  refine W.widen (k := 9) (n := 77) (Nat.le_of_ble_eq_true rfl) (Nat.le_of_ble_eq_true rfl) ?_
  refine lv_dup hx hb zd_Land_init_69 rfl ?_
  have hPc := zu_last hP
  have hDc := zu_lastD hD
  have hFc := zu_lastF hD hS hA
  refine va_callv (va_runIN (As := []) (rest := [.ref o9, .int (2), .ref o2]) ⟨hx, hb, hml, hown, hts⟩ (zC_Thr_init l o9 H.size) ⟨va_cnB 0 hts (zu_goodN zq_36) rfl rfl rfl (hK.2.2.2.1) (hts _ zq_3) (by decide +kernel) ⟨Nat.le_of_ble_eq_true rfl, Nat.le_of_ble_eq_true rfl⟩, rfl, hts _ zq_35⟩ ⟨zu_blindC, fun U hU hW => ⟨rfl, by rw [hU], by rw [hU]; exact hPc, hK.warm hW, hDc.weaken (fun _ _ _ _ => trivial)⟩⟩ rfl rfl hl.1 rfl (lv_room (Nat.le_of_ble_eq_true rfl)) zd_Land_init_70 ⟨Nat.le_of_ble_eq_true rfl, Nat.le_of_ble_eq_true rfl⟩) hS (fun q _ h => hFc q h) hFc (fun q10 t H1 locs ht hvm _ hB hz1 hk1 hS => ?_)
  obtain ⟨hP1, hD1⟩ := hB
  rw [ht] at hP1
  obtain ⟨hP, hD⟩ := zu_lastJ (w1 := zo_Thr_init cA o9 q10) hP hD hk1 hFc hP1 hD1
  generalize H1 = H at hP hS ⊢
  have hP : va_P D zu_cl ((o4, .inl (cA 0, 10, .inl (fun _ => 0))) :: (o3, .inl (cA 0, 12, .inl (fun _ => 0))) :: (o2, .inl (cA 3, 10, .inr (.inr (.inr (.inr (va_up (va_up (fun _ => none) 0 (some o5)) 1 (some o7))))))) :: (o1, .inl (cA 0, 24, .inl (fun _ => 0))) :: (h0, .inr (1, [.ref o1, .ref o2, .ref o3, .ref o4, .int 0, .int 0, .int (23), .int (2), .int 0, .int (1)])) :: (zo_Thr_init cA o5 q6 ++ zo_Thr_init cA o7 q8 ++ zo_Thr_init cA o9 q10)) H := hP
  have hD : va_D A ((o4, .inl (cA 0, 10, .inl (fun _ => 0))) :: (o3, .inl (cA 0, 12, .inl (fun _ => 0))) :: (o2, .inl (cA 3, 10, .inr (.inr (.inr (.inr (va_up (va_up (fun _ => none) 0 (some o5)) 1 (some o7))))))) :: (o1, .inl (cA 0, 24, .inl (fun _ => 0))) :: (h0, .inr (1, [.ref o1, .ref o2, .ref o3, .ref o4, .int 0, .int 0, .int (23), .int (2), .int 0, .int (1)])) :: (zo_Thr_init cA o5 q6 ++ zo_Thr_init cA o7 q8 ++ zo_Thr_init cA o9 q10)) := hD
  refine W.widen (k := 10) (n := 86) (Nat.le_of_ble_eq_true rfl) (Nat.le_of_ble_eq_true rfl) ?_
  refine va_astq hx hb hK.1 hP hD hS 2 3 9 4 (r := zu_cl[4]) rfl rfl rfl rfl (by unfold vp_in; decide) zd_Land_init_73 (fun H locs hP hD hS => ?_)
  have hP : va_P D zu_cl ((o4, .inl (cA 0, 10, .inl (fun _ => 0))) :: (o3, .inl (cA 0, 12, .inl (fun _ => 0))) :: (o2, .inl (cA 3, 10, .inr (.inr (.inr (.inr (va_up (va_up (va_up (fun _ => none) 0 (some o5)) 1 (some o7)) 2 (some o9))))))) :: (o1, .inl (cA 0, 24, .inl (fun _ => 0))) :: (h0, .inr (1, [.ref o1, .ref o2, .ref o3, .ref o4, .int 0, .int 0, .int (23), .int (2), .int 0, .int (1)])) :: (zo_Thr_init cA o5 q6 ++ zo_Thr_init cA o7 q8 ++ zo_Thr_init cA o9 q10)) H := hP
  have hD : va_D A ((o4, .inl (cA 0, 10, .inl (fun _ => 0))) :: (o3, .inl (cA 0, 12, .inl (fun _ => 0))) :: (o2, .inl (cA 3, 10, .inr (.inr (.inr (.inr (va_up (va_up (va_up (fun _ => none) 0 (some o5)) 1 (some o7)) 2 (some o9))))))) :: (o1, .inl (cA 0, 24, .inl (fun _ => 0))) :: (h0, .inr (1, [.ref o1, .ref o2, .ref o3, .ref o4, .int 0, .int 0, .int (23), .int (2), .int 0, .int (1)])) :: (zo_Thr_init cA o5 q6 ++ zo_Thr_init cA o7 q8 ++ zo_Thr_init cA o9 q10)) := hD
  refine lv_iinc (v := 3) (lv' := [(1, .int (3)), (0, .ref h0)]) hx hb zd_Land_init_74 hl (k := 0) rfl (by decide) (by decide) rfl (fun ls hl => ?_)
  refine lv_goto (tgt := 55) hx hb zd_Land_init_77 (by decide) ?_
  refine lv_iload_n hx hb zd_Land_init_55 rfl (lv_at hl 0 rfl) ?_
  refine lv_bipush (v := 10) hx hb zd_Land_init_56 (by decide) ?_
  refine lv_icmp_ge (tgt := 80) hx hb zd_Land_init_58 (by decide) (fun h9 => absurd h9 (by decide)) (fun _ => ?_)
  refine lv_aload_n hx hb zd_Land_init_61 rfl (lv_at hl 1 rfl) ?_
  refine va_get (D := D) (ci := 1) (v := .ref o2) (C := zc_Land) (T := zt_Land) (N := 10) hx hb hts zi_Land hown hK.1 hP 4 rfl rfl 1 (by decide) (hts _ zq_53) (fun _ h9 => h9) rfl zd_Land_init_62 ?_
  refine lv_iload_n hx hb zd_Land_init_65 rfl (lv_at hl 0 rfl) ?_
  refine va_new (ci := 4) (fs := [.null]) (C := zc_Thr) (T := zt_Thr) (N := 1) hx hb hts zi_Thr zy_Thr zy_Thr_ok hown (hts _ zq_31) (hts _ zq_33) (hts _ zq_3) hK.1 hP hD hS hA rfl (fun j hj => by rcases (show j = 0 by omega) with rfl <;> rfl) (Nat.le_of_ble_eq_true rfl) (Nat.le_of_ble_eq_true rfl) zd_Land_init_66 (fun o11 H hP hD hS => ?_)
  refine W.widen (k := 11) (n := 87) (Nat.le_of_ble_eq_true rfl) (Nat.le_of_ble_eq_true rfl) ?_
  refine lv_dup hx hb zd_Land_init_69 rfl ?_
  have hPc := zu_last hP
  have hDc := zu_lastD hD
  have hFc := zu_lastF hD hS hA
  refine va_callv (va_runIN (As := []) (rest := [.ref o11, .int (3), .ref o2]) ⟨hx, hb, hml, hown, hts⟩ (zC_Thr_init l o11 H.size) ⟨va_cnB 0 hts (zu_goodN zq_36) rfl rfl rfl (hK.2.2.2.1) (hts _ zq_3) (by decide +kernel) ⟨Nat.le_of_ble_eq_true rfl, Nat.le_of_ble_eq_true rfl⟩, rfl, hts _ zq_35⟩ ⟨zu_blindC, fun U hU hW => ⟨rfl, by rw [hU], by rw [hU]; exact hPc, hK.warm hW, hDc.weaken (fun _ _ _ _ => trivial)⟩⟩ rfl rfl hl.1 rfl (lv_room (Nat.le_of_ble_eq_true rfl)) zd_Land_init_70 ⟨Nat.le_of_ble_eq_true rfl, Nat.le_of_ble_eq_true rfl⟩) hS (fun q _ h => hFc q h) hFc (fun q12 t H1 locs ht hvm _ hB hz1 hk1 hS => ?_)
  obtain ⟨hP1, hD1⟩ := hB
  rw [ht] at hP1
  obtain ⟨hP, hD⟩ := zu_lastJ (w1 := zo_Thr_init cA o11 q12) hP hD hk1 hFc hP1 hD1
  generalize H1 = H at hP hS ⊢
  have hP : va_P D zu_cl ((o4, .inl (cA 0, 10, .inl (fun _ => 0))) :: (o3, .inl (cA 0, 12, .inl (fun _ => 0))) :: (o2, .inl (cA 3, 10, .inr (.inr (.inr (.inr (va_up (va_up (va_up (fun _ => none) 0 (some o5)) 1 (some o7)) 2 (some o9))))))) :: (o1, .inl (cA 0, 24, .inl (fun _ => 0))) :: (h0, .inr (1, [.ref o1, .ref o2, .ref o3, .ref o4, .int 0, .int 0, .int (23), .int (2), .int 0, .int (1)])) :: (zo_Thr_init cA o5 q6 ++ zo_Thr_init cA o7 q8 ++ zo_Thr_init cA o9 q10 ++ zo_Thr_init cA o11 q12)) H := hP
  have hD : va_D A ((o4, .inl (cA 0, 10, .inl (fun _ => 0))) :: (o3, .inl (cA 0, 12, .inl (fun _ => 0))) :: (o2, .inl (cA 3, 10, .inr (.inr (.inr (.inr (va_up (va_up (va_up (fun _ => none) 0 (some o5)) 1 (some o7)) 2 (some o9))))))) :: (o1, .inl (cA 0, 24, .inl (fun _ => 0))) :: (h0, .inr (1, [.ref o1, .ref o2, .ref o3, .ref o4, .int 0, .int 0, .int (23), .int (2), .int 0, .int (1)])) :: (zo_Thr_init cA o5 q6 ++ zo_Thr_init cA o7 q8 ++ zo_Thr_init cA o9 q10 ++ zo_Thr_init cA o11 q12)) := hD
  refine W.widen (k := 12) (n := 96) (Nat.le_of_ble_eq_true rfl) (Nat.le_of_ble_eq_true rfl) ?_
  refine va_astq hx hb hK.1 hP hD hS 2 3 11 4 (r := zu_cl[4]) rfl rfl rfl rfl (by unfold vp_in; decide) zd_Land_init_73 (fun H locs hP hD hS => ?_)
  have hP : va_P D zu_cl ((o4, .inl (cA 0, 10, .inl (fun _ => 0))) :: (o3, .inl (cA 0, 12, .inl (fun _ => 0))) :: (o2, .inl (cA 3, 10, .inr (.inr (.inr (.inr (va_up (va_up (va_up (va_up (fun _ => none) 0 (some o5)) 1 (some o7)) 2 (some o9)) 3 (some o11))))))) :: (o1, .inl (cA 0, 24, .inl (fun _ => 0))) :: (h0, .inr (1, [.ref o1, .ref o2, .ref o3, .ref o4, .int 0, .int 0, .int (23), .int (2), .int 0, .int (1)])) :: (zo_Thr_init cA o5 q6 ++ zo_Thr_init cA o7 q8 ++ zo_Thr_init cA o9 q10 ++ zo_Thr_init cA o11 q12)) H := hP
  have hD : va_D A ((o4, .inl (cA 0, 10, .inl (fun _ => 0))) :: (o3, .inl (cA 0, 12, .inl (fun _ => 0))) :: (o2, .inl (cA 3, 10, .inr (.inr (.inr (.inr (va_up (va_up (va_up (va_up (fun _ => none) 0 (some o5)) 1 (some o7)) 2 (some o9)) 3 (some o11))))))) :: (o1, .inl (cA 0, 24, .inl (fun _ => 0))) :: (h0, .inr (1, [.ref o1, .ref o2, .ref o3, .ref o4, .int 0, .int 0, .int (23), .int (2), .int 0, .int (1)])) :: (zo_Thr_init cA o5 q6 ++ zo_Thr_init cA o7 q8 ++ zo_Thr_init cA o9 q10 ++ zo_Thr_init cA o11 q12)) := hD
  refine lv_iinc (v := 4) (lv' := [(1, .int (4)), (0, .ref h0)]) hx hb zd_Land_init_74 hl (k := 0) rfl (by decide) (by decide) rfl (fun ls hl => ?_)
  refine lv_goto (tgt := 55) hx hb zd_Land_init_77 (by decide) ?_
  refine lv_iload_n hx hb zd_Land_init_55 rfl (lv_at hl 0 rfl) ?_
  refine lv_bipush (v := 10) hx hb zd_Land_init_56 (by decide) ?_
  refine lv_icmp_ge (tgt := 80) hx hb zd_Land_init_58 (by decide) (fun h9 => absurd h9 (by decide)) (fun _ => ?_)
  refine lv_aload_n hx hb zd_Land_init_61 rfl (lv_at hl 1 rfl) ?_
  refine va_get (D := D) (ci := 1) (v := .ref o2) (C := zc_Land) (T := zt_Land) (N := 10) hx hb hts zi_Land hown hK.1 hP 4 rfl rfl 1 (by decide) (hts _ zq_53) (fun _ h9 => h9) rfl zd_Land_init_62 ?_
  refine lv_iload_n hx hb zd_Land_init_65 rfl (lv_at hl 0 rfl) ?_
  refine va_new (ci := 4) (fs := [.null]) (C := zc_Thr) (T := zt_Thr) (N := 1) hx hb hts zi_Thr zy_Thr zy_Thr_ok hown (hts _ zq_31) (hts _ zq_33) (hts _ zq_3) hK.1 hP hD hS hA rfl (fun j hj => by rcases (show j = 0 by omega) with rfl <;> rfl) (Nat.le_of_ble_eq_true rfl) (Nat.le_of_ble_eq_true rfl) zd_Land_init_66 (fun o13 H hP hD hS => ?_)
  refine W.widen (k := 13) (n := 97) (Nat.le_of_ble_eq_true rfl) (Nat.le_of_ble_eq_true rfl) ?_
  refine lv_dup hx hb zd_Land_init_69 rfl ?_
  have hPc := zu_last hP
  have hDc := zu_lastD hD
  have hFc := zu_lastF hD hS hA
  refine va_callv (va_runIN (As := []) (rest := [.ref o13, .int (4), .ref o2]) ⟨hx, hb, hml, hown, hts⟩ (zC_Thr_init l o13 H.size) ⟨va_cnB 0 hts (zu_goodN zq_36) rfl rfl rfl (hK.2.2.2.1) (hts _ zq_3) (by decide +kernel) ⟨Nat.le_of_ble_eq_true rfl, Nat.le_of_ble_eq_true rfl⟩, rfl, hts _ zq_35⟩ ⟨zu_blindC, fun U hU hW => ⟨rfl, by rw [hU], by rw [hU]; exact hPc, hK.warm hW, hDc.weaken (fun _ _ _ _ => trivial)⟩⟩ rfl rfl hl.1 rfl (lv_room (Nat.le_of_ble_eq_true rfl)) zd_Land_init_70 ⟨Nat.le_of_ble_eq_true rfl, Nat.le_of_ble_eq_true rfl⟩) hS (fun q _ h => hFc q h) hFc (fun q14 t H1 locs ht hvm _ hB hz1 hk1 hS => ?_)
  obtain ⟨hP1, hD1⟩ := hB
  rw [ht] at hP1
  obtain ⟨hP, hD⟩ := zu_lastJ (w1 := zo_Thr_init cA o13 q14) hP hD hk1 hFc hP1 hD1
  generalize H1 = H at hP hS ⊢
  have hP : va_P D zu_cl ((o4, .inl (cA 0, 10, .inl (fun _ => 0))) :: (o3, .inl (cA 0, 12, .inl (fun _ => 0))) :: (o2, .inl (cA 3, 10, .inr (.inr (.inr (.inr (va_up (va_up (va_up (va_up (fun _ => none) 0 (some o5)) 1 (some o7)) 2 (some o9)) 3 (some o11))))))) :: (o1, .inl (cA 0, 24, .inl (fun _ => 0))) :: (h0, .inr (1, [.ref o1, .ref o2, .ref o3, .ref o4, .int 0, .int 0, .int (23), .int (2), .int 0, .int (1)])) :: (zo_Thr_init cA o5 q6 ++ zo_Thr_init cA o7 q8 ++ zo_Thr_init cA o9 q10 ++ zo_Thr_init cA o11 q12 ++ zo_Thr_init cA o13 q14)) H := hP
  have hD : va_D A ((o4, .inl (cA 0, 10, .inl (fun _ => 0))) :: (o3, .inl (cA 0, 12, .inl (fun _ => 0))) :: (o2, .inl (cA 3, 10, .inr (.inr (.inr (.inr (va_up (va_up (va_up (va_up (fun _ => none) 0 (some o5)) 1 (some o7)) 2 (some o9)) 3 (some o11))))))) :: (o1, .inl (cA 0, 24, .inl (fun _ => 0))) :: (h0, .inr (1, [.ref o1, .ref o2, .ref o3, .ref o4, .int 0, .int 0, .int (23), .int (2), .int 0, .int (1)])) :: (zo_Thr_init cA o5 q6 ++ zo_Thr_init cA o7 q8 ++ zo_Thr_init cA o9 q10 ++ zo_Thr_init cA o11 q12 ++ zo_Thr_init cA o13 q14)) := hD
  refine W.widen (k := 14) (n := 106) (Nat.le_of_ble_eq_true rfl) (Nat.le_of_ble_eq_true rfl) ?_
  refine va_astq hx hb hK.1 hP hD hS 2 3 13 4 (r := zu_cl[4]) rfl rfl rfl rfl (by unfold vp_in; decide) zd_Land_init_73 (fun H locs hP hD hS => ?_)
  have hP : va_P D zu_cl ((o4, .inl (cA 0, 10, .inl (fun _ => 0))) :: (o3, .inl (cA 0, 12, .inl (fun _ => 0))) :: (o2, .inl (cA 3, 10, .inr (.inr (.inr (.inr (va_up (va_up (va_up (va_up (va_up (fun _ => none) 0 (some o5)) 1 (some o7)) 2 (some o9)) 3 (some o11)) 4 (some o13))))))) :: (o1, .inl (cA 0, 24, .inl (fun _ => 0))) :: (h0, .inr (1, [.ref o1, .ref o2, .ref o3, .ref o4, .int 0, .int 0, .int (23), .int (2), .int 0, .int (1)])) :: (zo_Thr_init cA o5 q6 ++ zo_Thr_init cA o7 q8 ++ zo_Thr_init cA o9 q10 ++ zo_Thr_init cA o11 q12 ++ zo_Thr_init cA o13 q14)) H := hP
  have hD : va_D A ((o4, .inl (cA 0, 10, .inl (fun _ => 0))) :: (o3, .inl (cA 0, 12, .inl (fun _ => 0))) :: (o2, .inl (cA 3, 10, .inr (.inr (.inr (.inr (va_up (va_up (va_up (va_up (va_up (fun _ => none) 0 (some o5)) 1 (some o7)) 2 (some o9)) 3 (some o11)) 4 (some o13))))))) :: (o1, .inl (cA 0, 24, .inl (fun _ => 0))) :: (h0, .inr (1, [.ref o1, .ref o2, .ref o3, .ref o4, .int 0, .int 0, .int (23), .int (2), .int 0, .int (1)])) :: (zo_Thr_init cA o5 q6 ++ zo_Thr_init cA o7 q8 ++ zo_Thr_init cA o9 q10 ++ zo_Thr_init cA o11 q12 ++ zo_Thr_init cA o13 q14)) := hD
  refine lv_iinc (v := 5) (lv' := [(1, .int (5)), (0, .ref h0)]) hx hb zd_Land_init_74 hl (k := 0) rfl (by decide) (by decide) rfl (fun ls hl => ?_)
  refine lv_goto (tgt := 55) hx hb zd_Land_init_77 (by decide) ?_
  refine lv_iload_n hx hb zd_Land_init_55 rfl (lv_at hl 0 rfl) ?_
  refine lv_bipush (v := 10) hx hb zd_Land_init_56 (by decide) ?_
  refine lv_icmp_ge (tgt := 80) hx hb zd_Land_init_58 (by decide) (fun h9 => absurd h9 (by decide)) (fun _ => ?_)
  refine lv_aload_n hx hb zd_Land_init_61 rfl (lv_at hl 1 rfl) ?_
  refine va_get (D := D) (ci := 1) (v := .ref o2) (C := zc_Land) (T := zt_Land) (N := 10) hx hb hts zi_Land hown hK.1 hP 4 rfl rfl 1 (by decide) (hts _ zq_53) (fun _ h9 => h9) rfl zd_Land_init_62 ?_
  refine lv_iload_n hx hb zd_Land_init_65 rfl (lv_at hl 0 rfl) ?_
  refine va_new (ci := 4) (fs := [.null]) (C := zc_Thr) (T := zt_Thr) (N := 1) hx hb hts zi_Thr zy_Thr zy_Thr_ok hown (hts _ zq_31) (hts _ zq_33) (hts _ zq_3) hK.1 hP hD hS hA rfl (fun j hj => by rcases (show j = 0 by omega) with rfl <;> rfl) (Nat.le_of_ble_eq_true rfl) (Nat.le_of_ble_eq_true rfl) zd_Land_init_66 (fun o15 H hP hD hS => ?_)
  refine W.widen (k := 15) (n := 107) (Nat.le_of_ble_eq_true rfl) (Nat.le_of_ble_eq_true rfl) ?_
  refine lv_dup hx hb zd_Land_init_69 rfl ?_
  have hPc := zu_last hP
  have hDc := zu_lastD hD
  have hFc := zu_lastF hD hS hA
  refine va_callv (va_runIN (As := []) (rest := [.ref o15, .int (5), .ref o2]) ⟨hx, hb, hml, hown, hts⟩ (zC_Thr_init l o15 H.size) ⟨va_cnB 0 hts (zu_goodN zq_36) rfl rfl rfl (hK.2.2.2.1) (hts _ zq_3) (by decide +kernel) ⟨Nat.le_of_ble_eq_true rfl, Nat.le_of_ble_eq_true rfl⟩, rfl, hts _ zq_35⟩ ⟨zu_blindC, fun U hU hW => ⟨rfl, by rw [hU], by rw [hU]; exact hPc, hK.warm hW, hDc.weaken (fun _ _ _ _ => trivial)⟩⟩ rfl rfl hl.1 rfl (lv_room (Nat.le_of_ble_eq_true rfl)) zd_Land_init_70 ⟨Nat.le_of_ble_eq_true rfl, Nat.le_of_ble_eq_true rfl⟩) hS (fun q _ h => hFc q h) hFc (fun q16 t H1 locs ht hvm _ hB hz1 hk1 hS => ?_)
  obtain ⟨hP1, hD1⟩ := hB
  rw [ht] at hP1
  obtain ⟨hP, hD⟩ := zu_lastJ (w1 := zo_Thr_init cA o15 q16) hP hD hk1 hFc hP1 hD1
  generalize H1 = H at hP hS ⊢
  have hP : va_P D zu_cl ((o4, .inl (cA 0, 10, .inl (fun _ => 0))) :: (o3, .inl (cA 0, 12, .inl (fun _ => 0))) :: (o2, .inl (cA 3, 10, .inr (.inr (.inr (.inr (va_up (va_up (va_up (va_up (va_up (fun _ => none) 0 (some o5)) 1 (some o7)) 2 (some o9)) 3 (some o11)) 4 (some o13))))))) :: (o1, .inl (cA 0, 24, .inl (fun _ => 0))) :: (h0, .inr (1, [.ref o1, .ref o2, .ref o3, .ref o4, .int 0, .int 0, .int (23), .int (2), .int 0, .int (1)])) :: (zo_Thr_init cA o5 q6 ++ zo_Thr_init cA o7 q8 ++ zo_Thr_init cA o9 q10 ++ zo_Thr_init cA o11 q12 ++ zo_Thr_init cA o13 q14 ++ zo_Thr_init cA o15 q16)) H := hP
  have hD : va_D A ((o4, .inl (cA 0, 10, .inl (fun _ => 0))) :: (o3, .inl (cA 0, 12, .inl (fun _ => 0))) :: (o2, .inl (cA 3, 10, .inr (.inr (.inr (.inr (va_up (va_up (va_up (va_up (va_up (fun _ => none) 0 (some o5)) 1 (some o7)) 2 (some o9)) 3 (some o11)) 4 (some o13))))))) :: (o1, .inl (cA 0, 24, .inl (fun _ => 0))) :: (h0, .inr (1, [.ref o1, .ref o2, .ref o3, .ref o4, .int 0, .int 0, .int (23), .int (2), .int 0, .int (1)])) :: (zo_Thr_init cA o5 q6 ++ zo_Thr_init cA o7 q8 ++ zo_Thr_init cA o9 q10 ++ zo_Thr_init cA o11 q12 ++ zo_Thr_init cA o13 q14 ++ zo_Thr_init cA o15 q16)) := hD
  refine W.widen (k := 16) (n := 116) (Nat.le_of_ble_eq_true rfl) (Nat.le_of_ble_eq_true rfl) ?_
  refine va_astq hx hb hK.1 hP hD hS 2 3 15 4 (r := zu_cl[4]) rfl rfl rfl rfl (by unfold vp_in; decide) zd_Land_init_73 (fun H locs hP hD hS => ?_)
  have hP : va_P D zu_cl ((o4, .inl (cA 0, 10, .inl (fun _ => 0))) :: (o3, .inl (cA 0, 12, .inl (fun _ => 0))) :: (o2, .inl (cA 3, 10, .inr (.inr (.inr (.inr (va_up (va_up (va_up (va_up (va_up (va_up (fun _ => none) 0 (some o5)) 1 (some o7)) 2 (some o9)) 3 (some o11)) 4 (some o13)) 5 (some o15))))))) :: (o1, .inl (cA 0, 24, .inl (fun _ => 0))) :: (h0, .inr (1, [.ref o1, .ref o2, .ref o3, .ref o4, .int 0, .int 0, .int (23), .int (2), .int 0, .int (1)])) :: (zo_Thr_init cA o5 q6 ++ zo_Thr_init cA o7 q8 ++ zo_Thr_init cA o9 q10 ++ zo_Thr_init cA o11 q12 ++ zo_Thr_init cA o13 q14 ++ zo_Thr_init cA o15 q16)) H := hP
  have hD : va_D A ((o4, .inl (cA 0, 10, .inl (fun _ => 0))) :: (o3, .inl (cA 0, 12, .inl (fun _ => 0))) :: (o2, .inl (cA 3, 10, .inr (.inr (.inr (.inr (va_up (va_up (va_up (va_up (va_up (va_up (fun _ => none) 0 (some o5)) 1 (some o7)) 2 (some o9)) 3 (some o11)) 4 (some o13)) 5 (some o15))))))) :: (o1, .inl (cA 0, 24, .inl (fun _ => 0))) :: (h0, .inr (1, [.ref o1, .ref o2, .ref o3, .ref o4, .int 0, .int 0, .int (23), .int (2), .int 0, .int (1)])) :: (zo_Thr_init cA o5 q6 ++ zo_Thr_init cA o7 q8 ++ zo_Thr_init cA o9 q10 ++ zo_Thr_init cA o11 q12 ++ zo_Thr_init cA o13 q14 ++ zo_Thr_init cA o15 q16)) := hD
  refine lv_iinc (v := 6) (lv' := [(1, .int (6)), (0, .ref h0)]) hx hb zd_Land_init_74 hl (k := 0) rfl (by decide) (by decide) rfl (fun ls hl => ?_)
  refine lv_goto (tgt := 55) hx hb zd_Land_init_77 (by decide) ?_
  refine lv_iload_n hx hb zd_Land_init_55 rfl (lv_at hl 0 rfl) ?_
  refine lv_bipush (v := 10) hx hb zd_Land_init_56 (by decide) ?_
  refine lv_icmp_ge (tgt := 80) hx hb zd_Land_init_58 (by decide) (fun h9 => absurd h9 (by decide)) (fun _ => ?_)
  refine lv_aload_n hx hb zd_Land_init_61 rfl (lv_at hl 1 rfl) ?_
  refine va_get (D := D) (ci := 1) (v := .ref o2) (C := zc_Land) (T := zt_Land) (N := 10) hx hb hts zi_Land hown hK.1 hP 4 rfl rfl 1 (by decide) (hts _ zq_53) (fun _ h9 => h9) rfl zd_Land_init_62 ?_
  refine lv_iload_n hx hb zd_Land_init_65 rfl (lv_at hl 0 rfl) ?_
  refine va_new (ci := 4) (fs := [.null]) (C := zc_Thr) (T := zt_Thr) (N := 1) hx hb hts zi_Thr zy_Thr zy_Thr_ok hown (hts _ zq_31) (hts _ zq_33) (hts _ zq_3) hK.1 hP hD hS hA rfl (fun j hj => by rcases (show j = 0 by omega) with rfl <;> rfl) (Nat.le_of_ble_eq_true rfl) (Nat.le_of_ble_eq_true rfl) zd_Land_init_66 (fun o17 H hP hD hS => ?_)
  refine W.widen (k := 17) (n := 117) (Nat.le_of_ble_eq_true rfl) (Nat.le_of_ble_eq_true rfl) ?_
  refine lv_dup hx hb zd_Land_init_69 rfl ?_
  have hPc := zu_last hP
  have hDc := zu_lastD hD
  have hFc := zu_lastF hD hS hA
  refine va_callv (va_runIN (As := []) (rest := [.ref o17, .int (6), .ref o2]) ⟨hx, hb, hml, hown, hts⟩ (zC_Thr_init l o17 H.size) ⟨va_cnB 0 hts (zu_goodN zq_36) rfl rfl rfl (hK.2.2.2.1) (hts _ zq_3) (by decide +kernel) ⟨Nat.le_of_ble_eq_true rfl, Nat.le_of_ble_eq_true rfl⟩, rfl, hts _ zq_35⟩ ⟨zu_blindC, fun U hU hW => ⟨rfl, by rw [hU], by rw [hU]; exact hPc, hK.warm hW, hDc.weaken (fun _ _ _ _ => trivial)⟩⟩ rfl rfl hl.1 rfl (lv_room (Nat.le_of_ble_eq_true rfl)) zd_Land_init_70 ⟨Nat.le_of_ble_eq_true rfl, Nat.le_of_ble_eq_true rfl⟩) hS (fun q _ h => hFc q h) hFc (fun q18 t H1 locs ht hvm _ hB hz1 hk1 hS => ?_)
  obtain ⟨hP1, hD1⟩ := hB
  rw [ht] at hP1
  obtain ⟨hP, hD⟩ := zu_lastJ (w1 := zo_Thr_init cA o17 q18) hP hD hk1 hFc hP1 hD1
  generalize H1 = H at hP hS ⊢
  have hP : va_P D zu_cl ((o4, .inl (cA 0, 10, .inl (fun _ => 0))) :: (o3, .inl (cA 0, 12, .inl (fun _ => 0))) :: (o2, .inl (cA 3, 10, .inr (.inr (.inr (.inr (va_up (va_up (va_up (va_up (va_up (va_up (fun _ => none) 0 (some o5)) 1 (some o7)) 2 (some o9)) 3 (some o11)) 4 (some o13)) 5 (some o15))))))) :: (o1, .inl (cA 0, 24, .inl (fun _ => 0))) :: (h0, .inr (1, [.ref o1, .ref o2, .ref o3, .ref o4, .int 0, .int 0, .int (23), .int (2), .int 0, .int (1)])) :: (zo_Thr_init cA o5 q6 ++ zo_Thr_init cA o7 q8 ++ zo_Thr_init cA o9 q10 ++ zo_Thr_init cA o11 q12 ++ zo_Thr_init cA o13 q14 ++ zo_Thr_init cA o15 q16 ++ zo_Thr_init cA o17 q18)) H := hP
  have hD : va_D A ((o4, .inl (cA 0, 10, .inl (fun _ => 0))) :: (o3, .inl (cA 0, 12, .inl (fun _ => 0))) :: (o2, .inl (cA 3, 10, .inr (.inr (.inr (.inr (va_up (va_up (va_up (va_up (va_up (va_up (fun _ => none) 0 (some o5)) 1 (some o7)) 2 (some o9)) 3 (some o11)) 4 (some o13)) 5 (some o15))))))) :: (o1, .inl (cA 0, 24, .inl (fun _ => 0))) :: (h0, .inr (1, [.ref o1, .ref o2, .ref o3, .ref o4, .int 0, .int 0, .int (23), .int (2), .int 0, .int (1)])) :: (zo_Thr_init cA o5 q6 ++ zo_Thr_init cA o7 q8 ++ zo_Thr_init cA o9 q10 ++ zo_Thr_init cA o11 q12 ++ zo_Thr_init cA o13 q14 ++ zo_Thr_init cA o15 q16 ++ zo_Thr_init cA o17 q18)) := hD
  refine W.widen (k := 18) (n := 126) (Nat.le_of_ble_eq_true rfl) (Nat.le_of_ble_eq_true rfl) ?_
  refine va_astq hx hb hK.1 hP hD hS 2 3 17 4 (r := zu_cl[4]) rfl rfl rfl rfl (by unfold vp_in; decide) zd_Land_init_73 (fun H locs hP hD hS => ?_)
  have hP : va_P D zu_cl ((o4, .inl (cA 0, 10, .inl (fun _ => 0))) :: (o3, .inl (cA 0, 12, .inl (fun _ => 0))) :: (o2, .inl (cA 3, 10, .inr (.inr (.inr (.inr (va_up (va_up (va_up (va_up (va_up (va_up (va_up (fun _ => none) 0 (some o5)) 1 (some o7)) 2 (some o9)) 3 (some o11)) 4 (some o13)) 5 (some o15)) 6 (some o17))))))) :: (o1, .inl (cA 0, 24, .inl (fun _ => 0))) :: (h0, .inr (1, [.ref o1, .ref o2, .ref o3, .ref o4, .int 0, .int 0, .int (23), .int (2), .int 0, .int (1)])) :: (zo_Thr_init cA o5 q6 ++ zo_Thr_init cA o7 q8 ++ zo_Thr_init cA o9 q10 ++ zo_Thr_init cA o11 q12 ++ zo_Thr_init cA o13 q14 ++ zo_Thr_init cA o15 q16 ++ zo_Thr_init cA o17 q18)) H := hP
  have hD : va_D A ((o4, .inl (cA 0, 10, .inl (fun _ => 0))) :: (o3, .inl (cA 0, 12, .inl (fun _ => 0))) :: (o2, .inl (cA 3, 10, .inr (.inr (.inr (.inr (va_up (va_up (va_up (va_up (va_up (va_up (va_up (fun _ => none) 0 (some o5)) 1 (some o7)) 2 (some o9)) 3 (some o11)) 4 (some o13)) 5 (some o15)) 6 (some o17))))))) :: (o1, .inl (cA 0, 24, .inl (fun _ => 0))) :: (h0, .inr (1, [.ref o1, .ref o2, .ref o3, .ref o4, .int 0, .int 0, .int (23), .int (2), .int 0, .int (1)])) :: (zo_Thr_init cA o5 q6 ++ zo_Thr_init cA o7 q8 ++ zo_Thr_init cA o9 q10 ++ zo_Thr_init cA o11 q12 ++ zo_Thr_init cA o13 q14 ++ zo_Thr_init cA o15 q16 ++ zo_Thr_init cA o17 q18)) := hD
  refine lv_iinc (v := 7) (lv' := [(1, .int (7)), (0, .ref h0)]) hx hb zd_Land_init_74 hl (k := 0) rfl (by decide) (by decide) rfl (fun ls hl => ?_)
  refine lv_goto (tgt := 55) hx hb zd_Land_init_77 (by decide) ?_
  refine lv_iload_n hx hb zd_Land_init_55 rfl (lv_at hl 0 rfl) ?_
  refine lv_bipush (v := 10) hx hb zd_Land_init_56 (by decide) ?_
  refine lv_icmp_ge (tgt := 80) hx hb zd_Land_init_58 (by decide) (fun h9 => absurd h9 (by decide)) (fun _ => ?_)
  refine lv_aload_n hx hb zd_Land_init_61 rfl (lv_at hl 1 rfl) ?_
  refine va_get (D := D) (ci := 1) (v := .ref o2) (C := zc_Land) (T := zt_Land) (N := 10) hx hb hts zi_Land hown hK.1 hP 4 rfl rfl 1 (by decide) (hts _ zq_53) (fun _ h9 => h9) rfl zd_Land_init_62 ?_
  refine lv_iload_n hx hb zd_Land_init_65 rfl (lv_at hl 0 rfl) ?_
  refine va_new (ci := 4) (fs := [.null]) (C := zc_Thr) (T := zt_Thr) (N := 1) hx hb hts zi_Thr zy_Thr zy_Thr_ok hown (hts _ zq_31) (hts _ zq_33) (hts _ zq_3) hK.1 hP hD hS hA rfl (fun j hj => by rcases (show j = 0 by omega) with rfl <;> rfl) (Nat.le_of_ble_eq_true rfl) (Nat.le_of_ble_eq_true rfl) zd_Land_init_66 (fun o19 H hP hD hS => ?_)
  refine W.widen (k := 19) (n := 127) (Nat.le_of_ble_eq_true rfl) (Nat.le_of_ble_eq_true rfl) ?_
  refine lv_dup hx hb zd_Land_init_69 rfl ?_
  have hPc := zu_last hP
  have hDc := zu_lastD hD
  have hFc := zu_lastF hD hS hA
  refine va_callv (va_runIN (As := []) (rest := [.ref o19, .int (7), .ref o2]) ⟨hx, hb, hml, hown, hts⟩ (zC_Thr_init l o19 H.size) ⟨va_cnB 0 hts (zu_goodN zq_36) rfl rfl rfl (hK.2.2.2.1) (hts _ zq_3) (by decide +kernel) ⟨Nat.le_of_ble_eq_true rfl, Nat.le_of_ble_eq_true rfl⟩, rfl, hts _ zq_35⟩ ⟨zu_blindC, fun U hU hW => ⟨rfl, by rw [hU], by rw [hU]; exact hPc, hK.warm hW, hDc.weaken (fun _ _ _ _ => trivial)⟩⟩ rfl rfl hl.1 rfl (lv_room (Nat.le_of_ble_eq_true rfl)) zd_Land_init_70 ⟨Nat.le_of_ble_eq_true rfl, Nat.le_of_ble_eq_true rfl⟩) hS (fun q _ h => hFc q h) hFc (fun q20 t H1 locs ht hvm _ hB hz1 hk1 hS => ?_)
  obtain ⟨hP1, hD1⟩ := hB
  rw [ht] at hP1
  obtain ⟨hP, hD⟩ := zu_lastJ (w1 := zo_Thr_init cA o19 q20) hP hD hk1 hFc hP1 hD1
  generalize H1 = H at hP hS ⊢
  have hP : va_P D zu_cl ((o4, .inl (cA 0, 10, .inl (fun _ => 0))) :: (o3, .inl (cA 0, 12, .inl (fun _ => 0))) :: (o2, .inl (cA 3, 10, .inr (.inr (.inr (.inr (va_up (va_up (va_up (va_up (va_up (va_up (va_up (fun _ => none) 0 (some o5)) 1 (some o7)) 2 (some o9)) 3 (some o11)) 4 (some o13)) 5 (some o15)) 6 (some o17))))))) :: (o1, .inl (cA 0, 24, .inl (fun _ => 0))) :: (h0, .inr (1, [.ref o1, .ref o2, .ref o3, .ref o4, .int 0, .int 0, .int (23), .int (2), .int 0, .int (1)])) :: (zo_Thr_init cA o5 q6 ++ zo_Thr_init cA o7 q8 ++ zo_Thr_init cA o9 q10 ++ zo_Thr_init cA o11 q12 ++ zo_Thr_init cA o13 q14 ++ zo_Thr_init cA o15 q16 ++ zo_Thr_init cA o17 q18 ++ zo_Thr_init cA o19 q20)) H := hP
  have hD : va_D A ((o4, .inl (cA 0, 10, .inl (fun _ => 0))) :: (o3, .inl (cA 0, 12, .inl (fun _ => 0))) :: (o2, .inl (cA 3, 10, .inr (.inr (.inr (.inr (va_up (va_up (va_up (va_up (va_up (va_up (va_up (fun _ => none) 0 (some o5)) 1 (some o7)) 2 (some o9)) 3 (some o11)) 4 (some o13)) 5 (some o15)) 6 (some o17))))))) :: (o1, .inl (cA 0, 24, .inl (fun _ => 0))) :: (h0, .inr (1, [.ref o1, .ref o2, .ref o3, .ref o4, .int 0, .int 0, .int (23), .int (2), .int 0, .int (1)])) :: (zo_Thr_init cA o5 q6 ++ zo_Thr_init cA o7 q8 ++ zo_Thr_init cA o9 q10 ++ zo_Thr_init cA o11 q12 ++ zo_Thr_init cA o13 q14 ++ zo_Thr_init cA o15 q16 ++ zo_Thr_init cA o17 q18 ++ zo_Thr_init cA o19 q20)) := hD
  refine W.widen (k := 20) (n := 136) (Nat.le_of_ble_eq_true rfl) (Nat.le_of_ble_eq_true rfl) ?_
  refine va_astq hx hb hK.1 hP hD hS 2 3 19 4 (r := zu_cl[4]) rfl rfl rfl rfl (by unfold vp_in; decide) zd_Land_init_73 (fun H locs hP hD hS => ?_)
  have hP : va_P D zu_cl ((o4, .inl (cA 0, 10, .inl (fun _ => 0))) :: (o3, .inl (cA 0, 12, .inl (fun _ => 0))) :: (o2, .inl (cA 3, 10, .inr (.inr (.inr (.inr (va_up (va_up (va_up (va_up (va_up (va_up (va_up (va_up (fun _ => none) 0 (some o5)) 1 (some o7)) 2 (some o9)) 3 (some o11)) 4 (some o13)) 5 (some o15)) 6 (some o17)) 7 (some o19))))))) :: (o1, .inl (cA 0, 24, .inl (fun _ => 0))) :: (h0, .inr (1, [.ref o1, .ref o2, .ref o3, .ref o4, .int 0, .int 0, .int (23), .int (2), .int 0, .int (1)])) :: (zo_Thr_init cA o5 q6 ++ zo_Thr_init cA o7 q8 ++ zo_Thr_init cA o9 q10 ++ zo_Thr_init cA o11 q12 ++ zo_Thr_init cA o13 q14 ++ zo_Thr_init cA o15 q16 ++ zo_Thr_init cA o17 q18 ++ zo_Thr_init cA o19 q20)) H := hP
  have hD : va_D A ((o4, .inl (cA 0, 10, .inl (fun _ => 0))) :: (o3, .inl (cA 0, 12, .inl (fun _ => 0))) :: (o2, .inl (cA 3, 10, .inr (.inr (.inr (.inr (va_up (va_up (va_up (va_up (va_up (va_up (va_up (va_up (fun _ => none) 0 (some o5)) 1 (some o7)) 2 (some o9)) 3 (some o11)) 4 (some o13)) 5 (some o15)) 6 (some o17)) 7 (some o19))))))) :: (o1, .inl (cA 0, 24, .inl (fun _ => 0))) :: (h0, .inr (1, [.ref o1, .ref o2, .ref o3, .ref o4, .int 0, .int 0, .int (23), .int (2), .int 0, .int (1)])) :: (zo_Thr_init cA o5 q6 ++ zo_Thr_init cA o7 q8 ++ zo_Thr_init cA o9 q10 ++ zo_Thr_init cA o11 q12 ++ zo_Thr_init cA o13 q14 ++ zo_Thr_init cA o15 q16 ++ zo_Thr_init cA o17 q18 ++ zo_Thr_init cA o19 q20)) := hD
  refine lv_iinc (v := 8) (lv' := [(1, .int (8)), (0, .ref h0)]) hx hb zd_Land_init_74 hl (k := 0) rfl (by decide) (by decide) rfl (fun ls hl => ?_)
  refine lv_goto (tgt := 55) hx hb zd_Land_init_77 (by decide) ?_
  refine lv_iload_n hx hb zd_Land_init_55 rfl (lv_at hl 0 rfl) ?_
  refine lv_bipush (v := 10) hx hb zd_Land_init_56 (by decide) ?_
  refine lv_icmp_ge (tgt := 80) hx hb zd_Land_init_58 (by decide) (fun h9 => absurd h9 (by decide)) (fun _ => ?_)
  refine lv_aload_n hx hb zd_Land_init_61 rfl (lv_at hl 1 rfl) ?_
  refine va_get (D := D) (ci := 1) (v := .ref o2) (C := zc_Land) (T := zt_Land) (N := 10) hx hb hts zi_Land hown hK.1 hP 4 rfl rfl 1 (by decide) (hts _ zq_53) (fun _ h9 => h9) rfl zd_Land_init_62 ?_
  refine lv_iload_n hx hb zd_Land_init_65 rfl (lv_at hl 0 rfl) ?_
  refine va_new (ci := 4) (fs := [.null]) (C := zc_Thr) (T := zt_Thr) (N := 1) hx hb hts zi_Thr zy_Thr zy_Thr_ok hown (hts _ zq_31) (hts _ zq_33) (hts _ zq_3) hK.1 hP hD hS hA rfl (fun j hj => by rcases (show j = 0 by omega) with rfl <;> rfl) (Nat.le_of_ble_eq_true rfl) (Nat.le_of_ble_eq_true rfl) zd_Land_init_66 (fun o21 H hP hD hS => ?_)
  refine W.widen (k := 21) (n := 137) (Nat.le_of_ble_eq_true rfl) (Nat.le_of_ble_eq_true rfl) ?_
  refine lv_dup hx hb zd_Land_init_69 rfl ?_
  have hPc := zu_last hP
  have hDc := zu_lastD hD
  have hFc := zu_lastF hD hS hA
  refine va_callv (va_runIN (As := []) (rest := [.ref o21, .int (8), .ref o2]) ⟨hx, hb, hml, hown, hts⟩ (zC_Thr_init l o21 H.size) ⟨va_cnB 0 hts (zu_goodN zq_36) rfl rfl rfl (hK.2.2.2.1) (hts _ zq_3) (by decide +kernel) ⟨Nat.le_of_ble_eq_true rfl, Nat.le_of_ble_eq_true rfl⟩, rfl, hts _ zq_35⟩ ⟨zu_blindC, fun U hU hW => ⟨rfl, by rw [hU], by rw [hU]; exact hPc, hK.warm hW, hDc.weaken (fun _ _ _ _ => trivial)⟩⟩ rfl rfl hl.1 rfl (lv_room (Nat.le_of_ble_eq_true rfl)) zd_Land_init_70 ⟨Nat.le_of_ble_eq_true rfl, Nat.le_of_ble_eq_true rfl⟩) hS (fun q _ h => hFc q h) hFc (fun q22 t H1 locs ht hvm _ hB hz1 hk1 hS => ?_)
  obtain ⟨hP1, hD1⟩ := hB
  rw [ht] at hP1
  obtain ⟨hP, hD⟩ := zu_lastJ (w1 := zo_Thr_init cA o21 q22) hP hD hk1 hFc hP1 hD1
  generalize H1 = H at hP hS ⊢
  have hP : va_P D zu_cl ((o4, .inl (cA 0, 10, .inl (fun _ => 0))) :: (o3, .inl (cA 0, 12, .inl (fun _ => 0))) :: (o2, .inl (cA 3, 10, .inr (.inr (.inr (.inr (va_up (va_up (va_up (va_up (va_up (va_up (va_up (va_up (fun _ => none) 0 (some o5)) 1 (some o7)) 2 (some o9)) 3 (some o11)) 4 (some o13)) 5 (some o15)) 6 (some o17)) 7 (some o19))))))) :: (o1, .inl (cA 0, 24, .inl (fun _ => 0))) :: (h0, .inr (1, [.ref o1, .ref o2, .ref o3, .ref o4, .int 0, .int 0, .int (23), .int (2), .int 0, .int (1)])) :: (zo_Thr_init cA o5 q6 ++ zo_Thr_init cA o7 q8 ++ zo_Thr_init cA o9 q10 ++ zo_Thr_init cA o11 q12 ++ zo_Thr_init cA o13 q14 ++ zo_Thr_init cA o15 q16 ++ zo_Thr_init cA o17 q18 ++ zo_Thr_init cA o19 q20 ++ zo_Thr_init cA o21 q22)) H := hP
  have hD : va_D A ((o4, .inl (cA 0, 10, .inl (fun _ => 0))) :: (o3, .inl (cA 0, 12, .inl (fun _ => 0))) :: (o2, .inl (cA 3, 10, .inr (.inr (.inr (.inr (va_up (va_up (va_up (va_up (va_up (va_up (va_up (va_up (fun _ => none) 0 (some o5)) 1 (some o7)) 2 (some o9)) 3 (some o11)) 4 (some o13)) 5 (some o15)) 6 (some o17)) 7 (some o19))))))) :: (o1, .inl (cA 0, 24, .inl (fun _ => 0))) :: (h0, .inr (1, [.ref o1, .ref o2, .ref o3, .ref o4, .int 0, .int 0, .int (23), .int (2), .int 0, .int (1)])) :: (zo_Thr_init cA o5 q6 ++ zo_Thr_init cA o7 q8 ++ zo_Thr_init cA o9 q10 ++ zo_Thr_init cA o11 q12 ++ zo_Thr_init cA o13 q14 ++ zo_Thr_init cA o15 q16 ++ zo_Thr_init cA o17 q18 ++ zo_Thr_init cA o19 q20 ++ zo_Thr_init cA o21 q22)) := hD
  refine W.widen (k := 22) (n := 146) (Nat.le_of_ble_eq_true rfl) (Nat.le_of_ble_eq_true rfl) ?_
  refine va_astq hx hb hK.1 hP hD hS 2 3 21 4 (r := zu_cl[4]) rfl rfl rfl rfl (by unfold vp_in; decide) zd_Land_init_73 (fun H locs hP hD hS => ?_)
  have hP : va_P D zu_cl ((o4, .inl (cA 0, 10, .inl (fun _ => 0))) :: (o3, .inl (cA 0, 12, .inl (fun _ => 0))) :: (o2, .inl (cA 3, 10, .inr (.inr (.inr (.inr (va_up (va_up (va_up (va_up (va_up (va_up (va_up (va_up (va_up (fun _ => none) 0 (some o5)) 1 (some o7)) 2 (some o9)) 3 (some o11)) 4 (some o13)) 5 (some o15)) 6 (some o17)) 7 (some o19)) 8 (some o21))))))) :: (o1, .inl (cA 0, 24, .inl (fun _ => 0))) :: (h0, .inr (1, [.ref o1, .ref o2, .ref o3, .ref o4, .int 0, .int 0, .int (23), .int (2), .int 0, .int (1)])) :: (zo_Thr_init cA o5 q6 ++ zo_Thr_init cA o7 q8 ++ zo_Thr_init cA o9 q10 ++ zo_Thr_init cA o11 q12 ++ zo_Thr_init cA o13 q14 ++ zo_Thr_init cA o15 q16 ++ zo_Thr_init cA o17 q18 ++ zo_Thr_init cA o19 q20 ++ zo_Thr_init cA o21 q22)) H := hP
  have hD : va_D A ((o4, .inl (cA 0, 10, .inl (fun _ => 0))) :: (o3, .inl (cA 0, 12, .inl (fun _ => 0))) :: (o2, .inl (cA 3, 10, .inr (.inr (.inr (.inr (va_up (va_up (va_up (va_up (va_up (va_up (va_up (va_up (va_up (fun _ => none) 0 (some o5)) 1 (some o7)) 2 (some o9)) 3 (some o11)) 4 (some o13)) 5 (some o15)) 6 (some o17)) 7 (some o19)) 8 (some o21))))))) :: (o1, .inl (cA 0, 24, .inl (fun _ => 0))) :: (h0, .inr (1, [.ref o1, .ref o2, .ref o3, .ref o4, .int 0, .int 0, .int (23), .int (2), .int 0, .int (1)])) :: (zo_Thr_init cA o5 q6 ++ zo_Thr_init cA o7 q8 ++ zo_Thr_init cA o9 q10 ++ zo_Thr_init cA o11 q12 ++ zo_Thr_init cA o13 q14 ++ zo_Thr_init cA o15 q16 ++ zo_Thr_init cA o17 q18 ++ zo_Thr_init cA o19 q20 ++ zo_Thr_init cA o21 q22)) := hD
  refine lv_iinc (v := 9) (lv' := [(1, .int (9)), (0, .ref h0)]) hx hb zd_Land_init_74 hl (k := 0) rfl (by decide) (by decide) rfl (fun ls hl => ?_)
  refine lv_goto (tgt := 55) hx hb zd_Land_init_77 (by decide) ?_
  refine lv_iload_n hx hb zd_Land_init_55 rfl (lv_at hl 0 rfl) ?_
  refine lv_bipush (v := 10) hx hb zd_Land_init_56 (by decide) ?_
  refine lv_icmp_ge (tgt := 80) hx hb zd_Land_init_58 (by decide) (fun h9 => absurd h9 (by decide)) (fun _ => ?_)
  refine lv_aload_n hx hb zd_Land_init_61 rfl (lv_at hl 1 rfl) ?_
  refine va_get (D := D) (ci := 1) (v := .ref o2) (C := zc_Land) (T := zt_Land) (N := 10) hx hb hts zi_Land hown hK.1 hP 4 rfl rfl 1 (by decide) (hts _ zq_53) (fun _ h9 => h9) rfl zd_Land_init_62 ?_
  refine lv_iload_n hx hb zd_Land_init_65 rfl (lv_at hl 0 rfl) ?_
  refine va_new (ci := 4) (fs := [.null]) (C := zc_Thr) (T := zt_Thr) (N := 1) hx hb hts zi_Thr zy_Thr zy_Thr_ok hown (hts _ zq_31) (hts _ zq_33) (hts _ zq_3) hK.1 hP hD hS hA rfl (fun j hj => by rcases (show j = 0 by omega) with rfl <;> rfl) (Nat.le_of_ble_eq_true rfl) (Nat.le_of_ble_eq_true rfl) zd_Land_init_66 (fun o23 H hP hD hS => ?_)
  refine W.widen (k := 23) (n := 147) (Nat.le_of_ble_eq_true rfl) (Nat.le_of_ble_eq_true rfl) ?_
  refine lv_dup hx hb zd_Land_init_69 rfl ?_
  have hPc := zu_last hP
  have hDc := zu_lastD hD
  have hFc := zu_lastF hD hS hA
  refine va_callv (va_runIN (As := []) (rest := [.ref o23, .int (9), .ref o2]) ⟨hx, hb, hml, hown, hts⟩ (zC_Thr_init l o23 H.size) ⟨va_cnB 0 hts (zu_goodN zq_36) rfl rfl rfl (hK.2.2.2.1) (hts _ zq_3) (by decide +kernel) ⟨Nat.le_of_ble_eq_true rfl, Nat.le_of_ble_eq_true rfl⟩, rfl, hts _ zq_35⟩ ⟨zu_blindC, fun U hU hW => ⟨rfl, by rw [hU], by rw [hU]; exact hPc, hK.warm hW, hDc.weaken (fun _ _ _ _ => trivial)⟩⟩ rfl rfl hl.1 rfl (lv_room (Nat.le_of_ble_eq_true rfl)) zd_Land_init_70 ⟨Nat.le_of_ble_eq_true rfl, Nat.le_of_ble_eq_true rfl⟩) hS (fun q _ h => hFc q h) hFc (fun q24 t H1 locs ht hvm _ hB hz1 hk1 hS => ?_)
  obtain ⟨hP1, hD1⟩ := hB
  rw [ht] at hP1
  obtain ⟨hP, hD⟩ := zu_lastJ (w1 := zo_Thr_init cA o23 q24) hP hD hk1 hFc hP1 hD1
  generalize H1 = H at hP hS ⊢
  have hP : va_P D zu_cl ((o4, .inl (cA 0, 10, .inl (fun _ => 0))) :: (o3, .inl (cA 0, 12, .inl (fun _ => 0))) :: (o2, .inl (cA 3, 10, .inr (.inr (.inr (.inr (va_up (va_up (va_up (va_up (va_up (va_up (va_up (va_up (va_up (fun _ => none) 0 (some o5)) 1 (some o7)) 2 (some o9)) 3 (some o11)) 4 (some o13)) 5 (some o15)) 6 (some o17)) 7 (some o19)) 8 (some o21))))))) :: (o1, .inl (cA 0, 24, .inl (fun _ => 0))) :: (h0, .inr (1, [.ref o1, .ref o2, .ref o3, .ref o4, .int 0, .int 0, .int (23), .int (2), .int 0, .int (1)])) :: (zo_Thr_init cA o5 q6 ++ zo_Thr_init cA o7 q8 ++ zo_Thr_init cA o9 q10 ++ zo_Thr_init cA o11 q12 ++ zo_Thr_init cA o13 q14 ++ zo_Thr_init cA o15 q16 ++ zo_Thr_init cA o17 q18 ++ zo_Thr_init cA o19 q20 ++ zo_Thr_init cA o21 q22 ++ zo_Thr_init cA o23 q24)) H := hP
  have hD : va_D A ((o4, .inl (cA 0, 10, .inl (fun _ => 0))) :: (o3, .inl (cA 0, 12, .inl (fun _ => 0))) :: (o2, .inl (cA 3, 10, .inr (.inr (.inr (.inr (va_up (va_up (va_up (va_up (va_up (va_up (va_up (va_up (va_up (fun _ => none) 0 (some o5)) 1 (some o7)) 2 (some o9)) 3 (some o11)) 4 (some o13)) 5 (some o15)) 6 (some o17)) 7 (some o19)) 8 (some o21))))))) :: (o1, .inl (cA 0, 24, .inl (fun _ => 0))) :: (h0, .inr (1, [.ref o1, .ref o2, .ref o3, .ref o4, .int 0, .int 0, .int (23), .int (2), .int 0, .int (1)])) :: (zo_Thr_init cA o5 q6 ++ zo_Thr_init cA o7 q8 ++ zo_Thr_init cA o9 q10 ++ zo_Thr_init cA o11 q12 ++ zo_Thr_init cA o13 q14 ++ zo_Thr_init cA o15 q16 ++ zo_Thr_init cA o17 q18 ++ zo_Thr_init cA o19 q20 ++ zo_Thr_init cA o21 q22 ++ zo_Thr_init cA o23 q24)) := hD
  refine W.widen (k := 24) (n := 156) (Nat.le_of_ble_eq_true rfl) (Nat.le_of_ble_eq_true rfl) ?_
  refine va_astq hx hb hK.1 hP hD hS 2 3 23 4 (r := zu_cl[4]) rfl rfl rfl rfl (by unfold vp_in; decide) zd_Land_init_73 (fun H locs hP hD hS => ?_)
  have hP : va_P D zu_cl ((o4, .inl (cA 0, 10, .inl (fun _ => 0))) :: (o3, .inl (cA 0, 12, .inl (fun _ => 0))) :: (o2, .inl (cA 3, 10, .inr (.inr (.inr (.inr (va_up (va_up (va_up (va_up (va_up (va_up (va_up (va_up (va_up (va_up (fun _ => none) 0 (some o5)) 1 (some o7)) 2 (some o9)) 3 (some o11)) 4 (some o13)) 5 (some o15)) 6 (some o17)) 7 (some o19)) 8 (some o21)) 9 (some o23))))))) :: (o1, .inl (cA 0, 24, .inl (fun _ => 0))) :: (h0, .inr (1, [.ref o1, .ref o2, .ref o3, .ref o4, .int 0, .int 0, .int (23), .int (2), .int 0, .int (1)])) :: (zo_Thr_init cA o5 q6 ++ zo_Thr_init cA o7 q8 ++ zo_Thr_init cA o9 q10 ++ zo_Thr_init cA o11 q12 ++ zo_Thr_init cA o13 q14 ++ zo_Thr_init cA o15 q16 ++ zo_Thr_init cA o17 q18 ++ zo_Thr_init cA o19 q20 ++ zo_Thr_init cA o21 q22 ++ zo_Thr_init cA o23 q24)) H := hP
  have hD : va_D A ((o4, .inl (cA 0, 10, .inl (fun _ => 0))) :: (o3, .inl (cA 0, 12, .inl (fun _ => 0))) :: (o2, .inl (cA 3, 10, .inr (.inr (.inr (.inr (va_up (va_up (va_up (va_up (va_up (va_up (va_up (va_up (va_up (va_up (fun _ => none) 0 (some o5)) 1 (some o7)) 2 (some o9)) 3 (some o11)) 4 (some o13)) 5 (some o15)) 6 (some o17)) 7 (some o19)) 8 (some o21)) 9 (some o23))))))) :: (o1, .inl (cA 0, 24, .inl (fun _ => 0))) :: (h0, .inr (1, [.ref o1, .ref o2, .ref o3, .ref o4, .int 0, .int 0, .int (23), .int (2), .int 0, .int (1)])) :: (zo_Thr_init cA o5 q6 ++ zo_Thr_init cA o7 q8 ++ zo_Thr_init cA o9 q10 ++ zo_Thr_init cA o11 q12 ++ zo_Thr_init cA o13 q14 ++ zo_Thr_init cA o15 q16 ++ zo_Thr_init cA o17 q18 ++ zo_Thr_init cA o19 q20 ++ zo_Thr_init cA o21 q22 ++ zo_Thr_init cA o23 q24)) := hD
  refine lv_iinc (v := 10) (lv' := [(1, .int (10)), (0, .ref h0)]) hx hb zd_Land_init_74 hl (k := 0) rfl (by decide) (by decide) rfl (fun ls hl => ?_)
  refine lv_goto (tgt := 55) hx hb zd_Land_init_77 (by decide) ?_
  refine lv_iload_n hx hb zd_Land_init_55 rfl (lv_at hl 0 rfl) ?_
  refine lv_bipush (v := 10) hx hb zd_Land_init_56 (by decide) ?_
  refine lv_icmp_ge (tgt := 80) hx hb zd_Land_init_58 (by decide) (fun _ => ?_) (fun h9 => absurd (by decide) h9)
  refine lv_aload_n hx hb zd_Land_init_80 rfl (lv_at hl 1 rfl) ?_
  refine va_get (D := D) (ci := 1) (v := .ref o4) (C := zc_Land) (T := zt_Land) (N := 10) hx hb hts zi_Land hown hK.1 hP 4 rfl rfl 3 (by decide) (hts _ zq_59) (fun _ h9 => h9) rfl zd_Land_init_81 ?_
  refine lv_iconst (v := -1) hx hb zd_Land_init_84 (by decide) ?_
  obtain ⟨hP, hD⟩ := zu_back hP hD
  have hPc := zu_last hP
  have hDc := zu_lastD hD
  have hFc := zu_lastF hD hS hA
  refine va_callv (va_runS (As := [.ref o4, .int (-1)]) (rest := []) ⟨hx, hb, hml, hown, hts⟩ (zC_Arr_fillE l o4 H.size (fun _ => 0) (-1)) (va_cwS 2 hts (zu_goodS zq_47 zq_48 zq_4 zq_49) rfl rfl rfl (by decide +kernel) ⟨Nat.le_of_ble_eq_true rfl, Nat.le_of_ble_eq_true rfl⟩) ⟨zu_blindC, fun U hU hW => ⟨rfl, by rw [hU], by rw [hU]; exact hPc, hK.warm hW, hDc.weaken (fun _ _ _ _ => trivial)⟩⟩ rfl rfl hl.1 rfl (lv_room (Nat.le_of_ble_eq_true rfl)) zd_Land_init_85 ⟨Nat.le_of_ble_eq_true rfl, Nat.le_of_ble_eq_true rfl⟩) hS (fun q _ h => hFc q h) hFc (fun q9 t H1 locs ht hvm _ hB hz1 hk1 hS => ?_)
  obtain ⟨hP1, hD1⟩ := hB
  rw [ht] at hP1
  obtain ⟨hP, hD⟩ := zu_lastJ (w1 := [(o4, .inl (cA 0, 10, .inl (zo_fill (fun _ => 0) (-1))))]) hP hD hk1 hFc hP1 hD1
  generalize H1 = H at hP hS ⊢
  have hP : va_P D zu_cl ((o3, .inl (cA 0, 12, .inl (fun _ => 0))) :: (o2, .inl (cA 3, 10, .inr (.inr (.inr (.inr (va_up (va_up (va_up (va_up (va_up (va_up (va_up (va_up (va_up (va_up (fun _ => none) 0 (some o5)) 1 (some o7)) 2 (some o9)) 3 (some o11)) 4 (some o13)) 5 (some o15)) 6 (some o17)) 7 (some o19)) 8 (some o21)) 9 (some o23))))))) :: (o1, .inl (cA 0, 24, .inl (fun _ => 0))) :: (h0, .inr (1, [.ref o1, .ref o2, .ref o3, .ref o4, .int 0, .int 0, .int (23), .int (2), .int 0, .int (1)])) :: (zo_Thr_init cA o5 q6 ++ zo_Thr_init cA o7 q8 ++ zo_Thr_init cA o9 q10 ++ zo_Thr_init cA o11 q12 ++ zo_Thr_init cA o13 q14 ++ zo_Thr_init cA o15 q16 ++ zo_Thr_init cA o17 q18 ++ zo_Thr_init cA o19 q20 ++ zo_Thr_init cA o21 q22 ++ zo_Thr_init cA o23 q24 ++ [(o4, .inl (cA 0, 10, .inl (zo_fill (fun _ => 0) (-1))))])) H := hP
  have hD : va_D A ((o3, .inl (cA 0, 12, .inl (fun _ => 0))) :: (o2, .inl (cA 3, 10, .inr (.inr (.inr (.inr (va_up (va_up (va_up (va_up (va_up (va_up (va_up (va_up (va_up (va_up (fun _ => none) 0 (some o5)) 1 (some o7)) 2 (some o9)) 3 (some o11)) 4 (some o13)) 5 (some o15)) 6 (some o17)) 7 (some o19)) 8 (some o21)) 9 (some o23))))))) :: (o1, .inl (cA 0, 24, .inl (fun _ => 0))) :: (h0, .inr (1, [.ref o1, .ref o2, .ref o3, .ref o4, .int 0, .int 0, .int (23), .int (2), .int 0, .int (1)])) :: (zo_Thr_init cA o5 q6 ++ zo_Thr_init cA o7 q8 ++ zo_Thr_init cA o9 q10 ++ zo_Thr_init cA o11 q12 ++ zo_Thr_init cA o13 q14 ++ zo_Thr_init cA o15 q16 ++ zo_Thr_init cA o17 q18 ++ zo_Thr_init cA o19 q20 ++ zo_Thr_init cA o21 q22 ++ zo_Thr_init cA o23 q24 ++ [(o4, .inl (cA 0, 10, .inl (zo_fill (fun _ => 0) (-1))))])) := hD
  obtain ⟨hP, hD⟩ := zu_recell (i := 1) (a := o2) (c := cA 3) (n := 10) (f := (va_up (va_up (va_up (va_up (va_up (va_up (va_up (va_up (va_up (va_up (fun _ => none) 0 (some o5)) 1 (some o7)) 2 (some o9)) 3 (some o11)) 4 (some o13)) 5 (some o15)) 6 (some o17)) 7 (some o19)) 8 (some o21)) 9 (some o23))) (g := fun j => some ((fun j => ([o1, o2, o3, o4, o5, q6, o7, q8, o9, q10, o11, q12, o13, q14, o15, q16, o17, q18, o19, q20, o21, q22, o23, q24] : List Nat).getD j 0) (4 + 2 * j))) hP hD rfl (fun j hj => by rcases (show j = 0 ∨ j = 1 ∨ j = 2 ∨ j = 3 ∨ j = 4 ∨ j = 5 ∨ j = 6 ∨ j = 7 ∨ j = 8 ∨ j = 9 by omega) with rfl | rfl | rfl | rfl | rfl | rfl | rfl | rfl | rfl | rfl <;> rfl)
  have hP := hP.sub (ws' := zo_Land_init cA h0 (fun j => ([o1, o2, o3, o4, o5, q6, o7, q8, o9, q10, o11, q12, o13, q14, o15, q16, o17, q18, o19, q20, o21, q22, o23, q24] : List Nat).getD j 0)) [3, 2, 1, 0, 4, 5, 6, 7, 8, 9, 10, 11, 12, 13, 14, 15, 16, 17, 18, 19, 20, 21, 22, 23, 24] rfl
  have hD := hD.sub (ws' := zo_Land_init cA h0 (fun j => ([o1, o2, o3, o4, o5, q6, o7, q8, o9, q10, o11, q12, o13, q14, o15, q16, o17, q18, o19, q20, o21, q22, o23, q24] : List Nat).getD j 0)) [3, 2, 1, 0, 4, 5, 6, 7, 8, 9, 10, 11, 12, 13, 14, 15, 16, 17, 18, 19, 20, 21, 22, 23, 24] (by decide) rfl
  exact W.vret hx hb hr (fun t ht hW => ⟨⟨fun j => ([o1, o2, o3, o4, o5, q6, o7, q8, o9, q10, o11, q12, o13, q14, o15, q16, o17, q18, o19, q20, o21, q22, o23, q24] : List Nat).getD j 0, rfl, trivial, by subst ht; exact hP, hD⟩, hS.F ht⟩) hS.2.2 zd_Land_init_88
