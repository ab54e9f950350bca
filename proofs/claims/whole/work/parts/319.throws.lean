/-! throws: reach, sureness, where a stone falls, by day and by night -/
def zF (S : Nat → Int32) (t f : Nat) : Nat := zN S (30 + 9 * t + f)
theorem zF_all {S : Nat → Int32} (h : zI_WF S) {t : Nat} (ht : t < zN S 1) : t < 10 ∧ (∀ f, f < 9 → S (30 + 9 * t + f) = nI (zF S t f)) ∧ zF S t 0 ≤ 6 ∧ zF S t 1 ≤ 23 ∧ (1 ≤ zF S t 2 ∧ zF S t 2 ≤ 9) ∧ (1 ≤ zF S t 3 ∧ zF S t 3 ≤ 12) ∧ zF S t 4 ≤ 1 ∧ zF S t 5 ≤ 12 ∧ zF S t 6 ≤ 1 ∧ zF S t 7 ≤ 1 ∧ zF S t 8 ≤ 12 * zN S 0 := by
  have n1 := (h.2.1.n (by omega)).2
  have h0 := (h.1.n (by omega)).2
  obtain ⟨a0, a1, a2, a3, a4, a5, a6, a7, a8⟩ := h.2.2.2.2.2.2.1 t ht
  have h0' : zN S 0 ≤ 9999 := h0
  have b0 := a0.n (by omega)
  have b1 := a1.n (by omega)
  have b2 := a2.1.n (by omega)
  have b3 := a3.1.n (by omega)
  have b4 := a4.n (by omega)
  have b5 := a5.n (by omega)
  have b6 := a6.n (by omega)
  have b7 := a7.n (by omega)
  have b8 := a8.n (by omega)
  refine ⟨by unfold zN at ht; omega, fun f hf => ?_, b0.2, b1.2, ⟨a2.2, b2.2⟩, ⟨a3.2, b3.2⟩, b4.2, b5.2, b6.2, b7.2, b8.2⟩
  rcases (show f = 0 ∨ f = 1 ∨ f = 2 ∨ f = 3 ∨ f = 4 ∨ f = 5 ∨ f = 6 ∨ f = 7 ∨ f = 8 by omega) with rfl | rfl | rfl | rfl | rfl | rfl | rfl | rfl | rfl
  · exact b0.1
  · exact b1.1
  · exact b2.1
  · exact b3.1
  · exact b4.1
  · exact b5.1
  · exact b6.1
  · exact b7.1
  · exact b8.1
def zg_reach (k p far : Nat) (ng : Bool) : Nat := if k = 1 then p + 1 else if k = 3 then p + 1 + 2 * far else if k = 5 then (if ng = true then p - 1 else p) else if k = 6 then p / 2 else p
def zg_sure (k p far : Nat) (ng : Bool) : Nat := if k = 2 then p - 2 * far - 3 else if k = 4 then (if ng = true then 0 else p - 2 * far - 3) else if k = 6 then 12 else p - 2 * far
def zg_land (c e off : Nat) : Nat := if e = 1 then min 23 (c + off) else c - off
def zg_night (h : Nat) : Bool := decide (h % 24 < 6 ∨ 17 < h % 24)
theorem zg_reach_le {k p far : Nat} {ng : Bool} (hp : p ≤ 12) (hf : far < 2) : zg_reach k p far ng ≤ 15 := by
  unfold zg_reach
  repeat' split
  all_goals omega
theorem zg_sure_le {k p far : Nat} {ng : Bool} (hp : p ≤ 12) : zg_sure k p far ng ≤ 12 := by
  unfold zg_sure
  repeat' split
  all_goals omega
theorem zg_land_le {c e off : Nat} (hc : c ≤ 23) : zg_land c e off ≤ 23 := by
  unfold zg_land
  split <;> omega
theorem ze_night {h : Nat} (hh : h < 2 ^ 31) : fn_Post_isNight (nI h) = some (zt (zg_night h)) := by
  unfold fn_Post_isNight
  have e : nI h - nI h / (24 : Int32) * (24 : Int32) = nI (h % 24) := pk_rem (d := 24) hh (by omega) (by omega)
  rw [zp_nx, e]
  have key : ∀ c : Fin 24, (if (18 : Int32) ≤ nI c.val then fn_Post_isNight_L16 else if (5 : Int32) < nI c.val then fn_Post_isNight_L21 (0 : Int32) else fn_Post_isNight_L16) = some (zt (decide (c.val < 6 ∨ 17 < c.val))) := by decide +kernel
  exact key ⟨h % 24, Nat.mod_lt _ (by omega)⟩
theorem ze_mnight {c : Nat} (hc : c < 24) : fn_Mod_isNight (nI c) = some (zt (zg_night c)) := by
  have key : ∀ c : Fin 24, fn_Mod_isNight (nI c.val) = some (zt (zg_night c.val)) := by decide +kernel
  exact key ⟨c, hc⟩
theorem zg_night_mod (h : Nat) : zg_night (h % 24) = zg_night h := by
  unfold zg_night
  rw [Nat.mod_mod]
theorem zg_reach_P : ∀ k : Fin 7, ∀ p : Fin 12, ∀ far : Fin 2, ∀ ng : Bool, fn_Thr_reach_L20 (fun _ _ => nI k.val) 0 (nI far.val) (zt ng) (nI (p.val + 1)) = nI (zg_reach k.val (p.val + 1) far.val ng) := by decide +kernel
theorem zg_sure_P : ∀ k : Fin 7, ∀ p : Fin 13, ∀ far : Fin 2, ∀ ng : Bool, (if nI far.val = (1 : Int32) then fn_Thr_sure_L26 (fun _ _ => nI k.val) 0 (zt ng) (if (0 : Int32) < ((nI p.val) - (2 : Int32)) then ((nI p.val) - (2 : Int32)) else (0 : Int32)) else fn_Thr_sure_L26 (fun _ _ => nI k.val) 0 (zt ng) (nI p.val)) = nI (zg_sure k.val p.val far.val ng) := by decide +kernel
theorem zg_land_P : ∀ c : Fin 24, ∀ off : Fin 16, (fn_Thr_cellAway_L29 (fun _ _ => 0) (nI c.val + nI off.val) = nI (zg_land c.val 1 off.val)) ∧ fn_Thr_cellAway_L29 (fun _ _ => 0) (nI c.val - nI off.val) = nI (zg_land c.val 0 off.val) := by decide +kernel
theorem zg_land_M : ∀ c : Fin 24, ∀ off : Fin 16, (fn_Mod_landing_L59 (fun _ _ => 0) (nI c.val + nI off.val) = some (nI (zg_land c.val 1 off.val))) ∧ fn_Mod_landing_L59 (fun _ _ => 0) (nI c.val - nI off.val) = some (nI (zg_land c.val 0 off.val)) := by decide +kernel
def zg_plain (S : Nat → Int32) (t far : Nat) : Nat := if far = 1 then zF S t 3 else zF S t 2
def zR_each (S : Nat → Int32) (t far : Nat) (ng : Bool) : Nat := zg_reach (zF S t 0) (zg_plain S t far) far ng
def zR_sure (S : Nat → Int32) (t far : Nat) (ng : Bool) : Nat := zg_sure (zF S t 0) (zF S t 5) far ng
def zR_told (S : Nat → Int32) (t far : Nat) (ng : Bool) : Nat := zg_land (zF S t 1) (zF S t 4) (zR_each S t far ng)
def zR_short (S : Nat → Int32) (t far : Nat) (ng : Bool) : Nat := zg_land (zF S t 1) (zF S t 4) (zR_each S t far ng - 1)
theorem zg_plain_b {S : Nat → Int32} (h : zI_WF S) {t far : Nat} (ht : t < zN S 1) : 1 ≤ zg_plain S t far ∧ zg_plain S t far ≤ 12 := by
  have a := zF_all h ht
  unfold zg_plain
  split <;> omega
theorem zR_each_le {S : Nat → Int32} (h : zI_WF S) {t far : Nat} {ng : Bool} (ht : t < zN S 1) (hf : far < 2) : zR_each S t far ng ≤ 15 := zg_reach_le (zg_plain_b h ht).2 hf
theorem zR_sure_le {S : Nat → Int32} (h : zI_WF S) {t far : Nat} {ng : Bool} (ht : t < zN S 1) : zR_sure S t far ng ≤ 12 := zg_sure_le (zF_all h ht).2.2.2.2.2.2.2.1
theorem zR_told_le {S : Nat → Int32} (h : zI_WF S) {t far : Nat} {ng : Bool} (ht : t < zN S 1) : zR_told S t far ng ≤ 23 := zg_land_le (zF_all h ht).2.2.2.1
theorem zR_short_le {S : Nat → Int32} (h : zI_WF S) {t far : Nat} {ng : Bool} (ht : t < zN S 1) : zR_short S t far ng ≤ 23 := zg_land_le (zF_all h ht).2.2.2.1
/-- a thrower's facts, as the class holds them -/
theorem zf_P {X : IX} {S : Nat → Int32} {o r : Nat} (hr : r = 20 + o) (hL : zI_LI X o S) (h : zI_WF S) {t f : Nat} (ht : t < zN S 1) (hf : f < 9) : X (zu_th (r + 6) t + 30) f = nI (zF S t f) := by
  have a := zF_all h ht
  rw [zL_fact hr hL a.1 hf, a.2.1 f hf]
theorem ze_reach {X : IX} {S : Nat → Int32} {o r : Nat} (hr : r = 20 + o) (hL : zI_LI X o S) (h : zI_WF S) {t far : Nat} {ng : Bool} (ht : t < zN S 1) (hf : far < 2) : fn_Thr_reach X (zu_th (r + 6) t) (nI far) (zt ng) = nI (zR_each S t far ng) := by
  have a := zF_all h ht
  have f0 := zf_P hr hL h ht (f := 0) (by omega)
  have f2 := zf_P hr hL h ht (f := 2) (by omega)
  have f3 := zf_P hr hL h ht (f := 3) (by omega)
  have b := zg_plain_b h (far := far) ht
  have q := zg_reach_P ⟨zF S t 0, by omega⟩ ⟨zg_plain S t far - 1, by omega⟩ ⟨far, hf⟩ ng
  simp only [Nat.sub_add_cancel b.1] at q
  have e : ∀ y, fn_Thr_reach_L20 X (zu_th (r + 6) t) (nI far) (zt ng) y = fn_Thr_reach_L20 (fun _ _ => nI (zF S t 0)) 0 (nI far) (zt ng) y := by
    intro y
    unfold fn_Thr_reach_L20
    rw [f0]
    rfl
  unfold fn_Thr_reach
  rw [e, e, f2, f3]
  unfold zR_each
  rw [← q]
  unfold zg_plain
  rcases (show far = 0 ∨ far = 1 by omega) with rfl | rfl
  · rfl
  · rfl
theorem ze_sure {X : IX} {S : Nat → Int32} {o r : Nat} (hr : r = 20 + o) (hL : zI_LI X o S) (h : zI_WF S) {t far : Nat} {ng : Bool} (ht : t < zN S 1) (hf : far < 2) : fn_Thr_sure X (zu_th (r + 6) t) (nI far) (zt ng) = nI (zR_sure S t far ng) := by
  have a := zF_all h ht
  have f0 := zf_P hr hL h ht (f := 0) (by omega)
  have f5 := zf_P hr hL h ht (f := 5) (by omega)
  have q := zg_sure_P ⟨zF S t 0, by omega⟩ ⟨zF S t 5, by omega⟩ ⟨far, hf⟩ ng
  have e : ∀ y, fn_Thr_sure_L26 X (zu_th (r + 6) t) (zt ng) y = fn_Thr_sure_L26 (fun _ _ => nI (zF S t 0)) 0 (zt ng) y := by
    intro y
    unfold fn_Thr_sure_L26
    rw [f0]
    rfl
  unfold fn_Thr_sure
  rw [zp_nx, e, e, f5]
  exact q
theorem ze_away {X : IX} {S : Nat → Int32} {o r : Nat} (hr : r = 20 + o) (hL : zI_LI X o S) (h : zI_WF S) {t off : Nat} (ht : t < zN S 1) (hf : off < 16) : fn_Thr_cellAway X (zu_th (r + 6) t) (nI off) = nI (zg_land (zF S t 1) (zF S t 4) off) := by
  have a := zF_all h ht
  have f1 := zf_P hr hL h ht (f := 1) (by omega)
  have f4 := zf_P hr hL h ht (f := 4) (by omega)
  have q := zg_land_P ⟨zF S t 1, by omega⟩ ⟨off, hf⟩
  unfold fn_Thr_cellAway
  rw [f1, f4]
  rcases (show zF S t 4 = 0 ∨ zF S t 4 = 1 by omega) with e | e
  · rw [e, if_neg (by decide)]; exact q.2
  · rw [e, if_pos (by decide)]; exact q.1
theorem ze_pred0 {n : Nat} (hn : n < 16) : (if (0 : Int32) < (nI n - (1 : Int32)) then (nI n - (1 : Int32)) else (0 : Int32)) = nI (n - 1) := by
  have key : ∀ n : Fin 16, (if (0 : Int32) < (nI n.val - (1 : Int32)) then (nI n.val - (1 : Int32)) else (0 : Int32)) = nI (n.val - 1) := by decide +kernel
  exact key ⟨n, hn⟩
theorem ze_told {X : IX} {S : Nat → Int32} {o r : Nat} (hr : r = 20 + o) (hL : zI_LI X o S) (h : zI_WF S) {t far : Nat} {ng : Bool} (ht : t < zN S 1) (hf : far < 2) : fn_Thr_toldCell X (zu_th (r + 6) t) (nI far) (zt ng) = nI (zR_told S t far ng) := by
  have b := zR_each_le h (ng := ng) ht hf
  unfold fn_Thr_toldCell
  rw [zp_nx, zp_nx, ze_reach hr hL h ht hf, ze_away hr hL h ht (by omega)]
  rfl
theorem ze_short {X : IX} {S : Nat → Int32} {o r : Nat} (hr : r = 20 + o) (hL : zI_LI X o S) (h : zI_WF S) {t far : Nat} {ng : Bool} (ht : t < zN S 1) (hf : far < 2) : fn_Thr_shortCell X (zu_th (r + 6) t) (nI far) (zt ng) = nI (zR_short S t far ng) := by
  have b := zR_each_le h (ng := ng) ht hf
  unfold fn_Thr_shortCell
  rw [zp_nx, zp_nx, zp_nx, ze_reach hr hL h ht hf, ze_pred0 (by omega), ze_away hr hL h ht (by omega)]
  rfl
/-! the same in the reference -/
theorem zf_M {X : IX} {S : Nat → Int32} (e : X 96 = S) (h : zI_WF S) {t f : Nat} (ht : t < zN S 1) (hf : f < 9) : fn_Mod_its X (nI t) (nI f) = some (nI (zF S t f)) := by
  have a := zF_all h ht
  rw [ze_its a.1 hf, e, a.2.1 f hf]
theorem zg_reach_M : ∀ k : Fin 7, ∀ p : Fin 12, ∀ far : Fin 2, ∀ ng : Bool, (if nI k.val = (1 : Int32) then some (nI (p.val + 1) + (1 : Int32)) else if nI k.val = (2 : Int32) then some (nI (p.val + 1)) else if nI k.val = (3 : Int32) then some ((nI (p.val + 1) + (1 : Int32)) + ((2 : Int32) * nI far.val)) else if nI k.val = (4 : Int32) then some (nI (p.val + 1)) else if nI k.val = (5 : Int32) then (if zt ng = 0 then some (nI (p.val + 1)) else some (nI (p.val + 1) - (1 : Int32))) else if nI k.val = (6 : Int32) then some (nI (p.val + 1) / (2 : Int32)) else some (nI (p.val + 1))) = some (nI (zg_reach k.val (p.val + 1) far.val ng)) := by decide +kernel
theorem zm_reach {X : IX} {S : Nat → Int32} (e : X 96 = S) (h : zI_WF S) {t far c : Nat} (ht : t < zN S 1) (hf : far < 2) (hc : c < 24) : fn_Mod_reach X (nI t) (nI far) (nI c) = some (nI (zR_each S t far (zg_night c))) := by
  have a := zF_all h ht
  have f0 : fn_Mod_its X (nI t) (0 : Int32) = _ := zf_M e h ht (f := 0) (by omega)
  have f2 : fn_Mod_its X (nI t) (2 : Int32) = _ := zf_M e h ht (f := 2) (by omega)
  have f3 : fn_Mod_its X (nI t) (3 : Int32) = _ := zf_M e h ht (f := 3) (by omega)
  have b := zg_plain_b h (far := far) ht
  have q := zg_reach_M ⟨zF S t 0, by omega⟩ ⟨zg_plain S t far - 1, by omega⟩ ⟨far, hf⟩ (zg_night c)
  simp only [Nat.sub_add_cancel b.1] at q
  have e : fn_Mod_reach_L20 X (nI t) (nI far) (nI c) (nI (zg_plain S t far)) = some (nI (zR_each S t far (zg_night c))) := by
    unfold fn_Mod_reach_L20 fn_Mod_reach_L104 fn_Mod_reach_L98
    rw [f0, zp_b1, ze_mnight hc, zp_b1]
    exact q
  unfold fn_Mod_reach
  rw [← e, f2, f3, zp_b1, zp_b1]
  unfold zg_plain
  rcases (show far = 0 ∨ far = 1 by omega) with rfl | rfl
  · rfl
  · rfl
theorem zg_sure_M : ∀ k : Fin 7, ∀ p : Fin 13, ∀ far : Fin 2, ∀ ng : Bool, (if nI k.val = (2 : Int32) then some (fn_Mod_least0 (fn_Mod_least0 (nI p.val - ((2 : Int32) * nI far.val)) - (3 : Int32))) else if nI k.val = (3 : Int32) then some (fn_Mod_least0 (nI p.val - ((2 : Int32) * nI far.val))) else if nI k.val = (4 : Int32) then (if zt ng = 0 then some (fn_Mod_least0 (fn_Mod_least0 (nI p.val - ((2 : Int32) * nI far.val)) - (3 : Int32))) else some (0 : Int32)) else if nI k.val = (5 : Int32) then some (fn_Mod_least0 (nI p.val - ((2 : Int32) * nI far.val))) else if nI k.val = (6 : Int32) then some (12 : Int32) else some (fn_Mod_least0 (nI p.val - ((2 : Int32) * nI far.val)))) = some (nI (zg_sure k.val p.val far.val ng)) := by decide +kernel
theorem zm_sure {X : IX} {S : Nat → Int32} (e : X 96 = S) (h : zI_WF S) {t far c : Nat} (ht : t < zN S 1) (hf : far < 2) (hc : c < 24) : fn_Mod_sure X (nI t) (nI far) (nI c) = some (nI (zR_sure S t far (zg_night c))) := by
  have a := zF_all h ht
  have f0 : fn_Mod_its X (nI t) (0 : Int32) = _ := zf_M e h ht (f := 0) (by omega)
  have f5 : fn_Mod_its X (nI t) (5 : Int32) = _ := zf_M e h ht (f := 5) (by omega)
  have q := zg_sure_M ⟨zF S t 0, by omega⟩ ⟨zF S t 5, by omega⟩ ⟨far, hf⟩ (zg_night c)
  unfold fn_Mod_sure fn_Mod_sure_L86 fn_Mod_sure_L82
  rw [f5, zp_b1, zp_nx, f0, zp_b1, ze_mnight hc, zp_b1]
  exact q
theorem zm_landing {X : IX} {S : Nat → Int32} (e : X 96 = S) (h : zI_WF S) {t far c : Nat} (sh : Bool) (ht : t < zN S 1) (hf : far < 2) (hc : c < 24) {a4 : Int32} (ha : a4 = 0 ↔ sh = false) : fn_Mod_landing X (nI t) (nI far) (nI c) a4 = some (nI (if sh = true then zR_short S t far (zg_night c) else zR_told S t far (zg_night c))) := by
  have a := zF_all h ht
  have b := zR_each_le h (ng := zg_night c) ht hf
  have f1 : fn_Mod_its X (nI t) (1 : Int32) = _ := zf_M e h ht (f := 1) (by omega)
  have f4 : fn_Mod_its X (nI t) (4 : Int32) = _ := zf_M e h ht (f := 4) (by omega)
  have key : ∀ off, off < 16 → fn_Mod_landing_L26 X (nI t) (nI off) = some (nI (zg_land (zF S t 1) (zF S t 4) off)) := by
    intro off ho
    have q := zg_land_M ⟨zF S t 1, by omega⟩ ⟨off, ho⟩
    unfold fn_Mod_landing_L26
    rw [f4, f1, zp_b1, zp_b1, zp_b1]
    rcases (show zF S t 4 = 0 ∨ zF S t 4 = 1 by omega) with e | e
    · rw [e, if_neg (by decide)]; exact q.2
    · rw [e, if_pos (by decide)]; exact q.1
  have k2 : ∀ n : Fin 16, fn_Mod_least0 (nI n.val - (1 : Int32)) = nI (n.val - 1) := by decide +kernel
  unfold fn_Mod_landing
  rw [zm_reach e h ht hf hc, zp_b1, zp_nx, k2 ⟨_, by omega⟩, key _ (by omega), key _ (by omega)]
  cases sh with
  | false => rw [if_pos (ha.mpr rfl)]; rfl
  | true => rw [if_neg (fun q => by have := ha.mp q; cases this)]; rfl
