/-! ends: answers, exceptions, what is caught -/
def pm_rok (i : Instr) (rt : Option FieldType) (v : Option Value) : Prop := (i = .ireturn ∧ ∃ x : Int32, v = some (.int x) ∧ (rt = some .int ∨ (rt = some .boolean ∧ (x = 0 ∨ x = 1)))) ∨ (i = .lreturn ∧ ∃ x : Int64, v = some (.long x) ∧ rt = some .long) ∨ (i = .return_ ∧ v = none ∧ rt = none)
def pm_endR (p : Program) (l : Launch) (e : Env) (Rm : Room) (s : State) (m : MethodId) (args : Array Value) (below : List Frame) (meth : Method) (c : Code) (k base : Nat) (D : va_G) (cy : Nat → ClassId) (ad : Nat → Nat) (L : Nat) (xs : Nat → Int32) (Z : State → Prop) (Q : pm_R → pm_H → Prop) : Prop :=
  ∀ (i : Instr) (v : Option Value) (h : pm_H) (H : Heap) (locs : List Loc) (ls : Array Slot) (pc c0 z0 : Nat), decode (pm_by k) pc = .ok (i, 1) → pm_rok i (pm_rt k) v → Q (.inl v) h → pm_rel base D cy ad L xs h H → va_S (pm_A base) s.heap H locs → c0 ≤ pm_mc k → z0 ≤ pm_ms k → W p l e Rm s m args below meth c H locs c0 z0 Z (F0 m pc ls ((v.map (pm_tv ad)).toList))
def pm_endT (p : Program) (l : Launch) (e : Env) (Rm : Room) (s : State) (m : MethodId) (args : Array Value) (below : List Frame) (meth : Method) (c : Code) (k base : Nat) (D : va_G) (cy : Nat → ClassId) (ad : Nat → Nat) (L : Nat) (xs : Nat → Int32) (Z : State → Prop) (Q : pm_R → pm_H → Prop) : Prop :=
  ∀ (w x len p0 j ic wd : Nat) (v : Int32) (fz : Bool) (n : Nat) (sh : Nat → Nat × Nat) (I : Nat → Nat → Int32) (J : Nat → Nat → Int64) (R : Nat → Nat → Option Nat) (H : Heap) (locs : List Loc) (ls : Array Slot) (st : List Value) (pc c0 z0 : Nat), pm_tab k pc = some (.new w, len, [1, x, p0, j, ic, wd], v) → Q (.inr x) (true, n, sh, I, J, R) → pm_rel base D cy ad L xs (fz, n, sh, I, J, R) H → va_S (pm_A base) s.heap H locs → ls.size = pm_ml k → c0 + 1 ≤ pm_mc k → z0 + 6 ≤ pm_ms k → pm_cat st ≤ 8 → W p l e Rm s m args below meth c H locs c0 z0 Z (F0 m pc ls (st.map (pm_tv ad)))
section Ends
variable {p : Program} {l : Launch} {e : Env} {Rm : Room} {s : State} {m : MethodId} {args : Array Value} {below : List Frame} {meth : Method} {c : Code}
variable {base : Nat} {D : va_G} {cy : Nat → ClassId} {sad sav : Nat → Nat} {b L : Nat} {xs : Nat → Int32} {k d : Nat} {Z : State → Prop} {E : pm_E} {Q : pm_R → pm_H → Prop}
variable {pc len : Nat} {lv : pm_L} {st : List Value} {fz : Bool} {n : Nat} {sh : Nat → Nat × Nat} {I : Nat → Nat → Int32} {J : Nat → Nat → Int64} {R : Nat → Nat → Option Nat} {c0 z0 : Nat} {ts : List Nat} {v : Int32}
theorem pm_ret_spec {P : Prop} (h : pm_ret k c0 z0 P) : c0 ≤ pm_mc k ∧ z0 ≤ pm_ms k ∧ P := by
  unfold pm_ret at h
  cases hb : Nat.ble c0 (pm_mc k) && Nat.ble z0 (pm_ms k) with
  | false => rw [hb] at h; exact h.elim
  | true =>
    rw [hb] at h
    simp only [Bool.and_eq_true] at hb
    exact ⟨Nat.le_of_ble_eq_true hb.1, Nat.le_of_ble_eq_true hb.2, h⟩
theorem pm_s_ireturn (C : pm_cx p l Rm s m args meth c k d base D cy sad sav b L xs) (hE : pm_endR p l e Rm s m args below meth c k base D cy (pm_ad base sad b) L xs Z Q) (ht : pm_tab k pc = some (.ireturn, len, ts, v)) (h : pm_sem E k .ireturn len ts v (pc, lv, st, (fz, n, sh, I, J, R), c0, z0) (pm_gd p l e Rm s m args below meth c k base D cy (pm_ad base sad b) L xs Z) Q) : pm_gd p l e Rm s m args below meth c k base D cy (pm_ad base sad b) L xs Z (pc, lv, st, (fz, n, sh, I, J, R), c0, z0) := by
  obtain ⟨hx, hb, hml, hown, hts, hnm, hC, hRm, hk, hst, hlk, htb, hrt⟩ := C
  obtain ⟨hd, hln, hci⟩ := pm_tab_spec hk ht
  have hlen : len = 1 := by simpa [pm_ln] using hln
  subst hlen
  intro H locs ls hrel hex hS hl
  simp only [pm_sem] at h
  split at h
  · rename_i x
    simp only [pm_ci, decide_eq_true_eq] at hci
    obtain ⟨h1, h2, h3⟩ := pm_ret_spec h
    exact hE .ireturn (some (.int x)) _ H locs ls pc c0 z0 hd (Or.inl ⟨rfl, x, rfl, Or.inl hci⟩) h3 hrel hS h1 h2
  · rename_i x
    simp only [pm_ci, decide_eq_true_eq] at hci
    obtain ⟨h1, h2, h3⟩ := pm_ret_spec h.2
    exact hE .ireturn (some (.int x)) _ H locs ls pc c0 z0 hd (Or.inl ⟨rfl, x, rfl, Or.inr ⟨hci, h.1⟩⟩) h3 hrel hS h1 h2
  · exact h.elim
theorem pm_s_lreturn (C : pm_cx p l Rm s m args meth c k d base D cy sad sav b L xs) (hE : pm_endR p l e Rm s m args below meth c k base D cy (pm_ad base sad b) L xs Z Q) (ht : pm_tab k pc = some (.lreturn, len, ts, v)) (h : pm_sem E k .lreturn len ts v (pc, lv, st, (fz, n, sh, I, J, R), c0, z0) (pm_gd p l e Rm s m args below meth c k base D cy (pm_ad base sad b) L xs Z) Q) : pm_gd p l e Rm s m args below meth c k base D cy (pm_ad base sad b) L xs Z (pc, lv, st, (fz, n, sh, I, J, R), c0, z0) := by
  obtain ⟨hx, hb, hml, hown, hts, hnm, hC, hRm, hk, hst, hlk, htb, hrt⟩ := C
  obtain ⟨hd, hln, hci⟩ := pm_tab_spec hk ht
  have hlen : len = 1 := by simpa [pm_ln] using hln
  subst hlen
  intro H locs ls hrel hex hS hl
  simp only [pm_sem] at h
  split at h
  · rename_i x
    simp only [pm_ci, decide_eq_true_eq] at hci
    obtain ⟨h1, h2, h3⟩ := pm_ret_spec h
    exact hE .lreturn (some (.long x)) _ H locs ls pc c0 z0 hd (Or.inr (Or.inl ⟨rfl, x, rfl, hci⟩)) h3 hrel hS h1 h2
  · exact h.elim
theorem pm_s_return (C : pm_cx p l Rm s m args meth c k d base D cy sad sav b L xs) (hE : pm_endR p l e Rm s m args below meth c k base D cy (pm_ad base sad b) L xs Z Q) (ht : pm_tab k pc = some (.return_, len, ts, v)) (h : pm_sem E k .return_ len ts v (pc, lv, st, (fz, n, sh, I, J, R), c0, z0) (pm_gd p l e Rm s m args below meth c k base D cy (pm_ad base sad b) L xs Z) Q) : pm_gd p l e Rm s m args below meth c k base D cy (pm_ad base sad b) L xs Z (pc, lv, st, (fz, n, sh, I, J, R), c0, z0) := by
  obtain ⟨hx, hb, hml, hown, hts, hnm, hC, hRm, hk, hst, hlk, htb, hrt⟩ := C
  obtain ⟨hd, hln, hci⟩ := pm_tab_spec hk ht
  have hlen : len = 1 := by simpa [pm_ln] using hln
  subst hlen
  intro H locs ls hrel hex hS hl
  simp only [pm_sem] at h
  split at h
  · simp only [pm_ci, decide_eq_true_eq] at hci
    obtain ⟨h1, h2, h3⟩ := pm_ret_spec h
    exact hE .return_ none _ H locs ls pc c0 z0 hd (Or.inr (Or.inr ⟨rfl, rfl, hci⟩)) h3 hrel hS h1 h2
  · exact h.elim
/-- the ends of a method that is called -/
theorem pm_endR_ok (C : pm_cx p l Rm s m args meth c k d base D cy sad sav b L xs) : pm_endR p l e Rm s m args below meth c k base D cy (pm_ad base sad b) L xs (vx_MQ below (pm_Qc base D cy (pm_ad base sad b) L xs Q) (pm_XC base D cy (pm_ad base sad b) L xs Q) args s (pm_mc k) (pm_ms k) (pm_A base)) Q := by
  obtain ⟨hx, hb, hml, hown, hts, hnm, hC, hRm, hk, hst, hlk, htb, hrt⟩ := C
  intro i v h H locs ls pc c0 z0 hd hr hq hrel hS h1 h2
  refine W.widen (k := pm_mc k) (n := pm_ms k) h1 h2 ?_
  rcases hr with ⟨rfl, x, rfl, q | ⟨q, qx⟩⟩ | ⟨rfl, x, rfl, q⟩ | ⟨rfl, rfl, q⟩
  · exact vx_ret (W.iret hx hb (hrt.trans q) (fun t ht hW => ⟨⟨some (.int x), h, rfl, hq, by rw [ht]; exact hrel⟩, hS.F ht⟩) hS.2.2 hd hlk)
  · exact vx_ret (W.zret hx hb (hrt.trans q) (by rcases qx with rfl | rfl <;> rfl) (fun t ht hW => ⟨⟨some (.int x), h, rfl, hq, by rw [ht]; exact hrel⟩, hS.F ht⟩) hS.2.2 hd hlk)
  · exact vx_ret (W.lret hx hb (hrt.trans q) (fun t ht hW => ⟨⟨some (.long x), h, rfl, hq, by rw [ht]; exact hrel⟩, hS.F ht⟩) hS.2.2 hd hlk)
  · exact vx_ret (W.vret hx hb (hrt.trans q) (fun t ht hW => ⟨⟨none, h, rfl, hq, by rw [ht]; exact hrel⟩, hS.F ht⟩) hS.2.2 hd hlk)
theorem pm_endX_ok (C : pm_cx p l Rm s m args meth c k d base D cy sad sav b L xs) (hk' : k < 318) : pm_endX p l e Rm s m args below meth c k base D cy (pm_ad base sad b) L xs (vx_MQ below (pm_Qc base D cy (pm_ad base sad b) L xs Q) (pm_XC base D cy (pm_ad base sad b) L xs Q) args s (pm_mc k) (pm_ms k) (pm_A base)) Q := by
  obtain ⟨hx, hb, hml, hown, hts, hnm, hC, hRm, hk, hst, hlk, htb, hrt⟩ := C
  intro hhe x h' H1 locs1 ls rest pc c1 z1 q ce hq hrel hS hce hcv hcl h1 h2
  refine vx_out (fun z hz => ?_) hlk hce hcv hcl (fun t ht hW => ⟨⟨x, h', rfl, hq, by rw [ht]; exact hrel⟩, hS.F ht⟩) hS.2.2 h1 h2
  rw [htb hk', hhe] at hz
  cases hz
end Ends
