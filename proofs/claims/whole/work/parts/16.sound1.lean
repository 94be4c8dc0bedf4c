/-! an instruction of the small machine, kept by the great one; written by wip/whole/gen_sound.py -/
section Sound1
variable {p : Program} {l : Launch} {e : Env} {Rm : Room} {s : State} {m : MethodId} {args : Array Value} {below : List Frame} {meth : Method} {c : Code}
variable {base : Nat} {D : va_G} {cy : Nat → ClassId} {sad sav : Nat → Nat} {b L : Nat} {xs : Nat → Int32} {k d : Nat} {Z : State → Prop} {E : pm_E} {Q : pm_R → pm_H → Prop}
variable {pc len : Nat} {lv : pm_L} {st : List Value} {fz : Bool} {n : Nat} {sh : Nat → Nat × Nat} {I : Nat → Nat → Int32} {J : Nat → Nat → Int64} {R : Nat → Nat → Option Nat} {c0 z0 : Nat} {ts : List Nat} {v : Int32}

theorem pm_s_iconst (C : pm_cx p l Rm s m args meth c k d base D cy sad sav b L xs) {w : Int} (ht : pm_tab k pc = some (.iconst w, len, ts, v)) (h : pm_sem E k (.iconst w) len ts v (pc, lv, st, (fz, n, sh, I, J, R), c0, z0) (pm_gd p l e Rm s m args below meth c k base D cy (pm_ad base sad b) L xs Z) Q) : pm_gd p l e Rm s m args below meth c k base D cy (pm_ad base sad b) L xs Z (pc, lv, st, (fz, n, sh, I, J, R), c0, z0) := by
  obtain ⟨hx, hb, hml, hown, hts, hnm, hC, hRm, hk, hst, hlk, htb, hrt⟩ := C
  obtain ⟨hd, hln, hci⟩ := pm_tab_spec hk ht
  have hlen : len = 1 := by simpa [pm_ln] using hln
  subst hlen
  intro H locs ls hrel hex hS hl
  simp only [pm_ci, decide_eq_true_eq] at hci
  exact lv_iconst hx hb hd hci (h H locs ls hrel hex hS hl)
theorem pm_s_bipush (C : pm_cx p l Rm s m args meth c k d base D cy sad sav b L xs) {w : Int} (ht : pm_tab k pc = some (.bipush w, len, ts, v)) (h : pm_sem E k (.bipush w) len ts v (pc, lv, st, (fz, n, sh, I, J, R), c0, z0) (pm_gd p l e Rm s m args below meth c k base D cy (pm_ad base sad b) L xs Z) Q) : pm_gd p l e Rm s m args below meth c k base D cy (pm_ad base sad b) L xs Z (pc, lv, st, (fz, n, sh, I, J, R), c0, z0) := by
  obtain ⟨hx, hb, hml, hown, hts, hnm, hC, hRm, hk, hst, hlk, htb, hrt⟩ := C
  obtain ⟨hd, hln, hci⟩ := pm_tab_spec hk ht
  have hlen : len = 2 := by simpa [pm_ln] using hln
  subst hlen
  intro H locs ls hrel hex hS hl
  simp only [pm_ci, decide_eq_true_eq] at hci
  exact lv_bipush hx hb hd hci (h H locs ls hrel hex hS hl)
theorem pm_s_sipush (C : pm_cx p l Rm s m args meth c k d base D cy sad sav b L xs) {w : Int} (ht : pm_tab k pc = some (.sipush w, len, ts, v)) (h : pm_sem E k (.sipush w) len ts v (pc, lv, st, (fz, n, sh, I, J, R), c0, z0) (pm_gd p l e Rm s m args below meth c k base D cy (pm_ad base sad b) L xs Z) Q) : pm_gd p l e Rm s m args below meth c k base D cy (pm_ad base sad b) L xs Z (pc, lv, st, (fz, n, sh, I, J, R), c0, z0) := by
  obtain ⟨hx, hb, hml, hown, hts, hnm, hC, hRm, hk, hst, hlk, htb, hrt⟩ := C
  obtain ⟨hd, hln, hci⟩ := pm_tab_spec hk ht
  have hlen : len = 3 := by simpa [pm_ln] using hln
  subst hlen
  intro H locs ls hrel hex hS hl
  simp only [pm_ci, decide_eq_true_eq] at hci
  exact lv_sipush hx hb hd hci (h H locs ls hrel hex hS hl)
theorem pm_s_lconst (C : pm_cx p l Rm s m args meth c k d base D cy sad sav b L xs) {w : Fin 2} (ht : pm_tab k pc = some (.lconst w, len, ts, v)) (h : pm_sem E k (.lconst w) len ts v (pc, lv, st, (fz, n, sh, I, J, R), c0, z0) (pm_gd p l e Rm s m args below meth c k base D cy (pm_ad base sad b) L xs Z) Q) : pm_gd p l e Rm s m args below meth c k base D cy (pm_ad base sad b) L xs Z (pc, lv, st, (fz, n, sh, I, J, R), c0, z0) := by
  obtain ⟨hx, hb, hml, hown, hts, hnm, hC, hRm, hk, hst, hlk, htb, hrt⟩ := C
  obtain ⟨hd, hln, hci⟩ := pm_tab_spec hk ht
  have hlen : len = 1 := by simpa [pm_ln] using hln
  subst hlen
  intro H locs ls hrel hex hS hl
  exact lv_lconst hx hb hd rfl (h H locs ls hrel hex hS hl)
theorem pm_s_iload (C : pm_cx p l Rm s m args meth c k d base D cy sad sav b L xs) {j : Nat} (ht : pm_tab k pc = some (.iload j, len, ts, v)) (h : pm_sem E k (.iload j) len ts v (pc, lv, st, (fz, n, sh, I, J, R), c0, z0) (pm_gd p l e Rm s m args below meth c k base D cy (pm_ad base sad b) L xs Z) Q) : pm_gd p l e Rm s m args below meth c k base D cy (pm_ad base sad b) L xs Z (pc, lv, st, (fz, n, sh, I, J, R), c0, z0) := by
  obtain ⟨hx, hb, hml, hown, hts, hnm, hC, hRm, hk, hst, hlk, htb, hrt⟩ := C
  obtain ⟨hd, hln, hci⟩ := pm_tab_spec hk ht
  have hlen : len = 2 := by simpa [pm_ln] using hln
  subst hlen
  intro H locs ls hrel hex hS hl
  simp only [pm_sem] at h
  split at h
  · rename_i x hg
    have hv := pm_lv_get hl hg
    exact lv_iload hx hb hd hv (h H locs ls hrel hex hS hl)
  · exact h.elim
theorem pm_s_iload_n (C : pm_cx p l Rm s m args meth c k d base D cy sad sav b L xs) {j : Fin 4} (ht : pm_tab k pc = some (.iload_n j, len, ts, v)) (h : pm_sem E k (.iload_n j) len ts v (pc, lv, st, (fz, n, sh, I, J, R), c0, z0) (pm_gd p l e Rm s m args below meth c k base D cy (pm_ad base sad b) L xs Z) Q) : pm_gd p l e Rm s m args below meth c k base D cy (pm_ad base sad b) L xs Z (pc, lv, st, (fz, n, sh, I, J, R), c0, z0) := by
  obtain ⟨hx, hb, hml, hown, hts, hnm, hC, hRm, hk, hst, hlk, htb, hrt⟩ := C
  obtain ⟨hd, hln, hci⟩ := pm_tab_spec hk ht
  have hlen : len = 1 := by simpa [pm_ln] using hln
  subst hlen
  intro H locs ls hrel hex hS hl
  simp only [pm_sem] at h
  split at h
  · rename_i x hg
    have hv := pm_lv_get hl hg
    exact lv_iload_n hx hb hd rfl hv (h H locs ls hrel hex hS hl)
  · exact h.elim
theorem pm_s_lload (C : pm_cx p l Rm s m args meth c k d base D cy sad sav b L xs) {j : Nat} (ht : pm_tab k pc = some (.lload j, len, ts, v)) (h : pm_sem E k (.lload j) len ts v (pc, lv, st, (fz, n, sh, I, J, R), c0, z0) (pm_gd p l e Rm s m args below meth c k base D cy (pm_ad base sad b) L xs Z) Q) : pm_gd p l e Rm s m args below meth c k base D cy (pm_ad base sad b) L xs Z (pc, lv, st, (fz, n, sh, I, J, R), c0, z0) := by
  obtain ⟨hx, hb, hml, hown, hts, hnm, hC, hRm, hk, hst, hlk, htb, hrt⟩ := C
  obtain ⟨hd, hln, hci⟩ := pm_tab_spec hk ht
  have hlen : len = 2 := by simpa [pm_ln] using hln
  subst hlen
  intro H locs ls hrel hex hS hl
  simp only [pm_sem] at h
  split at h
  · rename_i x hg
    have hv := pm_lv_get hl hg
    exact lv_lload hx hb hd hv (h H locs ls hrel hex hS hl)
  · exact h.elim
theorem pm_s_lload_n (C : pm_cx p l Rm s m args meth c k d base D cy sad sav b L xs) {j : Fin 4} (ht : pm_tab k pc = some (.lload_n j, len, ts, v)) (h : pm_sem E k (.lload_n j) len ts v (pc, lv, st, (fz, n, sh, I, J, R), c0, z0) (pm_gd p l e Rm s m args below meth c k base D cy (pm_ad base sad b) L xs Z) Q) : pm_gd p l e Rm s m args below meth c k base D cy (pm_ad base sad b) L xs Z (pc, lv, st, (fz, n, sh, I, J, R), c0, z0) := by
  obtain ⟨hx, hb, hml, hown, hts, hnm, hC, hRm, hk, hst, hlk, htb, hrt⟩ := C
  obtain ⟨hd, hln, hci⟩ := pm_tab_spec hk ht
  have hlen : len = 1 := by simpa [pm_ln] using hln
  subst hlen
  intro H locs ls hrel hex hS hl
  simp only [pm_sem] at h
  split at h
  · rename_i x hg
    have hv := pm_lv_get hl hg
    exact lv_lload_n hx hb hd rfl hv (h H locs ls hrel hex hS hl)
  · exact h.elim
theorem pm_s_aload (C : pm_cx p l Rm s m args meth c k d base D cy sad sav b L xs) {j : Nat} (ht : pm_tab k pc = some (.aload j, len, ts, v)) (h : pm_sem E k (.aload j) len ts v (pc, lv, st, (fz, n, sh, I, J, R), c0, z0) (pm_gd p l e Rm s m args below meth c k base D cy (pm_ad base sad b) L xs Z) Q) : pm_gd p l e Rm s m args below meth c k base D cy (pm_ad base sad b) L xs Z (pc, lv, st, (fz, n, sh, I, J, R), c0, z0) := by
  obtain ⟨hx, hb, hml, hown, hts, hnm, hC, hRm, hk, hst, hlk, htb, hrt⟩ := C
  obtain ⟨hd, hln, hci⟩ := pm_tab_spec hk ht
  have hlen : len = 2 := by simpa [pm_ln] using hln
  subst hlen
  intro H locs ls hrel hex hS hl
  simp only [pm_sem] at h
  split at h
  · rename_i x hg
    have hv := pm_lv_get hl hg
    exact lv_aload hx hb hd hv (h H locs ls hrel hex hS hl)
  · exact h.elim
theorem pm_s_aload_n (C : pm_cx p l Rm s m args meth c k d base D cy sad sav b L xs) {j : Fin 4} (ht : pm_tab k pc = some (.aload_n j, len, ts, v)) (h : pm_sem E k (.aload_n j) len ts v (pc, lv, st, (fz, n, sh, I, J, R), c0, z0) (pm_gd p l e Rm s m args below meth c k base D cy (pm_ad base sad b) L xs Z) Q) : pm_gd p l e Rm s m args below meth c k base D cy (pm_ad base sad b) L xs Z (pc, lv, st, (fz, n, sh, I, J, R), c0, z0) := by
  obtain ⟨hx, hb, hml, hown, hts, hnm, hC, hRm, hk, hst, hlk, htb, hrt⟩ := C
  obtain ⟨hd, hln, hci⟩ := pm_tab_spec hk ht
  have hlen : len = 1 := by simpa [pm_ln] using hln
  subst hlen
  intro H locs ls hrel hex hS hl
  simp only [pm_sem] at h
  split at h
  · rename_i x hg
    have hv := pm_lv_get hl hg
    exact lv_aload_n hx hb hd rfl hv (h H locs ls hrel hex hS hl)
  · exact h.elim
theorem pm_s_istore (C : pm_cx p l Rm s m args meth c k d base D cy sad sav b L xs) {j : Nat} (ht : pm_tab k pc = some (.istore j, len, ts, v)) (h : pm_sem E k (.istore j) len ts v (pc, lv, st, (fz, n, sh, I, J, R), c0, z0) (pm_gd p l e Rm s m args below meth c k base D cy (pm_ad base sad b) L xs Z) Q) : pm_gd p l e Rm s m args below meth c k base D cy (pm_ad base sad b) L xs Z (pc, lv, st, (fz, n, sh, I, J, R), c0, z0) := by
  obtain ⟨hx, hb, hml, hown, hts, hnm, hC, hRm, hk, hst, hlk, htb, hrt⟩ := C
  obtain ⟨hd, hln, hci⟩ := pm_tab_spec hk ht
  have hlen : len = 2 := by simpa [pm_ln] using hln
  subst hlen
  intro H locs ls hrel hex hS hl
  simp only [pm_sem] at h
  split at h
  · rename_i x r
    exact lv_istore (nL := pm_ml k) hx hb hd hl (Nat.le_of_ble_eq_true hci) rfl (fun ls' hl' => h H locs ls' hrel hex hS (pm_lst1 (v := .int x) hl'))
  · exact h.elim
theorem pm_s_istore_n (C : pm_cx p l Rm s m args meth c k d base D cy sad sav b L xs) {j : Fin 4} (ht : pm_tab k pc = some (.istore_n j, len, ts, v)) (h : pm_sem E k (.istore_n j) len ts v (pc, lv, st, (fz, n, sh, I, J, R), c0, z0) (pm_gd p l e Rm s m args below meth c k base D cy (pm_ad base sad b) L xs Z) Q) : pm_gd p l e Rm s m args below meth c k base D cy (pm_ad base sad b) L xs Z (pc, lv, st, (fz, n, sh, I, J, R), c0, z0) := by
  obtain ⟨hx, hb, hml, hown, hts, hnm, hC, hRm, hk, hst, hlk, htb, hrt⟩ := C
  obtain ⟨hd, hln, hci⟩ := pm_tab_spec hk ht
  have hlen : len = 1 := by simpa [pm_ln] using hln
  subst hlen
  intro H locs ls hrel hex hS hl
  simp only [pm_sem] at h
  split at h
  · rename_i x r
    exact lv_istore_n (nL := pm_ml k) hx hb hd rfl hl (Nat.le_of_ble_eq_true hci) rfl (fun ls' hl' => h H locs ls' hrel hex hS (pm_lst1 (v := .int x) hl'))
  · exact h.elim
theorem pm_s_lstore (C : pm_cx p l Rm s m args meth c k d base D cy sad sav b L xs) {j : Nat} (ht : pm_tab k pc = some (.lstore j, len, ts, v)) (h : pm_sem E k (.lstore j) len ts v (pc, lv, st, (fz, n, sh, I, J, R), c0, z0) (pm_gd p l e Rm s m args below meth c k base D cy (pm_ad base sad b) L xs Z) Q) : pm_gd p l e Rm s m args below meth c k base D cy (pm_ad base sad b) L xs Z (pc, lv, st, (fz, n, sh, I, J, R), c0, z0) := by
  obtain ⟨hx, hb, hml, hown, hts, hnm, hC, hRm, hk, hst, hlk, htb, hrt⟩ := C
  obtain ⟨hd, hln, hci⟩ := pm_tab_spec hk ht
  have hlen : len = 2 := by simpa [pm_ln] using hln
  subst hlen
  intro H locs ls hrel hex hS hl
  simp only [pm_sem] at h
  split at h
  · rename_i x r
    exact lv_lstore (nL := pm_ml k) hx hb hd hl (Nat.le_of_ble_eq_true hci) rfl (fun ls' hl' => h H locs ls' hrel hex hS (pm_lst2 (v := .long x) hl'))
  · exact h.elim
theorem pm_s_lstore_n (C : pm_cx p l Rm s m args meth c k d base D cy sad sav b L xs) {j : Fin 4} (ht : pm_tab k pc = some (.lstore_n j, len, ts, v)) (h : pm_sem E k (.lstore_n j) len ts v (pc, lv, st, (fz, n, sh, I, J, R), c0, z0) (pm_gd p l e Rm s m args below meth c k base D cy (pm_ad base sad b) L xs Z) Q) : pm_gd p l e Rm s m args below meth c k base D cy (pm_ad base sad b) L xs Z (pc, lv, st, (fz, n, sh, I, J, R), c0, z0) := by
  obtain ⟨hx, hb, hml, hown, hts, hnm, hC, hRm, hk, hst, hlk, htb, hrt⟩ := C
  obtain ⟨hd, hln, hci⟩ := pm_tab_spec hk ht
  have hlen : len = 1 := by simpa [pm_ln] using hln
  subst hlen
  intro H locs ls hrel hex hS hl
  simp only [pm_sem] at h
  split at h
  · rename_i x r
    exact lv_lstore_n (nL := pm_ml k) hx hb hd rfl hl (Nat.le_of_ble_eq_true hci) rfl (fun ls' hl' => h H locs ls' hrel hex hS (pm_lst2 (v := .long x) hl'))
  · exact h.elim
theorem pm_s_astore (C : pm_cx p l Rm s m args meth c k d base D cy sad sav b L xs) {j : Nat} (ht : pm_tab k pc = some (.astore j, len, ts, v)) (h : pm_sem E k (.astore j) len ts v (pc, lv, st, (fz, n, sh, I, J, R), c0, z0) (pm_gd p l e Rm s m args below meth c k base D cy (pm_ad base sad b) L xs Z) Q) : pm_gd p l e Rm s m args below meth c k base D cy (pm_ad base sad b) L xs Z (pc, lv, st, (fz, n, sh, I, J, R), c0, z0) := by
  obtain ⟨hx, hb, hml, hown, hts, hnm, hC, hRm, hk, hst, hlk, htb, hrt⟩ := C
  obtain ⟨hd, hln, hci⟩ := pm_tab_spec hk ht
  have hlen : len = 2 := by simpa [pm_ln] using hln
  subst hlen
  intro H locs ls hrel hex hS hl
  simp only [pm_sem] at h
  split at h
  · rename_i x r
    exact lv_astore (nL := pm_ml k) hx hb hd hl (Nat.le_of_ble_eq_true hci) rfl (fun ls' hl' => h H locs ls' hrel hex hS (pm_lst1 (v := .ref x) hl'))
  · exact h.elim
theorem pm_s_astore_n (C : pm_cx p l Rm s m args meth c k d base D cy sad sav b L xs) {j : Fin 4} (ht : pm_tab k pc = some (.astore_n j, len, ts, v)) (h : pm_sem E k (.astore_n j) len ts v (pc, lv, st, (fz, n, sh, I, J, R), c0, z0) (pm_gd p l e Rm s m args below meth c k base D cy (pm_ad base sad b) L xs Z) Q) : pm_gd p l e Rm s m args below meth c k base D cy (pm_ad base sad b) L xs Z (pc, lv, st, (fz, n, sh, I, J, R), c0, z0) := by
  obtain ⟨hx, hb, hml, hown, hts, hnm, hC, hRm, hk, hst, hlk, htb, hrt⟩ := C
  obtain ⟨hd, hln, hci⟩ := pm_tab_spec hk ht
  have hlen : len = 1 := by simpa [pm_ln] using hln
  subst hlen
  intro H locs ls hrel hex hS hl
  simp only [pm_sem] at h
  split at h
  · rename_i x r
    exact lv_astore_n (nL := pm_ml k) hx hb hd rfl hl (Nat.le_of_ble_eq_true hci) rfl (fun ls' hl' => h H locs ls' hrel hex hS (pm_lst1 (v := .ref x) hl'))
  · exact h.elim
theorem pm_s_iinc (C : pm_cx p l Rm s m args meth c k d base D cy sad sav b L xs) {j : Nat} {w : Int} (ht : pm_tab k pc = some (.iinc j w, len, ts, v)) (h : pm_sem E k (.iinc j w) len ts v (pc, lv, st, (fz, n, sh, I, J, R), c0, z0) (pm_gd p l e Rm s m args below meth c k base D cy (pm_ad base sad b) L xs Z) Q) : pm_gd p l e Rm s m args below meth c k base D cy (pm_ad base sad b) L xs Z (pc, lv, st, (fz, n, sh, I, J, R), c0, z0) := by
  obtain ⟨hx, hb, hml, hown, hts, hnm, hC, hRm, hk, hst, hlk, htb, hrt⟩ := C
  obtain ⟨hd, hln, hci⟩ := pm_tab_spec hk ht
  have hlen : len = 3 := by simpa [pm_ln] using hln
  subst hlen
  intro H locs ls hrel hex hS hl
  simp only [pm_sem] at h
  split at h
  · rename_i x hg
    simp only [pm_ci, Bool.and_eq_true, decide_eq_true_eq] at hci
    have hm : (j, Value.int x) ∈ pm_lm (pm_ad base sad b) lv := List.mem_map.mpr ⟨(j, .int x), pm_get_mem hg, rfl⟩
    obtain ⟨q, hq⟩ := List.getElem?_of_mem hm
    exact lv_iinc (nL := pm_ml k) (k := q) (x := x) (v := x + v) hx hb hd hl hq (by rw [hci.2]) (Nat.le_of_ble_eq_true hci.1) rfl (fun ls' hl' => h H locs ls' hrel hex hS (pm_lst1 (v := .int (x + v)) hl'))
  · exact h.elim
theorem pm_s_iadd (C : pm_cx p l Rm s m args meth c k d base D cy sad sav b L xs) (ht : pm_tab k pc = some (.iadd, len, ts, v)) (h : pm_sem E k (.iadd) len ts v (pc, lv, st, (fz, n, sh, I, J, R), c0, z0) (pm_gd p l e Rm s m args below meth c k base D cy (pm_ad base sad b) L xs Z) Q) : pm_gd p l e Rm s m args below meth c k base D cy (pm_ad base sad b) L xs Z (pc, lv, st, (fz, n, sh, I, J, R), c0, z0) := by
  obtain ⟨hx, hb, hml, hown, hts, hnm, hC, hRm, hk, hst, hlk, htb, hrt⟩ := C
  obtain ⟨hd, hln, hci⟩ := pm_tab_spec hk ht
  have hlen : len = 1 := by simpa [pm_ln] using hln
  subst hlen
  intro H locs ls hrel hex hS hl
  simp only [pm_sem, pm_ii] at h
  split at h
  · exact lv_iadd hx hb hd (h H locs ls hrel hex hS hl)
  · exact h.elim
theorem pm_s_isub (C : pm_cx p l Rm s m args meth c k d base D cy sad sav b L xs) (ht : pm_tab k pc = some (.isub, len, ts, v)) (h : pm_sem E k (.isub) len ts v (pc, lv, st, (fz, n, sh, I, J, R), c0, z0) (pm_gd p l e Rm s m args below meth c k base D cy (pm_ad base sad b) L xs Z) Q) : pm_gd p l e Rm s m args below meth c k base D cy (pm_ad base sad b) L xs Z (pc, lv, st, (fz, n, sh, I, J, R), c0, z0) := by
  obtain ⟨hx, hb, hml, hown, hts, hnm, hC, hRm, hk, hst, hlk, htb, hrt⟩ := C
  obtain ⟨hd, hln, hci⟩ := pm_tab_spec hk ht
  have hlen : len = 1 := by simpa [pm_ln] using hln
  subst hlen
  intro H locs ls hrel hex hS hl
  simp only [pm_sem, pm_ii] at h
  split at h
  · exact lv_isub hx hb hd (h H locs ls hrel hex hS hl)
  · exact h.elim
theorem pm_s_imul (C : pm_cx p l Rm s m args meth c k d base D cy sad sav b L xs) (ht : pm_tab k pc = some (.imul, len, ts, v)) (h : pm_sem E k (.imul) len ts v (pc, lv, st, (fz, n, sh, I, J, R), c0, z0) (pm_gd p l e Rm s m args below meth c k base D cy (pm_ad base sad b) L xs Z) Q) : pm_gd p l e Rm s m args below meth c k base D cy (pm_ad base sad b) L xs Z (pc, lv, st, (fz, n, sh, I, J, R), c0, z0) := by
  obtain ⟨hx, hb, hml, hown, hts, hnm, hC, hRm, hk, hst, hlk, htb, hrt⟩ := C
  obtain ⟨hd, hln, hci⟩ := pm_tab_spec hk ht
  have hlen : len = 1 := by simpa [pm_ln] using hln
  subst hlen
  intro H locs ls hrel hex hS hl
  simp only [pm_sem, pm_ii] at h
  split at h
  · exact lv_imul hx hb hd (h H locs ls hrel hex hS hl)
  · exact h.elim
theorem pm_s_iand (C : pm_cx p l Rm s m args meth c k d base D cy sad sav b L xs) (ht : pm_tab k pc = some (.iand, len, ts, v)) (h : pm_sem E k (.iand) len ts v (pc, lv, st, (fz, n, sh, I, J, R), c0, z0) (pm_gd p l e Rm s m args below meth c k base D cy (pm_ad base sad b) L xs Z) Q) : pm_gd p l e Rm s m args below meth c k base D cy (pm_ad base sad b) L xs Z (pc, lv, st, (fz, n, sh, I, J, R), c0, z0) := by
  obtain ⟨hx, hb, hml, hown, hts, hnm, hC, hRm, hk, hst, hlk, htb, hrt⟩ := C
  obtain ⟨hd, hln, hci⟩ := pm_tab_spec hk ht
  have hlen : len = 1 := by simpa [pm_ln] using hln
  subst hlen
  intro H locs ls hrel hex hS hl
  simp only [pm_sem, pm_ii] at h
  split at h
  · exact lv_iand hx hb hd (h H locs ls hrel hex hS hl)
  · exact h.elim
theorem pm_s_ior (C : pm_cx p l Rm s m args meth c k d base D cy sad sav b L xs) (ht : pm_tab k pc = some (.ior, len, ts, v)) (h : pm_sem E k (.ior) len ts v (pc, lv, st, (fz, n, sh, I, J, R), c0, z0) (pm_gd p l e Rm s m args below meth c k base D cy (pm_ad base sad b) L xs Z) Q) : pm_gd p l e Rm s m args below meth c k base D cy (pm_ad base sad b) L xs Z (pc, lv, st, (fz, n, sh, I, J, R), c0, z0) := by
  obtain ⟨hx, hb, hml, hown, hts, hnm, hC, hRm, hk, hst, hlk, htb, hrt⟩ := C
  obtain ⟨hd, hln, hci⟩ := pm_tab_spec hk ht
  have hlen : len = 1 := by simpa [pm_ln] using hln
  subst hlen
  intro H locs ls hrel hex hS hl
  simp only [pm_sem, pm_ii] at h
  split at h
  · exact lv_ior hx hb hd (h H locs ls hrel hex hS hl)
  · exact h.elim
theorem pm_s_ixor (C : pm_cx p l Rm s m args meth c k d base D cy sad sav b L xs) (ht : pm_tab k pc = some (.ixor, len, ts, v)) (h : pm_sem E k (.ixor) len ts v (pc, lv, st, (fz, n, sh, I, J, R), c0, z0) (pm_gd p l e Rm s m args below meth c k base D cy (pm_ad base sad b) L xs Z) Q) : pm_gd p l e Rm s m args below meth c k base D cy (pm_ad base sad b) L xs Z (pc, lv, st, (fz, n, sh, I, J, R), c0, z0) := by
  obtain ⟨hx, hb, hml, hown, hts, hnm, hC, hRm, hk, hst, hlk, htb, hrt⟩ := C
  obtain ⟨hd, hln, hci⟩ := pm_tab_spec hk ht
  have hlen : len = 1 := by simpa [pm_ln] using hln
  subst hlen
  intro H locs ls hrel hex hS hl
  simp only [pm_sem, pm_ii] at h
  split at h
  · exact lv_ixor hx hb hd (h H locs ls hrel hex hS hl)
  · exact h.elim
theorem pm_s_ishl (C : pm_cx p l Rm s m args meth c k d base D cy sad sav b L xs) (ht : pm_tab k pc = some (.ishl, len, ts, v)) (h : pm_sem E k (.ishl) len ts v (pc, lv, st, (fz, n, sh, I, J, R), c0, z0) (pm_gd p l e Rm s m args below meth c k base D cy (pm_ad base sad b) L xs Z) Q) : pm_gd p l e Rm s m args below meth c k base D cy (pm_ad base sad b) L xs Z (pc, lv, st, (fz, n, sh, I, J, R), c0, z0) := by
  obtain ⟨hx, hb, hml, hown, hts, hnm, hC, hRm, hk, hst, hlk, htb, hrt⟩ := C
  obtain ⟨hd, hln, hci⟩ := pm_tab_spec hk ht
  have hlen : len = 1 := by simpa [pm_ln] using hln
  subst hlen
  intro H locs ls hrel hex hS hl
  simp only [pm_sem, pm_ii] at h
  split at h
  · exact lv_ishl hx hb hd (h H locs ls hrel hex hS hl)
  · exact h.elim
theorem pm_s_ishr (C : pm_cx p l Rm s m args meth c k d base D cy sad sav b L xs) (ht : pm_tab k pc = some (.ishr, len, ts, v)) (h : pm_sem E k (.ishr) len ts v (pc, lv, st, (fz, n, sh, I, J, R), c0, z0) (pm_gd p l e Rm s m args below meth c k base D cy (pm_ad base sad b) L xs Z) Q) : pm_gd p l e Rm s m args below meth c k base D cy (pm_ad base sad b) L xs Z (pc, lv, st, (fz, n, sh, I, J, R), c0, z0) := by
  obtain ⟨hx, hb, hml, hown, hts, hnm, hC, hRm, hk, hst, hlk, htb, hrt⟩ := C
  obtain ⟨hd, hln, hci⟩ := pm_tab_spec hk ht
  have hlen : len = 1 := by simpa [pm_ln] using hln
  subst hlen
  intro H locs ls hrel hex hS hl
  simp only [pm_sem, pm_ii] at h
  split at h
  · exact lv_ishr hx hb hd (h H locs ls hrel hex hS hl)
  · exact h.elim
theorem pm_s_iushr (C : pm_cx p l Rm s m args meth c k d base D cy sad sav b L xs) (ht : pm_tab k pc = some (.iushr, len, ts, v)) (h : pm_sem E k (.iushr) len ts v (pc, lv, st, (fz, n, sh, I, J, R), c0, z0) (pm_gd p l e Rm s m args below meth c k base D cy (pm_ad base sad b) L xs Z) Q) : pm_gd p l e Rm s m args below meth c k base D cy (pm_ad base sad b) L xs Z (pc, lv, st, (fz, n, sh, I, J, R), c0, z0) := by
  obtain ⟨hx, hb, hml, hown, hts, hnm, hC, hRm, hk, hst, hlk, htb, hrt⟩ := C
  obtain ⟨hd, hln, hci⟩ := pm_tab_spec hk ht
  have hlen : len = 1 := by simpa [pm_ln] using hln
  subst hlen
  intro H locs ls hrel hex hS hl
  simp only [pm_sem, pm_ii] at h
  split at h
  · exact lv_iushr hx hb hd rfl (h H locs ls hrel hex hS hl)
  · exact h.elim
theorem pm_s_lsub (C : pm_cx p l Rm s m args meth c k d base D cy sad sav b L xs) (ht : pm_tab k pc = some (.lsub, len, ts, v)) (h : pm_sem E k (.lsub) len ts v (pc, lv, st, (fz, n, sh, I, J, R), c0, z0) (pm_gd p l e Rm s m args below meth c k base D cy (pm_ad base sad b) L xs Z) Q) : pm_gd p l e Rm s m args below meth c k base D cy (pm_ad base sad b) L xs Z (pc, lv, st, (fz, n, sh, I, J, R), c0, z0) := by
  obtain ⟨hx, hb, hml, hown, hts, hnm, hC, hRm, hk, hst, hlk, htb, hrt⟩ := C
  obtain ⟨hd, hln, hci⟩ := pm_tab_spec hk ht
  have hlen : len = 1 := by simpa [pm_ln] using hln
  subst hlen
  intro H locs ls hrel hex hS hl
  simp only [pm_sem, pm_ll] at h
  split at h
  · exact lv_lsub hx hb hd (h H locs ls hrel hex hS hl)
  · exact h.elim
theorem pm_s_land (C : pm_cx p l Rm s m args meth c k d base D cy sad sav b L xs) (ht : pm_tab k pc = some (.land, len, ts, v)) (h : pm_sem E k (.land) len ts v (pc, lv, st, (fz, n, sh, I, J, R), c0, z0) (pm_gd p l e Rm s m args below meth c k base D cy (pm_ad base sad b) L xs Z) Q) : pm_gd p l e Rm s m args below meth c k base D cy (pm_ad base sad b) L xs Z (pc, lv, st, (fz, n, sh, I, J, R), c0, z0) := by
  obtain ⟨hx, hb, hml, hown, hts, hnm, hC, hRm, hk, hst, hlk, htb, hrt⟩ := C
  obtain ⟨hd, hln, hci⟩ := pm_tab_spec hk ht
  have hlen : len = 1 := by simpa [pm_ln] using hln
  subst hlen
  intro H locs ls hrel hex hS hl
  simp only [pm_sem, pm_ll] at h
  split at h
  · exact lv_land hx hb hd (h H locs ls hrel hex hS hl)
  · exact h.elim
theorem pm_s_lor (C : pm_cx p l Rm s m args meth c k d base D cy sad sav b L xs) (ht : pm_tab k pc = some (.lor, len, ts, v)) (h : pm_sem E k (.lor) len ts v (pc, lv, st, (fz, n, sh, I, J, R), c0, z0) (pm_gd p l e Rm s m args below meth c k base D cy (pm_ad base sad b) L xs Z) Q) : pm_gd p l e Rm s m args below meth c k base D cy (pm_ad base sad b) L xs Z (pc, lv, st, (fz, n, sh, I, J, R), c0, z0) := by
  obtain ⟨hx, hb, hml, hown, hts, hnm, hC, hRm, hk, hst, hlk, htb, hrt⟩ := C
  obtain ⟨hd, hln, hci⟩ := pm_tab_spec hk ht
  have hlen : len = 1 := by simpa [pm_ln] using hln
  subst hlen
  intro H locs ls hrel hex hS hl
  simp only [pm_sem, pm_ll] at h
  split at h
  · exact lv_lor hx hb hd (h H locs ls hrel hex hS hl)
  · exact h.elim
theorem pm_s_lshl (C : pm_cx p l Rm s m args meth c k d base D cy sad sav b L xs) (ht : pm_tab k pc = some (.lshl, len, ts, v)) (h : pm_sem E k (.lshl) len ts v (pc, lv, st, (fz, n, sh, I, J, R), c0, z0) (pm_gd p l e Rm s m args below meth c k base D cy (pm_ad base sad b) L xs Z) Q) : pm_gd p l e Rm s m args below meth c k base D cy (pm_ad base sad b) L xs Z (pc, lv, st, (fz, n, sh, I, J, R), c0, z0) := by
  obtain ⟨hx, hb, hml, hown, hts, hnm, hC, hRm, hk, hst, hlk, htb, hrt⟩ := C
  obtain ⟨hd, hln, hci⟩ := pm_tab_spec hk ht
  have hlen : len = 1 := by simpa [pm_ln] using hln
  subst hlen
  intro H locs ls hrel hex hS hl
  simp only [pm_sem, pm_li] at h
  split at h
  · exact lv_lshl hx hb hd rfl (h H locs ls hrel hex hS hl)
  · exact h.elim
theorem pm_s_lshr (C : pm_cx p l Rm s m args meth c k d base D cy sad sav b L xs) (ht : pm_tab k pc = some (.lshr, len, ts, v)) (h : pm_sem E k (.lshr) len ts v (pc, lv, st, (fz, n, sh, I, J, R), c0, z0) (pm_gd p l e Rm s m args below meth c k base D cy (pm_ad base sad b) L xs Z) Q) : pm_gd p l e Rm s m args below meth c k base D cy (pm_ad base sad b) L xs Z (pc, lv, st, (fz, n, sh, I, J, R), c0, z0) := by
  obtain ⟨hx, hb, hml, hown, hts, hnm, hC, hRm, hk, hst, hlk, htb, hrt⟩ := C
  obtain ⟨hd, hln, hci⟩ := pm_tab_spec hk ht
  have hlen : len = 1 := by simpa [pm_ln] using hln
  subst hlen
  intro H locs ls hrel hex hS hl
  simp only [pm_sem, pm_li] at h
  split at h
  · exact lv_lshr hx hb hd rfl (h H locs ls hrel hex hS hl)
  · exact h.elim
theorem pm_s_idiv (C : pm_cx p l Rm s m args meth c k d base D cy sad sav b L xs) (ht : pm_tab k pc = some (.idiv, len, ts, v)) (h : pm_sem E k (.idiv) len ts v (pc, lv, st, (fz, n, sh, I, J, R), c0, z0) (pm_gd p l e Rm s m args below meth c k base D cy (pm_ad base sad b) L xs Z) Q) : pm_gd p l e Rm s m args below meth c k base D cy (pm_ad base sad b) L xs Z (pc, lv, st, (fz, n, sh, I, J, R), c0, z0) := by
  obtain ⟨hx, hb, hml, hown, hts, hnm, hC, hRm, hk, hst, hlk, htb, hrt⟩ := C
  obtain ⟨hd, hln, hci⟩ := pm_tab_spec hk ht
  have hlen : len = 1 := by simpa [pm_ln] using hln
  subst hlen
  intro H locs ls hrel hex hS hl
  simp only [pm_sem] at h
  split at h
  · exact lv_idiv hx hb hd h.1 (h.2 H locs ls hrel hex hS hl)
  · exact h.elim
theorem pm_s_irem (C : pm_cx p l Rm s m args meth c k d base D cy sad sav b L xs) (ht : pm_tab k pc = some (.irem, len, ts, v)) (h : pm_sem E k (.irem) len ts v (pc, lv, st, (fz, n, sh, I, J, R), c0, z0) (pm_gd p l e Rm s m args below meth c k base D cy (pm_ad base sad b) L xs Z) Q) : pm_gd p l e Rm s m args below meth c k base D cy (pm_ad base sad b) L xs Z (pc, lv, st, (fz, n, sh, I, J, R), c0, z0) := by
  obtain ⟨hx, hb, hml, hown, hts, hnm, hC, hRm, hk, hst, hlk, htb, hrt⟩ := C
  obtain ⟨hd, hln, hci⟩ := pm_tab_spec hk ht
  have hlen : len = 1 := by simpa [pm_ln] using hln
  subst hlen
  intro H locs ls hrel hex hS hl
  simp only [pm_sem] at h
  split at h
  · exact lv_irem hx hb hd h.1 (h.2 H locs ls hrel hex hS hl)
  · exact h.elim
theorem pm_s_ineg (C : pm_cx p l Rm s m args meth c k d base D cy sad sav b L xs) (ht : pm_tab k pc = some (.ineg, len, ts, v)) (h : pm_sem E k (.ineg) len ts v (pc, lv, st, (fz, n, sh, I, J, R), c0, z0) (pm_gd p l e Rm s m args below meth c k base D cy (pm_ad base sad b) L xs Z) Q) : pm_gd p l e Rm s m args below meth c k base D cy (pm_ad base sad b) L xs Z (pc, lv, st, (fz, n, sh, I, J, R), c0, z0) := by
  obtain ⟨hx, hb, hml, hown, hts, hnm, hC, hRm, hk, hst, hlk, htb, hrt⟩ := C
  obtain ⟨hd, hln, hci⟩ := pm_tab_spec hk ht
  have hlen : len = 1 := by simpa [pm_ln] using hln
  subst hlen
  intro H locs ls hrel hex hS hl
  simp only [pm_sem] at h
  split at h
  · exact lv_ineg hx hb hd (h H locs ls hrel hex hS hl)
  · exact h.elim
theorem pm_s_lcmp (C : pm_cx p l Rm s m args meth c k d base D cy sad sav b L xs) (ht : pm_tab k pc = some (.lcmp, len, ts, v)) (h : pm_sem E k (.lcmp) len ts v (pc, lv, st, (fz, n, sh, I, J, R), c0, z0) (pm_gd p l e Rm s m args below meth c k base D cy (pm_ad base sad b) L xs Z) Q) : pm_gd p l e Rm s m args below meth c k base D cy (pm_ad base sad b) L xs Z (pc, lv, st, (fz, n, sh, I, J, R), c0, z0) := by
  obtain ⟨hx, hb, hml, hown, hts, hnm, hC, hRm, hk, hst, hlk, htb, hrt⟩ := C
  obtain ⟨hd, hln, hci⟩ := pm_tab_spec hk ht
  have hlen : len = 1 := by simpa [pm_ln] using hln
  subst hlen
  intro H locs ls hrel hex hS hl
  simp only [pm_sem] at h
  split at h
  · exact W.lcmp hx hb hd (h H locs ls hrel hex hS hl)
  · exact h.elim
theorem pm_s_i2l (C : pm_cx p l Rm s m args meth c k d base D cy sad sav b L xs) (ht : pm_tab k pc = some (.i2l, len, ts, v)) (h : pm_sem E k (.i2l) len ts v (pc, lv, st, (fz, n, sh, I, J, R), c0, z0) (pm_gd p l e Rm s m args below meth c k base D cy (pm_ad base sad b) L xs Z) Q) : pm_gd p l e Rm s m args below meth c k base D cy (pm_ad base sad b) L xs Z (pc, lv, st, (fz, n, sh, I, J, R), c0, z0) := by
  obtain ⟨hx, hb, hml, hown, hts, hnm, hC, hRm, hk, hst, hlk, htb, hrt⟩ := C
  obtain ⟨hd, hln, hci⟩ := pm_tab_spec hk ht
  have hlen : len = 1 := by simpa [pm_ln] using hln
  subst hlen
  intro H locs ls hrel hex hS hl
  simp only [pm_sem] at h
  split at h
  · exact lv_i2l hx hb hd rfl (h H locs ls hrel hex hS hl)
  · exact h.elim
theorem pm_s_l2i (C : pm_cx p l Rm s m args meth c k d base D cy sad sav b L xs) (ht : pm_tab k pc = some (.l2i, len, ts, v)) (h : pm_sem E k (.l2i) len ts v (pc, lv, st, (fz, n, sh, I, J, R), c0, z0) (pm_gd p l e Rm s m args below meth c k base D cy (pm_ad base sad b) L xs Z) Q) : pm_gd p l e Rm s m args below meth c k base D cy (pm_ad base sad b) L xs Z (pc, lv, st, (fz, n, sh, I, J, R), c0, z0) := by
  obtain ⟨hx, hb, hml, hown, hts, hnm, hC, hRm, hk, hst, hlk, htb, hrt⟩ := C
  obtain ⟨hd, hln, hci⟩ := pm_tab_spec hk ht
  have hlen : len = 1 := by simpa [pm_ln] using hln
  subst hlen
  intro H locs ls hrel hex hS hl
  simp only [pm_sem] at h
  split at h
  · exact lv_l2i hx hb hd rfl (h H locs ls hrel hex hS hl)
  · exact h.elim
theorem pm_s_i2b (C : pm_cx p l Rm s m args meth c k d base D cy sad sav b L xs) (ht : pm_tab k pc = some (.i2b, len, ts, v)) (h : pm_sem E k (.i2b) len ts v (pc, lv, st, (fz, n, sh, I, J, R), c0, z0) (pm_gd p l e Rm s m args below meth c k base D cy (pm_ad base sad b) L xs Z) Q) : pm_gd p l e Rm s m args below meth c k base D cy (pm_ad base sad b) L xs Z (pc, lv, st, (fz, n, sh, I, J, R), c0, z0) := by
  obtain ⟨hx, hb, hml, hown, hts, hnm, hC, hRm, hk, hst, hlk, htb, hrt⟩ := C
  obtain ⟨hd, hln, hci⟩ := pm_tab_spec hk ht
  have hlen : len = 1 := by simpa [pm_ln] using hln
  subst hlen
  intro H locs ls hrel hex hS hl
  simp only [pm_sem] at h
  split at h
  · exact lv_i2b hx hb hd rfl (h H locs ls hrel hex hS hl)
  · exact h.elim
theorem pm_s_dup (C : pm_cx p l Rm s m args meth c k d base D cy sad sav b L xs) (ht : pm_tab k pc = some (.dup, len, ts, v)) (h : pm_sem E k (.dup) len ts v (pc, lv, st, (fz, n, sh, I, J, R), c0, z0) (pm_gd p l e Rm s m args below meth c k base D cy (pm_ad base sad b) L xs Z) Q) : pm_gd p l e Rm s m args below meth c k base D cy (pm_ad base sad b) L xs Z (pc, lv, st, (fz, n, sh, I, J, R), c0, z0) := by
  obtain ⟨hx, hb, hml, hown, hts, hnm, hC, hRm, hk, hst, hlk, htb, hrt⟩ := C
  obtain ⟨hd, hln, hci⟩ := pm_tab_spec hk ht
  have hlen : len = 1 := by simpa [pm_ln] using hln
  subst hlen
  intro H locs ls hrel hex hS hl
  simp only [pm_sem] at h
  split at h
  · rename_i w r
    cases hb1 : Nat.beq w.category 1 with
    | false => rw [hb1] at h; exact h.elim
    | true =>
      rw [hb1] at h
      exact lv_dup hx hb hd ((pm_tv_cat _ w).trans (Nat.eq_of_beq_eq_true hb1)) (h H locs ls hrel hex hS hl)
  · exact h.elim
theorem pm_s_pop (C : pm_cx p l Rm s m args meth c k d base D cy sad sav b L xs) (ht : pm_tab k pc = some (.pop, len, ts, v)) (h : pm_sem E k (.pop) len ts v (pc, lv, st, (fz, n, sh, I, J, R), c0, z0) (pm_gd p l e Rm s m args below meth c k base D cy (pm_ad base sad b) L xs Z) Q) : pm_gd p l e Rm s m args below meth c k base D cy (pm_ad base sad b) L xs Z (pc, lv, st, (fz, n, sh, I, J, R), c0, z0) := by
  obtain ⟨hx, hb, hml, hown, hts, hnm, hC, hRm, hk, hst, hlk, htb, hrt⟩ := C
  obtain ⟨hd, hln, hci⟩ := pm_tab_spec hk ht
  have hlen : len = 1 := by simpa [pm_ln] using hln
  subst hlen
  intro H locs ls hrel hex hS hl
  simp only [pm_sem] at h
  split at h
  · rename_i w r
    cases hb1 : Nat.beq w.category 1 with
    | false => rw [hb1] at h; exact h.elim
    | true =>
      rw [hb1] at h
      exact lv_pop hx hb hd ((pm_tv_cat _ w).trans (Nat.eq_of_beq_eq_true hb1)) (h H locs ls hrel hex hS hl)
  · exact h.elim
theorem pm_s_dup2 (C : pm_cx p l Rm s m args meth c k d base D cy sad sav b L xs) (ht : pm_tab k pc = some (.dup2, len, ts, v)) (h : pm_sem E k (.dup2) len ts v (pc, lv, st, (fz, n, sh, I, J, R), c0, z0) (pm_gd p l e Rm s m args below meth c k base D cy (pm_ad base sad b) L xs Z) Q) : pm_gd p l e Rm s m args below meth c k base D cy (pm_ad base sad b) L xs Z (pc, lv, st, (fz, n, sh, I, J, R), c0, z0) := by
  obtain ⟨hx, hb, hml, hown, hts, hnm, hC, hRm, hk, hst, hlk, htb, hrt⟩ := C
  obtain ⟨hd, hln, hci⟩ := pm_tab_spec hk ht
  have hlen : len = 1 := by simpa [pm_ln] using hln
  subst hlen
  intro H locs ls hrel hex hS hl
  simp only [pm_sem] at h
  split at h
  · rename_i w u r
    cases hb1 : Nat.beq w.category 1 with
    | false => rw [hb1] at h; exact h.elim
    | true =>
      cases hb2 : Nat.beq u.category 1 with
      | false => rw [hb1, hb2] at h; exact h.elim
      | true =>
        rw [hb1, hb2] at h
        exact lv_dup2_11 hx hb hd ((pm_tv_cat _ w).trans (Nat.eq_of_beq_eq_true hb1)) ((pm_tv_cat _ u).trans (Nat.eq_of_beq_eq_true hb2)) (h H locs ls hrel hex hS hl)
  · exact h.elim
theorem pm_s_goto (C : pm_cx p l Rm s m args meth c k d base D cy sad sav b L xs) {w : Int} (ht : pm_tab k pc = some (.goto w, len, ts, v)) (h : pm_sem E k (.goto w) len ts v (pc, lv, st, (fz, n, sh, I, J, R), c0, z0) (pm_gd p l e Rm s m args below meth c k base D cy (pm_ad base sad b) L xs Z) Q) : pm_gd p l e Rm s m args below meth c k base D cy (pm_ad base sad b) L xs Z (pc, lv, st, (fz, n, sh, I, J, R), c0, z0) := by
  obtain ⟨hx, hb, hml, hown, hts, hnm, hC, hRm, hk, hst, hlk, htb, hrt⟩ := C
  obtain ⟨hd, hln, hci⟩ := pm_tab_spec hk ht
  have hlen : len = 3 := by simpa [pm_ln] using hln
  subst hlen
  intro H locs ls hrel hex hS hl
  simp only [pm_sem] at h
  split at h
  · simp only [pm_ci, decide_eq_true_eq] at hci
    exact lv_goto hx hb hd hci (h H locs ls hrel hex hS hl)
  · exact h.elim
theorem pm_s_ifCond (C : pm_cx p l Rm s m args meth c k d base D cy sad sav b L xs) {cd : ClassFile.Cond} {w : Int} (ht : pm_tab k pc = some (.ifCond cd w, len, ts, v)) (h : pm_sem E k (.ifCond cd w) len ts v (pc, lv, st, (fz, n, sh, I, J, R), c0, z0) (pm_gd p l e Rm s m args below meth c k base D cy (pm_ad base sad b) L xs Z) Q) : pm_gd p l e Rm s m args below meth c k base D cy (pm_ad base sad b) L xs Z (pc, lv, st, (fz, n, sh, I, J, R), c0, z0) := by
  obtain ⟨hx, hb, hml, hown, hts, hnm, hC, hRm, hk, hst, hlk, htb, hrt⟩ := C
  obtain ⟨hd, hln, hci⟩ := pm_tab_spec hk ht
  have hlen : len = 3 := by simpa [pm_ln] using hln
  subst hlen
  intro H locs ls hrel hex hS hl
  simp only [pm_sem] at h
  split at h
  · simp only [pm_ci, decide_eq_true_eq] at hci
    cases cd
    · exact lv_if_eq hx hb hd hci (fun q => h.1 q H locs ls hrel hex hS hl) (fun q => h.2 q H locs ls hrel hex hS hl)
    · exact lv_if_ne hx hb hd hci (fun q => h.1 q H locs ls hrel hex hS hl) (fun q => h.2 q H locs ls hrel hex hS hl)
    · exact lv_if_lt hx hb hd hci (fun q => h.1 q H locs ls hrel hex hS hl) (fun q => h.2 q H locs ls hrel hex hS hl)
    · exact lv_if_ge hx hb hd hci (fun q => h.1 q H locs ls hrel hex hS hl) (fun q => h.2 q H locs ls hrel hex hS hl)
    · exact lv_if_gt hx hb hd hci (fun q => h.1 q H locs ls hrel hex hS hl) (fun q => h.2 q H locs ls hrel hex hS hl)
    · exact lv_if_le hx hb hd hci (fun q => h.1 q H locs ls hrel hex hS hl) (fun q => h.2 q H locs ls hrel hex hS hl)
  · exact h.elim
theorem pm_s_if_icmp (C : pm_cx p l Rm s m args meth c k d base D cy sad sav b L xs) {cd : ClassFile.Cond} {w : Int} (ht : pm_tab k pc = some (.if_icmp cd w, len, ts, v)) (h : pm_sem E k (.if_icmp cd w) len ts v (pc, lv, st, (fz, n, sh, I, J, R), c0, z0) (pm_gd p l e Rm s m args below meth c k base D cy (pm_ad base sad b) L xs Z) Q) : pm_gd p l e Rm s m args below meth c k base D cy (pm_ad base sad b) L xs Z (pc, lv, st, (fz, n, sh, I, J, R), c0, z0) := by
  obtain ⟨hx, hb, hml, hown, hts, hnm, hC, hRm, hk, hst, hlk, htb, hrt⟩ := C
  obtain ⟨hd, hln, hci⟩ := pm_tab_spec hk ht
  have hlen : len = 3 := by simpa [pm_ln] using hln
  subst hlen
  intro H locs ls hrel hex hS hl
  simp only [pm_sem] at h
  split at h
  · simp only [pm_ci, decide_eq_true_eq] at hci
    cases cd
    · exact lv_icmp_eq hx hb hd hci (fun q => h.1 q H locs ls hrel hex hS hl) (fun q => h.2 q H locs ls hrel hex hS hl)
    · exact lv_icmp_ne hx hb hd hci (fun q => h.1 q H locs ls hrel hex hS hl) (fun q => h.2 q H locs ls hrel hex hS hl)
    · exact lv_icmp_lt hx hb hd hci (fun q => h.1 q H locs ls hrel hex hS hl) (fun q => h.2 q H locs ls hrel hex hS hl)
    · exact lv_icmp_ge hx hb hd hci (fun q => h.1 q H locs ls hrel hex hS hl) (fun q => h.2 q H locs ls hrel hex hS hl)
    · exact lv_icmp_gt hx hb hd hci (fun q => h.1 q H locs ls hrel hex hS hl) (fun q => h.2 q H locs ls hrel hex hS hl)
    · exact lv_icmp_le hx hb hd hci (fun q => h.1 q H locs ls hrel hex hS hl) (fun q => h.2 q H locs ls hrel hex hS hl)
  · exact h.elim
theorem pm_sw_get {x : Int32} {K : Nat → Prop} : ∀ (ts : List Nat) (j : Int) (q t : Nat), pm_sw x K j ts → ts[q]? = some t → x.toInt = j + q → K t
  | [], _, _, _, _, h, _ => by simp at h
  | t0 :: ts, j, 0, t, h, ht, he => by
    simp at ht
    subst ht
    exact h.1 (by simpa using he)
  | t0 :: ts, j, q + 1, t, h, ht, he => pm_sw_get ts (j + 1) q t h.2 (by simpa using ht) (by rw [he]; omega)
theorem pm_tb_get : ∀ (fs : List Int) (cs : List Nat) (q : Nat), pm_tb pc fs cs = true → q < fs.length → ∃ (f : Int) (t : Nat), fs[q]? = some f ∧ cs[q]? = some t ∧ (pc : Int) + f = (t : Int)
  | [], _, q, _, hq => by simp at hq
  | f :: fs, [], _, h, _ => by simp [pm_tb] at h
  | f :: fs, t :: cs, 0, h, _ => by
    simp only [pm_tb, Bool.and_eq_true, decide_eq_true_eq] at h
    exact ⟨f, t, rfl, rfl, h.1⟩
  | f :: fs, t :: cs, q + 1, h, hq => by
    simp only [pm_tb, Bool.and_eq_true, decide_eq_true_eq] at h
    obtain ⟨f', t', h1, h2, h3⟩ := pm_tb_get fs cs q h.2 (by simpa using hq)
    exact ⟨f', t', by simpa using h1, by simpa using h2, h3⟩
theorem pm_s_tableswitch (C : pm_cx p l Rm s m args meth c k d base D cy sad sav b L xs) {dfl lo hi : Int} {fs : Array Int} (ht : pm_tab k pc = some (.tableswitch dfl lo hi fs, len, ts, v)) (h : pm_sem E k (.tableswitch dfl lo hi fs) len ts v (pc, lv, st, (fz, n, sh, I, J, R), c0, z0) (pm_gd p l e Rm s m args below meth c k base D cy (pm_ad base sad b) L xs Z) Q) : pm_gd p l e Rm s m args below meth c k base D cy (pm_ad base sad b) L xs Z (pc, lv, st, (fz, n, sh, I, J, R), c0, z0) := by
  obtain ⟨hx, hb, hml, hown, hts, hnm, hC, hRm, hk, hst, hlk, htb, hrt⟩ := C
  obtain ⟨hd, hln, hci⟩ := pm_tab_spec hk ht
  intro H locs ls hrel hex hS hl
  simp only [pm_sem] at h
  split at h
  · rename_i x r t0 cs
    simp only [pm_ci, Bool.and_eq_true, decide_eq_true_eq] at hci
    obtain ⟨h1, h2, h3⟩ := hci
    by_cases hout : x.toInt < lo ∨ hi < x.toInt
    · exact lv_tableOut hx hb hd hout h1 (h.1 hout H locs ls hrel hex hS hl)
    · have a1 : ¬ x.toInt < lo := fun q => hout (Or.inl q)
      have a2 : ¬ hi < x.toInt := fun q => hout (Or.inr q)
      have a3 : (x.toInt - lo).toNat < fs.toList.length := by rw [Array.length_toList]; omega
      obtain ⟨f, t, e1, e2, e3⟩ := pm_tb_get fs.toList cs (x.toInt - lo).toNat h2 a3
      have e4 : fs[(x.toInt - lo).toNat]? = some f := by rw [← Array.getElem?_toList]; exact e1
      exact lv_tableIn hx hb hd a1 a2 e4 e3 (pm_sw_get cs lo (x.toInt - lo).toNat t h.2 e2 (by omega) H locs ls hrel hex hS hl)
  · exact h.elim
theorem pm_s_ldc (C : pm_cx p l Rm s m args meth c k d base D cy sad sav b L xs) {w : Nat} (ht : pm_tab k pc = some (.ldc w, len, ts, v)) (h : pm_sem E k (.ldc w) len ts v (pc, lv, st, (fz, n, sh, I, J, R), c0, z0) (pm_gd p l e Rm s m args below meth c k base D cy (pm_ad base sad b) L xs Z) Q) : pm_gd p l e Rm s m args below meth c k base D cy (pm_ad base sad b) L xs Z (pc, lv, st, (fz, n, sh, I, J, R), c0, z0) := by
  obtain ⟨hx, hb, hml, hown, hts, hnm, hC, hRm, hk, hst, hlk, htb, hrt⟩ := C
  obtain ⟨hd, hln, hci⟩ := pm_tab_spec hk ht
  have hlen : len = 2 := by simpa [pm_ln] using hln
  subst hlen
  intro H locs ls hrel hex hS hl
  simp only [pm_sem] at h
  split at h
  · rename_i p0
    simp only [pm_ci] at hci
    exact lv_ldc hx hb hown (hts _ (pm_wd_good hci rfl)) hd (h H locs ls hrel hex hS hl)
  · rename_i j
    simp only [pm_ci, Bool.and_eq_true, decide_eq_true_eq] at hci
    obtain ⟨h1, h2, h3⟩ := hci
    rw [h1] at h
    have hj : j < pm_sn := Nat.le_of_ble_eq_true h1
    have hR := hC.2.1 j hj
    rw [h2, Nat.eq_of_beq_eq_true h3] at hR
    exact va_ldcS hx hb hown hR hd (by
      have e := h H locs ls hrel hex hS hl
      have e2 : pm_ad base sad b (1000000 + j) = sad j := by
        unfold pm_ad
        rw [if_neg (by omega), if_pos (by have : pm_sn = 33 := rfl; omega), Nat.add_sub_cancel_left]
      simp only [List.map_cons, pm_tv, e2] at e
      exact e)
  · exact h.elim
theorem pm_s_ldc_w (C : pm_cx p l Rm s m args meth c k d base D cy sad sav b L xs) {w : Nat} (ht : pm_tab k pc = some (.ldc_w w, len, ts, v)) (h : pm_sem E k (.ldc_w w) len ts v (pc, lv, st, (fz, n, sh, I, J, R), c0, z0) (pm_gd p l e Rm s m args below meth c k base D cy (pm_ad base sad b) L xs Z) Q) : pm_gd p l e Rm s m args below meth c k base D cy (pm_ad base sad b) L xs Z (pc, lv, st, (fz, n, sh, I, J, R), c0, z0) := by
  obtain ⟨hx, hb, hml, hown, hts, hnm, hC, hRm, hk, hst, hlk, htb, hrt⟩ := C
  obtain ⟨hd, hln, hci⟩ := pm_tab_spec hk ht
  have hlen : len = 3 := by simpa [pm_ln] using hln
  subst hlen
  intro H locs ls hrel hex hS hl
  simp only [pm_sem] at h
  split at h
  · rename_i p0
    simp only [pm_ci] at hci
    exact lv_ldcw hx hb hown (hts _ (pm_wd_good hci rfl)) hd (h H locs ls hrel hex hS hl)
  · exact h.elim
theorem pm_s_ldc2_w (C : pm_cx p l Rm s m args meth c k d base D cy sad sav b L xs) {w : Nat} (ht : pm_tab k pc = some (.ldc2_w w, len, ts, v)) (h : pm_sem E k (.ldc2_w w) len ts v (pc, lv, st, (fz, n, sh, I, J, R), c0, z0) (pm_gd p l e Rm s m args below meth c k base D cy (pm_ad base sad b) L xs Z) Q) : pm_gd p l e Rm s m args below meth c k base D cy (pm_ad base sad b) L xs Z (pc, lv, st, (fz, n, sh, I, J, R), c0, z0) := by
  obtain ⟨hx, hb, hml, hown, hts, hnm, hC, hRm, hk, hst, hlk, htb, hrt⟩ := C
  obtain ⟨hd, hln, hci⟩ := pm_tab_spec hk ht
  have hlen : len = 3 := by simpa [pm_ln] using hln
  subst hlen
  intro H locs ls hrel hex hS hl
  simp only [pm_ci] at hci
  split at hci
  · exact W.ldc2 hx hb hown (hts _ (pm_wd_good hci rfl)) rfl hd (h H locs ls hrel hex hS hl)
  · cases hci
end Sound1
