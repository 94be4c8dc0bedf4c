/-! the calls' own instructions -/
theorem pm_hk_ok {k : Nat} (hk : k < 319) : pm_hk k (pm_hh k) (pm_hd k) = true := by
  by_cases h : k < 318
  · exact (pm_mw h).2.2.2.2.2.2.2.2.1
  · have : k = 318 := by omega
    subst this
    decide +kernel
theorem pm_tab_virt {k pc w len k' np ci p0 : Nat} {v : Int32} (hk : k < 319) (h : pm_tab k pc = some (.invokevirtual w, len, [0, k', np, ci, p0], v)) : (pm_nm k').name ≠ "<init>" := by
  have hpc : pc < pm_len k := by
    unfold pm_tab at h
    cases hb : Nat.blt pc (pm_len k) with
    | true => exact Nat.le_of_ble_eq_true hb
    | false => rw [hb] at h; cases h
  have h1 := List.all_eq_true.mp (List.all_eq_true.mp pm_ckv_all k (List.mem_range.mpr hk)) pc (List.mem_range.mpr hpc)
  unfold pm_ckv at h1
  rw [h] at h1
  simpa using h1
theorem pm_initret {k : Nat} (hk : k < 318) (h : (pm_nm k).name = "<init>") : pm_rt k = none ∧ pm_hh k = [] := by
  have h1 := List.all_eq_true.mp pm_cki_all k (List.mem_range.mpr (show k < 319 by omega))
  unfold pm_cki at h1
  rw [h] at h1
  simp only [ne_eq, not_true, decide_false, Bool.false_or, Bool.and_eq_true, decide_eq_true_eq, List.isEmpty_iff] at h1
  exact h1
section Sound5
variable {p : Program} {l : Launch} {e : Env} {Rm : Room} {s : State} {m : MethodId} {args : Array Value} {below : List Frame} {meth : Method} {c : Code}
variable {base : Nat} {D : va_G} {cy : Nat → ClassId} {sad sav : Nat → Nat} {b L : Nat} {xs : Nat → Int32} {k d : Nat} {Z : State → Prop} {E : pm_E} {Q : pm_R → pm_H → Prop}
variable {pc len : Nat} {lv : pm_L} {st : List Value} {fz : Bool} {n : Nat} {sh : Nat → Nat × Nat} {I : Nat → Nat → Int32} {J : Nat → Nat → Int64} {R : Nat → Nat → Option Nat} {c0 z0 : Nat} {ts : List Nat} {v : Int32}
theorem pm_recv (C : pm_cx p l Rm s m args meth c k d base D cy sad sav b L xs) {H : Heap} {a ci : Nat} (hrel : pm_rel base D cy (pm_ad base sad b) L xs (fz, n, sh, I, J, R) H) (ha : a < n) (hsh : (sh a).1 = ci) (hci : ci < 12) : ∃ cell : Cell, H[base + a]? = some cell ∧ cell.vm.isStatics = false ∧ s.vm.findClass (pm_cn ci) = some cell.cls := by
  obtain ⟨hx, hb, hml, hown, hts, hnm, hC, hRm, hk, hst, hlk, htb, hrt⟩ := C
  obtain ⟨ty, hc1, hc2, hc3, hc4, hc5, hc6, hc7, hc8⟩ := pm_cls ci hci
  have he := pm_ws_get (base := base) (cy := cy) (ad := pm_ad base sad b) (sh := sh) (I := I) (J := J) (R := R) ha
  rw [pm_cel_obj hsh (by omega)] at he
  rw [hc7]
  exact va_recv hC.1 hrel.1 hc1 he
theorem pm_s_virt (C : pm_cx p l Rm s m args meth c k d base D cy sad sav b L xs) (hok : pm_ok l base D cy sad sav b L xs d E) (hX : pm_endX p l e Rm s m args below meth c k base D cy (pm_ad base sad b) L xs Z Q) (hCa : pm_catch p l e Rm s m args below meth c k (pm_ad base sad b) Z) {w k' np ci p0 : Nat} (ht : pm_tab k pc = some (.invokevirtual w, len, [0, k', np, ci, p0], v)) (h : pm_sem E k (.invokevirtual w) len [0, k', np, ci, p0] v (pc, lv, st, (fz, n, sh, I, J, R), c0, z0) (pm_gd p l e Rm s m args below meth c k base D cy (pm_ad base sad b) L xs Z) Q) : pm_gd p l e Rm s m args below meth c k base D cy (pm_ad base sad b) L xs Z (pc, lv, st, (fz, n, sh, I, J, R), c0, z0) := by
  have C0 := C
  obtain ⟨hx, hb, hml, hown, hts, hnm, hC, hRm, hk, hst, hlk, htb, hrt⟩ := C
  obtain ⟨hd, hln, hci⟩ := pm_tab_spec hk ht
  have hlen : len = 3 := by simpa [pm_ln] using hln
  subst hlen
  intro H locs ls hrel hex hS hl
  simp only [pm_ci, Bool.and_eq_true, Bool.not_eq_true'] at hci
  obtain ⟨hq1, hq2, hq3, hq4, hq5, hq6, hq7, hq8⟩ := hci
  have hci12 : ci < 12 := Nat.le_of_ble_eq_true hq5
  have hciow : ci = pm_ow k' := Nat.eq_of_beq_eq_true hq4
  have hnp : np = pm_np k' := Nat.eq_of_beq_eq_true hq3
  simp only [pm_sem, pm_inv] at h
  cases hb1 : pm_rcv n sh ci np st with
  | false => rw [hb1] at h; exact h.elim
  | true =>
    rw [hb1] at h
    simp only [cond_true, pm_call] at h
    cases hpop : pm_pop (np + 1) [] st with
    | none => rw [hpop] at h; exact h.elim
    | some ar =>
      obtain ⟨as, rest⟩ := ar
      rw [hpop] at h
      simp only at h
      cases hb2 : (Nat.blt k' 318 && (Nat.ble (c0 + pm_mc k') (pm_mc k) && (Nat.ble (z0 + pm_ms k') (pm_ms k) && Nat.ble (pm_cat rest) 8))) with
      | false => rw [hb2] at h; exact h.elim
      | true =>
        rw [hb2] at h
        simp only [cond_true] at h
        simp only [Bool.and_eq_true] at hb2
        obtain ⟨g1, g2, g3, g4⟩ := hb2
        have hk' : k' < 318 := Nat.le_of_ble_eq_true g1
        have g2 := Nat.le_of_ble_eq_true g2
        have g3 := Nat.le_of_ble_eq_true g3
        have g4 := Nat.le_of_ble_eq_true g4
        unfold pm_rcv at hb1
        split at hb1
        · rename_i a hra
          obtain ⟨As, rfl, hAl, rfl⟩ := pm_pop_rcv hpop hra
          obtain ⟨ha, hsh⟩ := pm_is_spec hb1
          have hM := hok k' _ _ _ hk' h
          obtain ⟨w1, w2, w3, w4, w5, w6, w7, w8, w9, w10⟩ := pm_mw hk'
          obtain ⟨w2a, w2b⟩ := w2 hq2
          have hcw : pm_cw k' = .code (pm_nm k') (pm_by k') (pm_ml k') (pm_rt k') := by
            unfold pm_cw
            rw [List.isEmpty_iff.mp hq8]
          have hG := pm_goodin hk'
          rw [hcw] at hM hG
          have had : pm_ad base sad b a = base + a := pm_ad_lt (Nat.lt_trans ha hrel.2.1)
          have hrm := pm_room C0 hk'
          by_cases hini : (pm_nm k').name = "<init>"
          · exact absurd hini (pm_tab_virt hk ht)
          · have hsel : Cond.selects (pm_cn (pm_ow k')) (pm_nm k') (pm_nm k') ∈ pm_GW := by
              rcases w2b with q | q
              · exact absurd q hini
              · exact q
            refine pm_W_size fun hsz2 => ?_
            refine pm_call_out C0 hX hCa hq7 (pm_hk_ok hk) ⟨g2, g3⟩ hex hl (vx_runV (C := pm_cn ci) (b := base + a) (As := As.map (pm_tv (pm_ad base sad b))) (n := np) (nL := pm_ml k) (Ts := pm_GW) ⟨hx, hb, hml, hown, hts⟩ hM ⟨callB_of np hts hG rfl rfl rfl (hts _ w3) (hts _ (pm_wd_good hq6 rfl)) ⟨w5.1, w5.2, by rw [hnp]; exact w6⟩ hrm, hts _ w2a, by rw [hciow]; exact hts _ hsel⟩ ⟨pm_blind, pm_recv C0 hrel ha hsh hci12, fun U hU hW => ?_⟩ rfl (by simpa using hAl) hl.1 ?_ (lv_room (by rw [pm_cat_map]; exact g4)) hd ⟨by rw [hRm.2.2.1]; exact g2, by rw [hRm.2.2.2]; exact g3⟩) hS
            · have := pm_pre C0 (as := .ref a :: As) hsz2 hrel hex hS U hU hW
              simp only [List.map_cons, pm_tv, had] at this
              exact this
            · simp [List.map_append, List.map_reverse, pm_tv, had]
        · cases hb1
theorem pm_s_stat (C : pm_cx p l Rm s m args meth c k d base D cy sad sav b L xs) (hok : pm_ok l base D cy sad sav b L xs d E) (hX : pm_endX p l e Rm s m args below meth c k base D cy (pm_ad base sad b) L xs Z Q) (hCa : pm_catch p l e Rm s m args below meth c k (pm_ad base sad b) Z) {w k' np p0 : Nat} (ht : pm_tab k pc = some (.invokestatic w, len, [0, k', np, p0], v)) (h : pm_sem E k (.invokestatic w) len [0, k', np, p0] v (pc, lv, st, (fz, n, sh, I, J, R), c0, z0) (pm_gd p l e Rm s m args below meth c k base D cy (pm_ad base sad b) L xs Z) Q) : pm_gd p l e Rm s m args below meth c k base D cy (pm_ad base sad b) L xs Z (pc, lv, st, (fz, n, sh, I, J, R), c0, z0) := by
  have C0 := C
  obtain ⟨hx, hb, hml, hown, hts, hnm, hC, hRm, hk, hst, hlk, htb, hrt⟩ := C
  obtain ⟨hd, hln, hci⟩ := pm_tab_spec hk ht
  have hlen : len = 3 := by simpa [pm_ln] using hln
  subst hlen
  intro H locs ls hrel hex hS hl
  simp only [pm_ci, Bool.and_eq_true] at hci
  obtain ⟨hq1, hq2, hq3, hq6, hq7⟩ := hci
  have hnp : np = pm_np k' := Nat.eq_of_beq_eq_true hq3
  simp only [pm_sem, pm_inst, pm_call] at h
  cases hpop : pm_pop np [] st with
  | none => rw [hpop] at h; exact h.elim
  | some ar =>
    obtain ⟨as, rest⟩ := ar
    rw [hpop] at h
    simp only at h
    cases hb2 : (Nat.blt k' 318 && (Nat.ble (c0 + pm_mc k') (pm_mc k) && (Nat.ble (z0 + pm_ms k') (pm_ms k) && Nat.ble (pm_cat rest) 8))) with
    | false => rw [hb2] at h; exact h.elim
    | true =>
      rw [hb2] at h
      simp only [cond_true] at h
      simp only [Bool.and_eq_true] at hb2
      obtain ⟨g1, g2, g3, g4⟩ := hb2
      have hk' : k' < 318 := Nat.le_of_ble_eq_true g1
      have g2 := Nat.le_of_ble_eq_true g2
      have g3 := Nat.le_of_ble_eq_true g3
      have g4 := Nat.le_of_ble_eq_true g4
      obtain ⟨bs, hAl, rfl, has⟩ := pm_pop_spec _ _ _ _ _ hpop
      have has : as = bs.reverse := by simpa using has
      subst has
      have hM := hok k' _ _ _ hk' h
      obtain ⟨w1, w2, w3, w4, w5, w6, w7, w8, w9, w10⟩ := pm_mw hk'
      have hG := pm_goodin hk'
      have hrm := pm_room C0 hk'
      have hcov : (pm_hh k).all (fun h => Nat.ble h.1 pc && Nat.blt pc h.2.1) = true := by
        rw [List.isEmpty_iff.mp hq7]; rfl
      refine pm_W_size fun hsz2 => ?_
      have hpre : ∀ U : State, U.heap = H → s.WarmedH U.vm → pm_Pc base D cy sad sav b L xs bs.reverse (fz, n, sh, I, J, R) (bs.reverse.map (pm_tv (pm_ad base sad b))).toArray U := fun U hU hW => pm_pre C0 (as := bs.reverse) hsz2 hrel hex hS U hU hW
      cases hhe : pm_hh k' with
      | nil =>
        have hcw : pm_cw k' = .code (pm_nm k') (pm_by k') (pm_ml k') (pm_rt k') := by
          unfold pm_cw
          rw [hhe]
        rw [hcw] at hM hG
        refine pm_call_out C0 hX hCa hcov (pm_hk_ok hk) ⟨g2, g3⟩ hex hl (vx_runS (As := bs.reverse.map (pm_tv (pm_ad base sad b))) (n := np) (nL := pm_ml k) (Ts := pm_GW) ⟨hx, hb, hml, hown, hts⟩ hM ⟨callB_of np hts hG rfl rfl rfl (hts _ w3) (hts _ (pm_wd_good hq6 rfl)) ⟨w5.1, w5.2, by rw [hnp]; exact w6⟩ hrm, hts _ (w1 hq2)⟩ ⟨pm_blind, hpre⟩ rfl (by simpa using hAl) hl.1 ?_ (lv_room (by rw [pm_cat_map]; exact g4)) hd ⟨by rw [hRm.2.2.1]; exact g2, by rw [hRm.2.2.2]; exact g3⟩) hS
        simp [List.map_append, List.map_reverse]
      | cons h1 t1 =>
        have hcw : pm_cw k' = .codeWith (pm_nm k') (pm_by k') (pm_ml k') (pm_rt k') (h1 :: t1) := by
          unfold pm_cw
          rw [hhe]
        rw [hcw] at hM hG
        have hc : Cond.codeWith (pm_nm k') (pm_by k') (pm_ml k') (pm_rt k') (h1 :: t1) ∈ Cond.codeWith (pm_nm k') (pm_by k') (pm_ml k') (pm_rt k') (h1 :: t1) :: pm_GW := List.mem_cons_self
        refine pm_call_out C0 hX hCa hcov (pm_hk_ok hk) ⟨g2, g3⟩ hex hl (vx_runSX (hh := h1 :: t1) (bytes := pm_by k') (maxL := pm_ml k') (ret := pm_rt k') (As := bs.reverse.map (pm_tv (pm_ad base sad b))) (n := np) (nL := pm_ml k) (Ts := pm_GW) ⟨hx, hb, hml, hown, hts⟩ hM ⟨⟨rfl, rfl, hrm.1, hrm.2, pay_in hts hG, hc⟩, hts _ (hG _ hc).1, hts _ w3, w5, fun sig hsig => ?_, hts _ (pm_wd_good hq6 rfl), hts _ (w1 hq2)⟩ ⟨pm_blind, hpre⟩ rfl (by simpa using hAl) hl.1 ?_ (lv_room (by rw [pm_cat_map]; exact g4)) hd ⟨by rw [hRm.2.2.1]; exact g2, by rw [hRm.2.2.2]; exact g3⟩) hS
        · have w6' := w6
          rw [hsig] at w6'
          rw [hnp]
          exact (Option.some.inj w6').symm
        · simp [List.map_append, List.map_reverse]
theorem pm_s_spec (C : pm_cx p l Rm s m args meth c k d base D cy sad sav b L xs) (hok : pm_ok l base D cy sad sav b L xs d E) {w k' np ci p0 nst : Nat} (ht : pm_tab k pc = some (.invokespecial w, len, [nst, k', np, ci, p0], v)) (hnst : nst = 0 ∨ nst = 1) (h : pm_sem E k (.invokespecial w) len [nst, k', np, ci, p0] v (pc, lv, st, (fz, n, sh, I, J, R), c0, z0) (pm_gd p l e Rm s m args below meth c k base D cy (pm_ad base sad b) L xs Z) Q) : pm_gd p l e Rm s m args below meth c k base D cy (pm_ad base sad b) L xs Z (pc, lv, st, (fz, n, sh, I, J, R), c0, z0) := by
  have C0 := C
  obtain ⟨hx, hb, hml, hown, hts, hnm, hC, hRm, hk, hst, hlk, htb, hrt⟩ := C
  obtain ⟨hd, hln, hci⟩ := pm_tab_spec hk ht
  have hlen : len = 3 := by simpa [pm_ln] using hln
  subst hlen
  intro H locs ls hrel hex hS hl
  have hci' : Nat.blt k' pm_N = true ∧ (pm_nm k').name = "<init>" ∧ pm_sta k' = false ∧ Nat.beq np (pm_np k') = true ∧ Nat.beq ci (pm_ow k') = true ∧ Nat.blt ci 12 = true ∧ ((nst = 0 ∧ pm_wd p0 (.methodLink (pm_cn (pm_ow k)) w (pm_nm k')) = true) ∨ (nst = 1 ∧ pm_wd p0 (.methodLinkNest (pm_cn (pm_ow k)) w (pm_nm k') "PunchCards") = true)) := by
    rcases hnst with rfl | rfl
    · simp only [pm_ci, Bool.and_eq_true, Bool.not_eq_true', decide_eq_true_eq] at hci
      obtain ⟨a1, a2, a3, a4, a5, a6, a7⟩ := hci
      exact ⟨a1, a2, a3, a4, a5, a6, Or.inl ⟨rfl, a7⟩⟩
    · simp only [pm_ci, Bool.and_eq_true, Bool.not_eq_true', decide_eq_true_eq] at hci
      obtain ⟨a1, a2, a3, a4, a5, a6, a7⟩ := hci
      exact ⟨a1, a2, a3, a4, a5, a6, Or.inr ⟨rfl, a7⟩⟩
  obtain ⟨hq1, hini, hq2, hq3, hq4, hq5, hq6⟩ := hci'
  have hnp : np = pm_np k' := Nat.eq_of_beq_eq_true hq3
  have hh0 : (bif pm_rcv n sh ci np st then pm_call0 E k k' (np + 1) pc lv st (fz, n, sh, I, J, R) c0 z0 (pm_gd p l e Rm s m args below meth c k base D cy (pm_ad base sad b) L xs Z) else False) := by
    rcases hnst with rfl | rfl <;> exact h
  clear h
  cases hb1 : pm_rcv n sh ci np st with
  | false => rw [hb1] at hh0; exact hh0.elim
  | true =>
    rw [hb1] at hh0
    simp only [cond_true, pm_call0] at hh0
    cases hpop : pm_pop (np + 1) [] st with
    | none => rw [hpop] at hh0; exact hh0.elim
    | some ar =>
      obtain ⟨as, rest⟩ := ar
      rw [hpop] at hh0
      simp only at hh0
      cases hb2 : (Nat.blt k' 318 && (Nat.ble (c0 + pm_mc k') (pm_mc k) && (Nat.ble (z0 + pm_ms k') (pm_ms k) && Nat.ble (pm_cat rest) 8))) with
      | false => rw [hb2] at hh0; exact hh0.elim
      | true =>
        rw [hb2] at hh0
        simp only [cond_true] at hh0
        simp only [Bool.and_eq_true] at hb2
        obtain ⟨g1, g2, g3, g4⟩ := hb2
        have hk' : k' < 318 := Nat.le_of_ble_eq_true g1
        have g2 := Nat.le_of_ble_eq_true g2
        have g3 := Nat.le_of_ble_eq_true g3
        have g4 := Nat.le_of_ble_eq_true g4
        unfold pm_rcv at hb1
        split at hb1
        · rename_i a hra
          obtain ⟨As, rfl, hAl, rfl⟩ := pm_pop_rcv hpop hra
          obtain ⟨ha, hsh⟩ := pm_is_spec hb1
          have hM := pm_met0 (hok k' _ _ _ hk' hh0) (fun E' st' t' hE => by
            obtain ⟨⟨x, h', -, hq, -⟩, -⟩ := hE
            exact hq)
          obtain ⟨w1, w2, w3, w4, w5, w6, w7, w8, w9, w10⟩ := pm_mw hk'
          obtain ⟨w2a, w2b⟩ := w2 hq2
          have hrt' : pm_rt k' = none ∧ pm_hh k' = [] := pm_initret hk' hini
          have hcw : pm_cw k' = .code (pm_nm k') (pm_by k') (pm_ml k') none := by
            unfold pm_cw
            rw [hrt'.2, hrt'.1]
          have hG := pm_goodin hk'
          rw [hcw] at hM hG
          have had : pm_ad base sad b a = base + a := pm_ad_lt (Nat.lt_trans ha hrel.2.1)
          have hrm := pm_room C0 hk'
          refine pm_W_size fun hsz2 => ?_
          have hpre : PreS s H (pm_Pc base D cy sad sav b L xs (.ref a :: As) (fz, n, sh, I, J, R)) (.ref (base + a) :: As.map (pm_tv (pm_ad base sad b))) := ⟨pm_blind, fun U hU hW => by
            have := pm_pre C0 (as := .ref a :: As) hsz2 hrel hex hS U hU hW
            simp only [List.map_cons, pm_tv, had] at this
            exact this⟩
          have hstk : (F0 m pc ls (List.map (pm_tv (pm_ad base sad b)) (As.reverse ++ Value.ref a :: rest))).stack = (As.map (pm_tv (pm_ad base sad b))).reverse ++ .ref (base + a) :: rest.map (pm_tv (pm_ad base sad b)) := by
            simp [List.map_append, List.map_reverse, pm_tv, had]
          refine pm_cont0 (D := D) (cy := cy) (ad := pm_ad base sad b) (L := L) (xs := xs) (pc := pc) (c0 := c0) (z0 := z0) (mc := pm_mc k') (ms := pm_ms k') (rest := rest.map (pm_tv (pm_ad base sad b))) (a := (Value.ref (base + a) :: As.map (pm_tv (pm_ad base sad b))).toArray) (Qk := fun r h' => match r with
            | .inl v => pm_gd p l e Rm s m args below meth c k base D cy (pm_ad base sad b) L xs Z (pc + 3, lv, v.toList ++ rest, (bif Nat.beq h'.2.1 (n + pm_mc k') then fz else true, h'.2), c0 + pm_mc k', z0 + pm_ms k')
            | .inr _ => False) ?_ hS (fun w h' H1 locs1 hq hrel1 hS1 => ?_)
          · rcases hq6 with ⟨-, hq6⟩ | ⟨-, hq6⟩
            · exact va_runI (n := np) (nL := pm_ml k) (Ts := pm_GW) ⟨hx, hb, hml, hown, hts⟩ hM ⟨callB_of np hts hG rfl rfl rfl (hts _ w3) (hts _ (pm_wd_good hq6 rfl)) ⟨w5.1, w5.2, by rw [hnp]; exact w6⟩ hrm, hini, hts _ w2a⟩ hpre rfl (by simpa using hAl) hl.1 hstk (lv_room (by rw [pm_cat_map]; exact g4)) hd ⟨by rw [hRm.2.2.1]; exact g2, by rw [hRm.2.2.2]; exact g3⟩
            · exact va_runIN (n := np) (nL := pm_ml k) (Ts := pm_GW) (host := "PunchCards") ⟨hx, hb, hml, hown, hts⟩ hM ⟨va_cnB np hts hG rfl rfl rfl (hC.2.2.2.2.2.2.2.2.2.1 _ (pm_wd_mem hq6) rfl) (hts _ w3) ⟨w5.1, w5.2, by rw [hnp]; exact w6⟩ hrm, hini, hts _ w2a⟩ hpre rfl (by simpa using hAl) hl.1 hstk (lv_room (by rw [pm_cat_map]; exact g4)) hd ⟨by rw [hRm.2.2.1]; exact g2, by rw [hRm.2.2.2]; exact g3⟩
          · have e9 := hq H1 locs1 ls (by obtain ⟨a1, a2, a3, a4, a5, a6⟩ := h'; exact hrel1) (fun hfz => ?_) hS1 hl
            · simp only [List.map_append] at e9
              cases w <;> exact e9
            · simp only at hfz ⊢
              cases hbb : Nat.beq h'.2.1 (n + pm_mc k') with
              | false => rw [hbb] at hfz; cases hfz
              | true =>
                rw [hbb] at hfz
                have := hex hfz
                have := Nat.eq_of_beq_eq_true hbb
                simp only at *
                omega
        · cases hb1
end Sound5
