/-! new cells, ends, calls -/
theorem pm_wI : Cond.arrayClass .int ∈ pm_GW := pm_wd_good (p := 229) (by decide +kernel) rfl
theorem pm_wB : Cond.arrayClass .byte ∈ pm_GW := pm_wd_good (p := 201) (by decide +kernel) rfl
theorem pm_wZ : Cond.arrayClass .boolean ∈ pm_GW := pm_wd_good (p := 382) (by decide +kernel) rfl
theorem pm_wJ : Cond.arrayClass .long ∈ pm_GW := pm_wd_good (p := 354) (by decide +kernel) rfl
theorem pm_w1 : Cond.static Lib.Math.min.name ∈ pm_GW := pm_wd_good (p := 593) (by decide +kernel) rfl
theorem pm_w2 : Cond.static Lib.Math.max.name ∈ pm_GW := pm_wd_good (p := 720) (by decide +kernel) rfl
theorem pm_w3 : Cond.initialized "java/lang/Math" ∈ pm_GW := pm_wd_good (p := 145) (by decide +kernel) rfl
theorem pm_w4 : Cond.code Lib.Math.min.name Lib.Math.min.code 2 (some .int) ∈ pm_GW := pm_wd_good (p := 594) (by decide +kernel) rfl
theorem pm_w5 : Cond.code Lib.Math.max.name Lib.Math.max.code 2 (some .int) ∈ pm_GW := pm_wd_good (p := 721) (by decide +kernel) rfl
theorem pm_w6 : Cond.native arraycopyName ∈ pm_GW := pm_wd_good (p := 583) (by decide +kernel) rfl
theorem pm_w7 : Cond.static arraycopyName ∈ pm_GW := pm_wd_good (p := 582) (by decide +kernel) rfl
theorem pm_w8 : Cond.initialized "java/lang/System" ∈ pm_GW := pm_wd_good (p := 151) (by decide +kernel) rfl
theorem pm_w9 : Cond.instanceMethod objectInit ∈ pm_GW := pm_wd_good (p := 160) (by decide +kernel) rfl
theorem pm_w10 : Cond.code objectInit ⟨#[0xb1]⟩ 1 none ∈ pm_GW := pm_wd_good (p := 161) (by decide +kernel) rfl
section Sound3
variable {p : Program} {l : Launch} {e : Env} {Rm : Room} {s : State} {m : MethodId} {args : Array Value} {below : List Frame} {meth : Method} {c : Code}
variable {base : Nat} {D : va_G} {cy : Nat → ClassId} {sad sav : Nat → Nat} {b L : Nat} {xs : Nat → Int32} {k d : Nat} {Z : State → Prop} {E : pm_E} {Q : pm_R → pm_H → Prop}
variable {pc len : Nat} {lv : pm_L} {st : List Value} {fz : Bool} {n : Nat} {sh : Nat → Nat × Nat} {I I' : Nat → Nat → Int32} {J J' : Nat → Nat → Int64} {R R' : Nat → Nat → Option Nat} {c0 z0 : Nat} {ts : List Nat} {v : Int32}
/-- one more cell at the heap's end -/
theorem pm_rel_push {ad : Nat → Nat} {H H1 : Heap} {fz fz' : Bool} {ks : Nat × Nat} (hrel : pm_rel base D cy ad L xs (fz, n, sh, I, J, R) H) (hn : n + 1 < 1000000) (hz : H.size = base + n) (hz1 : H1.size = base + n + 1) (o1 : ∀ q : Nat, q < base + n → H1[q]? = H[q]?)
    (hat : va_at D vwCl (base + n, pm_cel cy ad ks (fun _ => 0) (fun _ => 0) (fun _ => none)) H1) :
    pm_rel base D cy ad L xs (fz', n + 1, (fun x => if x = n then ks else sh x), pm_ur I n (fun _ => 0), pm_ur J n (fun _ => 0), pm_ur R n (fun _ => none)) H1 := by
  obtain ⟨hP, hn6, hsz, h1, h2⟩ := hrel
  have hpush := pm_ws_push (base := base) (cy := cy) (ad := ad) (n := n) (sh := sh) (I := I) (J := J) (R := R) (sh' := fun x => if x = n then ks else sh x) (I' := pm_ur I n (fun _ => 0)) (J' := pm_ur J n (fun _ => 0)) (R' := pm_ur R n (fun _ => none)) (e := pm_cel cy ad ks (fun _ => 0) (fun _ => 0) (fun _ => none))
    (by rw [pm_ur_self, pm_ur_self, pm_ur_self, if_pos rfl]) (fun j hj => ⟨if_neg hj, pm_ur_row hj, pm_ur_row hj, pm_ur_row hj⟩)
  refine ⟨?_, hn, by omega, ?_, fun j hjl => ?_⟩
  · rw [← hpush]
    refine (hP.kept fun j q hq => ?_).app (fun j q hq => ?_)
    · obtain ⟨hj, rfl⟩ := pm_ws_inv hq
      exact o1 _ (by simp only; omega)
    · have hj0 : j = 0 := by
        have := (List.getElem?_eq_some_iff.mp hq).1
        simp at this
        exact this
      subst hj0
      cases hq
      exact hat
  · show (if 2000000 = n then ks else sh 2000000) = _
    rw [if_neg (by omega)]; exact h1
  · rw [pm_ur_row (by omega)]; exact h2 j hjl
theorem pm_ft_def {ci fk : Nat} {ty : FieldType} (h : pm_tyok (pm_ft ci fk) ty = true) (ad : Nat → Nat) : defaultValue ty = pm_tv ad (pm_fv (pm_ft ci fk) (fun _ _ => 0) (fun _ _ => 0) (fun _ _ => none) 0 fk) := by
  unfold pm_tyok at h
  split at h
  · rename_i q; obtain rfl := of_decide_eq_true h; simp [pm_fv, q, pm_tv, defaultValue]
  · rename_i q; obtain rfl := of_decide_eq_true h; simp [pm_fv, q, pm_tv, defaultValue]
  · rename_i q; obtain rfl := of_decide_eq_true h; simp [pm_fv, q, pm_tv, defaultValue]
  · rename_i q
    cases ty <;> first | (simp [pm_fv, q, pm_tv, defaultValue, pm_rv]; done) | cases h
  · cases h
theorem pm_s_new (C : pm_cx p l Rm s m args meth c k d base D cy sad sav b L xs) {w ci p0 : Nat} (ht : pm_tab k pc = some (.new w, len, [0, ci, p0], v)) (h : pm_sem E k (.new w) len [0, ci, p0] v (pc, lv, st, (fz, n, sh, I, J, R), c0, z0) (pm_gd p l e Rm s m args below meth c k base D cy (pm_ad base sad b) L xs Z) Q) : pm_gd p l e Rm s m args below meth c k base D cy (pm_ad base sad b) L xs Z (pc, lv, st, (fz, n, sh, I, J, R), c0, z0) := by
  obtain ⟨hx, hb, hml, hown, hts, hnm, hC, hRm, hk, hst, hlk, htb, hrt⟩ := C
  obtain ⟨hd, hln, hci⟩ := pm_tab_spec hk ht
  have hlen : len = 3 := by simpa [pm_ln] using hln
  subst hlen
  intro H locs ls hrel hex hS hl
  simp only [pm_ci, Bool.and_eq_true] at hci
  obtain ⟨hf2, hf3, hf4, hf5⟩ := hci
  simp only [pm_sem] at h
  cases hb1 : (!fz && (Nat.blt (n + 1) 1000000 && (Nat.ble (c0 + 1) (pm_mc k) && Nat.ble (z0 + pm_nf ci) (pm_ms k)))) with
  | false => rw [hb1] at h; exact h.elim
  | true =>
    rw [hb1] at h
    simp only [Bool.and_eq_true, Bool.not_eq_true'] at hb1
    obtain ⟨hfz, hb2, hb3, hb4⟩ := hb1
    subst hfz
    have hn1 : n + 1 < 1000000 := Nat.le_of_ble_eq_true hb2
    refine pm_W_size fun hsz2 => ?_
    have hex' := hex rfl
    simp only at hex'
    have hsz2 : H.size ≤ s.heap.size + c0 := hsz2
    have hz : H.size = base + n := by have := hrel.2.2.1; omega
    have hci12 : ci < 12 := Nat.le_of_ble_eq_true hf2
    obtain ⟨ty, hc1, hc2, hc3, hc4, hc5, hc6, hc7, hc8⟩ := pm_cls ci hci12
    have hcl : vwCl[ci]? = some ((pm_cT ci).1, (pm_cT ci).2.1, pm_nf ci) := by rw [hc1, ← hc2]
    have hKn := hC.1.1 ci _ hcl
    refine W.newcK hx hb hown (hts _ (pm_wd_good hf3 rfl)) (hts _ (pm_wd_good hf4 rfl)) (hts _ (pm_wd_good hf5 rfl)) rfl hd (by rw [hRm.2.2.1]; exact Nat.le_of_ble_eq_true hb3) (by rw [hRm.2.2.2]; exact Nat.le_of_ble_eq_true hb4) hKn.2.1 hz (fun H1 kC hkC e1 z1 o1 => ?_)
    have had : pm_ad base sad b n = base + n := pm_ad_lt (by omega)
    have hat : va_at D vwCl (base + n, pm_cel cy (pm_ad base sad b) (ci, pm_nf ci) (fun _ => 0) (fun _ => 0) (fun _ => none)) H1 := by
      rw [pm_cel_obj (ci := ci) rfl (by omega)]
      refine ⟨_, hcl, (u_born ty hts (fun w hw => pm_gw_of (hc3 w hw)) hKn hkC e1 hc4).to fun j hj => ?_⟩
      rw [pm_ft_def (hc6 j hj) (pm_ad base sad b)]
      simp [vp_V, List.getD, List.getElem?_map, List.getElem?_range hj]
    have e9 := h H1 locs ls (pm_rel_push (fz' := false) hrel hn1 hz z1 o1 hat) (fun _ => by simp only; omega) ⟨Nat.le_trans hS.1 (by omega), fun q h1 h2 => (o1 q (by have := hS.1; omega)).trans (hS.2.1 q h1 h2), hS.2.2⟩ hl
    simp only [List.map_cons, pm_tv, had] at e9
    exact e9
theorem pm_s_newarray (C : pm_cx p l Rm s m args meth c k d base D cy sad sav b L xs) {t : ArrayType} (ht : pm_tab k pc = some (.newarray t, len, ts, v)) (h : pm_sem E k (.newarray t) len ts v (pc, lv, st, (fz, n, sh, I, J, R), c0, z0) (pm_gd p l e Rm s m args below meth c k base D cy (pm_ad base sad b) L xs Z) Q) : pm_gd p l e Rm s m args below meth c k base D cy (pm_ad base sad b) L xs Z (pc, lv, st, (fz, n, sh, I, J, R), c0, z0) := by
  obtain ⟨hx, hb, hml, hown, hts, hnm, hC, hRm, hk, hst, hlk, htb, hrt⟩ := C
  obtain ⟨hd, hln, hci⟩ := pm_tab_spec hk ht
  have hlen : len = 2 := by simpa [pm_ln] using hln
  subst hlen
  intro H locs ls hrel hex hS hl
  simp only [pm_sem] at h
  split at h
  · rename_i q r
    cases hb1 : (!fz && (Nat.blt (n + 1) 1000000 && (Nat.ble (pm_ak t) 103 && (Nat.ble q.toNatClampNeg 100000 && (Nat.ble (c0 + 1) (pm_mc k) && Nat.ble (z0 + q.toNatClampNeg) (pm_ms k)))))) with
    | false => rw [hb1] at h; exact h.elim
    | true =>
      rw [hb1] at h
      simp only [Bool.and_eq_true, Bool.not_eq_true'] at hb1
      obtain ⟨hfz, hb2, hb5, hb6, hb3, hb4⟩ := hb1
      subst hfz
      have hn1 : n + 1 < 1000000 := Nat.le_of_ble_eq_true hb2
      have hq5 : q.toNatClampNeg ≤ 100000 := Nat.le_of_ble_eq_true hb6
      refine pm_W_size fun hsz2 => ?_
      have hex' := hex rfl
      simp only at hex'
      have hsz2 : H.size ≤ s.heap.size + c0 := hsz2
      have hz : H.size = base + n := by have := hrel.2.2.1; omega
      have had : pm_ad base sad b n = base + n := pm_ad_lt (by omega)
      have hcel : c0 + 1 ≤ Rm.cells := by rw [hRm.2.2.1]; exact Nat.le_of_ble_eq_true hb3
      have hslo : z0 + q.toNatClampNeg ≤ Rm.slots := by rw [hRm.2.2.2]; exact Nat.le_of_ble_eq_true hb4
      have key : ∀ (H1 : Heap), H1.size = base + n + 1 → (∀ q : Nat, q < base + n → H1[q]? = H[q]?) → va_at D vwCl (base + n, pm_cel cy (pm_ad base sad b) (pm_ak t, q.toNatClampNeg) (fun _ => 0) (fun _ => 0) (fun _ => none)) H1 → W p l e Rm s m args below meth c H1 locs (c0 + 1) (z0 + q.toNatClampNeg) Z (F0 m (pc + 2) ls (.ref (base + n) :: r.map (pm_tv (pm_ad base sad b)))) := by
        intro H1 z1 o1 hat
        have e9 := h.2 H1 locs ls (pm_rel_push (fz' := false) hrel hn1 hz z1 o1 hat) (fun _ => by simp only; omega) ⟨Nat.le_trans hS.1 (by omega), fun q h1 h2 => (o1 q (by have := hS.1; omega)).trans (hS.2.1 q h1 h2), hS.2.2⟩ hl
        simp only [List.map_cons, pm_tv, had] at e9
        exact e9
      have hK := hC.1.2
      cases t
      case int =>
        refine va_newaK (atype := .int) hx hb (hts _ pm_wI) rfl hd rfl h.1 rfl (by show q.toNatClampNeg * 4 ≤ _; omega) hcel hslo hz (fun H1 cA e1 z1 o1 _ hN => key H1 z1 o1 ?_)
        have hc : cA = cy 100 := Option.some.inj (hN.symm.trans (hK 0 _ rfl).2)
        rw [pm_cel_arr (kd := 100) rfl (by omega) (by omega), ← hc]
        exact e1
      case byte =>
        refine va_newaK (atype := .byte) hx hb (hts _ pm_wB) rfl hd rfl h.1 rfl (by show q.toNatClampNeg * 1 ≤ _; omega) hcel hslo hz (fun H1 cA e1 z1 o1 _ hN => key H1 z1 o1 ?_)
        have hc : cA = cy 101 := Option.some.inj (hN.symm.trans (hK 1 _ rfl).2)
        rw [pm_cel_arr (kd := 101) rfl (by omega) (by omega), ← hc]
        exact e1
      case boolean =>
        refine va_newaK (atype := .boolean) hx hb (hts _ pm_wZ) rfl hd rfl h.1 rfl (by show q.toNatClampNeg * 1 ≤ _; omega) hcel hslo hz (fun H1 cA e1 z1 o1 _ hN => key H1 z1 o1 ?_)
        have hc : cA = cy 102 := Option.some.inj (hN.symm.trans (hK 2 _ rfl).2)
        rw [pm_cel_arr (kd := 102) rfl (by omega) (by omega), ← hc]
        exact e1
      case long =>
        refine va_newaK (atype := .long) hx hb (hts _ pm_wJ) rfl hd rfl h.1 rfl (by show q.toNatClampNeg * 8 ≤ _; omega) hcel hslo hz (fun H1 cA e1 z1 o1 _ hN => key H1 z1 o1 ?_)
        have hc : cA = cy 103 := Option.some.inj (hN.symm.trans (hK 3 _ rfl).2)
        rw [pm_cel_arrL rfl, ← hc]
        exact e1
      all_goals cases hb5
  · exact h.elim
theorem pm_s_objInit (C : pm_cx p l Rm s m args meth c k d base D cy sad sav b L xs) {w p0 : Nat} (ht : pm_tab k pc = some (.invokespecial w, len, [2, p0], v)) (h : pm_sem E k (.invokespecial w) len [2, p0] v (pc, lv, st, (fz, n, sh, I, J, R), c0, z0) (pm_gd p l e Rm s m args below meth c k base D cy (pm_ad base sad b) L xs Z) Q) : pm_gd p l e Rm s m args below meth c k base D cy (pm_ad base sad b) L xs Z (pc, lv, st, (fz, n, sh, I, J, R), c0, z0) := by
  obtain ⟨hx, hb, hml, hown, hts, hnm, hC, hRm, hk, hst, hlk, htb, hrt⟩ := C
  obtain ⟨hd, hln, hci⟩ := pm_tab_spec hk ht
  have hlen : len = 3 := by simpa [pm_ln] using hln
  subst hlen
  intro H locs ls hrel hex hS hl
  simp only [pm_ci] at hci
  simp only [pm_sem] at h
  split at h
  · rename_i a r
    cases hb1 : Nat.ble (pm_cat r) 8 with
    | false => rw [hb1] at h; exact h.elim
    | true =>
      rw [hb1] at h
      have hcat := Nat.le_of_ble_eq_true hb1
      refine W.objInit hx hb hown (hts _ (pm_wd_good hci rfl)) (hts _ pm_w9) (hts _ pm_w10) rfl (by rw [hml]; exact hl.1) rfl hd (by have := hRm.1; omega) ?_ (h H locs ls hrel hex hS hl)
      show 2 * (F0 m pc ls _).monitorRoom + _ + 12 ≤ Rm.locals
      have h9 := lv_room (m := m) (pc := pc) (ls := ls) (rest := []) (st := r.map (pm_tv (pm_ad base sad b))) (by rw [pm_cat_map]; exact hcat)
      have := hRm.2.1
      simp only [JFrame.monitorRoom] at h9 ⊢
      omega
  · exact h.elim
theorem pm_s_minmax (C : pm_cx p l Rm s m args meth c k d base D cy sad sav b L xs) {w : Nat} (ht : pm_tab k pc = some (.invokestatic w, len, ts, v)) (hts4 : (∃ p0, ts = [2, p0]) ∨ ∃ p0, ts = [3, p0]) (h : pm_sem E k (.invokestatic w) len ts v (pc, lv, st, (fz, n, sh, I, J, R), c0, z0) (pm_gd p l e Rm s m args below meth c k base D cy (pm_ad base sad b) L xs Z) Q) : pm_gd p l e Rm s m args below meth c k base D cy (pm_ad base sad b) L xs Z (pc, lv, st, (fz, n, sh, I, J, R), c0, z0) := by
  obtain ⟨hx, hb, hml, hown, hts, hnm, hC, hRm, hk, hst, hlk, htb, hrt⟩ := C
  obtain ⟨hd, hln, hci⟩ := pm_tab_spec hk ht
  have hlen : len = 3 := by simpa [pm_ln] using hln
  subst hlen
  intro H locs ls hrel hex hS hl
  rcases hts4 with ⟨p0, rfl⟩ | ⟨p0, rfl⟩
  · simp only [pm_ci] at hci
    simp only [pm_sem, pm_inst] at h
    split at h
    · rename_i y x r
      cases hb1 : Nat.ble (pm_cat r) 8 && (Nat.ble c0 (pm_mc k) && Nat.ble z0 (pm_ms k)) with
      | false => rw [hb1] at h; exact h.elim
      | true =>
        rw [hb1] at h
        simp only [Bool.and_eq_true] at hb1
        have hcat := Nat.le_of_ble_eq_true hb1.1
        exact va_mmin hx hb (hml.trans hl.1.symm) hown (hts _ (pm_wd_good hci rfl)) (hts _ pm_w1) (hts _ pm_w3) (hts _ pm_w4) (by have := hRm.1; omega) (by rw [pm_cat_map]; have := hRm.2.1; omega) (by rw [hRm.2.2.1]; exact Nat.le_of_ble_eq_true hb1.2.1) (by rw [hRm.2.2.2]; exact Nat.le_of_ble_eq_true hb1.2.2) hd (h H locs ls hrel hex hS hl)
    · exact h.elim
  · simp only [pm_ci] at hci
    simp only [pm_sem, pm_inst] at h
    split at h
    · rename_i y x r
      cases hb1 : Nat.ble (pm_cat r) 8 && (Nat.ble c0 (pm_mc k) && Nat.ble z0 (pm_ms k)) with
      | false => rw [hb1] at h; exact h.elim
      | true =>
        rw [hb1] at h
        simp only [Bool.and_eq_true] at hb1
        have hcat := Nat.le_of_ble_eq_true hb1.1
        exact va_mmax hx hb (hml.trans hl.1.symm) hown (hts _ (pm_wd_good hci rfl)) (hts _ pm_w2) (hts _ pm_w3) (hts _ pm_w5) (by have := hRm.1; omega) (by rw [pm_cat_map]; have := hRm.2.1; omega) (by rw [hRm.2.2.1]; exact Nat.le_of_ble_eq_true hb1.2.1) (by rw [hRm.2.2.2]; exact Nat.le_of_ble_eq_true hb1.2.2) hd (h H locs ls hrel hex hS hl)
    · exact h.elim
theorem pm_s_copy (C : pm_cx p l Rm s m args meth c k d base D cy sad sav b L xs) {w p0 : Nat} (ht : pm_tab k pc = some (.invokestatic w, len, [4, p0], v)) (h : pm_sem E k (.invokestatic w) len [4, p0] v (pc, lv, st, (fz, n, sh, I, J, R), c0, z0) (pm_gd p l e Rm s m args below meth c k base D cy (pm_ad base sad b) L xs Z) Q) : pm_gd p l e Rm s m args below meth c k base D cy (pm_ad base sad b) L xs Z (pc, lv, st, (fz, n, sh, I, J, R), c0, z0) := by
  obtain ⟨hx, hb, hml, hown, hts, hnm, hC, hRm, hk, hst, hlk, htb, hrt⟩ := C
  obtain ⟨hd, hln, hci⟩ := pm_tab_spec hk ht
  have hlen : len = 3 := by simpa [pm_ln] using hln
  subst hlen
  intro H locs ls hrel hex hS hl
  simp only [pm_ci] at hci
  simp only [pm_sem, pm_inst] at h
  split at h
  · rename_i q dp b1 sp a1 r
    cases hb0 : Nat.ble (pm_cat r) 8 with
    | false => rw [hb0] at h; exact h.elim
    | true =>
      rw [hb0] at h
      simp only [cond_true] at h
      have hcat := Nat.le_of_ble_eq_true hb0
      have hloc : ((r.map (pm_tv (pm_ad base sad b))).map fun v => v.category).sum + (nativeFrameWords "java/lang/System" "arraycopy" 5 + 11) ≤ Rm.locals := by
        rw [pm_cat_map]
        have h5 : nativeFrameWords "java/lang/System" "arraycopy" 5 ≤ 100 := by decide +kernel
        have := hRm.2.1
        omega
      have hrel0 := hrel
      obtain ⟨hP, hn6, hsz, hs1, hs2⟩ := hrel
      cases hb1 : pm_is n sh a1 100 && pm_is n sh b1 100 with
      | true =>
        rw [hb1] at h
        simp only [cond_true] at h
        simp only [Bool.and_eq_true] at hb1
        obtain ⟨ha, hsh⟩ := pm_is_spec hb1.1
        obtain ⟨ha', hsh'⟩ := pm_is_spec hb1.2
        have had : pm_ad base sad b a1 = base + a1 := pm_ad_lt (Nat.lt_trans ha hn6)
        have had' : pm_ad base sad b b1 = base + b1 := pm_ad_lt (Nat.lt_trans ha' hn6)
        have he := pm_ws_get (base := base) (cy := cy) (ad := pm_ad base sad b) (sh := sh) (I := I) (J := J) (R := R) ha
        have he' := pm_ws_get (base := base) (cy := cy) (ad := pm_ad base sad b) (sh := sh) (I := I) (J := J) (R := R) ha'
        rw [pm_cel_arr hsh (by omega) (by omega)] at he
        rw [pm_cel_arr hsh' (by omega) (by omega)] at he'
        show W p l e Rm s m args below meth c H locs c0 z0 Z (F0 m pc ls (.int q :: .int dp :: .ref (pm_ad base sad b b1) :: .int sp :: .ref (pm_ad base sad b a1) :: r.map (pm_tv (pm_ad base sad b))))
        rw [had, had']
        obtain ⟨⟨g1, g2, g3, g4, g5⟩, h9⟩ := h
        exact va_copyi hx hb (hml.trans hl.1.symm) hown (hts _ (pm_wd_good hci rfl)) (hts _ pm_w6) (hts _ pm_w7) (hts _ pm_w8) hC.1 hP pm_ws_D hS a1 b1 0 0 (ty := .int) he he' rfl rfl rfl g1 g2 g3 g4 g5 (fun _ _ => rfl) (by have := hRm.1; omega) hloc hd (fun H1 locs1 q1 _ q3 => h9 H1 locs1 ls (pm_rel_set hrel0 ha' (by rw [pm_cel_arr hsh' (by omega) (by omega), pm_ur_self]) (fun j hj => ⟨pm_ur_row hj, rfl, rfl⟩) q1) hex q3 hl)
      | false =>
        rw [hb1] at h
        simp only [cond_false] at h
        cases hb1 : pm_is n sh a1 103 && pm_is n sh b1 103 with
        | false => rw [hb1] at h; exact h.elim
        | true =>
          rw [hb1] at h
          simp only [cond_true] at h
          simp only [Bool.and_eq_true] at hb1
          obtain ⟨ha, hsh⟩ := pm_is_spec hb1.1
          obtain ⟨ha', hsh'⟩ := pm_is_spec hb1.2
          have had : pm_ad base sad b a1 = base + a1 := pm_ad_lt (Nat.lt_trans ha hn6)
          have had' : pm_ad base sad b b1 = base + b1 := pm_ad_lt (Nat.lt_trans ha' hn6)
          have he := pm_ws_get (base := base) (cy := cy) (ad := pm_ad base sad b) (sh := sh) (I := I) (J := J) (R := R) ha
          have he' := pm_ws_get (base := base) (cy := cy) (ad := pm_ad base sad b) (sh := sh) (I := I) (J := J) (R := R) ha'
          rw [pm_cel_arrL hsh] at he
          rw [pm_cel_arrL hsh'] at he'
          show W p l e Rm s m args below meth c H locs c0 z0 Z (F0 m pc ls (.int q :: .int dp :: .ref (pm_ad base sad b b1) :: .int sp :: .ref (pm_ad base sad b a1) :: r.map (pm_tv (pm_ad base sad b))))
          rw [had, had']
          obtain ⟨⟨g1, g2, g3, g4, g5⟩, h9⟩ := h
          exact va_copyl hx hb (hml.trans hl.1.symm) hown (hts _ (pm_wd_good hci rfl)) (hts _ pm_w6) (hts _ pm_w7) (hts _ pm_w8) hC.1 hP pm_ws_D hS a1 b1 3 3 (ty := .long) he he' rfl rfl rfl g1 g2 g3 g4 g5 (fun _ _ => rfl) (by have := hRm.1; omega) hloc hd (fun H1 locs1 q1 _ q3 => h9 H1 locs1 ls (pm_rel_set hrel0 ha' (by rw [pm_cel_arrL hsh', pm_ur_self]) (fun j hj => ⟨rfl, pm_ur_row hj, rfl⟩) q1) hex q3 hl)
  · exact h.elim
end Sound3
