/-! fields, arrays, new cells, ends -/
theorem pm_is_spec {n : Nat} {sh : Nat → Nat × Nat} {a kd : Nat} (h : pm_is n sh a kd = true) : a < n ∧ (sh a).1 = kd := by
  unfold pm_is at h
  simp only [Bool.and_eq_true] at h
  exact ⟨Nat.le_of_ble_eq_true h.1, Nat.eq_of_beq_eq_true h.2⟩
theorem pm_ad_lt {base : Nat} {sad : Nat → Nat} {b a : Nat} (h : a < 1000000) : pm_ad base sad b a = base + a := if_pos h
theorem pm_ad_scr {base : Nat} {sad : Nat → Nat} {b : Nat} : pm_ad base sad b 2000000 = b := by
  unfold pm_ad
  rw [if_neg (by omega), if_neg (by omega)]
theorem pm_gw_of {w : Cond} (h : w ∈ lw_tbl ∧ ((w.onTables && w.keeps) = true ∨ ∃ ty, w = .arrayClass ty)) : w ∈ pm_GW := by
  refine List.mem_filter.mpr ⟨h.1, ?_⟩
  rcases h.2 with q | ⟨ty, rfl⟩
  · cases w <;> first | exact q | rfl
  · rfl
section Cel
variable {cy : Nat → ClassId} {ad : Nat → Nat} {ks : Nat × Nat} {I : Nat → Int32} {J : Nat → Int64} {R : Nat → Option Nat} {ci kd : Nat}
theorem pm_cel_obj (h : ks.1 = ci) (h1 : ci < 100) : pm_cel cy ad ks I J R = .inr (ci, (List.range (pm_nf ci)).map (fun k => pm_tv ad (pm_fv (pm_ft ci k) (fun _ => I) (fun _ => J) (fun _ => R) 0 k))) := by
  subst h; simp [pm_cel, h1]
theorem pm_cel_arr (h : ks.1 = kd) (h1 : 100 ≤ kd) (h2 : kd ≠ 103) : pm_cel cy ad ks I J R = .inl (cy kd, ks.2, .inl I) := by
  subst h
  unfold pm_cel
  rw [if_neg (by omega), if_neg h2]
theorem pm_cel_arrL (h : ks.1 = 103) : pm_cel cy ad ks I J R = .inl (cy 103, ks.2, .inr (.inl J)) := by
  unfold pm_cel
  rw [if_neg (by omega), if_pos h]
end Cel
section Sound2
variable {p : Program} {l : Launch} {e : Env} {Rm : Room} {s : State} {m : MethodId} {args : Array Value} {below : List Frame} {meth : Method} {c : Code}
variable {base : Nat} {D : va_G} {cy : Nat → ClassId} {sad sav : Nat → Nat} {b L : Nat} {xs : Nat → Int32} {k d : Nat} {Z : State → Prop} {E : pm_E} {Q : pm_R → pm_H → Prop}
variable {pc len : Nat} {lv : pm_L} {st : List Value} {fz : Bool} {n : Nat} {sh : Nat → Nat × Nat} {I I' : Nat → Nat → Int32} {J J' : Nat → Nat → Int64} {R R' : Nat → Nat → Option Nat} {c0 z0 : Nat} {ts : List Nat} {v : Int32}
theorem pm_rel_set {ad : Nat → Nat} {H H1 : Heap} {fz' : Bool} {i : Nat} {e : va_E} (hrel : pm_rel base D cy ad L xs (fz, n, sh, I, J, R) H) (hi : i < n) (he : e = pm_cel cy ad (sh i) (I' i) (J' i) (R' i)) (hj : ∀ j, j ≠ i → I' j = I j ∧ J' j = J j ∧ R' j = R j)
    (hP1 : va_P D vwCl ((pm_ws base cy ad n sh I J R).set i (base + i, e)) H1) : pm_rel base D cy ad L xs (fz', n, sh, I', J', R') H1 := by
  obtain ⟨hP, hn, hsz, h1, h2⟩ := hrel
  rw [pm_ws_set (sh' := sh) hi he (fun j hne => ⟨rfl, hj j hne⟩)] at hP1
  refine ⟨hP1, hn, ?_, h1, fun j hjl => ?_⟩
  · obtain ⟨q, rfl⟩ : ∃ q, n = q + 1 := ⟨n - 1, by omega⟩
    have := (hP1 q _ (pm_ws_get (Nat.lt_succ_self q))).lt
    simp only at this
    omega
  · rw [(hj 2000000 (by omega)).1]; exact h2 j hjl
theorem pm_obj_I {ad : Nat → Nat} {a fk ci : Nat} {x : Int32} (hsh : (sh a).1 = ci) (h1 : ci < 100) (hft : pm_ft ci fk = 0 ∨ pm_ft ci fk = 1) :
    (.inr (ci, ((List.range (pm_nf ci)).map (fun k => pm_tv ad (pm_fv (pm_ft ci k) (fun _ => I a) (fun _ => J a) (fun _ => R a) 0 k))).set fk (.int x)) : va_E) = pm_cel cy ad (sh a) (pm_u I a fk x a) (J a) (R a) := by
  rw [pm_cel_obj hsh h1]
  congr 2
  apply pm_mapset
  · rcases hft with q | q <;> simp [pm_fv, q, pm_tv, pm_u]
  · intro j hj
    have : pm_u I a fk x a j = I a j := by simp [pm_u, hj]
    unfold pm_fv
    split <;> simp [this]
theorem pm_obj_J {ad : Nat → Nat} {a fk ci : Nat} {x : Int64} (hsh : (sh a).1 = ci) (h1 : ci < 100) (hft : pm_ft ci fk = 2) :
    (.inr (ci, ((List.range (pm_nf ci)).map (fun k => pm_tv ad (pm_fv (pm_ft ci k) (fun _ => I a) (fun _ => J a) (fun _ => R a) 0 k))).set fk (.long x)) : va_E) = pm_cel cy ad (sh a) (I a) (pm_u J a fk x a) (R a) := by
  rw [pm_cel_obj hsh h1]
  congr 2
  apply pm_mapset
  · simp [pm_fv, hft, pm_tv, pm_u]
  · intro j hj
    have : pm_u J a fk x a j = J a j := by simp [pm_u, hj]
    unfold pm_fv
    split <;> simp [this]
theorem pm_obj_R {ad : Nat → Nat} {a fk ci : Nat} {x : Nat} (hsh : (sh a).1 = ci) (h1 : ci < 100) (hft : pm_ft ci fk = 3) :
    (.inr (ci, ((List.range (pm_nf ci)).map (fun k => pm_tv ad (pm_fv (pm_ft ci k) (fun _ => I a) (fun _ => J a) (fun _ => R a) 0 k))).set fk (.ref (ad x))) : va_E) = pm_cel cy ad (sh a) (I a) (J a) (pm_u R a fk (some x) a) := by
  rw [pm_cel_obj hsh h1]
  congr 2
  apply pm_mapset
  · simp [pm_fv, hft, pm_tv, pm_u, pm_rv]
  · intro j hj
    have : pm_u R a fk (some x) a j = R a j := by simp [pm_u, hj]
    unfold pm_fv
    split <;> simp [this]
theorem pm_s_getfield (C : pm_cx p l Rm s m args meth c k d base D cy sad sav b L xs) {w : Nat} (ht : pm_tab k pc = some (.getfield w, len, ts, v)) (h : pm_sem E k (.getfield w) len ts v (pc, lv, st, (fz, n, sh, I, J, R), c0, z0) (pm_gd p l e Rm s m args below meth c k base D cy (pm_ad base sad b) L xs Z) Q) : pm_gd p l e Rm s m args below meth c k base D cy (pm_ad base sad b) L xs Z (pc, lv, st, (fz, n, sh, I, J, R), c0, z0) := by
  obtain ⟨hx, hb, hml, hown, hts, hnm, hC, hRm, hk, hst, hlk, htb, hrt⟩ := C
  obtain ⟨hd, hln, hci⟩ := pm_tab_spec hk ht
  have hlen : len = 3 := by simpa [pm_ln] using hln
  subst hlen
  intro H locs ls hrel hex hS hl
  simp only [pm_sem] at h
  split at h
  · rename_i a r ci fk p0
    simp only [pm_ci, pm_fw, Bool.and_eq_true] at hci
    obtain ⟨hf1, hf2, hf3⟩ := hci
    cases hb1 : pm_is n sh a ci with
    | false => rw [hb1] at h; exact h.elim
    | true =>
      rw [hb1] at h
      obtain ⟨ha, hsh⟩ := pm_is_spec hb1
      have hci12 : ci < 12 := Nat.le_of_ble_eq_true hf2
      obtain ⟨ty, hc1, hc2, hc3, hc4, hc5, hc6, hc7, hc8⟩ := pm_cls ci hci12
      have hfk : fk < pm_nf ci := Nat.le_of_ble_eq_true hf1
      have e9 := h H locs ls hrel hex hS hl
      obtain ⟨hP, hn6, hsz, hs1, hs2⟩ := hrel
      have had : pm_ad base sad b a = base + a := pm_ad_lt (Nat.lt_trans ha hn6)
      have he := pm_ws_get (base := base) (cy := cy) (ad := pm_ad base sad b) (sh := sh) (I := I) (J := J) (R := R) ha
      rw [pm_cel_obj hsh (by omega)] at he
      have hcl : vwCl[ci]? = some ((pm_cT ci).1, (pm_cT ci).2.1, pm_nf ci) := by rw [hc1, ← hc2]
      show W p l e Rm s m args below meth c H locs c0 z0 Z (F0 m pc ls (.ref (pm_ad base sad b a) :: r.map (pm_tv (pm_ad base sad b))))
      rw [had]
      refine va_get (D := D) (cl := vwCl) (tys := pm_tys cy) (C := (pm_cT ci).1) (T := (pm_cT ci).2.1) (N := pm_nf ci) (Ts := pm_GW) (ref := (pm_cT ci).1) (v := pm_tv (pm_ad base sad b) (pm_fv (pm_ft ci fk) I J R a fk)) hx hb hts (fun w hw => pm_gw_of (hc3 w hw)) hown hC.1 hP a he hcl fk hfk (hts _ (pm_wd_good hf3 rfl)) (fun x hx => by rw [hc8 fk hfk] at hx; exact hx) ?_ hd e9
      rw [List.getElem?_map, List.getElem?_range hfk, ← pm_fv_row]
      rfl
  · exact h.elim
theorem pm_put (C : pm_cx p l Rm s m args meth c k d base D cy sad sav b L xs) {w a ci fk p0 fin : Nat} {r : List Value} {H : Heap} {locs : List Loc} {ls : Array Slot} {u : Value} (hd : decode (pm_by k) pc = .ok (.putfield w, 3)) (hci : pm_ci k pc (.putfield w) [ci, fk, p0, fin] v = true) (hb1 : pm_is n sh a ci = true)
    (hrel : pm_rel base D cy (pm_ad base sad b) L xs (fz, n, sh, I, J, R) H) (hS : va_S (pm_A base) s.heap H locs)
    (hfit : ∀ ty : FieldType, pm_tyok (pm_ft ci fk) ty = true → narrow ty u = u ∧ fits ty u = true)
    (kk : ∀ (H1 : Heap) (locs1 : List Loc), va_P D vwCl ((pm_ws base cy (pm_ad base sad b) n sh I J R).set a (base + a, .inr (ci, ((List.range (pm_nf ci)).map (fun k => pm_tv (pm_ad base sad b) (pm_fv (pm_ft ci k) (fun _ => I a) (fun _ => J a) (fun _ => R a) 0 k))).set fk u))) H1 → va_S (pm_A base) s.heap H1 locs1 → W p l e Rm s m args below meth c H1 locs1 c0 z0 Z (F0 m (pc + 3) ls r)) :
    W p l e Rm s m args below meth c H locs c0 z0 Z (F0 m pc ls (u :: .ref (pm_ad base sad b a) :: r)) := by
  obtain ⟨hx, hb, hml, hown, hts, hnm, hC, hRm, hk, hst, hlk, htb, hrt⟩ := C
  simp only [pm_ci, pm_fw, Bool.and_eq_true] at hci
  obtain ⟨⟨hf1, hf2, hf3⟩, hfin⟩ := hci
  obtain ⟨ha, hsh⟩ := pm_is_spec hb1
  have hci12 : ci < 12 := Nat.le_of_ble_eq_true hf2
  obtain ⟨ty, hc1, hc2, hc3, hc4, hc5, hc6, hc7, hc8⟩ := pm_cls ci hci12
  have hfk : fk < pm_nf ci := Nat.le_of_ble_eq_true hf1
  have hrel0 := hrel
  obtain ⟨hP, hn6, hsz, hs1, hs2⟩ := hrel
  have had : pm_ad base sad b a = base + a := pm_ad_lt (Nat.lt_trans ha hn6)
  have he := pm_ws_get (base := base) (cy := cy) (ad := pm_ad base sad b) (sh := sh) (I := I) (J := J) (R := R) ha
  rw [pm_cel_obj hsh (by omega)] at he
  have hcl : vwCl[ci]? = some ((pm_cT ci).1, (pm_cT ci).2.1, pm_nf ci) := by rw [hc1, ← hc2]
  have hty := hc6 fk hfk
  rw [had]
  obtain ⟨hn1, hn2⟩ := hfit (ty fk) hty
  cases hfb : Nat.beq fin 1 with
  | false =>
    rw [hfb] at hfin
    have hfin : ((pm_cT ci).2.1 fk).2.2.2 = false := by simpa using hfin
    exact va_put (D := D) (cl := vwCl) (tys := pm_tys cy) (C := (pm_cT ci).1) (T := (pm_cT ci).2.1) (N := pm_nf ci) (Ts := pm_GW) (ref := (pm_cT ci).1) hx hb hts (fun w hw => pm_gw_of (hc3 w hw)) ty hc4 hc5 hown hC.1 hP pm_ws_D hS a he hcl fk hfk (hts _ (pm_wd_good hf3 rfl)) (fun x hx => by rw [hc8 fk hfk] at hx; exact hx) hfin (hc4 fk hfk) hn1 hn2 (by simpa using hfk) hd (fun H1 locs1 q1 _ q3 => kk H1 locs1 q1 q3)
  | true =>
    rw [hfb] at hfin
    simp only [cond_true, Bool.and_eq_true, decide_eq_true_eq] at hfin
    exact va_putF (D := D) (cl := vwCl) (tys := pm_tys cy) (C := (pm_cT ci).1) (T := (pm_cT ci).2.1) (N := pm_nf ci) (Ts := pm_GW) (ref := (pm_cT ci).1) hx hb hts (fun w hw => pm_gw_of (hc3 w hw)) ty hc4 hc5 hown hC.1 hP pm_ws_D hS a he hcl fk hfk (hts _ (pm_wd_good hf3 rfl)) (fun x hx => by rw [hc8 fk hfk] at hx; exact hx) hfin.1 (hnm hfin.2.1) hfin.2.2 (hc4 fk hfk) hn1 hn2 (by simpa using hfk) hd (fun H1 locs1 q1 _ q3 => kk H1 locs1 q1 q3)
set_option maxHeartbeats 1000000 in
theorem pm_s_putfield (C : pm_cx p l Rm s m args meth c k d base D cy sad sav b L xs) {w : Nat} (ht : pm_tab k pc = some (.putfield w, len, ts, v)) (h : pm_sem E k (.putfield w) len ts v (pc, lv, st, (fz, n, sh, I, J, R), c0, z0) (pm_gd p l e Rm s m args below meth c k base D cy (pm_ad base sad b) L xs Z) Q) : pm_gd p l e Rm s m args below meth c k base D cy (pm_ad base sad b) L xs Z (pc, lv, st, (fz, n, sh, I, J, R), c0, z0) := by
  have C0 := C
  obtain ⟨hx, hb, hml, hown, hts, hnm, hC, hRm, hk, hst, hlk, htb, hrt⟩ := C
  obtain ⟨hd, hln, hci⟩ := pm_tab_spec hk ht
  have hlen : len = 3 := by simpa [pm_ln] using hln
  subst hlen
  intro H locs ls hrel hex hS hl
  simp only [pm_sem] at h
  split at h
  · rename_i u a r ci fk p0 fin
    cases hb1 : pm_is n sh a ci with
    | false => rw [hb1] at h; exact h.elim
    | true =>
      rw [hb1] at h
      simp only [cond_true] at h
      have ha := (pm_is_spec hb1).1
      have hsh := (pm_is_spec hb1).2
      have hci12 : ci < 12 := by
        simp only [pm_ci, pm_fw, Bool.and_eq_true] at hci
        exact Nat.le_of_ble_eq_true hci.1.2.1
      split at h
      · rename_i x hft
        refine pm_put C0 hd hci hb1 hrel hS (u := pm_tv (pm_ad base sad b) (.int x)) (fun ty hty => ?_) (fun H1 locs1 q1 q3 => h H1 locs1 ls (pm_rel_set hrel ha (pm_obj_I hsh (by omega) (Or.inl hft)) (fun j hj => ⟨pm_u_row hj, rfl, rfl⟩) q1) hex q3 hl)
        rw [hft] at hty
        obtain rfl : ty = .int := by simpa [pm_tyok] using hty
        exact ⟨rfl, rfl⟩
      · rename_i x hft
        refine pm_put C0 hd hci hb1 hrel hS (u := pm_tv (pm_ad base sad b) (.int x)) (fun ty hty => ?_) (fun H1 locs1 q1 q3 => h.2 H1 locs1 ls (pm_rel_set hrel ha (pm_obj_I hsh (by omega) (Or.inr hft)) (fun j hj => ⟨pm_u_row hj, rfl, rfl⟩) q1) hex q3 hl)
        rw [hft] at hty
        obtain rfl : ty = .boolean := by simpa [pm_tyok] using hty
        rcases h.1 with rfl | rfl <;> exact ⟨rfl, rfl⟩
      · rename_i x hft
        refine pm_put C0 hd hci hb1 hrel hS (u := pm_tv (pm_ad base sad b) (.long x)) (fun ty hty => ?_) (fun H1 locs1 q1 q3 => h H1 locs1 ls (pm_rel_set hrel ha (pm_obj_J hsh (by omega) hft) (fun j hj => ⟨rfl, pm_u_row hj, rfl⟩) q1) hex q3 hl)
        rw [hft] at hty
        obtain rfl : ty = .long := by simpa [pm_tyok] using hty
        exact ⟨rfl, rfl⟩
      · rename_i x hft
        refine pm_put C0 hd hci hb1 hrel hS (u := pm_tv (pm_ad base sad b) (.ref x)) (fun ty hty => ?_) (fun H1 locs1 q1 q3 => h H1 locs1 ls (pm_rel_set hrel ha (pm_obj_R hsh (by omega) hft) (fun j hj => ⟨rfl, rfl, pm_u_row hj⟩) q1) hex q3 hl)
        rw [hft] at hty
        simp only [pm_tyok] at hty
        cases ty <;> first | exact ⟨rfl, rfl⟩ | cases hty
      · exact h.elim
  · exact h.elim
theorem pm_s_iaload (C : pm_cx p l Rm s m args meth c k d base D cy sad sav b L xs) (ht : pm_tab k pc = some (.iaload, len, ts, v)) (h : pm_sem E k (.iaload) len ts v (pc, lv, st, (fz, n, sh, I, J, R), c0, z0) (pm_gd p l e Rm s m args below meth c k base D cy (pm_ad base sad b) L xs Z) Q) : pm_gd p l e Rm s m args below meth c k base D cy (pm_ad base sad b) L xs Z (pc, lv, st, (fz, n, sh, I, J, R), c0, z0) := by
  obtain ⟨hx, hb, hml, hown, hts, hnm, hC, hRm, hk, hst, hlk, htb, hrt⟩ := C
  obtain ⟨hd, hln, hci⟩ := pm_tab_spec hk ht
  have hlen : len = 1 := by simpa [pm_ln] using hln
  subst hlen
  intro H locs ls hrel hex hS hl
  simp only [pm_sem] at h
  split at h
  · rename_i j a r
    cases hb1 : pm_is n sh a 100 with
    | true =>
      unfold pm_isI at h
      rw [hb1] at h
      simp only [Bool.true_or, cond_true] at h
      have e9 := h.2 H locs ls hrel hex hS hl
      obtain ⟨ha, hsh⟩ := pm_is_spec hb1
      have hrel0 := hrel
      obtain ⟨hP, hn6, hsz, hs1, hs2⟩ := hrel
      have had : pm_ad base sad b a = base + a := pm_ad_lt (Nat.lt_trans ha hn6)
      have he := pm_ws_get (base := base) (cy := cy) (ad := pm_ad base sad b) (sh := sh) (I := I) (J := J) (R := R) ha
      rw [pm_cel_arr hsh (by omega) (by omega)] at he
      show W p l e Rm s m args below meth c H locs c0 z0 Z (F0 m pc ls (.int j :: .ref (pm_ad base sad b a) :: r.map (pm_tv (pm_ad base sad b))))
      rw [had]
      exact va_iald hx hb hC.1 hP a 0 he rfl h.1 hd e9
    | false =>
      unfold pm_isI at h
      rw [hb1] at h
      simp only [Bool.false_or] at h
      cases hb2 : Nat.beq a 2000000 && Nat.beq (sh a).1 104 with
      | false => rw [hb2] at h; exact h.elim
      | true =>
        rw [hb2] at h
        simp only [cond_true] at h
        simp only [Bool.and_eq_true] at hb2
        obtain rfl := Nat.eq_of_beq_eq_true hb2.1
        have e9 := h.2 H locs ls hrel hex hS hl
        obtain ⟨hP, hn6, hsz, hs1, hs2⟩ := hrel
        have hin := h.1
        rw [hs1] at hin
        have hlt : j.toNatClampNeg < L := Nat.not_le.mp fun q => hin (Or.inr q)
        show W p l e Rm s m args below meth c H locs c0 z0 Z (F0 m pc ls (.int j :: .ref (pm_ad base sad b 2000000) :: r.map (pm_tv (pm_ad base sad b))))
        rw [pm_ad_scr]
        obtain ⟨-, -, -, -, -, -, hX, hbb, hbz, -⟩ := hC
        refine va_sld hx hb hX (Nat.lt_of_lt_of_le hbb hbz) (Nat.not_le.mpr hbb) hS hin hd ?_
        rw [← hs2 _ hlt]
        exact e9
  · exact h.elim
theorem pm_s_baload (C : pm_cx p l Rm s m args meth c k d base D cy sad sav b L xs) (ht : pm_tab k pc = some (.baload, len, ts, v)) (h : pm_sem E k (.baload) len ts v (pc, lv, st, (fz, n, sh, I, J, R), c0, z0) (pm_gd p l e Rm s m args below meth c k base D cy (pm_ad base sad b) L xs Z) Q) : pm_gd p l e Rm s m args below meth c k base D cy (pm_ad base sad b) L xs Z (pc, lv, st, (fz, n, sh, I, J, R), c0, z0) := by
  obtain ⟨hx, hb, hml, hown, hts, hnm, hC, hRm, hk, hst, hlk, htb, hrt⟩ := C
  obtain ⟨hd, hln, hci⟩ := pm_tab_spec hk ht
  have hlen : len = 1 := by simpa [pm_ln] using hln
  subst hlen
  intro H locs ls hrel hex hS hl
  simp only [pm_sem] at h
  split at h
  · rename_i j a r
    cases hb1 : pm_is n sh a 101 with
    | true =>
      rw [hb1] at h
      simp only [Bool.true_or, cond_true] at h
      have e9 := h.2 H locs ls hrel hex hS hl
      obtain ⟨ha, hsh⟩ := pm_is_spec hb1
      have hrel0 := hrel
      obtain ⟨hP, hn6, hsz, hs1, hs2⟩ := hrel
      have had : pm_ad base sad b a = base + a := pm_ad_lt (Nat.lt_trans ha hn6)
      have he := pm_ws_get (base := base) (cy := cy) (ad := pm_ad base sad b) (sh := sh) (I := I) (J := J) (R := R) ha
      rw [pm_cel_arr hsh (by omega) (by omega)] at he
      show W p l e Rm s m args below meth c H locs c0 z0 Z (F0 m pc ls (.int j :: .ref (pm_ad base sad b a) :: r.map (pm_tv (pm_ad base sad b))))
      rw [had]
      exact va_bald hx hb hC.1 hP a 1 he rfl h.1 hd e9
    | false =>
      rw [hb1] at h
      simp only [Bool.false_or] at h
      cases hb1 : pm_is n sh a 102 with
      | false => rw [hb1] at h; exact h.elim
      | true =>
        rw [hb1] at h
        have e9 := h.2 H locs ls hrel hex hS hl
        obtain ⟨ha, hsh⟩ := pm_is_spec hb1
        have hrel0 := hrel
        obtain ⟨hP, hn6, hsz, hs1, hs2⟩ := hrel
        have had : pm_ad base sad b a = base + a := pm_ad_lt (Nat.lt_trans ha hn6)
        have he := pm_ws_get (base := base) (cy := cy) (ad := pm_ad base sad b) (sh := sh) (I := I) (J := J) (R := R) ha
        rw [pm_cel_arr hsh (by omega) (by omega)] at he
        show W p l e Rm s m args below meth c H locs c0 z0 Z (F0 m pc ls (.int j :: .ref (pm_ad base sad b a) :: r.map (pm_tv (pm_ad base sad b))))
        rw [had]
        exact va_zald hx hb hC.1 hP a 2 he rfl h.1 hd e9
  · exact h.elim
theorem pm_s_laload (C : pm_cx p l Rm s m args meth c k d base D cy sad sav b L xs) (ht : pm_tab k pc = some (.laload, len, ts, v)) (h : pm_sem E k (.laload) len ts v (pc, lv, st, (fz, n, sh, I, J, R), c0, z0) (pm_gd p l e Rm s m args below meth c k base D cy (pm_ad base sad b) L xs Z) Q) : pm_gd p l e Rm s m args below meth c k base D cy (pm_ad base sad b) L xs Z (pc, lv, st, (fz, n, sh, I, J, R), c0, z0) := by
  obtain ⟨hx, hb, hml, hown, hts, hnm, hC, hRm, hk, hst, hlk, htb, hrt⟩ := C
  obtain ⟨hd, hln, hci⟩ := pm_tab_spec hk ht
  have hlen : len = 1 := by simpa [pm_ln] using hln
  subst hlen
  intro H locs ls hrel hex hS hl
  simp only [pm_sem] at h
  split at h
  · rename_i j a r
    cases hb1 : pm_is n sh a 103 with
    | false => rw [hb1] at h; exact h.elim
    | true =>
      rw [hb1] at h
      have e9 := h.2 H locs ls hrel hex hS hl
      obtain ⟨ha, hsh⟩ := pm_is_spec hb1
      have hrel0 := hrel
      obtain ⟨hP, hn6, hsz, hs1, hs2⟩ := hrel
      have had : pm_ad base sad b a = base + a := pm_ad_lt (Nat.lt_trans ha hn6)
      have he := pm_ws_get (base := base) (cy := cy) (ad := pm_ad base sad b) (sh := sh) (I := I) (J := J) (R := R) ha
      rw [pm_cel_arrL hsh] at he
      show W p l e Rm s m args below meth c H locs c0 z0 Z (F0 m pc ls (.int j :: .ref (pm_ad base sad b a) :: r.map (pm_tv (pm_ad base sad b))))
      rw [had]
      exact va_lald hx hb hC.1 hP a 3 he rfl h.1 hd e9
  · exact h.elim
theorem pm_s_iastore (C : pm_cx p l Rm s m args meth c k d base D cy sad sav b L xs) (ht : pm_tab k pc = some (.iastore, len, ts, v)) (h : pm_sem E k (.iastore) len ts v (pc, lv, st, (fz, n, sh, I, J, R), c0, z0) (pm_gd p l e Rm s m args below meth c k base D cy (pm_ad base sad b) L xs Z) Q) : pm_gd p l e Rm s m args below meth c k base D cy (pm_ad base sad b) L xs Z (pc, lv, st, (fz, n, sh, I, J, R), c0, z0) := by
  obtain ⟨hx, hb, hml, hown, hts, hnm, hC, hRm, hk, hst, hlk, htb, hrt⟩ := C
  obtain ⟨hd, hln, hci⟩ := pm_tab_spec hk ht
  have hlen : len = 1 := by simpa [pm_ln] using hln
  subst hlen
  intro H locs ls hrel hex hS hl
  simp only [pm_sem] at h
  split at h
  · rename_i x j a r
    cases hb1 : pm_is n sh a 100 with
    | false => rw [hb1] at h; exact h.elim
    | true =>
      rw [hb1] at h
      obtain ⟨ha, hsh⟩ := pm_is_spec hb1
      have hrel0 := hrel
      obtain ⟨hP, hn6, hsz, hs1, hs2⟩ := hrel
      have had : pm_ad base sad b a = base + a := pm_ad_lt (Nat.lt_trans ha hn6)
      have he := pm_ws_get (base := base) (cy := cy) (ad := pm_ad base sad b) (sh := sh) (I := I) (J := J) (R := R) ha
      rw [pm_cel_arr hsh (by omega) (by omega)] at he
      show W p l e Rm s m args below meth c H locs c0 z0 Z (F0 m pc ls (.int x :: .int j :: .ref (pm_ad base sad b a) :: r.map (pm_tv (pm_ad base sad b))))
      rw [had]
      exact va_iast hx hb hC.1 hP pm_ws_D hS a 0 he rfl h.1 hd (fun H1 locs1 q1 _ q3 => h.2 H1 locs1 ls (pm_rel_set hrel0 ha (by rw [pm_cel_arr hsh (by omega) (by omega), pm_u_self]) (fun j hj => ⟨pm_u_row hj, rfl, rfl⟩) q1) hex q3 hl)
  · exact h.elim
theorem pm_s_lastore (C : pm_cx p l Rm s m args meth c k d base D cy sad sav b L xs) (ht : pm_tab k pc = some (.lastore, len, ts, v)) (h : pm_sem E k (.lastore) len ts v (pc, lv, st, (fz, n, sh, I, J, R), c0, z0) (pm_gd p l e Rm s m args below meth c k base D cy (pm_ad base sad b) L xs Z) Q) : pm_gd p l e Rm s m args below meth c k base D cy (pm_ad base sad b) L xs Z (pc, lv, st, (fz, n, sh, I, J, R), c0, z0) := by
  obtain ⟨hx, hb, hml, hown, hts, hnm, hC, hRm, hk, hst, hlk, htb, hrt⟩ := C
  obtain ⟨hd, hln, hci⟩ := pm_tab_spec hk ht
  have hlen : len = 1 := by simpa [pm_ln] using hln
  subst hlen
  intro H locs ls hrel hex hS hl
  simp only [pm_sem] at h
  split at h
  · rename_i x j a r
    cases hb1 : pm_is n sh a 103 with
    | false => rw [hb1] at h; exact h.elim
    | true =>
      rw [hb1] at h
      obtain ⟨ha, hsh⟩ := pm_is_spec hb1
      have hrel0 := hrel
      obtain ⟨hP, hn6, hsz, hs1, hs2⟩ := hrel
      have had : pm_ad base sad b a = base + a := pm_ad_lt (Nat.lt_trans ha hn6)
      have he := pm_ws_get (base := base) (cy := cy) (ad := pm_ad base sad b) (sh := sh) (I := I) (J := J) (R := R) ha
      rw [pm_cel_arrL hsh] at he
      show W p l e Rm s m args below meth c H locs c0 z0 Z (F0 m pc ls (.long x :: .int j :: .ref (pm_ad base sad b a) :: r.map (pm_tv (pm_ad base sad b))))
      rw [had]
      exact va_last hx hb hC.1 hP pm_ws_D hS a 3 he rfl h.1 hd (fun H1 locs1 q1 _ q3 => h.2 H1 locs1 ls (pm_rel_set hrel0 ha (by rw [pm_cel_arrL hsh, pm_u_selfL]) (fun j hj => ⟨rfl, pm_u_row hj, rfl⟩) q1) hex q3 hl)
  · exact h.elim
theorem pm_s_bastore (C : pm_cx p l Rm s m args meth c k d base D cy sad sav b L xs) (ht : pm_tab k pc = some (.bastore, len, ts, v)) (h : pm_sem E k (.bastore) len ts v (pc, lv, st, (fz, n, sh, I, J, R), c0, z0) (pm_gd p l e Rm s m args below meth c k base D cy (pm_ad base sad b) L xs Z) Q) : pm_gd p l e Rm s m args below meth c k base D cy (pm_ad base sad b) L xs Z (pc, lv, st, (fz, n, sh, I, J, R), c0, z0) := by
  obtain ⟨hx, hb, hml, hown, hts, hnm, hC, hRm, hk, hst, hlk, htb, hrt⟩ := C
  obtain ⟨hd, hln, hci⟩ := pm_tab_spec hk ht
  have hlen : len = 1 := by simpa [pm_ln] using hln
  subst hlen
  intro H locs ls hrel hex hS hl
  simp only [pm_sem] at h
  split at h
  · rename_i x j a r
    cases hb1 : pm_is n sh a 101 with
    | true =>
      rw [hb1] at h
      obtain ⟨ha, hsh⟩ := pm_is_spec hb1
      have hrel0 := hrel
      obtain ⟨hP, hn6, hsz, hs1, hs2⟩ := hrel
      have had : pm_ad base sad b a = base + a := pm_ad_lt (Nat.lt_trans ha hn6)
      have he := pm_ws_get (base := base) (cy := cy) (ad := pm_ad base sad b) (sh := sh) (I := I) (J := J) (R := R) ha
      rw [pm_cel_arr hsh (by omega) (by omega)] at he
      show W p l e Rm s m args below meth c H locs c0 z0 Z (F0 m pc ls (.int x :: .int j :: .ref (pm_ad base sad b a) :: r.map (pm_tv (pm_ad base sad b))))
      rw [had]
      exact va_bast hx hb hC.1 hP pm_ws_D hS a 1 he rfl h.1 hd (fun H1 locs1 q1 _ q3 => h.2 H1 locs1 ls (pm_rel_set hrel0 ha (by rw [pm_cel_arr hsh (by omega) (by omega), pm_u_self]) (fun j hj => ⟨pm_u_row hj, rfl, rfl⟩) q1) hex q3 hl)
    | false =>
      rw [hb1] at h
      simp only [cond_false] at h
      cases hb1 : pm_is n sh a 102 with
      | false => rw [hb1] at h; exact h.elim
      | true =>
        rw [hb1] at h
        obtain ⟨ha, hsh⟩ := pm_is_spec hb1
        have hrel0 := hrel
        obtain ⟨hP, hn6, hsz, hs1, hs2⟩ := hrel
        have had : pm_ad base sad b a = base + a := pm_ad_lt (Nat.lt_trans ha hn6)
        have he := pm_ws_get (base := base) (cy := cy) (ad := pm_ad base sad b) (sh := sh) (I := I) (J := J) (R := R) ha
        rw [pm_cel_arr hsh (by omega) (by omega)] at he
        show W p l e Rm s m args below meth c H locs c0 z0 Z (F0 m pc ls (.int x :: .int j :: .ref (pm_ad base sad b a) :: r.map (pm_tv (pm_ad base sad b))))
        rw [had]
        exact va_zast hx hb hC.1 hP pm_ws_D hS a 2 he rfl h.1 hd (fun H1 locs1 q1 _ q3 => h.2 H1 locs1 ls (pm_rel_set hrel0 ha (by rw [pm_cel_arr hsh (by omega) (by omega), pm_u_self]) (fun j hj => ⟨pm_u_row hj, rfl, rfl⟩) q1) hex q3 hl)
  · exact h.elim
theorem pm_s_arraylength (C : pm_cx p l Rm s m args meth c k d base D cy sad sav b L xs) (ht : pm_tab k pc = some (.arraylength, len, ts, v)) (h : pm_sem E k (.arraylength) len ts v (pc, lv, st, (fz, n, sh, I, J, R), c0, z0) (pm_gd p l e Rm s m args below meth c k base D cy (pm_ad base sad b) L xs Z) Q) : pm_gd p l e Rm s m args below meth c k base D cy (pm_ad base sad b) L xs Z (pc, lv, st, (fz, n, sh, I, J, R), c0, z0) := by
  obtain ⟨hx, hb, hml, hown, hts, hnm, hC, hRm, hk, hst, hlk, htb, hrt⟩ := C
  obtain ⟨hd, hln, hci⟩ := pm_tab_spec hk ht
  have hlen : len = 1 := by simpa [pm_ln] using hln
  subst hlen
  intro H locs ls hrel hex hS hl
  simp only [pm_sem] at h
  split at h
  · rename_i a r
    cases hb1 : pm_isA n sh a with
    | false => rw [hb1] at h; exact h.elim
    | true =>
      rw [hb1] at h
      have e9 := h H locs ls hrel hex hS hl
      have hrel0 := hrel
      obtain ⟨hP, hn6, hsz, hs1, hs2⟩ := hrel
      unfold pm_isA at hb1
      simp only [Bool.or_eq_true, Bool.and_eq_true] at hb1
      rcases hb1 with ⟨⟨q1, q2⟩, q3⟩ | ⟨q1, q2⟩
      · have ha : a < n := Nat.le_of_ble_eq_true q1
        have had : pm_ad base sad b a = base + a := pm_ad_lt (Nat.lt_trans ha hn6)
        have he := pm_ws_get (base := base) (cy := cy) (ad := pm_ad base sad b) (sh := sh) (I := I) (J := J) (R := R) ha
        have q2 := Nat.le_of_ble_eq_true q2
        have q3 := Nat.le_of_ble_eq_true q3
        show W p l e Rm s m args below meth c H locs c0 z0 Z (F0 m pc ls (.ref (pm_ad base sad b a) :: r.map (pm_tv (pm_ad base sad b))))
        rw [had]
        have hk4 : (sh a).1 = 100 ∨ (sh a).1 = 101 ∨ (sh a).1 = 102 ∨ (sh a).1 = 103 := by omega
        rcases hk4 with q | q | q | q
        · rw [pm_cel_arr q (by omega) (by omega)] at he
          exact va_alen hx hb hC.1 hP a 0 he (ty := .int) rfl rfl hd e9
        · rw [pm_cel_arr q (by omega) (by omega)] at he
          exact va_alen hx hb hC.1 hP a 1 he (ty := .byte) rfl rfl hd e9
        · rw [pm_cel_arr q (by omega) (by omega)] at he
          exact va_alen hx hb hC.1 hP a 2 he (ty := .boolean) rfl rfl hd e9
        · rw [pm_cel_arrL q] at he
          exact va_alen hx hb hC.1 hP a 3 he (ty := .long) rfl rfl hd e9
      · obtain rfl := Nat.eq_of_beq_eq_true q1
        obtain ⟨-, -, -, -, -, -, hX, hbb, hbz, -⟩ := hC
        show W p l e Rm s m args below meth c H locs c0 z0 Z (F0 m pc ls (.ref (pm_ad base sad b 2000000) :: r.map (pm_tv (pm_ad base sad b))))
        rw [pm_ad_scr]
        refine va_slen hx hb hX (Nat.lt_of_lt_of_le hbb hbz) (Nat.not_le.mpr hbb) hS hd ?_
        rw [hs1] at e9
        exact e9
  · exact h.elim
end Sound2
