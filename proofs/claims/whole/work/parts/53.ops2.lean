section Ops
variable {A : St}
theorem op_fault (_ho : ok A) : op2 86 156 [] A 1 := by
  refine ⟨0, by decide, sF A, ?_, ?_⟩
  · intro L fz t I J Q hS hk
    have := cw_e (fz' := fz) (cw_0 hS) hk
    refine e_X10_fault ?_
    rw [hS.2.2.2.2.2.2.2.1.1]; exact this
  · intro L fz t I J Q hS hk
    refine e_X11_fault ?_
    have := mw_e (mw_0 _ho hS) hk pv_0
    rw [hS.2.2.2.2.2.2.2.1]; exact this
theorem op_lace (ho : ok A) (x : Int32) : op2 252 185 [.int x] A 1 := by
  have h12 := ho.2.1.2.2.2
  cases h1 : inR x (wp (sW A)) with
  | true =>
    obtain ⟨k, hk', rfl⟩ := inR_t (by omega) h1
    refine ⟨0, by decide, nI (wl (sW A) k), ?_, ?_⟩
    · intro L fz t I J Q hS hk
      refine e_X10_lace (gPy hS.2.1.1 h1 (kb_X10_lace_5 ⟨vp_in_nI (by omega) (by omega), ?_⟩))
      rw [nI_clamp (by omega), hS.2.1.2.2.2.2.2 k hk']
      exact cw_e (cw_0 hS) hk
    · intro L fz t I J Q hS hk
      have hw := mw_0 ho hS
      refine e_X11_lace (mPy hw h1 (kb_X11_lace_10 (q_f nI_01 ?_)))
      rw [nI_add, nI_clamp (by omega)]
      refine ⟨vp_in_nI (by omega) (by omega), ?_⟩
      have := hw.1.2.2.1.2.2.2 k hk'
      rw [Nat.zero_add] at this
      rw [this]
      exact mw_e hw hk pv_0
  | false =>
    refine ⟨1, by decide, 0, ?_, ?_⟩
    · intro L fz t I J Q hS hk
      exact e_X10_lace (gPn hS.2.1.1 h1 (cS_r hS hk))
    · intro L fz t I J Q hS hk
      exact e_X11_lace (mPn (mw_0 ho hS) h1 (kb_X11_lace_10 (q_t rfl (mw_x ho (mw_0 ho hS) hk (pv_e (by omega))))))
theorem op_figure (ho : ok A) (x y : Int32) : op2 253 186 [.int x, .int y] A 1 := by
  have h5 := ho.1.2.2.1
  cases h1 : inR x (tG (sT A)) with
  | true =>
    obtain ⟨f, hf, rfl⟩ := inR_t (by omega) h1
    cases h2 : inR y 6 with
    | true =>
      obtain ⟨u, hu, rfl⟩ := inR_t (by omega) h2
      refine ⟨0, by decide, if u = 0 then tF (sT A) f else if u = 1 then nI (tI (sT A) f) else if u = 2 then nI (tE (sT A) f) else tR (sT A) (3 * f + (u - 3)), ?_, ?_⟩
      · intro L fz t I J Q hS hk
        refine e_X10_figure (gFy hS.1.2.2.2.1 h1 (kb_X10_figure_5 ?_))
        have fin : ∀ v, v = (if u = 0 then tF (sT A) f else if u = 1 then nI (tI (sT A) f) else if u = 2 then nI (tE (sT A) f) else tR (sT A) (3 * f + (u - 3))) → Q (.inl (some (.int v))) (pm_hp L true t I J) := fun v hv => by
          rw [hv]; exact cw_e (cw_0 hS) hk
        have hF := hS.1.2.2.2.2.2.2.2.1 f hf
        have hr : 3 ≤ u → Q (.inl (some (.int (I (pm_td t + 8) (((nI f * nI 3) + nI u) - nI 3).toNatClampNeg)))) (pm_hp L true t I J) := fun q => by
          rw [pk_mul, nI_add, pk_sub (by omega), nI_clamp (by omega)]
          refine fin _ ?_
          rw [if_neg (by omega), if_neg (by omega), if_neg (by omega), ← hS.1.2.2.2.2.2.2.2.2 f hf (u - 3) (by omega), show 3 * f + (u - 3) = f * 3 + u - 3 by omega]
        have hv : 3 ≤ u → vp_in (((nI f * nI 3) + nI u) - nI 3) 15 := fun q => by
          rw [pk_mul, nI_add, pk_sub (by omega)]; exact vp_in_nI (by omega) (by omega)
        rw [tI_nI (by omega), nI_clamp (by omega)]
        refine ⟨fun q => by omega, fun q => ⟨vp_in_nI (by omega) (by omega), fin _ ?_⟩, fun q => ⟨vp_in_nI (by omega) (by omega), fin _ ?_⟩, fun q => ⟨vp_in_nI (by omega) (by omega), fin _ ?_⟩, fun q => ⟨hv (by omega), hr (by omega)⟩, fun q => ⟨hv (by omega), hr (by omega)⟩, fun q => ⟨hv (by omega), hr (by omega)⟩⟩
        · rw [if_pos (by omega)]; exact hF.1
        · rw [if_neg (by omega), if_pos (by omega)]; exact hF.2.1
        · rw [if_neg (by omega), if_neg (by omega), if_pos (by omega)]; exact hF.2.2
      · intro L fz t I J Q hS hk
        have hw := mw_0 ho hS
        refine e_X11_figure (mFy hw h1 (kb_X11_figure_10 (q_f nI_01 (mWy hw (by omega) h2 (kb_X11_figure_19 (q_t' nI_01 ?_))))))
        have fin : ∀ v, v = (if u = 0 then tF (sT A) f else if u = 1 then nI (tI (sT A) f) else if u = 2 then nI (tE (sT A) f) else tR (sT A) (3 * f + (u - 3))) → Q (.inl (some (.int v))) (pm_hp L fz t (pm_u I 85 0 (nI 0)) J) := fun v hv => by
          rw [hv]; exact mw_e hw hk pv_0
        have hF := hw.1.1.2.2.2.2.2.2.1 f hf
        rw [nI_clamp (n := f) (by omega)]
        refine q_ne (by omega) (by omega) (fun a => q_ne (by omega) (by omega) (fun b => q_ne (by omega) (by omega) (fun c => ?_) (fun c => ⟨vp_in_nI (by omega) (by omega), fin _ ?_⟩)) (fun b => ⟨vp_in_nI (by omega) (by omega), fin _ ?_⟩)) (fun a => ⟨vp_in_nI (by omega) (by omega), fin _ ?_⟩)
        · rw [pk_mul, nI_add, pk_sub (by omega), nI_clamp (by omega)]
          refine ⟨vp_in_nI (by omega) (by omega), fin _ ?_⟩
          rw [if_neg a, if_neg b, if_neg c, ← hw.1.1.2.2.2.2.2.2.2 f hf (u - 3) (by omega), show 3 * f + (u - 3) = 3 * f + u - 3 by omega]
        · rw [if_neg a, if_neg b, if_pos c]; exact hF.2.2
        · rw [if_neg a, if_pos b]; exact hF.2.1
        · rw [if_pos a]; exact hF.1
    | false =>
      refine ⟨1, by decide, 0, ?_, ?_⟩
      · intro L fz t I J Q hS hk
        refine e_X10_figure (gFy hS.1.2.2.2.1 h1 (kb_X10_figure_5 ?_))
        have fin : y.toInt < 0 ∨ 5 < y.toInt := tI_out (m := 5) (by omega) h2
        exact ⟨fun _ => cS_r hS hk, fun q => by omega, fun q => by omega, fun q => by omega, fun q => by omega, fun q => by omega, fun q => by omega⟩
      · intro L fz t I J Q hS hk
        have hw := mw_0 ho hS
        exact e_X11_figure (mFy hw h1 (kb_X11_figure_10 (q_f nI_01 (mWn hw (by omega) h2 (kb_X11_figure_19 (q_f' rfl (mw_x ho hw hk (pv_e (by omega)))))))))
  | false =>
    refine ⟨1, by decide, 0, ?_, ?_⟩
    · intro L fz t I J Q hS hk
      exact e_X10_figure (gFn hS.1.2.2.2.1 h1 (cS_r hS hk))
    · intro L fz t I J Q hS hk
      exact e_X11_figure (mFn (mw_0 ho hS) h1 (kb_X11_figure_10 (q_t rfl (mw_x ho (mw_0 ho hS) hk (pv_e (by omega))))))
theorem op_snarl (ho : ok A) (x y : Int32) : op2 254 187 [.int x, .int y] A 1 := by
  have hm := ho.1.2.1
  cases h1 : inR x (tM (sT A)) with
  | true =>
    obtain ⟨c, hc, rfl⟩ := inR_t (by omega) h1
    cases h2 : inR y (tM (sT A)) with
    | true =>
      obtain ⟨e, he, rfl⟩ := inR_t (by omega) h2
      refine ⟨0, by decide, nI (sp (sT A) (sW A) c e), ?_, ?_⟩
      · intro L fz t I J Q hS hk
        refine e_X10_snarl (gCy hS.1.2.2.1 h1 (kb_X10_snarl_5 (gCy hS.1.2.2.1 h2 (kb_X10_snarl_10 ?_))))
        refine S_had (td_or t) (Or.inl rfl) hS.1 hS.2.1 ho.2.1 (by omega) (kb_X10_snarl_31 ?_)
        refine S_had (td_or t) (Or.inl rfl) hS.1 hS.2.1 ho.2.1 (by omega) (kb_X10_snarl_44 ?_)
        refine S_between (td_or t) hS.1 ho.1 hc he (sm_eff ho.1 ho.2.1 (by omega)) (sm_eff ho.1 ho.2.1 (by omega)) fun I' hf => kb_X10_snarl_47 ?_
        refine cw_e (cw_f (cw_0 hS) (fr_m hf (fun a ha => by unfold qs; simp at ha ⊢ <;> omega)) ?_) hk
        intro p w a b
        rw [hf 7 (by cases t <;> simp [pm_td]), hf 8 (by cases t <;> simp [pm_td])]
        exact hS.2.2.1 p w a b
      · intro L fz t I J Q hS hk
        have hw := mw_0 ho hS
        refine e_X11_snarl (mCy hw h1 (kb_X11_snarl_10 (q_f nI_01 (mCy hw h2 (kb_X11_snarl_18 (q_f nI_01 ?_))))))
        refine S_snarlOf hw.1.1 hw.1.2.2.1 ho.1 ho.2.1 hc he fun I' hf => kb_X11_snarl_27 ?_
        exact mw_e (mw_f ho hw (mq_w hf (by simp <;> omega)) (by rw [hf 85 (by decide)]; exact hw.2.2)) hk pv_0
    | false =>
      refine ⟨1, by decide, 0, ?_, ?_⟩
      · intro L fz t I J Q hS hk
        exact e_X10_snarl (gCy hS.1.2.2.1 h1 (kb_X10_snarl_5 (gCn hS.1.2.2.1 h2 (cS_r hS hk))))
      · intro L fz t I J Q hS hk
        have hw := mw_0 ho hS
        exact e_X11_snarl (mCy hw h1 (kb_X11_snarl_10 (q_f nI_01 (mCn hw h2 (kb_X11_snarl_18 (q_t rfl (mw_x ho hw hk (pv_e (by omega)))))))))
  | false =>
    refine ⟨1, by decide, 0, ?_, ?_⟩
    · intro L fz t I J Q hS hk
      exact e_X10_snarl (gCn hS.1.2.2.1 h1 (cS_r hS hk))
    · intro L fz t I J Q hS hk
      exact e_X11_snarl (mCn (mw_0 ho hS) h1 (kb_X11_snarl_10 (q_t rfl (mw_x ho (mw_0 ho hS) hk (pv_e (by omega))))))
theorem op_worn (ho : ok A) (x : Int32) : op2 260 198 [.int x] A 1 := by
  have hm := ho.1.2.1
  have h12 := ho.2.1.2.2.2
  cases h1 : inR x (tM (sT A)) with
  | true =>
    obtain ⟨c, hc, rfl⟩ := inR_t (by omega) h1
    have h9 := ho.2.1.2.1 c (by omega)
    refine ⟨0, by decide, if ww (sW A) c = 9 then nI 0 else if lc (sW A) c = false then -1 else nI (9 - ww (sW A) c), ?_, ?_⟩
    · intro L fz t I J Q hS hk
      have fin : ∀ v, v = (if ww (sW A) c = 9 then nI 0 else if lc (sW A) c = false then -1 else nI (9 - ww (sW A) c)) → Q (.inl (some (.int v))) (pm_hp L true t I J) := fun v hv => by
        rw [hv]; exact cw_e (cw_0 hS) hk
      refine e_X10_worn (gCy hS.1.2.2.1 h1 (kb_X10_worn_5 ⟨vp_in_nI (by omega) (by omega), ?_⟩))
      rw [nI_clamp (by omega), hS.2.1.2.2.2.2.1 c (by omega)]
      refine q_lt (by omega) (by omega) (fun q => ?_) (fun q => fin _ (by rw [if_pos (by omega)]))
      refine S_placesOf (T := sT A) (Or.inl rfl) hS.2.1 ho.2.1 ho.1 (by omega) (kb_X10_worn_29 ?_)
      rw [pl_0 h12, nI_clamp (by omega), hS.2.1.2.2.2.2.1 c (by omega), pk_sub (by omega)]
      refine ⟨fun z => ⟨vp_in_nI (by omega) (by omega), fin _ ?_⟩, fun z => fin _ ?_⟩
      · rw [if_neg (by omega), if_neg z]
      · rw [if_neg (by omega), if_pos z]
    · intro L fz t I J Q hS hk
      have hw := mw_0 ho hS
      have fin : ∀ v, v = (if ww (sW A) c = 9 then nI 0 else if lc (sW A) c = false then -1 else nI (9 - ww (sW A) c)) → Q (.inl (some (.int v))) (pm_hp L fz t (pm_u I 85 0 (nI 0)) J) := fun v hv => by
        rw [hv]; exact mw_e hw hk pv_0
      have hR := (hw.1.2.2.1.2.2.1 c hc).2
      rw [Nat.zero_add] at hR
      refine e_X11_worn (mCy hw h1 (kb_X11_worn_10 (q_t' nI_01 ?_)))
      rw [nI_add, nI_clamp (by omega), hR]
      refine ⟨vp_in_nI (by omega) (by omega), q_ne (by omega) (by omega) (fun q => ?_) (fun q => fin _ (by rw [if_pos q]))⟩
      refine S_mplacesOf (b := 0) (T := sT A) (Or.inl rfl) hw.1.2.1 hw.1.2.2.1 ho.1 ho.2.1 (by omega) (kb_X11_worn_37 ?_)
      rw [pl_0 h12, nI_add, nI_clamp (by omega), hR, pk_sub (by omega)]
      refine ⟨fun z => ⟨vp_in_nI (by omega) (by omega), fin _ ?_⟩, fun z => fin _ ?_⟩
      · rw [if_neg q, if_neg z]
      · rw [if_neg q, if_pos z]
  | false =>
    refine ⟨1, by decide, 0, ?_, ?_⟩
    · intro L fz t I J Q hS hk
      exact e_X10_worn (gCn hS.1.2.2.1 h1 (cS_r hS hk))
    · intro L fz t I J Q hS hk
      exact e_X11_worn (mCn (mw_0 ho hS) h1 (kb_X11_worn_10 (q_f' rfl (mw_x ho (mw_0 ho hS) hk (pv_e (by omega))))))
theorem op_unlike (ho : ok A) (x y : Int32) : op2 275 227 [.int x, .int y] A 1 := by
  have hm := ho.1.2.1
  have hn := ho.1.1
  cases h1 : inR x (tM (sT A)) with
  | true =>
    obtain ⟨c, hc, rfl⟩ := inR_t (by omega) h1
    cases h2 : inR y (tM (sT A)) with
    | true =>
      obtain ⟨e, he, rfl⟩ := inR_t (by omega) h2
      have s1 : sm (eff (sT A) (sW A) c ^^^ eff (sT A) (sW A) e) 12 := sm_mono (sm_xor (sm_eff ho.1 ho.2.1 (by omega)) (sm_eff ho.1 ho.2.1 (by omega))) (by omega)
      have s2 : sm (tu (tN (sT A)) (eff (sT A) (sW A) c) ^^^ eff (sT A) (sW A) e) 12 := sm_mono (sm_xor (sm_tu (by omega) _) (sm_eff ho.1 ho.2.1 (by omega))) (by omega)
      have p1 := pc_le (eff (sT A) (sW A) c ^^^ eff (sT A) (sW A) e)
      have p2 := pc_le (tu (tN (sT A)) (eff (sT A) (sW A) c) ^^^ eff (sT A) (sW A) e)
      refine ⟨0, by decide, nI (min (pc (eff (sT A) (sW A) c ^^^ eff (sT A) (sW A) e)) (pc (tu (tN (sT A)) (eff (sT A) (sW A) c) ^^^ eff (sT A) (sW A) e))), ?_, ?_⟩
      · intro L fz t I J Q hS hk
        refine e_X10_unlike (gCy hS.1.2.2.1 h1 (kb_X10_unlike_5 (gCy hS.1.2.2.1 h2 (kb_X10_unlike_10 ?_))))
        refine S_had (td_or t) (Or.inl rfl) hS.1 hS.2.1 ho.2.1 (by omega) (kb_X10_unlike_22 ?_)
        refine S_had (td_or t) (Or.inl rfl) hS.1 hS.2.1 ho.2.1 (by omega) (kb_X10_unlike_35 ?_)
        refine S_bitCount s1 (kb_X10_unlike_44 ?_)
        refine S_turned (td_or t) hS.1.1 (by omega) (kb_X10_unlike_52 ?_)
        refine S_bitCount s2 (kb_X10_unlike_58 ?_)
        rw [min_c (by omega) (by omega)]
        exact cw_e (cw_0 hS) hk
      · intro L fz t I J Q hS hk
        have hw := mw_0 ho hS
        refine e_X11_unlike (mCy hw h1 (kb_X11_unlike_10 (q_f nI_01 (mCy hw h2 (kb_X11_unlike_18 (q_t' nI_01 ?_))))))
        refine S_holesOf (b := 0) (Or.inl rfl) hw.1.1 hw.1.2.2.1 ho.1 ho.2.1 hc (kb_X11_unlike_29 ?_)
        refine S_holesOf (b := 0) (Or.inl rfl) hw.1.1 hw.1.2.2.1 ho.1 ho.2.1 he (kb_X11_unlike_35 ?_)
        refine S_bits (kb_X11_unlike_39 ?_)
        refine S_holesOf (b := 0) (Or.inl rfl) hw.1.1 hw.1.2.2.1 ho.1 ho.2.1 hc (kb_X11_unlike_46 ?_)
        refine S_mturned hw.1.1.1 (by omega) (kb_X11_unlike_49 ?_)
        refine S_holesOf (b := 0) (Or.inl rfl) hw.1.1 hw.1.2.2.1 ho.1 ho.2.1 he (kb_X11_unlike_55 ?_)
        refine S_bits (kb_X11_unlike_59 ?_)
        refine S_lesser (by omega) (by omega) (kb_X11_unlike_62 ?_)
        exact mw_e hw hk pv_0
    | false =>
      refine ⟨1, by decide, 0, ?_, ?_⟩
      · intro L fz t I J Q hS hk
        exact e_X10_unlike (gCy hS.1.2.2.1 h1 (kb_X10_unlike_5 (gCn hS.1.2.2.1 h2 (cS_r hS hk))))
      · intro L fz t I J Q hS hk
        have hw := mw_0 ho hS
        exact e_X11_unlike (mCy hw h1 (kb_X11_unlike_10 (q_f nI_01 (mCn hw h2 (kb_X11_unlike_18 (q_f' rfl (mw_x ho hw hk (pv_e (by omega)))))))))
  | false =>
    refine ⟨1, by decide, 0, ?_, ?_⟩
    · intro L fz t I J Q hS hk
      exact e_X10_unlike (gCn hS.1.2.2.1 h1 (cS_r hS hk))
    · intro L fz t I J Q hS hk
      exact e_X11_unlike (mCn (mw_0 ho hS) h1 (kb_X11_unlike_10 (q_t rfl (mw_x ho (mw_0 ho hS) hk (pv_e (by omega))))))
theorem op_family (ho : ok A) (x : Int32) : op2 276 228 [.int x] A 1 := by
  have hm := ho.1.2.1
  have hn := ho.1.1
  cases h1 : inR x (tM (sT A)) with
  | true =>
    obtain ⟨c, hc, rfl⟩ := inR_t (by omega) h1
    refine ⟨0, by decide, mk (fun e => decide (eff (sT A) (sW A) e = eff (sT A) (sW A) c) || decide (eff (sT A) (sW A) e = tu (tN (sT A)) (eff (sT A) (sW A) c))) (tM (sT A)), ?_, ?_⟩
    · intro L fz t I J Q hS hk
      refine e_X10_family (gCy hS.1.2.2.1 h1 (kb_X10_family_5 ?_))
      refine S_had (td_or t) (Or.inl rfl) hS.1 hS.2.1 ho.2.1 (by omega) (kb_X10_family_17 ?_)
      refine S_turned (td_or t) hS.1.1 (by omega) (kb_X10_family_26 ?_)
      have loop : ∀ (j i : Nat), i + j = tM (sT A) → t_X10_family_33 58 L true t Q (eff (sT A) (sW A) c) (tu (tN (sT A)) (eff (sT A) (sW A) c)) (mk (fun e => decide (eff (sT A) (sW A) e = eff (sT A) (sW A) c) || decide (eff (sT A) (sW A) e = tu (tN (sT A)) (eff (sT A) (sW A) c))) i) (nI i) I J := by
        intro j
        induction j with
        | zero =>
          intro i hi
          obtain rfl : i = tM (sT A) := by omega
          refine b_X10_family_33 ?_
          rw [hS.1.2.2.1]
          exact q_t (nI_le (by omega) (by omega)) (cw_e (cw_0 hS) hk)
        | succ j ih =>
          intro i hi
          refine b_X10_family_33 ?_
          rw [hS.1.2.2.1]
          refine q_f (nI_ge (by omega) (by omega)) ?_
          refine S_had (td_or t) (Or.inl rfl) hS.1 hS.2.1 ho.2.1 (by omega) (kb_X10_family_58 ?_)
          rw [nI_add]
          refine ⟨fun q => ?_, fun q => ⟨fun q2 => ?_, fun q2 => ?_⟩⟩
          · rw [mk_St (by simp [q])]; exact ih (i + 1) (by omega)
          · rw [mk_Sf (by simp [q, q2])]; exact ih (i + 1) (by omega)
          · rw [mk_St (by simp [q2])]; exact ih (i + 1) (by omega)
      exact loop (tM (sT A)) 0 (by omega)
    · intro L fz t I J Q hS hk
      have hw := mw_0 ho hS
      refine e_X11_family (mCy hw h1 (kb_X11_family_10 (q_t' nI_01 ?_)))
      refine S_holesOf (b := 0) (Or.inl rfl) hw.1.1 hw.1.2.2.1 ho.1 ho.2.1 hc (kb_X11_family_21 ?_)
      have loop : ∀ (j i : Nat), i + j = tM (sT A) → t_X11_family_27 59 L fz t Q (eff (sT A) (sW A) c) (mk (fun e => decide (eff (sT A) (sW A) e = eff (sT A) (sW A) c) || decide (eff (sT A) (sW A) e = tu (tN (sT A)) (eff (sT A) (sW A) c))) i) (nI i) (pm_u I 85 0 (nI 0)) J := by
        intro j
        induction j with
        | zero =>
          intro i hi
          obtain rfl : i = tM (sT A) := by omega
          refine b_X11_family_27 ?_
          rw [hw.1.1.2.1]
          exact q_t (nI_le (by omega) (by omega)) (mw_e hw hk pv_0)
        | succ j ih =>
          intro i hi
          refine b_X11_family_27 ?_
          rw [hw.1.1.2.1]
          refine q_f (nI_ge (by omega) (by omega)) ?_
          refine S_holesOf (b := 0) (Or.inl rfl) hw.1.1 hw.1.2.2.1 ho.1 ho.2.1 (by omega) (kb_X11_family_44 ?_)
          rw [nI_add]
          refine ⟨fun q => ?_, fun q => ?_⟩
          · rw [mk_St (by simp [q])]; exact ih (i + 1) (by omega)
          · refine S_holesOf (b := 0) (Or.inl rfl) hw.1.1 hw.1.2.2.1 ho.1 ho.2.1 (by omega) (kb_X11_family_55 ?_)
            refine S_mturned hw.1.1.1 (by omega) (kb_X11_family_60 ?_)
            rw [nI_add]
            refine ⟨fun q2 => ?_, fun q2 => ?_⟩
            · rw [or_0, mk_Sf (by simp [q, q2])]; exact ih (i + 1) (by omega)
            · rw [mk_St (by simp [q2])]; exact ih (i + 1) (by omega)
      exact loop (tM (sT A)) 0 (by omega)
  | false =>
    refine ⟨1, by decide, 0, ?_, ?_⟩
    · intro L fz t I J Q hS hk
      exact e_X10_family (gCn hS.1.2.2.1 h1 (cS_r hS hk))
    · intro L fz t I J Q hS hk
      exact e_X11_family (mCn (mw_0 ho hS) h1 (kb_X11_family_10 (q_f' rfl (mw_x ho (mw_0 ho hS) hk (pv_e (by omega))))))
end Ops
