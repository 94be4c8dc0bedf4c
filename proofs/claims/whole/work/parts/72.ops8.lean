section Ops
variable {A : St}
theorem mS_r0 {I : Nat → Nat → Int32} {k : Nat} (ho : ok A) (h : mS A I) (hk : k < 3) : mS (sRef A k) (pm_u (pm_u I 85 0 (nI 0)) 93 k ((pm_u I 85 0 (nI 0)) 93 k + nI 1)) := mS_ref (mS_q ho h m0_q) hk
theorem mo_r0 {I : Nat → Nat → Int32} {k : Nat} {v : Int32} : mo I (pm_u (pm_u I 85 0 (nI 0)) 93 k v) := fun a ha => by rw [pm_ua (by omega), pm_ua (by omega)]
theorem r0_0 {I : Nat → Nat → Int32} {k : Nat} {v : Int32} : (pm_u (pm_u I 85 0 (nI 0)) 93 k v) 85 0 = nI 0 := by rw [pm_ua (by decide), pm_us]
theorem co_20 {I : Nat → Nat → Int32} {k : Nat} {v : Int32} : co I (pm_u I 20 k v) := fun a ha => pm_ua (by omega)
/-- guards with a card, for calls that may alter -/
theorem opx_card {kc km : Nat} {as : List Value} {x : Int32} (ho : ok A) (hc : ∀ {L : Nat} {fz t : Bool} {I : Nat → Nat → Int32} {J : Nat → Nat → Int64} {Q : pm_R → pm_H → Prop}, inR x (tM (sT A)) = false → cS A t I J → Q (.inr 1) (pm_hp L true t I J) → pm_Ev 59 kc (.ref 0 :: .int x :: as) (pm_hp L fz t I J) Q)
    (hm : ∀ {L : Nat} {fz t : Bool} {I : Nat → Nat → Int32} {J : Nat → Nat → Int64} {Q : pm_R → pm_H → Prop}, inR x (tM (sT A)) = false → mS A I → Q (.inl (some (.int (nI 0)))) (pm_hp L fz t (pm_u (pm_u I 85 0 (nI 0)) 85 0 (nI 1)) J) → pm_Ev 60 km (.ref 85 :: .int x :: as) (pm_hp L fz t I J) Q)
    (hk1 : 1 ≤ hiE kc) (h : inR x (tM (sT A)) = false) : opx kc km (.int x :: as) A 1 :=
  ⟨A, 1, hk1, 0, ho, fun L fz t I J Q hS hk => hc h hS (cS_r hS hk), fun L fz t I J Q hS hk => hm h hS (mw_x ho (mw_0 ho hS) hk (pv_e (by omega)))⟩
theorem op_punch (ho : ok A) (x y : Int32) : opx 255 189 [.int x, .int y] A 1 := by
  have hm := ho.1.2.1
  have hn := ho.1.1
  have h12 := ho.2.1.2.2.2
  have h2p := two_12 (n := tN (sT A)) (by omega)
  cases h1 : inR x (tM (sT A)) with
  | true =>
    obtain ⟨c, hc, rfl⟩ := inR_t (by omega) h1
    have sm' : al (tN (sT A)) = nI (2 ^ tN (sT A) - 1) := al_nI _ (by omega)
    cases h2 : inR y (2 ^ tN (sT A) - 1 + 1) with
    | true =>
      obtain ⟨h, hh, rfl⟩ := inR_t (by omega) h2
      have oW' : okW (sT A) (wHo (sW A) c (nI h)) := okH ho (by omega)
      refine ⟨sAct A (wHo (sW A) c (nI h)), 0, by decide, wo (sW A) c, ok_act ho oW' rfl, ?_, ?_⟩
      · intro L fz t I J Q hS hk
        refine e_X10_punch (gCy hS.1.2.2.1 h1 (kb_X10_punch_5 ?_))
        rw [hS.1.2.1, sm', nI_clamp (by omega), hS.2.1.2.2.2.1 c (by omega)]
        refine q_f (nI_nlt (by omega) (by omega)) (q_t (nI_le (by omega) (by omega)) ⟨vp_in_nI (by omega) (by omega), ?_⟩)
        refine S_keep hS.2.2.2.1 ho.2.2.1.1 fun I1 J1 f1 g1 a1 => kb_X10_punch_53 ⟨vp_in_nI (by omega) (by omega), ?_⟩
        rw [nI_clamp (by omega)]
        have hf : fr [24, 35, 36, 37, 38] I (pm_u I1 24 c (nI h)) := fr_u (by simp) (fr_m f1 (by simp <;> omega))
        refine hk true t _ J1 (cS_act hS hf (fun a ha => Or.inr (by unfold as'; simp at ha ⊢; omega)) (by decide) (fun a b e => by simp; omega) g1 (cM_fr hS.2.2.1 hf (by decide) (by decide)) ?_ ?_) (fun a ha => hf a (by simp; omega)) (fun a ha => g1 a (by omega))
        · exact cW_ho (w := 23) (cW_fr hS.2.1 f1 (by decide) (by decide) (by decide) (by decide))
        · exact cA_of (pm_ua (by decide)) (pm_ua (by decide)) (pm_ua (by decide)) (pm_ua (by decide)) rfl (a1 (wHo (sW A) c (nI h)) (Or.inl ⟨rfl, c, by omega, rfl, wHo_back _ _ _⟩))
      · intro L fz t I J Q hS hk
        have hw := mw_0 ho hS
        refine e_X11_punch (mCy hw h1 (kb_X11_punch_10 (q_t' nI_01 (S_all hw.1.1 (kb_X11_punch_21 ?_)))))
        rw [sm']
        refine S_within (by omega) (kb_X11_punch_24 ?_)
        rw [h2]
        refine q_t' nI_01 (S_keeps hw.1.2.2.2.1.1 hw.1.2.2.2.1.2 ho.2.2.1.1 hm hw.1.2.2.1 h12 (fun i hi => by rw [(ho.2.2.1.2 i hi).2]; exact h12) fun I1 f1 g1 e1 a1 => kb_X11_punch_37 ?_)
        have r1 : mR (I1 103) 0 (tM (sT A)) (sW A) := by rw [f1 103 (by decide)]; exact hw.1.2.2.1
        have hh2 := (r1.2.2.1 c hc).1
        rw [Nat.zero_add] at hh2
        rw [nI_add, nI_clamp (by omega), hh2]
        refine ⟨vp_in_nI (by omega) (by omega), vp_in_nI (by omega) (by omega), hk _ J _ (mS_act hw.1 (W' := wHo (sW A) c (nI h)) rfl (fr_u (by simp) (fr_m f1 (by simp <;> omega))) (fun j _ b _ => by rw [pm_ua (by decide)]; exact g1 j b) ?_ (by rw [pm_ua (by decide)]; exact e1) ?_) (fun a ha => ?_) (fun _ _ => rfl) ?_ pv_0⟩
        · have := mR_ho (b := 0) (c := c) (x := nI h) r1 hm h12 (by omega)
          rw [Nat.zero_add] at this; exact this
        · unfold mA; rw [pm_ua (by decide)]; exact a1
        · rw [pm_ua (by omega), f1 a (by simp; omega)]; exact hw.2.1 a ha
        · rw [pm_ua (by decide), g1 0 (by decide)]; exact hw.2.2
    | false =>
      refine ⟨sRef A 1, 0, by decide, -1, ok_ref ho, ?_, ?_⟩
      · intro L fz t I J Q hS hk
        refine e_X10_punch (gCy hS.1.2.2.1 h1 (kb_X10_punch_5 ?_))
        have E : Q (.inl (some (.int (-1 : Int32)))) (pm_hp L true t (pm_u I 20 1 ((I 20 1) + (nI 1))) J) := hk true t _ J (cS_ref hS (by omega)) co_20 (fun _ _ => rfl)
        rw [hS.1.2.1, sm']
        refine ⟨fun _ => E, fun a => ⟨fun b => ?_, fun _ => E⟩⟩
        exfalso
        have : inR y (2 ^ tN (sT A) - 1 + 1) = true := inR_in a (fun q => nlt_le.mpr b ((le_of_lt_S (by omega)).mp q))
        rw [this] at h2; cases h2
      · intro L fz t I J Q hS hk
        have hw := mw_0 ho hS
        refine e_X11_punch (mCy hw h1 (kb_X11_punch_10 (q_t' nI_01 (S_all hw.1.1 (kb_X11_punch_21 ?_)))))
        rw [sm']
        refine S_within (by omega) (kb_X11_punch_24 ?_)
        rw [h2]
        exact q_f' rfl (S_refuses (by omega) (kb_X11_punch_32 (hk _ J _ (mS_r0 ho hS (by omega)) mo_r0 (fun _ _ => rfl) r0_0 pv_0)))
  | false => exact opx_card ho (fun h hS q => e_X10_punch (gCn hS.1.2.2.1 h q)) (fun h hS q => e_X11_punch (mCn (mw_0 ho hS) h (kb_X11_punch_10 (q_f' rfl q)))) (by decide) h1
theorem op_turn (ho : ok A) (x : Int32) : opx 256 191 [.int x] A 1 := by
  have hm := ho.1.2.1
  have hn := ho.1.1
  have h12 := ho.2.1.2.2.2
  cases h1 : inR x (tM (sT A)) with
  | true =>
    obtain ⟨c, hc, rfl⟩ := inR_t (by omega) h1
    refine ⟨sAct A (wHo (sW A) c (tu (tN (sT A)) (wo (sW A) c))), 0, by decide, tu (tN (sT A)) (wo (sW A) c), ok_act ho (sm_wHo ho c) rfl, ?_, ?_⟩
    · intro L fz t I J Q hS hk
      refine e_X10_turn (gCy hS.1.2.2.1 h1 (kb_X10_turn_5 ?_))
      rw [nI_clamp (by omega), hS.2.1.2.2.2.1 c (by omega)]
      refine ⟨vp_in_nI (by omega) (by omega), S_keep hS.2.2.2.1 ho.2.2.1.1 fun I1 J1 f1 g1 a1 => kb_X10_turn_24 ⟨vp_in_nI (by omega) (by omega), ?_⟩⟩
      have et : I1 (pm_td t) 11 = nI (tN (sT A)) := by rw [f1 (pm_td t) (by cases t <;> decide)]; exact hS.1.1
      rw [nI_clamp (by omega), f1 24 (by decide), hS.2.1.2.2.2.1 c (by omega)]
      refine S_turned (td_or t) et (by omega) (kb_X10_turn_48 ⟨vp_in_nI (by omega) (by omega), vp_in_nI (by omega) (by omega), ?_⟩)
      rw [nI_clamp (by omega), pm_us]
      have hf : fr [24, 35, 36, 37, 38] I (pm_u I1 24 c (tu (tN (sT A)) (wo (sW A) c))) := fr_u (by simp) (fr_m f1 (by simp <;> omega))
      refine hk true t _ J1 (cS_act hS hf (fun a ha => Or.inr (by unfold as'; simp at ha ⊢; omega)) (by decide) (fun a b e => by simp; omega) g1 (cM_fr hS.2.2.1 hf (by decide) (by decide)) ?_ ?_) (fun a ha => hf a (by simp; omega)) (fun a ha => g1 a (by omega))
      · exact cW_ho (w := 23) (cW_fr hS.2.1 f1 (by decide) (by decide) (by decide) (by decide))
      · exact cA_of (pm_ua (by decide)) (pm_ua (by decide)) (pm_ua (by decide)) (pm_ua (by decide)) rfl (a1 (wHo (sW A) c (tu (tN (sT A)) (wo (sW A) c))) (Or.inl ⟨rfl, c, by omega, rfl, wHo_back _ _ _⟩))
    · intro L fz t I J Q hS hk
      have hw := mw_0 ho hS
      refine e_X11_turn (mCy hw h1 (kb_X11_turn_10 (q_t' nI_01 (S_keeps hw.1.2.2.2.1.1 hw.1.2.2.2.1.2 ho.2.2.1.1 hm hw.1.2.2.1 h12 (fun i hi => by rw [(ho.2.2.1.2 i hi).2]; exact h12) fun I1 f1 g1 e1 a1 => kb_X11_turn_19 ?_))))
      have r1 : mR (I1 103) 0 (tM (sT A)) (sW A) := by rw [f1 103 (by decide)]; exact hw.1.2.2.1
      have hh2 := (r1.2.2.1 c hc).1
      rw [Nat.zero_add] at hh2
      rw [nI_add, nI_clamp (by omega), hh2]
      refine ⟨vp_in_nI (by omega) (by omega), S_mturned (by rw [g1 1 (by decide)]; exact hw.1.1.1) (by omega) (kb_X11_turn_38 ?_)⟩
      rw [nI_add, nI_clamp (by omega), pm_us]
      refine ⟨vp_in_nI (by omega) (by omega), vp_in_nI (by omega) (by omega), hk _ J _ (mS_act hw.1 (W' := wHo (sW A) c (tu (tN (sT A)) (wo (sW A) c))) rfl (fr_u (by simp) (fr_m f1 (by simp <;> omega))) (fun j _ b _ => by rw [pm_ua (by decide)]; exact g1 j b) ?_ (by rw [pm_ua (by decide)]; exact e1) ?_) (fun a ha => ?_) (fun _ _ => rfl) ?_ pv_0⟩
      · have := mR_ho (b := 0) (c := c) (x := tu (tN (sT A)) (wo (sW A) c)) r1 hm h12 (by omega)
        rw [Nat.zero_add] at this; exact this
      · unfold mA; rw [pm_ua (by decide)]; exact a1
      · rw [pm_ua (by omega), f1 a (by simp; omega)]; exact hw.2.1 a ha
      · rw [pm_ua (by decide), g1 0 (by decide)]; exact hw.2.2
  | false => exact opx_card ho (fun h hS q => e_X10_turn (gCn hS.1.2.2.1 h q)) (fun h hS q => e_X11_turn (mCn (mw_0 ho hS) h (kb_X11_turn_10 (q_f' rfl q)))) (by decide) h1
theorem op_cut (ho : ok A) (x : Int32) : opx 257 192 [.int x] A 1 := by
  have hm := ho.1.2.1
  have h12 := ho.2.1.2.2.2
  cases h1 : inR x (tM (sT A)) with
  | true =>
    obtain ⟨c, hc, rfl⟩ := inR_t (by omega) h1
    have h9 := ho.2.1.2.1 c (by omega)
    by_cases h0 : ww (sW A) c = 0
    · refine ⟨sRef A 1, 0, by decide, -1, ok_ref ho, ?_, ?_⟩
      · intro L fz t I J Q hS hk
        refine e_X10_cut (gCy hS.1.2.2.1 h1 (kb_X10_cut_5 ?_))
        rw [nI_clamp (by omega), hS.2.1.2.2.2.2.1 c (by omega), h0]
        exact ⟨vp_in_nI (by omega) (by omega), q_f' rfl (hk true t _ J (cS_ref hS (by omega)) co_20 (fun _ _ => rfl))⟩
      · intro L fz t I J Q hS hk
        have hw := mw_0 ho hS
        have hR := (hw.1.2.2.1.2.2.1 c hc).2
        rw [Nat.zero_add] at hR
        refine e_X11_cut (mCy hw h1 (kb_X11_cut_10 (q_t' nI_01 ?_)))
        rw [nI_add, nI_clamp (by omega), hR, h0]
        exact ⟨vp_in_nI (by omega) (by omega), q_f' rfl (S_refuses (by omega) (kb_X11_cut_34 (hk _ J _ (mS_r0 ho hS (by omega)) mo_r0 (fun _ _ => rfl) r0_0 pv_0)))⟩
    · have hne : ¬ nI (ww (sW A) c) = nI 0 := fun q => h0 ((nI_eq (by omega) (by omega)).mp q)
      refine ⟨sAct A (wWe (sW A) c 0), 0, by decide, nI (ww (sW A) c), ok_act ho (okW_we ho.2.1 (by omega)) rfl, ?_, ?_⟩
      · intro L fz t I J Q hS hk
        refine e_X10_cut (gCy hS.1.2.2.1 h1 (kb_X10_cut_5 ?_))
        rw [nI_clamp (by omega), hS.2.1.2.2.2.2.1 c (by omega)]
        refine ⟨vp_in_nI (by omega) (by omega), q_t' hne (S_keep hS.2.2.2.1 ho.2.2.1.1 fun I1 J1 f1 g1 a1 => kb_X10_cut_42 ⟨vp_in_nI (by omega) (by omega), ?_⟩)⟩
        rw [nI_clamp (by omega)]
        have hf : fr [25, 35, 36, 37, 38] I (pm_u I1 25 c (nI 0)) := fr_u (by simp) (fr_m f1 (by simp <;> omega))
        refine hk true t _ J1 (cS_act hS hf (fun a ha => Or.inr (by unfold as'; simp at ha ⊢; omega)) (by decide) (fun a b e => by simp; omega) g1 (cM_fr hS.2.2.1 hf (by decide) (by decide)) ?_ ?_) (fun a ha => hf a (by simp; omega)) (fun a ha => g1 a (by omega))
        · exact cW_we (w := 23) (v := 0) (cW_fr hS.2.1 f1 (by decide) (by decide) (by decide) (by decide))
        · exact cA_of (pm_ua (by decide)) (pm_ua (by decide)) (pm_ua (by decide)) (pm_ua (by decide)) rfl (a1 (wWe (sW A) c 0) (Or.inr (Or.inl ⟨rfl, c, ww (sW A) c, by omega, rfl, rfl, wWe_back _ _ _⟩)))
      · intro L fz t I J Q hS hk
        have hw := mw_0 ho hS
        have hR := (hw.1.2.2.1.2.2.1 c hc).2
        rw [Nat.zero_add] at hR
        refine e_X11_cut (mCy hw h1 (kb_X11_cut_10 (q_t' nI_01 ?_)))
        rw [nI_add, nI_clamp (by omega), hR]
        refine ⟨vp_in_nI (by omega) (by omega), q_t' hne (S_keeps hw.1.2.2.2.1.1 hw.1.2.2.2.1.2 ho.2.2.1.1 hm hw.1.2.2.1 h12 (fun i hi => by rw [(ho.2.2.1.2 i hi).2]; exact h12) fun I1 f1 g1 e1 a1 => kb_X11_cut_39 ?_)⟩
        have r1 : mR (I1 103) 0 (tM (sT A)) (sW A) := by rw [f1 103 (by decide)]; exact hw.1.2.2.1
        rw [nI_add, nI_clamp (by omega)]
        refine ⟨vp_in_nI (by omega) (by omega), hk _ J _ (mS_act hw.1 (W' := wWe (sW A) c 0) rfl (fr_u (by simp) (fr_m f1 (by simp <;> omega))) (fun j _ b _ => by rw [pm_ua (by decide)]; exact g1 j b) ?_ (by rw [pm_ua (by decide)]; exact e1) ?_) (fun a ha => ?_) (fun _ _ => rfl) ?_ pv_0⟩
        · have := mR_we (b := 0) (c := c) (v := 0) r1 hm h12 (by omega)
          rw [Nat.zero_add] at this; exact this
        · unfold mA; rw [pm_ua (by decide)]; exact a1
        · rw [pm_ua (by omega), f1 a (by simp; omega)]; exact hw.2.1 a ha
        · rw [pm_ua (by decide), g1 0 (by decide)]; exact hw.2.2
  | false => exact opx_card ho (fun h hS q => e_X10_cut (gCn hS.1.2.2.1 h q)) (fun h hS q => e_X11_cut (mCn (mw_0 ho hS) h (kb_X11_cut_10 (q_f' rfl q)))) (by decide) h1
theorem op_change (ho : ok A) (x y : Int32) : opx 88 194 [.int x, .int y] A 1 := by
  have hm := ho.1.2.1
  have h12 := ho.2.1.2.2.2
  by_cases hg : ¬ x = y ∧ inR x (wp (sW A)) = true ∧ inR y (wp (sW A)) = true
  · obtain ⟨h0, h1, h2⟩ := hg
    have h1' := h1
    have h2' := h2
    obtain ⟨i, hi, rfl⟩ := inR_t (by omega) h1
    obtain ⟨j, hj, rfl⟩ := inR_t (by omega) h2
    refine ⟨sAct A (wex (sW A) i j), 0, by decide, nI 1, ok_act ho (okW_wex ho.2.1 hi hj) rfl, ?_, ?_⟩
    · intro L fz t I J Q hS hk
      refine e_X10_change (q_f h0 (S_cisPick hS.2.1.1 (kb_X10_change_10 ?_)))
      rw [h1']
      refine q_f nI_01 (S_cisPick hS.2.1.1 (kb_X10_change_18 ?_))
      rw [h2']
      refine q_t' nI_01 (S_keep hS.2.2.2.1 ho.2.2.1.1 fun I1 J1 f1 g1 a1 => kb_X10_change_44 ?_)
      have w1 : cW 23 (sW A) I1 := cW_fr hS.2.1 f1 (by decide) (by decide) (by decide) (by decide)
      refine S_exchange (w := 23) (Or.inl rfl) w1 ho.2.1 hi hj fun I2 f2 w2 => kb_X10_change_53 ?_
      have hf : fr [26, 35, 36, 37, 38] I I2 := fr_t (fr_m f1 (by simp <;> omega)) (fr_m f2 (by simp))
      refine hk fz t _ J1 (cS_act hS hf (fun a ha => Or.inr (by unfold as'; simp at ha ⊢; omega)) (by decide) (fun a b e => by simp; omega) g1 (cM_fr hS.2.2.1 hf (by decide) (by decide)) w2 ?_) (fun a ha => hf a (by simp; omega)) (fun a ha => g1 a (by omega))
      exact cA_of (f2 _ (by decide)) (f2 _ (by decide)) (f2 _ (by decide)) (f2 _ (by decide)) rfl (a1 (wex (sW A) i j) (Or.inr (Or.inr (Or.inl ⟨rfl, i, j, hi, hj, rfl, rfl, (wex2 _ _ _).symm⟩))))
    · intro L fz t I J Q hS hk
      have hw := mw_0 ho hS
      refine e_X11_change ?_
      rw [hS.2.1]
      refine q_f (nI_nlt (by omega) (by omega)) (q_f (nI_nlt (by omega) (by omega)) (q_f (nI_ge (by omega) (by omega)) (q_f (nI_ge (by omega) (by omega)) (q_t' h0 ?_))))
      refine S_keeps hw.1.2.2.2.1.1 hw.1.2.2.2.1.2 ho.2.2.1.1 hm hw.1.2.2.1 h12 (fun i hi => by rw [(ho.2.2.1.2 i hi).2]; exact h12) fun I1 f1 g1 e1 a1 => kb_X11_change_52 ?_
      have r1 : mR (I1 103) 0 (tM (sT A)) (sW A) := by rw [f1 103 (by decide)]; exact hw.1.2.2.1
      refine S_swaps r1 hm h12 hi hj fun I2 f2 _ r2 => kb_X11_change_59 ?_
      refine hk _ J _ (mS_act hw.1 (W' := wex (sW A) i j) rfl (fr_t (fr_m f1 (by simp <;> omega)) (fr_m f2 (by simp))) (fun j _ b _ => by rw [f2 85 (by decide)]; exact g1 j b) r2 (by rw [f2 85 (by decide)]; exact e1) ?_) (fun a ha => ?_) (fun _ _ => rfl) ?_ pv_0
      · unfold mA; rw [f2 104 (by decide)]; exact a1
      · rw [f2 a (by simp; omega), f1 a (by simp; omega)]; exact hw.2.1 a ha
      · rw [f2 85 (by decide), g1 0 (by decide)]; exact hw.2.2
  · refine ⟨sRef A 1, 0, by decide, nI 0, ok_ref ho, ?_, ?_⟩
    · intro L fz t I J Q hS hk
      have E : Q (.inl (some (.int (nI 0)))) (pm_hp L fz t (pm_u I 20 1 ((I 20 1) + (nI 1))) J) := hk fz t _ J (cS_ref hS (by omega)) co_20 (fun _ _ => rfl)
      refine e_X10_change ⟨fun _ => E, fun h0 => S_cisPick hS.2.1.1 (kb_X10_change_10 (q_b0 (fun _ => E) (fun h1 => S_cisPick hS.2.1.1 (kb_X10_change_18 (q_b0' (fun h2 => ?_) (fun _ => E))))))⟩
      exact absurd ⟨h0, h1, h2⟩ hg
    · intro L fz t I J Q hS hk
      have hw := mw_0 ho hS
      have E : pm_Ev 59 158 [.ref 85, .int (nI 1)] (pm_hp L fz t (pm_u I 85 0 (nI 0)) J) (K_X11_change_39 59 fz t Q) := S_refuses (by omega) (kb_X11_change_39 (q_t (by decide) (hk _ J _ (mS_r0 ho hS (by omega)) mo_r0 (fun _ _ => rfl) r0_0 pv_0)))
      refine e_X11_change ⟨fun _ => E, fun a => ⟨fun _ => E, fun b => ⟨fun _ => E, fun c => ⟨fun _ => E, fun e => ⟨fun f => ?_, fun _ => E⟩⟩⟩⟩⟩
      rw [hS.2.1] at c e
      exact absurd ⟨f, inR_in a c, inR_in b e⟩ hg
theorem op_sundays (ho : ok A) (x : Int32) : opx 87 188 [.int x] A 1 := by
  have hm := ho.1.2.1
  have h12 := ho.2.1.2.2.2
  by_cases hg : (¬ x < nI 1 ∧ ¬ nI 20 < x) ∧ ws (sW A) + x ≤ nI 999
  · obtain ⟨⟨g1, g2⟩, g3⟩ := hg
    obtain ⟨n, hn, hn20, rfl⟩ : ∃ n, 1 ≤ n ∧ n ≤ 20 ∧ x = nI n := by
      have h2 : ¬ x < 0 := fun q => g1 (by
        rw [fa_lt] at *
        rw [nI_toInt (by omega)]
        have : (0 : Int32).toInt = 0 := rfl
        omega)
      obtain ⟨j, hj, rfl⟩ := nI_of h2
      rw [nI_ltI hj (by omega)] at g1
      rw [nI_ltI (by omega) hj] at g2
      exact ⟨j, by omega, by omega, rfl⟩
    obtain ⟨e1, e2, e3, e4, e5⟩ := sn_eq ho.2.1 ho.1 n
    refine ⟨sAct A (sn (sT A) (sW A) n), 0, by decide, ws (sn (sT A) (sW A) n), ok_act ho e5 e3, ?_, ?_⟩
    · intro L fz t I J Q hS hk
      refine e_X10_sundays ?_
      rw [hS.2.1.2.1, hS.2.1.2.2.1]
      refine q_f g1 (q_f g2 (q_t g3 (S_packedWear (T := sT A) (Or.inl rfl) hS.2.1 ho.2.1 (kb_X10_sundays_64 ?_))))
      refine S_keep hS.2.2.2.1 ho.2.2.1.1 fun I1 J1 f1 j1 a1 => kb_X10_sundays_67 ?_
      have ha := a1 (sn (sT A) (sW A) n) (Or.inr (Or.inr (Or.inr ⟨rfl, rfl, rfl, rfl, e1.symm, e2.symm, e3.symm⟩)))
      have loop : ∀ (j i : Nat) (I' : Nat → Nat → Int32), i + j = n → fr [3, 4, 6, 7, 8, pm_td t + 9 + 2, 23, 25] I1 I' → cM (sT A) I' → cW 23 (sn (sT A) (sW A) i) I' → t_X10_sundays_69 58 L fz t Q (nI n) (nI i) I' J1 := by
        intro j
        induction j with
        | zero =>
          intro i I' hi hf hM hW
          obtain rfl : i = n := by omega
          refine b_X10_sundays_69 (q_t (nI_le (by omega) (by omega)) ?_)
          rw [hW.2.1]
          have n' : ∀ a, (35 ≤ a ∧ a ≤ 49) ∨ a = 20 → a ∉ [3, 4, 6, 7, 8, pm_td t + 9 + 2, 23, 25] := fun a b => by cases t <;> simp [pm_td] <;> omega
          have hf2 : fr [3, 4, 6, 7, 8, pm_td t + 9 + 2, 23, 25, 35, 36, 37, 38] I I' := fr_t (fr_m f1 (by simp <;> omega)) (fr_m hf (by intro a; simp; omega))
          refine hk fz t I' J1 (cS_act hS hf2 (fun a ha => ?_) (by cases t <;> decide) (fun a b e => by cases t <;> simp [pm_td] <;> omega) j1 hM hW (cA_of (hf _ (n' _ (by omega))) (hf _ (n' _ (by omega))) (hf _ (n' _ (by omega))) (hf _ (n' _ (by omega))) rfl ha)) (fun a ha => hf2 a (by cases t <;> simp [pm_td] <;> omega)) (fun a ha => j1 a (by omega))
          · simp at ha
            unfold qs as'
            simp
            omega
        | succ j ih =>
          intro i I' hi hf hM hW
          obtain ⟨b1, b2, b3, b4, b5⟩ := sn_eq ho.2.1 ho.1 i
          refine b_X10_sundays_69 (q_f (nI_ge (by omega) (by omega)) ?_)
          have hf3 : fr [3, 4, 6, 7, 8, pm_td t + 9 + 2, 23, 25, 35, 36, 37, 38] I I' := fr_t (fr_m f1 (by simp <;> omega)) (fr_m hf (by intro a; simp; omega))
          have hT' : cT (pm_td t) (sT A) I' := (cS_keep (J' := J) hS hf3 (fun a ha => by simp at ha; unfold qs as'; simp; omega) rfl).1
          refine S_passSunday (Or.inl rfl) hT' hW ho.1 b5 hM fun I2 f2 M2 W2 => kb_X10_sundays_82 ?_
          rw [nI_add]
          exact ih (i + 1) I2 (by omega) (fr_t hf f2) M2 W2
      exact loop n 0 I1 (by omega) fr_r (cM_fr hS.2.2.1 f1 (by decide) (by decide)) (cW_fr hS.2.1 f1 (by decide) (by decide) (by decide) (by decide))
    · intro L fz t I J Q hS hk
      have hw := mw_0 ho hS
      refine e_X11_sundays (e_X11_within (q_f g1 (q_f g2 (kb_X11_sundays_12 (q_f nI_01 ?_)))))
      rw [show (pm_u I 85 0 (nI 0)) 103 0 = _ from hw.1.2.2.1.1]
      refine q_t g3 (S_keeps hw.1.2.2.2.1.1 hw.1.2.2.2.1.2 ho.2.2.1.1 hm hw.1.2.2.1 h12 (fun i hi => by rw [(ho.2.2.1.2 i hi).2]; exact h12) fun I1 f1 j1 k1 a1 => kb_X11_sundays_39 ?_)
      have r1 : mR (I1 103) 0 (tM (sT A)) (sW A) := by rw [f1 103 (by decide)]; exact hw.1.2.2.1
      have t1 : mT (sT A) I1 := mT_fr hw.1.1 f1 (fun j hj => j1 j (by omega)) (by decide) (by decide) (by decide) (by decide) (by decide) (by decide)
      have loop : ∀ (j i : Nat) (I' : Nat → Nat → Int32), i + j = n → fr [85, 103, 105, 106, 107] I1 I' → (∀ j, j ≠ 52 → I' 85 j = I1 85 j) → mR (I' 103) 0 (tM (sT A)) (sn (sT A) (sW A) i) → t_X11_sundays_41 59 L fz t Q (nI n) (nI i) I' J := by
        intro j
        induction j with
        | zero =>
          intro i I' hi hf h85 hR
          obtain rfl : i = n := by omega
          refine b_X11_sundays_41 (q_t (nI_le (by omega) (by omega)) ?_)
          rw [hR.1]
          refine hk _ J _ (mS_act hw.1 (W' := sn (sT A) (sW A) i) e3 (fr_t (fr_m f1 (by simp <;> omega)) (fr_m hf (by intro a; simp; omega))) (fun j _ b c => by rw [h85 j c]; exact j1 j b) hR (by rw [h85 48 (by decide)]; exact k1) ?_) (fun a ha => ?_) (fun _ _ => rfl) ?_ pv_0
          · unfold mA; rw [hf 104 (by decide)]; exact a1
          · rw [hf a (by simp; omega), f1 a (by simp; omega)]; exact hw.2.1 a ha
          · rw [h85 0 (by decide), j1 0 (by decide)]; exact hw.2.2
        | succ j ih =>
          intro i I' hi hf h85 hR
          obtain ⟨b1, b2, b3, b4, b5⟩ := sn_eq ho.2.1 ho.1 i
          have t2 : mT (sT A) I' := mT_fr t1 hf (fun j hj => h85 j (by omega)) (by decide) (by decide) (by decide) (by decide) (by decide) (by decide)
          refine b_X11_sundays_41 (q_f (nI_ge (by omega) (by omega)) ?_)
          refine S_sundayGoes (b := 0) (Or.inl rfl) t2 (by rw [h85 3 (by decide), j1 3 (by decide), b3]; exact hw.1.2.1) hR ho.1 b5 fun I2 f2 g2 _ R2 => kb_X11_sundays_51 ?_
          rw [nI_add]
          exact ih (i + 1) I2 (by omega) (fr_t hf f2) (fun j hj => (g2 j hj).trans (h85 j hj)) R2
      exact loop n 0 I1 (by omega) fr_r (fun _ _ => rfl) r1
  · refine ⟨sRef A 1, 0, by decide, -1, ok_ref ho, ?_, ?_⟩
    · intro L fz t I J Q hS hk
      have E : Q (.inl (some (.int (-1 : Int32)))) (pm_hp L fz t (pm_u I 20 1 ((I 20 1) + (nI 1))) J) := hk fz t _ J (cS_ref hS (by omega)) co_20 (fun _ _ => rfl)
      refine e_X10_sundays ⟨fun _ => E, fun a => ⟨fun _ => E, fun b => ⟨fun c => ?_, fun _ => E⟩⟩⟩
      rw [hS.2.1.2.1] at c
      exact absurd ⟨⟨a, b⟩, c⟩ hg
    · intro L fz t I J Q hS hk
      have hw := mw_0 ho hS
      have E : pm_Ev 59 158 [.ref 85, .int (nI 1)] (pm_hp L fz t (pm_u I 85 0 (nI 0)) J) (K_X11_sundays_34 59 fz t Q) := S_refuses (by omega) (kb_X11_sundays_34 (hk _ J _ (mS_r0 ho hS (by omega)) mo_r0 (fun _ _ => rfl) r0_0 pv_0))
      refine e_X11_sundays (e_X11_within ⟨fun _ => kb_X11_sundays_12 (q_t rfl E), fun a => ⟨fun _ => kb_X11_sundays_12 (q_t rfl E), fun b => kb_X11_sundays_12 (q_f nI_01 ⟨fun c => ?_, fun _ => E⟩)⟩⟩)
      rw [show (pm_u I 85 0 (nI 0)) 103 0 = _ from hw.1.2.2.1.1] at c
      exact absurd ⟨⟨a, b⟩, c⟩ hg
end Ops
