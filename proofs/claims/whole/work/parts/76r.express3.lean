/-! the reference: a parenthesis closes; the end; a whole formula -/
section Spec
variable {d L : Nat} {fz t : Bool} {Q : pm_R → pm_H → Prop} {I : Nat → Nat → Int32} {J : Nat → Nat → Int64} {g : Nat → Nat} {N p lo n0 b : Nat} {W C Z : List Nat} {b0 : Bool} {D : List Bool}
theorem nI_m (n : Nat) : nI n + (-1 : Int32) = nI n - nI 1 := by
  rw [Int32.sub_eq_add_neg]; rfl
theorem T_opened : ∀ (W : List Nat), (∀ z, z ∈ W → z < 100) → W.length < 950 → mC (I 101) 0 W.reverse → Q (.inl (some (.int (bz (W.any (fun z => decide (14 ≤ z))))))) (pm_hp L fz t I J) → t_X11_isOpened_7 (d + 1) L fz t Q (nI W.length - nI 1) I J
  | [], _, _, _, hq => b_X11_isOpened_7 (q_t (by decide) hq)
  | a :: W, hz, hl, h, hq => by
    have ha := hz a List.mem_cons_self
    simp only [List.length_cons] at hl ⊢
    rw [nI_subn (by omega), show W.length + 1 - 1 = W.length by omega]
    rw [List.reverse_cons] at h
    have h' := mC_snoc.mp h
    have e2 : I 101 W.length = nI a := by
      have := h'.2
      rw [List.length_reverse, Nat.zero_add] at this
      exact this
    have n0' : ¬ nI W.length < nI 0 := fun q => by rw [nI_ltI (by omega) (by omega)] at q; omega
    refine b_X11_isOpened_7 (q_f n0' ⟨vp_in_nI (by omega) (by omega), ?_⟩)
    rw [nI_clamp (by omega), e2]
    refine S_isOpen (d := d) ha (kb_X11_isOpened_20 (q_b0' (fun e => q_f n0' ?_) (fun e => ?_)))
    · rw [List.any_cons, e, Bool.true_or] at hq; exact hq
    · rw [nI_m]
      rw [List.any_cons, e, Bool.false_or] at hq
      exact T_opened W (fun z hz' => hz z (List.mem_cons_of_mem _ hz')) (by omega) h'.1 hq
theorem S_opened (hN : N ≤ 700) (h : yI g N lo n0 b p W C D I J) (hq : Q (.inl (some (.int (bz (W.any (fun z => decide (14 ≤ z))))))) (pm_hp L fz t I J)) : pm_Ev (d + 2) 147 [.ref 85] (pm_hp L fz t I J) Q := by
  obtain ⟨hG, hW, hb, hw, hp, hD6, hz⟩ := h
  refine e_X11_isOpened ?_
  rw [hW.2.2.1.1]
  exact T_opened W hz (by omega) hW.2.2.1.2 hq
/-- to the closing sign, when no other one fits -/
theorem E_to41 (hg : ∀ i, g i < 256) (hN : N ≤ 700) (h : yI g N lo n0 b p W C (b0 :: D) I J) (ho : ∀ m, opOf m (tK g N p) = none) (hc : cmp (tK g N p) ≠ none → b0 = true) (hq : pm_Ev (d + 5) 135 [.ref 85, .int (nI 41)] (pm_hp L fz t I J) (K_X11_expression_318 (d + 5) fz t Q (nI 1))) : t_X11_expression_39 (d + 5) L fz t Q (nI 1) I J := by
  have h16 : tK g N p ≠ kW 16 := fun q => by have := ho 5; rw [q] at this; cases this
  have h17 : tK g N p ≠ kW 17 := fun q => by have := ho 6; rw [q] at this; cases this
  exact E_43 (d := d + 2) hg hN h h16 h17 hc (E_42 (d := d + 2) hg h (ho 2) (E_41 (d := d + 2) hg h (ho 1) hq))
theorem E_close (hg : ∀ i, g i < 256) (hN : N ≤ 700) (h : yI g N lo n0 b p (Z ++ 14 :: W) C (b0 :: D) I J) (hk : tK g N p = kS 41) (hZ : ∀ z, z ∈ Z → z < 14) (hq : ∀ I' J', yI g N lo n0 b (tnx g N p) W (C ++ Z) D I' J' → wF I I' → gJ J J' → t_X11_expression_39 (d + 5) L fz t Q (nI 1) I' J') : t_X11_expression_39 (d + 5) L fz t Q (nI 1) I J := by
  have hp := h.2.2.2.2.1
  have ho : ∀ m, opOf m (tK g N p) = none := by
    intro m; rw [hk]; unfold opOf; repeat' split
    all_goals first | rfl | (rename_i q; cases q)
  refine E_to41 hg hN h ho (fun q => absurd (by rw [hk]; decide) q) ?_
  refine S_mSign (d := d + 4) hg hp h.1.1 (by decide) (kb_X11_expression_318 ?_)
  rw [show decide (tK g N p = kS 41) = true from decide_eq_true hk]
  refine q_f nI_01 (S_opened (d := d + 3) hN h (kb_X11_expression_325 ?_))
  have ha : (Z ++ 14 :: W).any (fun z => decide (14 ≤ z)) = true := by
    rw [List.any_append, List.any_cons]; simp
  rw [ha]
  refine q_f nI_01 (e_X11_closes (S_dropsE (d := d + 2) (by omega) hN (fun z hz => ⟨hZ z hz, Nat.zero_le _⟩) (low_cons (Or.inl (by omega))) h fun I1 a1 a2 => kb_X11_closes_5 ?_))
  obtain ⟨hG, hW, hb, hw, -, hD6, hz⟩ := a1
  obtain ⟨h1, ⟨h32, h100⟩, ⟨h35, h101⟩, ⟨h36, h102⟩⟩ := hW
  have hlt := nx_lt (g := g) (N := N) p (by rw [hk]; intro q; cases q)
  have hnN := nx_le (g := g) p hp
  simp only [List.length_cons] at h35 h36 hb hw hD6 h102
  rw [h35, h36, nI_subn (by omega), nI_subn (by omega), show W.length + 1 - 1 = W.length by omega, show D.length + 1 - 1 = D.length by omega]
  have u85 : ∀ k, k ≠ 35 → k ≠ 36 → pm_u (pm_u I1 85 35 (nI W.length)) 85 36 (nI D.length) 85 k = I1 85 k := fun k q1 q2 => by rw [pm_uk q2, pm_uk q1]
  have uo : ∀ a, a ≠ 85 → pm_u (pm_u I1 85 35 (nI W.length)) 85 36 (nI D.length) a = I1 a := fun a q => by rw [pm_ua q, pm_ua q]
  have g2 : mG g N p (pm_u (pm_u I1 85 35 (nI W.length)) 85 36 (nI D.length)) J := ⟨mTk_c hG.1 (fun k hk => u85 k (by omega) (by omega)) (uo 92 (by omega)), by rw [u85 15 (by omega) (by omega)]; exact hG.2⟩
  have w2 : yW lo n0 b W (C ++ Z) D (pm_u (pm_u I1 85 35 (nI W.length)) 85 36 (nI D.length)) := by
    refine ⟨?_, ⟨?_, ?_⟩, ⟨?_, ?_⟩, ⟨?_, fun i hi => ?_⟩⟩
    · rw [u85 33 (by omega) (by omega), u85 34 (by omega) (by omega)]; exact h1
    · rw [u85 32 (by omega) (by omega)]; exact h32
    · rw [uo 100 (by omega)]; exact h100
    · rw [pm_uk (by omega), pm_us]
    · rw [uo 101 (by omega)]; rw [List.reverse_cons] at h101; exact (mC_snoc.mp h101).1
    · rw [pm_us]
    · rw [uo 102 (by omega), h102 i (by omega), List.reverse_cons, List.getD_eq_getElem?_getD, List.getD_eq_getElem?_getD, List.getElem?_append_left (by simp; omega)]
  exact S_goesI (d := d + 2) hg hN hp g2 fun I3 J3 c1 c2 c3 => kb_X11_closes_29 (kb_X11_expression_332 (hq I3 J3 ⟨c1, yW_g c2 w2, by omega, by omega, hnN, by omega, fun z hz' => hz z (List.mem_cons_of_mem _ hz')⟩ (wF_t a2 (wF_t (wF_u (wF_u wF_r (by omega)) (by omega)) (wF_g c2))) c3))
theorem E_344 (hN : N ≤ 700) (h : yI g N lo n0 b p W C D I J) (hq1 : D.length ≤ 1 → t_X11_expression_360 (d + 5) L fz t Q I J) (hq2 : ∀ I', ¬ D.length ≤ 1 → yX g N lo n0 b 1 p W C D I' → wF I I' → t_X11_expression_360 (d + 5) L fz t Q I' J) : t_X11_expression_39 (d + 5) L fz t Q (nI 0) I J := by
  have hD6 := h.2.2.2.2.2.1
  refine b_X11_expression_39 (q_t rfl (S_good (d := d + 4) h.1.2 (kb_X11_expression_344 (q_f nI_01 ?_))))
  rw [h.2.1.2.2.2.1]
  refine q_le (by omega) (by omega) (fun c => hq1 c) (fun c => S_wrong (d := d + 4) h.1 (by omega) fun m1 m2 => (hq2 _ (by omega) (yX_w (by omega) h hN m1) m2 : t_X11_expression_360 (d + 5) L fz t Q _ J))
theorem E_bad (hg : ∀ i, g i < 256) (hN : N ≤ 700) (h : yI g N lo n0 b p W C (b0 :: D) I J) (ho : ∀ m, opOf m (tK g N p) = none) (hc : cmp (tK g N p) ≠ none → b0 = true) (hk : tK g N p ≠ kS 41) (hD : 1 ≤ D.length) (hq : ∀ I', mBd g N 1 p I' → wF I I' → Q (.inl none) (pm_hp L fz t I' J)) : t_X11_expression_39 (d + 5) L fz t Q (nI 1) I J := by
  have hp := h.2.2.2.2.1
  refine E_to41 hg hN h ho hc (S_mSign (d := d + 4) hg hp h.1.1 (by decide) (kb_X11_expression_318 ?_))
  rw [show decide (tK g N p = kS 41) = false from decide_eq_false hk]
  refine q_t rfl (E_344 hN h (fun q => absurd q (by rw [List.length_cons]; omega)) (fun I' _ k1 k2 => T_360 (d := d + 3) k1.2.2 k1.2.1 fun I2 Z W' _ _ _ _ a2 a3 _ => hq I2 (mBd_c k1.1 (fun k hk => a3 k (by omega) (by omega))) (wF_t k2 a2)))
theorem E_end (hg : ∀ i, g i < 256) (hN : N ≤ 700) (h : yI g N lo n0 b p W C [b0] I J) (ho : ∀ m, opOf m (tK g N p) = none) (hc : cmp (tK g N p) ≠ none → b0 = true) (hW : ∀ z, z ∈ W → z < 14) (hq : ∀ I', mG g N p I' J → I' 85 32 = nI (b + (C ++ W).length + 1) → mC (I' 100) b (C ++ W ++ [0]) → wF I I' → Q (.inl none) (pm_hp L fz t I' J)) : t_X11_expression_39 (d + 5) L fz t Q (nI 1) I J := by
  have hp := h.2.2.2.2.1
  have fin : t_X11_expression_39 (d + 5) L fz t Q (nI 0) I J := by
    refine E_344 hN h (fun _ => ?_) (fun I' q => absurd (by simp) q)
    obtain ⟨hG, hY, hb, hw, -, hD6, hz⟩ := h
    refine T_360 (d := d + 3) ⟨by omega, by omega, hz⟩ hY fun I2 Z W' e hZ hlow a1 a2 a3 a4 => ?_
    have hn : W' = [] := by
      cases W' with
      | nil => rfl
      | cons a W' =>
        have h1 := hlow a rfl
        have h2 := hW a (by rw [e]; exact List.mem_append.mpr (Or.inr List.mem_cons_self))
        omega
    subst hn
    rw [List.append_nil] at e
    subst e
    refine hq I2 ⟨mTk_c hG.1 (fun k hk => a3 k (by omega) (by omega)) a4, by rw [a3 15 (by omega) (by omega)]; exact hG.2⟩ ?_ a1.2.1.2 a2
    rw [a1.2.1.1]; congr 1
    rw [List.length_append (bs := [0])]; rfl
  refine E_to41 hg hN h ho hc (S_mSign (d := d + 4) hg hp h.1.1 (by decide) (kb_X11_expression_318 (q_b0 (fun _ => fin) (fun _ => S_opened (d := d + 3) hN h (kb_X11_expression_325 ?_)))))
  have ha : W.any (fun z => decide (14 ≤ z)) = false := by
    rw [List.any_eq_false]
    intro z hz q
    have := hW z hz
    have := of_decide_eq_true q
    omega
  rw [ha]
  exact q_t rfl fin
end Spec
