/-! the reference behind an operand -/
section Spec
variable {d L : Nat} {fz t : Bool} {Q : pm_R → pm_H → Prop} {I : Nat → Nat → Int32} {J : Nat → Nat → Int64} {g : Nat → Nat} {N p lo n0 b : Nat} {W C : List Nat} {b0 : Bool} {D : List Bool}
theorem low_split : ∀ (W : List Nat), ∃ Z W', W = Z ++ W' ∧ (∀ z, z ∈ Z → z < 14 ∧ 0 ≤ stg z) ∧ low 0 W'
  | [] => ⟨[], [], rfl, fun z hz => (by cases hz), fun a ha => by cases ha⟩
  | a :: W => by
    by_cases h : a < 14
    · obtain ⟨Z, W', e, h1, h2⟩ := low_split W
      refine ⟨a :: Z, W', by rw [e]; rfl, fun z hz => ?_, h2⟩
      rcases List.mem_cons.mp hz with q | q
      · rw [q]; exact ⟨h, Nat.zero_le _⟩
      · exact h1 z q
    · exact ⟨[], a :: W, rfl, fun z hz => (by cases hz), low_cons (Or.inl (by omega))⟩
theorem S_dropsI {l : Nat} (hl : l < 10) {Z : List Nat} (hZ : ∀ z, z ∈ Z → z < 14 ∧ l ≤ stg z) (hlow : low l W) (hz : ∀ z, z ∈ W → z < 100) (hb : b + C.length + Z.length < 1400) (hw : Z.length + W.length < 950) (h : yW lo n0 b (Z ++ W) C D I) (hq : ∀ I', yW lo n0 b W (C ++ Z) D I' → wF I I' → (∀ k, k ≠ 32 → k ≠ 35 → I' 85 k = I 85 k) → I' 92 = I 92 → Q (.inl none) (pm_hp L fz t I' J)) : pm_Ev (d + 2) 142 [.ref 85, .int (nI l)] (pm_hp L fz t I J) Q :=
  pm_Ev_in rfl (S_drops (d := d) hl Z W C I hZ hlow hz hb hw h fun I' a1 a2 a3 => hq I' a1 ⟨fun a q1 q2 _ _ => a2 a q1 q2, fun k hk => a3 k (by omega) (by omega)⟩ a3 (a2 92 (by omega) (by omega)))
theorem T_360 (hX : b + C.length + W.length < 1400 ∧ W.length < 950 ∧ (∀ z, z ∈ W → z < 100)) (h : yW lo n0 b W C D I) (hq : ∀ I' Z W', W = Z ++ W' → (∀ z, z ∈ Z → z < 14) → low 0 W' → yW lo n0 b W' (C ++ Z ++ [0]) D I' → wF I I' → (∀ k, k ≠ 32 → k ≠ 35 → I' 85 k = I 85 k) → I' 92 = I 92 → Q (.inl none) (pm_hp L fz t I' J)) : t_X11_expression_360 (d + 2) L fz t Q I J := by
  obtain ⟨Z, W', e, h1, h2⟩ := low_split W
  obtain ⟨q1, q2, q3⟩ := hX
  have el : W.length = Z.length + W'.length := by rw [e, List.length_append]
  have h' := h
  rw [e] at h'
  refine b_X11_expression_360 (S_dropsI (d := d) (by omega) h1 h2 (fun z hz => q3 z (by rw [e]; exact List.mem_append.mpr (Or.inr hz))) (by omega) (by omega) h' fun I1 a1 a2 a3 a4 => kb_X11_expression_365 ?_)
  exact S_putsI (d := d + 1) a1 (by simp; omega) fun I2 b1 b2 b3 b4 => kb_X11_expression_370 (hq I2 Z W' e (fun z hz => (h1 z hz).1) h2 b1 (wF_t a2 b2) (fun k k1 k2 => (b3 k k1).trans (a3 k k1 k2)) (b4.trans a4))
/-- out with a fault -/
theorem E_out {y q : Nat} {x3 : Int32} (h : yX g N lo n0 b y q W C D I) (hq : ∀ I', mBd g N y q I' → wF I I' → Q (.inl none) (pm_hp L fz t I' J)) : t_X11_expression_39 (d + 2) L fz t Q x3 I J := by
  have go : pm_Ev (d + 2) 134 [.ref 85] (pm_hp L fz t I J) (K_X11_expression_344 (d + 2) fz t Q) := S_goodB (d := d + 1) h.1 (kb_X11_expression_344 (q_t rfl (T_360 (d := d) h.2.2 h.2.1 fun I' Z W' _ _ _ _ a2 a3 _ => hq I' (mBd_c h.1 (fun k hk => a3 k (by omega) (by omega))) a2)))
  exact b_X11_expression_39 ⟨fun _ => go, fun _ => S_goodB (d := d + 1) h.1 (kb_X11_expression_47 (q_t rfl go))⟩
theorem top_D (h : yW lo n0 b W C (b0 :: D) I) : I 85 36 = nI (D.length + 1) ∧ I 102 (D.length + 1) = bz b0 := by
  refine ⟨h.2.2.2.1, ?_⟩
  have := h.2.2.2.2 D.length (by simp)
  rw [this, List.reverse_cons, List.getD_eq_getElem?_getD, List.getElem?_append_right (by simp)]
  simp
/-- no word and no test: to the signs of sums -/
theorem E_43 (hg : ∀ i, g i < 256) (hN : N ≤ 700) (h : yI g N lo n0 b p W C (b0 :: D) I J) (h16 : tK g N p ≠ kW 16) (h17 : tK g N p ≠ kW 17) (hc : cmp (tK g N p) ≠ none → b0 = true) (hq : pm_Ev (d + 3) 135 [.ref 85, .int (nI 43)] (pm_hp L fz t I J) (K_X11_expression_207 (d + 3) fz t Q (nI 1))) : t_X11_expression_39 (d + 3) L fz t Q (nI 1) I J := by
  obtain ⟨hG, hW, hb, hw, hp, hD6, hz⟩ := h
  obtain ⟨h36, h102⟩ := top_D hW
  simp only [List.length_cons] at hD6
  have tst : b0 = true → (vp_in (I 85 36) 9 ∧ ((¬ (I 102 ((I 85 36)).toNatClampNeg) = (nI 0) → pm_Ev (d + 3) 135 [.ref 85, .int (nI 43)] (pm_hp L fz t I J) (K_X11_expression_207 (d + 3) fz t Q (nI 1))) ∧ ((I 102 ((I 85 36)).toNatClampNeg) = (nI 0) → pm_Ev (d + 3) 142 [.ref 85, .int (nI 4)] (pm_hp L fz t I J) (K_X11_expression_159 (d + 3) fz t Q (nI 1))))) := by
    intro e
    rw [h36, nI_clamp (by omega), h102, e]
    exact ⟨vp_in_nI (by omega) (by omega), q_t' nI_01 hq⟩
  refine b_X11_expression_39 (q_f nI_01 (S_good (d := d + 2) hG.2 (kb_X11_expression_47 (q_f nI_01 (S_known (d := d) hp hN hG.1 fun x hx => kb_X11_expression_54 ?_)))))
  refine q_f (kv_n18 hx (by omega) h16) (q_t' (kv_n18 hx (by omega) h17) ?_)
  refine S_mSign (d := d + 2) hg hp hG.1 (by decide) (kb_X11_expression_130 (q_b0' (fun e => ?_) (fun e => ?_)))
  · exact tst (hc (by rw [of_decide_eq_true e]; decide))
  · refine S_mSign (d := d + 2) hg hp hG.1 (by decide) (kb_X11_expression_139 (q_b0 (fun e2 => hq) (fun e2 => ?_)))
    exact tst (hc (by rw [of_decide_eq_true e2]; decide))
theorem E_42 (hg : ∀ i, g i < 256) (h : yI g N lo n0 b p W C D I J) (h2 : opOf 2 (tK g N p) = none) (hq : pm_Ev (d + 3) 135 [.ref 85, .int (nI 42)] (pm_hp L fz t I J) (K_X11_expression_262 (d + 3) fz t Q (nI 1))) : pm_Ev (d + 3) 135 [.ref 85, .int (nI 43)] (pm_hp L fz t I J) (K_X11_expression_207 (d + 3) fz t Q (nI 1)) := by
  obtain ⟨hG, hW, hb, hw, hp, hD6, hz⟩ := h
  refine S_mSign (d := d + 2) hg hp hG.1 (by decide) (kb_X11_expression_207 (q_b0' (fun e => ?_) (fun e => ?_)))
  · rw [of_decide_eq_true e] at h2; cases h2
  · refine S_mSign (d := d + 2) hg hp hG.1 (by decide) (kb_X11_expression_216 (q_b0 (fun e2 => hq) (fun e2 => ?_)))
    rw [of_decide_eq_true e2] at h2; cases h2
theorem E_41 (hg : ∀ i, g i < 256) (h : yI g N lo n0 b p W C D I J) (h1 : opOf 1 (tK g N p) = none) (hq : pm_Ev (d + 3) 135 [.ref 85, .int (nI 41)] (pm_hp L fz t I J) (K_X11_expression_318 (d + 3) fz t Q (nI 1))) : pm_Ev (d + 3) 135 [.ref 85, .int (nI 42)] (pm_hp L fz t I J) (K_X11_expression_262 (d + 3) fz t Q (nI 1)) := by
  obtain ⟨hG, hW, hb, hw, hp, hD6, hz⟩ := h
  refine S_mSign (d := d + 2) hg hp hG.1 (by decide) (kb_X11_expression_262 (q_b0' (fun e => ?_) (fun e => ?_)))
  · rw [of_decide_eq_true e] at h1; cases h1
  · refine S_mSign (d := d + 2) hg hp hG.1 (by decide) (kb_X11_expression_271 (q_b0 (fun e2 => hq) (fun e2 => ?_)))
    rw [of_decide_eq_true e2] at h1; cases h1
/-- an act waits, the depth is told tested or not, and on -/
theorem T_waitT (hg : ∀ i, g i < 256) (hN : N ≤ 700) {x : Nat} {v : Bool} (hx : x < 100) (h : yI g N lo n0 b p W C (b0 :: D) I J) (hk : tK g N p ≠ kE) {K1 K2 : pm_R → pm_H → Prop} (h1 : ∀ I1, I1 85 36 = nI (D.length + 1) → pm_Ev (d + 2) 129 [.ref 85] (pm_hp L fz t (pm_u I1 102 (D.length + 1) (bz v)) J) K2 → K1 (.inl none) (pm_hp L fz t I1 J)) (h2 : ∀ I' J', yI g N lo n0 b (tnx g N p) (x :: W) C (v :: D) I' J' → wF I I' → gJ J J' → K2 (.inl none) (pm_hp L fz t I' J')) : pm_Ev (d + 2) 143 [.ref 85, .int (nI x)] (pm_hp L fz t I J) K1 := by
  obtain ⟨hG, hW, hb, hw, hp, hD6, hz⟩ := h
  have hlt := nx_lt (g := g) (N := N) p hk
  have hnN := nx_le (g := g) p hp
  refine S_waitsI (d := d + 1) hW (by omega) fun I1 a1 a2 a3 a4 => h1 I1 (top_D a1).1 ?_
  have u85 : pm_u I1 102 (D.length + 1) (bz v) 85 = I1 85 := pm_ua (by omega)
  have w2 : yW lo n0 b (x :: W) C (v :: D) (pm_u I1 102 (D.length + 1) (bz v)) := by
    obtain ⟨k1, k2, k3, k4, k5⟩ := a1
    unfold yW
    rw [u85, pm_ua (by omega), pm_ua (by omega)]
    refine ⟨k1, k2, k3, k4, fun i hi => ?_⟩
    simp only [List.length_cons] at hi
    rw [List.reverse_cons]
    by_cases ei : i = D.length
    · rw [ei, pm_us, List.getD_eq_getElem?_getD, List.getElem?_append_right (by simp)]; simp
    · rw [pm_uk (by omega), k5 i (by simp; omega), List.reverse_cons, List.getD_eq_getElem?_getD, List.getD_eq_getElem?_getD, List.getElem?_append_left (by simp; omega), List.getElem?_append_left (by simp; omega)]
  have g1 := mG_c (by omega) hG a3 a4
  have g2 : mG g N p (pm_u I1 102 (D.length + 1) (bz v)) J := mG_c (x := 32) (by omega) g1 (fun k _ => by rw [u85]) (pm_ua (by omega))
  refine S_goesI (d := d) hg hN hp g2 fun I2 J2 c1 c2 c3 => h2 I2 J2 ⟨c1, yW_g c2 w2, by simp; omega, by simp; omega, hnN, by simpa using hD6, fun z hz' => ?_⟩ (wF_t (wF_c a2 (by omega)) (wF_g c2)) c3
  rcases List.mem_cons.mp hz' with q | q
  · omega
  · exact hz z q
/-- after drops the state is as good -/
theorem yI_d {Z : List Nat} {I I' : Nat → Nat → Int32} (h : yI g N lo n0 b p (Z ++ W) C D I J) (h1 : yW lo n0 b W (C ++ Z) D I') (h85 : ∀ k, k ≠ 32 → k ≠ 35 → I' 85 k = I 85 k) (h92 : I' 92 = I 92) : yI g N lo n0 b p W (C ++ Z) D I' J := by
  obtain ⟨hG, hW, hb, hw, hp, hD6, hz⟩ := h
  rw [List.length_append] at hb hw
  refine ⟨⟨mTk_c hG.1 (fun k hk => h85 k (by omega) (by omega)) h92, by rw [h85 15 (by omega) (by omega)]; exact hG.2⟩, h1, by simp; omega, by omega, hp, hD6, fun z hz' => hz z (List.mem_append.mpr (Or.inr hz'))⟩
theorem S_dropsE {l : Nat} (hl : l < 10) {Z : List Nat} (hN : N ≤ 700) (hZ : ∀ z, z ∈ Z → z < 14 ∧ l ≤ stg z) (hlow : low l W) (h : yI g N lo n0 b p (Z ++ W) C D I J) (hq : ∀ I', yI g N lo n0 b p W (C ++ Z) D I' J → wF I I' → Q (.inl none) (pm_hp L fz t I' J)) : pm_Ev (d + 2) 142 [.ref 85, .int (nI l)] (pm_hp L fz t I J) Q := by
  obtain ⟨hG, hW, hb, hw, hp, hD6, hz⟩ := id h
  rw [List.length_append] at hb hw
  exact S_dropsI hl hZ hlow (fun z hz' => hz z (List.mem_append.mpr (Or.inr hz'))) (by omega) (by omega) hW fun I' a1 a2 a3 a4 => hq I' (yI_d h a1 a3 a4) a2
end Spec
