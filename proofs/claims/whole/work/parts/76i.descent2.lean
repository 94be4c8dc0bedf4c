/-! the class: values, tests, nots, parts; a whole formula; written by wip/whole/gen_desc2.py -/
section Spec
variable {d L : Nat} {fz t : Bool} {Q : pm_R → pm_H → Prop} {I : Nat → Nat → Int32} {J : Nat → Nat → Int64} {g : Nat → Nat} {N p a : Nat} {l : List Nat}
def vl (lo n0 : Nat) (k : Tk) (x : Int32) : Prop := (∃ j, k = kW j ∧ (lo ≤ j ∧ j < lo + n0) ∧ x = nI (j - lo)) ∨ ((∀ j, k = kW j → ¬ (lo ≤ j ∧ j < lo + n0)) ∧ x = -1)
theorem S_valueOfUp (hg : ∀ i, g i < 256) (hN : N ≤ 700) (hp : p ≤ N) (h : cTk g N p I) (hq : ∀ x, vl 0 6 (tK g N p) x → Q (.inl (some (.int x))) (pm_hp L fz t I J)) : pm_Ev (d + 2) 51 [.ref 1] (pm_hp L fz t I J) Q := by
  have yes : ∀ j, tK g N p = kW j → 0 ≤ j → j < 6 → Q (.inl (some (.int (nI (j - 0))))) (pm_hp L fz t I J) := fun j h1 h2 h3 => hq _ (Or.inl ⟨j, h1, ⟨h2, by omega⟩, rfl⟩)
  refine e_X3_valueOfUp ?_
  refine S_isWord (d := d) hg hN hp h (j := 23) (by omega) (kb_X3_valueOfUp_6 (q_b0 (fun n0 => ?_) (fun b => yes 0 (of_decide_eq_true b) (by omega) (by omega))))
  refine S_isWord (d := d) hg hN hp h (j := 24) (by omega) (kb_X3_valueOfUp_19 (q_b0 (fun n1 => ?_) (fun b => yes 1 (of_decide_eq_true b) (by omega) (by omega))))
  refine S_isWord (d := d) hg hN hp h (j := 25) (by omega) (kb_X3_valueOfUp_32 (q_b0 (fun n2 => ?_) (fun b => yes 2 (of_decide_eq_true b) (by omega) (by omega))))
  refine S_isWord (d := d) hg hN hp h (j := 26) (by omega) (kb_X3_valueOfUp_45 (q_b0 (fun n3 => ?_) (fun b => yes 3 (of_decide_eq_true b) (by omega) (by omega))))
  refine S_isWord (d := d) hg hN hp h (j := 27) (by omega) (kb_X3_valueOfUp_58 (q_b0 (fun n4 => ?_) (fun b => yes 4 (of_decide_eq_true b) (by omega) (by omega))))
  refine S_isWord (d := d) hg hN hp h (j := 28) (by omega) (kb_X3_valueOfUp_71 (q_b0 (fun n5 => ?_) (fun b => yes 5 (of_decide_eq_true b) (by omega) (by omega))))
  refine hq _ (Or.inr ⟨fun j hj hr => ?_, rfl⟩)
  have m0 : ¬ tK g N p = kW 0 := of_decide_eq_false n0
  have m1 : ¬ tK g N p = kW 1 := of_decide_eq_false n1
  have m2 : ¬ tK g N p = kW 2 := of_decide_eq_false n2
  have m3 : ¬ tK g N p = kW 3 := of_decide_eq_false n3
  have m4 : ¬ tK g N p = kW 4 := of_decide_eq_false n4
  have m5 : ¬ tK g N p = kW 5 := of_decide_eq_false n5
  rw [hj] at m0 m1 m2 m3 m4 m5
  simp only [kW_inj] at m0 m1 m2 m3 m4 m5
  omega
theorem S_valueOfHarm (hg : ∀ i, g i < 256) (hN : N ≤ 700) (hp : p ≤ N) (h : cTk g N p I) (hq : ∀ x, vl 6 4 (tK g N p) x → Q (.inl (some (.int x))) (pm_hp L fz t I J)) : pm_Ev (d + 2) 52 [.ref 1] (pm_hp L fz t I J) Q := by
  have yes : ∀ j, tK g N p = kW j → 6 ≤ j → j < 10 → Q (.inl (some (.int (nI (j - 6))))) (pm_hp L fz t I J) := fun j h1 h2 h3 => hq _ (Or.inl ⟨j, h1, ⟨h2, by omega⟩, rfl⟩)
  refine e_X3_valueOfHarm ?_
  refine S_isWord (d := d) hg hN hp h (j := 29) (by omega) (kb_X3_valueOfHarm_6 (q_b0 (fun n0 => ?_) (fun b => yes 6 (of_decide_eq_true b) (by omega) (by omega))))
  refine S_isWord (d := d) hg hN hp h (j := 30) (by omega) (kb_X3_valueOfHarm_19 (q_b0 (fun n1 => ?_) (fun b => yes 7 (of_decide_eq_true b) (by omega) (by omega))))
  refine S_isWord (d := d) hg hN hp h (j := 31) (by omega) (kb_X3_valueOfHarm_32 (q_b0 (fun n2 => ?_) (fun b => yes 8 (of_decide_eq_true b) (by omega) (by omega))))
  refine S_isWord (d := d) hg hN hp h (j := 32) (by omega) (kb_X3_valueOfHarm_45 (q_b0 (fun n3 => ?_) (fun b => yes 9 (of_decide_eq_true b) (by omega) (by omega))))
  refine hq _ (Or.inr ⟨fun j hj hr => ?_, rfl⟩)
  have m0 : ¬ tK g N p = kW 6 := of_decide_eq_false n0
  have m1 : ¬ tK g N p = kW 7 := of_decide_eq_false n1
  have m2 : ¬ tK g N p = kW 8 := of_decide_eq_false n2
  have m3 : ¬ tK g N p = kW 9 := of_decide_eq_false n3
  rw [hj] at m0 m1 m2 m3
  simp only [kW_inj] at m0 m1 m2 m3
  omega
theorem S_emitValue (ha : fc a) (h : yG g N a p l I) {v : Nat} (hv : v < 16) (hl : l.length < 700) (hq : ∀ I', rF a I I' → yG g N a p (l ++ [16 + v]) I' → Q (.inl none) (pm_hp L fz t I' J)) : pm_Ev (d + 2) 8 [.ref a, .int (nI v)] (pm_hp L fz t I J) Q := by
  refine e_X1_emitValue ha (e_X1_emit ha ?_)
  have ha1 : a ≠ 1 ∧ a + 1 ≠ 1 ∧ 2 ≤ a := by unfold fc at ha; omega
  obtain ⟨hG, h1, h2, h3, h4⟩ := h
  rw [h2]
  refine q_f (nI_ge (by omega) (by omega)) ⟨vp_in_nI (by omega) (by omega), kb_X1_emitValue_8 ha ?_⟩
  rw [nI_clamp (by omega), nI_add 16 v, nI_add l.length 1]
  have e1 : ∀ b x, b ≠ a → b ≠ a + 1 → pm_u (pm_u (pm_u I (a + 1) l.length (nI (16 + v))) a 2 (nI (l.length + 1))) a 3 x b = I b := fun b x q1 q2 => by rw [pm_ua q1, pm_ua q1, pm_ua q2]
  refine hq _ ⟨fun b _ q2 q3 => e1 b _ q2 q3, fun k _ => by rw [e1 1 _ (by omega) (by omega)]⟩ ⟨⟨?_, by rw [e1 1 _ (by omega) (by omega)]; exact hG.2⟩, by simp; omega, by rw [pm_uk (by omega), pm_us]; simp, fun u hu => ?_, fun i hi => ?_⟩
  · obtain ⟨⟨k1, k2⟩, k3⟩ := hG.1
    refine ⟨⟨?_, fun i hi => ?_⟩, ?_⟩
    · rw [e1 1 _ (by omega) (by omega)]; exact k1
    · rw [e1 2 _ (by unfold fc at ha; omega) (by unfold fc at ha; omega)]; exact k2 i hi
    · rw [e1 1 _ (by omega) (by omega)]; exact k3
  · rw [pm_us, pm_uk (by omega), pm_ua (by omega), b_or, h3 u hu]
    rw [show bt (nI 1 <<< (nI v &&& 31)) u = decide (u = v) from b_pw v (by omega) u (by omega)]
    refine bool_eq ?_
    simp only [List.contains_iff_mem, List.mem_append, List.mem_singleton, Bool.or_eq_true, decide_eq_true_eq]
    exact or_congr Iff.rfl (by omega)
  · rw [pm_ua (by omega), pm_ua (by omega)]
    simp at hi
    by_cases ei : i = l.length
    · rw [ei, pm_us, List.getD_eq_getElem?_getD, List.getElem?_append_right (Nat.le_refl _)]; simp
    · rw [pm_uk ei, h4 i (by omega), List.getD_eq_getElem?_getD, List.getD_eq_getElem?_getD, List.getElem?_append_left (by omega)]
end Spec
section Desc
variable {g : Nat → Nat} {N lo n0 a : Nat} {x2 : Int32} {w : Nat}
theorem R_test (hg : ∀ i, g i < 256) (hN : N ≤ 700) (hn : n0 ≤ 16) (ha : fc a) {e : Nat} (he : 3 ≤ e) (hs : RD g N lo n0 a x2 48 2 w e) : RD g N lo n0 a x2 47 3 w (e + 1) := by
  intro d L fz t Q I J p l hpN hp1 hl hG hq
  obtain ⟨e', rfl⟩ : ∃ e', e = e' + 3 := ⟨e - 3, by omega⟩
  refine e_X3_readTest ha (hs d L fz t _ I J p l hpN hp1 hl hG fun I1 r1 hD hA => kb_X3_readTest_7 ha ?_)
  rcases r1 with ⟨e1, p1⟩ | ⟨y, q⟩
  · have hL := Dv_L hn hpN hD
    obtain ⟨hr, hG1⟩ := hA
    have hl1 : (l ++ e1).length ≤ p1 := by rw [List.length_append]; omega
    have on : ∀ c, cmp (tK g N p1) = some c → pm_Ev (d + (e' + 3)) 28 [.ref 1] (pm_hp L fz t I1 J) (K_X3_readTest_52 (d + (e' + 3)) fz t Q a x2 (nI w) (nI c)) := by
      intro c h0
      have hc := cmp_18 h0
      have hlt := nx_lt p1 hc.2
      refine S_adv (d := d + e') hg hN hL.1 hG1.1 fun I2 k1 k2 => kb_X3_readTest_52 ha ?_
      have hr2 := rF_t hr (rF_f (fF_a k2))
      refine hs d L fz t _ I2 J (tnx g N p1) (l ++ e1) (nx_le p1 hL.1) (by omega) (by omega) (yG_a ha k2 hG1.2 k1) fun I3 r hD2 hA2 => kb_X3_readTest_59 ha ?_
      have hr3 := rF_t hr2 hA2.1
      rcases r with ⟨e2, p2⟩ | ⟨y, q⟩
      · have hL2 := Dv_L hn (nx_le p1 hL.1) hD2
        have hl3 : (l ++ e1 ++ e2).length < p2 := by rw [List.length_append]; omega
        refine S_emit (d := d + e' + 2) ha hA2.2 (Or.inl (by omega)) (by omega) fun I4 k3 k4 => kb_X3_readTest_65 (hq I4 _ (Dv_t1 hD h0 hD2) ⟨rF_t hr3 k3, ?_⟩)
        show yG g N a p2 (l ++ (e1 ++ e2 ++ [c])) I4
        simpa only [List.append_assoc] using k4
      · exact S_emitB (d := d + e' + 2) ha hA2.2 fun I4 k3 k4 => kb_X3_readTest_65 (hq I4 _ (Dv_t2 hD h0 hD2) ⟨rF_t hr3 k3, k4⟩)
    have two : ∀ c, cmp (tK g N p1) = some c → pm_Ev (d + (e' + 3)) 33 [.ref 1, .int (nI 60)] (pm_hp L fz t I1 J) (K_X3_readTest_38 (d + (e' + 3)) fz t Q a x2 (nI w)) := by
      intro c h0
      refine S_isSign (d := d + e' + 2) hg hN hL.1 hG1.1.1 (by omega) (kb_X3_readTest_38 ha (q_b0 (fun b => ?_) (fun b => ?_)))
      · have hb := of_decide_eq_false b
        refine on 4 ?_
        unfold cmp at h0 ⊢
        rw [if_neg hb] at h0 ⊢
        split at h0
        · rename_i q; rw [if_pos q]
        · cases h0
      · exact on 3 (by rw [of_decide_eq_true b]; rfl)
    refine q_f' hG1.1.2 (S_isSign (d := d + e' + 2) hg hN hL.1 hG1.1.1 (by omega) (kb_X3_readTest_20 ha (q_b0' (fun b => two 3 (by rw [of_decide_eq_true b]; rfl)) (fun b => ?_))))
    refine S_isSign (d := d + e' + 2) hg hN hL.1 hG1.1.1 (by omega) (kb_X3_readTest_29 ha (q_b0 (fun b2 => b_X3_readTest_65 ?_) (fun b2 => two 4 (by rw [of_decide_eq_true b2]; rfl))))
    refine hq I1 _ (Dv_t0 hD ?_) ⟨hr, hG1⟩
    unfold cmp
    rw [if_neg (of_decide_eq_false b), if_neg (of_decide_eq_false b2)]
  · exact q_t' (bd_ne hA.2.1) (b_X3_readTest_65 (hq I1 _ (Dv_tb hD) hA))
theorem it_s (nx : Nat → Nat) : ∀ k p, it nx (k + 1) p = nx (it nx k p)
  | 0, _ => rfl
  | k + 1, p => it_s nx k (nx p)
theorem R_not (hg : ∀ i, g i < 256) (hN : N ≤ 700) (hn : n0 ≤ 16) (ha : fc a) {e : Nat} (he : 3 ≤ e) (hs : RD g N lo n0 a x2 47 3 w e) : RD g N lo n0 a x2 46 4 w (e + 1) := by
  intro d L fz t Q I J p l hpN hp1 hl hG hq
  obtain ⟨e', rfl⟩ : ∃ e', e = e' + 3 := ⟨e - 3, by omega⟩
  refine e_X3_readNot ha ?_
  have tail : ∀ k p2 e1 I3, k ≤ 6 → p2 ≤ N → (l ++ e1).length + k ≤ p2 → rF a I I3 → yG g N a p2 (l ++ e1) I3 → Dv (tK g N) (tnx g N) lo n0 4 w none p (rok (e1 ++ List.replicate k 0) p2) → t_X3_readNot_54 (d + (e' + 3)) L fz t Q a (nI k) (nI 0) I3 J := by
    intro k p2 e1 I3 hk hp2 hl3 hr3 hG3 hD
    suffices H : ∀ f i I4, k - i = f → i ≤ k → rF a I I4 → yG g N a p2 (l ++ e1 ++ List.replicate i 0) I4 → t_X3_readNot_54 (d + (e' + 3)) L fz t Q a (nI k) (nI i) I4 J from H _ 0 I3 rfl (by omega) hr3 (by simpa using hG3)
    intro f
    induction f with
    | zero =>
      intro i I4 hf hi hr4 hG4
      refine b_X3_readNot_54 ha (q_t (nI_le (by omega) (by omega)) (hq I4 _ hD ⟨hr4, ?_⟩))
      rw [show i = k by omega] at hG4
      show yG g N a p2 (l ++ (e1 ++ List.replicate k 0)) I4
      simpa only [List.append_assoc] using hG4
    | succ f ih =>
      intro i I4 hf hi hr4 hG4
      refine b_X3_readNot_54 ha (q_f (nI_ge (by omega) (by omega)) (S_emit (d := d + e' + 2) (c := 0) ha hG4 (Or.inl (by omega)) (by rw [List.length_append, List.length_replicate]; omega) fun I5 k1 k2 => kb_X3_readNot_66 ha ?_))
      rw [nI_add]
      refine ih (i + 1) I5 (by omega) (by omega) (rF_t hr4 k1) ?_
      rw [List.replicate_succ', ← List.append_assoc]
      exact k2
  have tailB : ∀ k y q I3, k ≤ 6 → rF a I I3 → yB g N a y q I3 → Dv (tK g N) (tnx g N) lo n0 4 w none p (rbad y q) → t_X3_readNot_54 (d + (e' + 3)) L fz t Q a (nI k) (nI 0) I3 J := by
    intro k y q I3 hk hr3 hG3 hD
    suffices H : ∀ f i I4, k - i = f → i ≤ k → rF a I I4 → yB g N a y q I4 → t_X3_readNot_54 (d + (e' + 3)) L fz t Q a (nI k) (nI i) I4 J from H _ 0 I3 rfl (by omega) hr3 hG3
    intro f
    induction f with
    | zero =>
      intro i I4 hf hi hr4 hG4
      exact b_X3_readNot_54 ha (q_t (nI_le (by omega) (by omega)) (hq I4 _ hD ⟨hr4, hG4⟩))
    | succ f ih =>
      intro i I4 hf hi hr4 hG4
      refine b_X3_readNot_54 ha (q_f (nI_ge (by omega) (by omega)) (S_emitB (d := d + e' + 2) ha hG4 fun I5 k1 k2 => kb_X3_readNot_66 ha ?_))
      rw [nI_add]
      exact ih (i + 1) I5 (by omega) (by omega) (rF_t hr4 k1) k2
  suffices H : ∀ f k I1, 6 - k = f → k ≤ 6 → (∀ i, i < k → tK g N (it (tnx g N) i p) = kW 18) → rF a I I1 → yG g N a (it (tnx g N) k p) l I1 → t_X3_readNot_3 (d + (e' + 3)) L fz t Q a x2 (nI w) (nI k) I1 J from H _ 0 I rfl (by omega) (fun i hi => absurd hi (by omega)) ⟨fun _ _ _ _ => rfl, fun _ _ => rfl⟩ hG
  have after : ∀ k I1, k ≤ 6 → (∀ i, i < k → tK g N (it (tnx g N) i p) = kW 18) → rF a I I1 → yG g N a (it (tnx g N) k p) l I1 → (tK g N (it (tnx g N) k p) = kW 18 → k = 6) → pm_Ev (d + (e' + 3)) 34 [.ref 1, .ref 1000022] (pm_hp L fz t I1 J) (K_X3_readNot_35 (d + (e' + 3)) fz t Q a x2 (nI w) (nI k)) := by
    intro k I1 hk hno hr hG1 h6
    have hit := it_F (N := N) nx_lt nx_le k p hpN hno
    refine S_isWord (d := d + e' + 2) hg hN hit.1 hG1.1.1 (j := 22) (by omega) (kb_X3_readNot_35 ha (q_b0 (fun b => ?_) (fun b => ?_)))
    · have hb : ¬ tK g N (it (tnx g N) k p) = kW 18 := of_decide_eq_false b
      refine hs d L fz t _ I1 J _ l hit.1 (by omega) (by omega) hG1 fun I3 r hD hA => kb_X3_readNot_51 ha ?_
      rcases r with ⟨e1, p2⟩ | ⟨y, q⟩
      · have hL := Dv_L hn hit.1 hD
        exact tail k p2 e1 I3 hk hL.1 (by rw [List.length_append]; omega) (rF_t hr hA.1) hA.2 (Dv_no hno hk hb hD)
      · exact tailB k y q I3 hk (rF_t hr hA.1) hA.2 (Dv_nob hno hk hb hD)
    · have hb : tK g N (it (tnx g N) k p) = kW 18 := of_decide_eq_true b
      have hk6 := h6 hb
      subst hk6
      refine S_fail (d := d + e' + 2) hG1.1 (by omega) fun I2 k1 k2 => kb_X3_readNot_43 (hq I2 _ (Dv_nom (fun i hi => ?_)) ⟨rF_t hr (rF_f k2), fB ha k2 hG1.2 k1⟩)
      by_cases ei : i = 6
      · rw [ei]; exact hb
      · exact hno i (by omega)
  intro f
  induction f with
  | zero =>
    intro k I1 hf hk hno hr hG1
    exact b_X3_readNot_3 ha (q_t (nI_le (by omega) (by omega)) (after k I1 hk hno hr hG1 (fun _ => by omega)))
  | succ f ih =>
    intro k I1 hf hk hno hr hG1
    have hit := it_F (N := N) nx_lt nx_le k p hpN hno
    refine b_X3_readNot_3 ha (q_f (nI_ge (by omega) (by omega)) (S_isWord (d := d + e' + 2) hg hN hit.1 hG1.1.1 (j := 22) (by omega) (kb_X3_readNot_16 ha (q_b0 (fun b => ?_) (fun b => ?_)))))
    · exact after k I1 hk hno hr hG1 (fun q => absurd q (of_decide_eq_false b))
    · have hb : tK g N (it (tnx g N) k p) = kW 18 := of_decide_eq_true b
      refine S_adv (d := d + e') hg hN hit.1 hG1.1 fun I2 k1 k2 => kb_X3_readNot_23 ha ?_
      rw [nI_add]
      refine ih (k + 1) I2 (by omega) (by omega) (fun i hi => ?_) (rF_t hr (rF_f (fF_a k2))) ?_
      · by_cases ei : i = k
        · rw [ei]; exact hb
        · exact hno i (by omega)
      · rw [it_s]; exact yG_a ha k2 hG1.2 k1
end Desc
