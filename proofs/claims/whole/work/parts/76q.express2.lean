/-! the reference's acts of a formula, one by one -/
section Spec
variable {d L : Nat} {fz t : Bool} {Q : pm_R → pm_H → Prop} {I : Nat → Nat → Int32} {J : Nat → Nat → Int64} {g : Nat → Nat} {N p lo n0 b : Nat} {W C Z : List Nat} {b0 : Bool} {D : List Bool}
theorem op_2 {k : Tk} {c : Nat} (h : opOf 2 k = some c) : (k = kS 43 ∧ c = 5) ∨ (k = kS 45 ∧ c = 6) := by
  unfold opOf at h
  rw [if_neg (by omega), if_pos rfl] at h
  split at h
  · cases h; exact Or.inl ⟨by assumption, rfl⟩
  · split at h
    · cases h; exact Or.inr ⟨by assumption, rfl⟩
    · cases h
theorem op_1 {k : Tk} {c : Nat} (h : opOf 1 k = some c) : (k = kS 42 ∧ c = 7) ∨ (k = kS 47 ∧ c = 8) := by
  unfold opOf at h
  rw [if_pos rfl] at h
  split at h
  · cases h; exact Or.inl ⟨by assumption, rfl⟩
  · split at h
    · cases h; exact Or.inr ⟨by assumption, rfl⟩
    · cases h
theorem op_56 {k : Tk} {m c : Nat} (hm : m = 5 ∨ m = 6) (h : opOf m k = some c) : (m = 5 ∧ k = kW 16 ∧ c = 2) ∨ (m = 6 ∧ k = kW 17 ∧ c = 1) := by
  rcases hm with rfl | rfl
  · unfold opOf at h
    rw [if_neg (by omega), if_neg (by omega), if_pos rfl] at h
    split at h
    · cases h; exact Or.inl ⟨rfl, by assumption, rfl⟩
    · cases h
  · unfold opOf at h
    rw [if_neg (by omega), if_neg (by omega), if_neg (by omega)] at h
    split at h
    · cases h; exact Or.inr ⟨rfl, by assumption, rfl⟩
    · cases h
theorem op_cmp {k : Tk} {c : Nat} (h : cmp k = some c) : (k = kS 60 ∧ c = 3) ∨ (k = kS 61 ∧ c = 4) := by
  unfold cmp at h
  split at h
  · cases h; exact Or.inl ⟨by assumption, rfl⟩
  · split at h
    · cases h; exact Or.inr ⟨by assumption, rfl⟩
    · cases h
theorem E_sum (hg : ∀ i, g i < 256) (hN : N ≤ 700) {c : Nat} (h : yI g N lo n0 b p (Z ++ W) C (b0 :: D) I J) (ho : opOf 2 (tK g N p) = some c) (hZ : ∀ z, z ∈ Z → z < 14 ∧ 5 ≤ stg z) (hlow : low 5 W) (hq : ∀ I' J', yI g N lo n0 b (tnx g N p) (mop c :: W) (C ++ Z) (b0 :: D) I' J' → wF I I' → gJ J J' → pm_Ev (d + 5) 146 [.ref 85, .int (nI 0)] (pm_hp L fz t I' J') (K_X11_expression_253 (d + 5) fz t Q (nI 1))) : t_X11_expression_39 (d + 5) L fz t Q (nI 1) I J := by
  have hp := h.2.2.2.2.1
  have dr : pm_Ev (d + 5) 142 [.ref 85, .int (nI 5)] (pm_hp L fz t I J) (K_X11_expression_224 (d + 5) fz t Q (nI 1)) := by
    refine S_dropsE (d := d + 3) (by omega) hN hZ hlow h fun I1 a1 a2 => kb_X11_expression_224 ?_
    have wt : ∀ x, x < 100 → x = mop c → pm_Ev (d + 5) 143 [.ref 85, .int (nI x)] (pm_hp L fz t I1 J) (K_X11_expression_244 (d + 5) fz t Q (nI 1)) := by
      intro x hx ex
      subst ex
      exact T_wait (d := d + 3) hg hN hx a1 (op_18 (m := 2) (Or.inr (Or.inl rfl)) ho).2 (fun I2 h2 => kb_X11_expression_244 h2) (fun I' J' c1 c2 c3 => kb_X11_expression_248 (hq I' J' c1 (wF_t a2 c2) c3))
    refine S_mSign (d := d + 4) hg hp a1.1.1 (by decide) (kb_X11_expression_231 (q_b0 (fun e => wt 9 (by omega) ?_) (fun e => wt 8 (by omega) ?_)))
    · rcases op_2 ho with ⟨q, rfl⟩ | ⟨q, rfl⟩
      · exact absurd q (of_decide_eq_false e)
      · rfl
    · rcases op_2 ho with ⟨q, rfl⟩ | ⟨q, rfl⟩
      · rfl
      · have := of_decide_eq_true e; rw [q] at this; cases this
  have nt : tK g N p ≠ kW 16 ∧ tK g N p ≠ kW 17 ∧ cmp (tK g N p) = none := by
    rcases op_2 ho with ⟨q, _⟩ | ⟨q, _⟩ <;> rw [q] <;> exact ⟨fun q => (by cases q), fun q => (by cases q), by decide⟩
  refine E_43 (d := d + 2) hg hN h nt.1 nt.2.1 (fun q => absurd nt.2.2 q) ?_
  refine S_mSign (d := d + 4) hg hp h.1.1 (by decide) (kb_X11_expression_207 (q_b0' (fun e => dr) (fun e => S_mSign (d := d + 4) hg hp h.1.1 (by decide) (kb_X11_expression_216 (q_b0 (fun e2 => ?_) (fun e2 => dr))))))
  rcases op_2 ho with ⟨q, _⟩ | ⟨q, _⟩
  · exact absurd q (of_decide_eq_false e)
  · exact absurd q (of_decide_eq_false e2)
theorem E_prod (hg : ∀ i, g i < 256) (hN : N ≤ 700) {c : Nat} (h : yI g N lo n0 b p (Z ++ W) C (b0 :: D) I J) (ho : opOf 1 (tK g N p) = some c) (hZ : ∀ z, z ∈ Z → z < 14 ∧ 6 ≤ stg z) (hlow : low 6 W) (hq : ∀ I' J', yI g N lo n0 b (tnx g N p) (mop c :: W) (C ++ Z) (b0 :: D) I' J' → wF I I' → gJ J J' → pm_Ev (d + 5) 146 [.ref 85, .int (nI 0)] (pm_hp L fz t I' J') (K_X11_expression_309 (d + 5) fz t Q (nI 1))) : t_X11_expression_39 (d + 5) L fz t Q (nI 1) I J := by
  have hp := h.2.2.2.2.1
  have dr : pm_Ev (d + 5) 142 [.ref 85, .int (nI 6)] (pm_hp L fz t I J) (K_X11_expression_280 (d + 5) fz t Q (nI 1)) := by
    refine S_dropsE (d := d + 3) (by omega) hN hZ hlow h fun I1 a1 a2 => kb_X11_expression_280 ?_
    have wt : ∀ x, x < 100 → x = mop c → pm_Ev (d + 5) 143 [.ref 85, .int (nI x)] (pm_hp L fz t I1 J) (K_X11_expression_300 (d + 5) fz t Q (nI 1)) := by
      intro x hx ex
      subst ex
      exact T_wait (d := d + 3) hg hN hx a1 (op_18 (m := 1) (Or.inl rfl) ho).2 (fun I2 h2 => kb_X11_expression_300 h2) (fun I' J' c1 c2 c3 => kb_X11_expression_304 (hq I' J' c1 (wF_t a2 c2) c3))
    refine S_mSign (d := d + 4) hg hp a1.1.1 (by decide) (kb_X11_expression_287 (q_b0 (fun e => wt 11 (by omega) ?_) (fun e => wt 10 (by omega) ?_)))
    · rcases op_1 ho with ⟨q, rfl⟩ | ⟨q, rfl⟩
      · exact absurd q (of_decide_eq_false e)
      · rfl
    · rcases op_1 ho with ⟨q, rfl⟩ | ⟨q, rfl⟩
      · rfl
      · have := of_decide_eq_true e; rw [q] at this; cases this
  have nt : tK g N p ≠ kW 16 ∧ tK g N p ≠ kW 17 ∧ cmp (tK g N p) = none ∧ opOf 2 (tK g N p) = none := by
    rcases op_1 ho with ⟨q, _⟩ | ⟨q, _⟩ <;> rw [q] <;> exact ⟨fun q => (by cases q), fun q => (by cases q), by decide, by decide⟩
  refine E_43 (d := d + 2) hg hN h nt.1 nt.2.1 (fun q => absurd nt.2.2.1 q) (E_42 (d := d + 2) hg h nt.2.2.2 ?_)
  refine S_mSign (d := d + 4) hg hp h.1.1 (by decide) (kb_X11_expression_262 (q_b0' (fun e => dr) (fun e => S_mSign (d := d + 4) hg hp h.1.1 (by decide) (kb_X11_expression_271 (q_b0 (fun e2 => ?_) (fun e2 => dr))))))
  rcases op_1 ho with ⟨q, _⟩ | ⟨q, _⟩
  · exact absurd q (of_decide_eq_false e)
  · exact absurd q (of_decide_eq_false e2)
theorem kv_is {k : Tk} {x : Int32} {j : Nat} (hj : j < 19) (h : kv k x) (hk : k = kW j) : x = nI j := by
  rcases h with ⟨i, hi, e, rfl⟩ | ⟨hno, rfl⟩
  · rw [hk, kW_inj] at e; rw [← e]
  · exact absurd hk (hno j hj)
theorem vn0 : vp_nar .boolean (nI 0) = bz false := by decide
theorem vn1 : vp_nar .boolean (nI 1) = bz true := by decide
theorem E_and (hg : ∀ i, g i < 256) (hN : N ≤ 700) {m c : Nat} (hm : m = 5 ∨ m = 6) (h : yI g N lo n0 b p (Z ++ W) C (b0 :: D) I J) (ho : opOf m (tK g N p) = some c) (hZ : ∀ z, z ∈ Z → z < 14 ∧ 7 - m ≤ stg z) (hlow : low (7 - m) W) (hq : ∀ I' J', yI g N lo n0 b (tnx g N p) (mop c :: W) (C ++ Z) (false :: D) I' J' → wF I I' → gJ J J' → pm_Ev (d + 5) 146 [.ref 85, .int (nI 1)] (pm_hp L fz t I' J') (K_X11_expression_121 (d + 5) fz t Q (nI 1))) : t_X11_expression_39 (d + 5) L fz t Q (nI 1) I J := by
  have hp := h.2.2.2.2.1
  have hD6 : D.length + 1 ≤ 6 := by have := h.2.2.2.2.2.1; simpa using this
  have wt : ∀ I1 x, yI g N lo n0 b p W (C ++ Z) (b0 :: D) I1 J → wF I I1 → x = mop c → x < 100 → pm_Ev (d + 5) 143 [.ref 85, .int (nI x)] (pm_hp L fz t I1 J) (K_X11_expression_102 (d + 5) fz t Q (nI 1)) := by
    intro I1 x a1 a2 ex hx
    subst ex
    have hne : tK g N p ≠ kE := fun q => by rcases op_56 hm ho with ⟨_, e, _⟩ | ⟨_, e, _⟩ <;> rw [e] at q <;> cases q
    refine T_waitT (d := d + 3) (v := false) hg hN hx a1 hne (fun I2 h36 h2 => kb_X11_expression_102 ?_) (fun I' J' c1 c2 c3 => kb_X11_expression_116 (hq I' J' c1 (wF_t a2 c2) c3))
    rw [h36, nI_clamp (by omega), vn0]
    exact ⟨vp_in_nI (by omega) (by omega), h2⟩
  refine b_X11_expression_39 (q_f nI_01 (S_good (d := d + 4) h.1.2 (kb_X11_expression_47 (q_f nI_01 (S_known (d := d + 2) hp hN h.1.1 fun x hx => kb_X11_expression_54 ?_)))))
  rcases op_56 hm ho with ⟨rfl, e, rfl⟩ | ⟨rfl, e, rfl⟩
  · rw [kv_is (by omega) hx e]
    exact q_t rfl (S_dropsE (d := d + 3) (by omega) hN hZ hlow h fun I1 a1 a2 => kb_X11_expression_86 (q_f' rfl (wt I1 4 a1 a2 rfl (by omega))))
  · rw [kv_is (by omega) hx e]
    exact q_f (by decide) (q_f' rfl (S_dropsE (d := d + 3) (by omega) hN hZ hlow h fun I1 a1 a2 => kb_X11_expression_86 (q_t' (by decide) (wt I1 5 a1 a2 rfl (by omega)))))
theorem E_cmp (hg : ∀ i, g i < 256) (hN : N ≤ 700) {c : Nat} (h : yI g N lo n0 b p (Z ++ W) C (false :: D) I J) (ho : cmp (tK g N p) = some c) (hZ : ∀ z, z ∈ Z → z < 14 ∧ 4 ≤ stg z) (hlow : low 4 W) (hq : ∀ I' J', yI g N lo n0 b (tnx g N p) (mop c :: W) (C ++ Z) (true :: D) I' J' → wF I I' → gJ J J' → pm_Ev (d + 5) 146 [.ref 85, .int (nI 0)] (pm_hp L fz t I' J') (K_X11_expression_198 (d + 5) fz t Q (nI 1))) : t_X11_expression_39 (d + 5) L fz t Q (nI 1) I J := by
  have hp := h.2.2.2.2.1
  have hD6 : D.length + 1 ≤ 6 := by have := h.2.2.2.2.2.1; simpa using this
  have dr : pm_Ev (d + 5) 142 [.ref 85, .int (nI 4)] (pm_hp L fz t I J) (K_X11_expression_159 (d + 5) fz t Q (nI 1)) := by
    refine S_dropsE (d := d + 3) (by omega) hN hZ hlow h fun I1 a1 a2 => kb_X11_expression_159 ?_
    have wt : ∀ x, x < 100 → x = mop c → pm_Ev (d + 5) 143 [.ref 85, .int (nI x)] (pm_hp L fz t I1 J) (K_X11_expression_179 (d + 5) fz t Q (nI 1)) := by
      intro x hx ex
      subst ex
      refine T_waitT (d := d + 3) (v := true) hg hN hx a1 (cmp_18 ho).2 (fun I2 h36 h2 => kb_X11_expression_179 ?_) (fun I' J' c1 c2 c3 => kb_X11_expression_193 (hq I' J' c1 (wF_t a2 c2) c3))
      rw [h36, nI_clamp (by omega), vn1]
      exact ⟨vp_in_nI (by omega) (by omega), h2⟩
    refine S_mSign (d := d + 4) hg hp a1.1.1 (by decide) (kb_X11_expression_166 (q_b0 (fun e => wt 7 (by omega) ?_) (fun e => wt 6 (by omega) ?_)))
    · rcases op_cmp ho with ⟨q, rfl⟩ | ⟨q, rfl⟩
      · exact absurd q (of_decide_eq_false e)
      · rfl
    · rcases op_cmp ho with ⟨q, rfl⟩ | ⟨q, rfl⟩
      · rfl
      · have := of_decide_eq_true e; rw [q] at this; cases this
  obtain ⟨h36, h102⟩ := top_D h.2.1
  have go : (vp_in (I 85 36) 9 ∧ ((¬ (I 102 ((I 85 36)).toNatClampNeg) = (nI 0) → pm_Ev (d + 5) 135 [.ref 85, .int (nI 43)] (pm_hp L fz t I J) (K_X11_expression_207 (d + 5) fz t Q (nI 1))) ∧ ((I 102 ((I 85 36)).toNatClampNeg) = (nI 0) → pm_Ev (d + 5) 142 [.ref 85, .int (nI 4)] (pm_hp L fz t I J) (K_X11_expression_159 (d + 5) fz t Q (nI 1))))) := by
    rw [h36, nI_clamp (by omega), h102]
    exact ⟨vp_in_nI (by omega) (by omega), q_f' rfl dr⟩
  have nt : tK g N p ≠ kW 16 ∧ tK g N p ≠ kW 17 := by
    rcases op_cmp ho with ⟨q, _⟩ | ⟨q, _⟩ <;> rw [q] <;> exact ⟨fun q => (by cases q), fun q => (by cases q)⟩
  refine b_X11_expression_39 (q_f nI_01 (S_good (d := d + 4) h.1.2 (kb_X11_expression_47 (q_f nI_01 (S_known (d := d + 2) hp hN h.1.1 fun x hx => kb_X11_expression_54 ?_)))))
  refine q_f (kv_n18 hx (by omega) nt.1) (q_t' (kv_n18 hx (by omega) nt.2) ?_)
  refine S_mSign (d := d + 4) hg hp h.1.1 (by decide) (kb_X11_expression_130 (q_b0' (fun e => go) (fun e => ?_)))
  refine S_mSign (d := d + 4) hg hp h.1.1 (by decide) (kb_X11_expression_139 (q_b0 (fun e2 => ?_) (fun e2 => go)))
  rcases op_cmp ho with ⟨q, _⟩ | ⟨q, _⟩
  · exact absurd q (of_decide_eq_false e)
  · exact absurd q (of_decide_eq_false e2)
end Spec
