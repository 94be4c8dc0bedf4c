/-! the class: parts, and a whole formula -/
section Desc
variable {g : Nat → Nat} {N lo n0 a : Nat} {x2 : Int32} {w : Nat}
theorem kd_1 {k : Tk} (h : kd k = 1) : k.1 = 1 := by unfold kd at h; split at h <;> omega
theorem tk_w {p : Nat} (hp : p ≤ N) (h : (tK g N p).1 = 1) : ∃ j, tK g N p = kW j := by
  rcases tk_cases (g := g) hp with ⟨_, e, _⟩ | ⟨_, _, _, _, e⟩ | ⟨_, _, _, _, e⟩ | ⟨_, _, _, _, e⟩
  · rw [e] at h; cases h
  · exact ⟨_, e⟩
  · rw [e] at h; split at h <;> cases h
  · rw [e] at h; cases h
theorem tk_03 {p : Nat} (hp : p ≤ N) (h1 : (tK g N p).1 ≠ 1) (h2 : (tK g N p).1 ≠ 2) (h5 : (tK g N p).1 ≠ 5) : tK g N p = kE ∨ ∃ c, tK g N p = kS c := by
  rcases tk_cases (g := g) hp with ⟨_, e, _⟩ | ⟨_, _, _, _, e⟩ | ⟨_, _, _, _, e⟩ | ⟨_, _, _, _, e⟩
  · exact Or.inl e
  · rw [e] at h1; exact absurd rfl h1
  · rw [e] at h2 h5; split at h2
    · exact absurd rfl h2
    · rename_i q; rw [if_neg q] at h5; exact absurd rfl h5
  · exact Or.inr ⟨_, e⟩
theorem R_part (hg : ∀ i, g i < 256) (hN : N ≤ 700) (hn : n0 ≤ 16) (ha : fc a) (hw : w < 6) (hx : (x2 = nI 0 ∧ lo = 6 ∧ n0 = 4) ∨ (¬ x2 = nI 0 ∧ lo = 0 ∧ n0 = 6)) {e : Nat} (he : 4 ≤ e) (hs : RD g N lo n0 a x2 44 6 (w + 1) e) : RD g N lo n0 a x2 50 0 w (e + 1) := by
  intro d L fz t Q I J p l hpN hp1 hl hG hq
  obtain ⟨e', rfl⟩ : ∃ e', e = e' + 4 := ⟨e - 4, by omega⟩
  refine e_X3_readPart ha ?_
  have h5 := hG.1.1.2.2.2.1
  have hkd := kd_lt (g := g) hpN
  rw [h5]
  refine q_ne (by omega) (by omega) (fun k2 => q_ne (by omega) (by omega) (fun k1 => ?_) (fun k1 => ?_)) (fun k2 => ?_)
  · -- a sign, or the end
    have n1 : (tK g N p).1 ≠ 1 := fun q => k1 (by unfold kd; rw [if_neg (by omega)]; exact q)
    have n2 : (tK g N p).1 ≠ 2 := fun q => k2 (by unfold kd; rw [if_neg (by omega)]; exact q)
    have n5 : (tK g N p).1 ≠ 5 := fun q => k2 (by unfold kd; rw [if_pos q])
    refine S_isSign (d := d + e' + 3) hg hN hpN hG.1.1 (by omega) (kb_X3_readPart_82 ha (q_b0 (fun b => ?_) (fun b => ?_)))
    · refine S_fail (d := d + e' + 3) hG.1 (by omega) fun I2 m1 m2 => kb_X3_readPart_118 (hq I2 _ (Dv_unf ?_) ⟨rF_f m2, fB ha m2 hG.2 m1⟩)
      rcases tk_03 hpN n1 n2 n5 with q | ⟨c, q⟩
      · exact Or.inl q
      · exact Or.inr ⟨c, q, fun c40 => of_decide_eq_false b (by rw [q, c40])⟩
    · have hb : tK g N p = kS 40 := of_decide_eq_true b
      have hlt := nx_lt (g := g) (N := N) p (by rw [hb]; intro q; cases q)
      refine q_f (nI_ge (by omega) (by omega)) (S_adv (d := d + e' + 1) hg hN hpN hG.1 fun I2 m1 m2 => kb_X3_readPart_95 ha ?_)
      rw [nI_add]
      refine hs d L fz t _ I2 J (tnx g N p) l (nx_le p hpN) (by omega) (by omega) (yG_a ha m2 hG.2 m1) fun I3 r hD hA => kb_X3_readPart_104 ?_
      have hr3 := rF_t (rF_f (fF_a m2)) hA.1
      rcases r with ⟨e1, p2⟩ | ⟨y, q⟩
      · have hL := Dv_L hn (nx_le p hpN) hD
        refine S_needSign (d := d + e') hg hN hL.1 hA.2.1 (by omega) (fun I4 c1 c2 c3 => ?_) (fun I4 c1 c2 c3 => ?_)
        · exact kb_X3_readPart_110 (b_X3_readPart_118 (hq I4 _ (Dv_par hb hw hD c1) ⟨rF_t hr3 (rF_f (fF_a c3)), yG_a ha c3 hA.2.2 c2⟩))
        · exact kb_X3_readPart_110 (b_X3_readPart_118 (hq I4 _ (Dv_parx hb hw hD c1) ⟨rF_t hr3 (rF_f c3), fB ha c3 hA.2.2 c2⟩))
      · exact S_needSignB (d := d + e' + 3) hA.2.1 (kb_X3_readPart_110 (b_X3_readPart_118 (hq I3 _ (Dv_parb hb hw hD) ⟨hr3, hA.2⟩)))
  · -- a word
    obtain ⟨j, hj⟩ := tk_w hpN (kd_1 k1)
    have hlt := nx_lt (g := g) (N := N) p (by rw [hj]; intro q; cases q)
    have hnN := nx_le (g := g) p hpN
    have go : ∀ x, vl lo n0 (tK g N p) x → ((¬ x = (-1 : Int32) → pm_Ev (d + (e' + 4)) 8 [.ref a, .int x] (pm_hp L fz t I J) (K_X3_readPart_69 (d + (e' + 4)) fz t Q)) ∧ (x = (-1 : Int32) → pm_Ev (d + (e' + 4)) 27 [.ref 1, .int (nI 3)] (pm_hp L fz t I J) (K_X3_readPart_62 (d + (e' + 4)) fz t Q))) := by
      intro x hv
      rcases hv with ⟨j', h1, h2, rfl⟩ | ⟨h1, rfl⟩
      · have ej : j' = j := kW_inj.mp (h1.symm.trans hj)
        subst ej
        refine q_t' (fun q => by have := congrArg Int32.toInt q; have h0 : (0 : Int32) ≤ nI (j' - lo) := nI_le (Nat.zero_le _) (by omega); rw [q] at h0; exact nI_m1 h0) ?_
        refine S_emitValue (d := d + e' + 2) ha hG (by omega) (by omega) fun I2 m1 m2 => kb_X3_readPart_69 (S_adv (d := d + e' + 1) hg hN hpN m2.1 fun I3 c1 c2 => kb_X3_readPart_73 (b_X3_readPart_118 (hq I3 _ (Dv_val hj h2.1 h2.2) ⟨rF_t m1 (rF_f (fF_a c2)), yG_a ha c2 m2.2 c1⟩)))
      · exact q_f' rfl (S_fail (d := d + e' + 3) hG.1 (by omega) fun I2 m1 m2 => kb_X3_readPart_62 (hq I2 _ (Dv_unk hj (h1 j hj)) ⟨rF_f m2, fB ha m2 hG.2 m1⟩))
    rcases hx with ⟨rfl, rfl, rfl⟩ | ⟨hx, rfl, rfl⟩
    · exact q_t rfl (S_valueOfHarm (d := d + e' + 2) hg hN hpN hG.1.1 fun x hv => kb_X3_readPart_49 ha (go x hv))
    · exact q_f hx (S_valueOfUp (d := d + e' + 2) hg hN hpN hG.1.1 fun x hv => kb_X3_readPart_42 ha (b_X3_readPart_49 ha (go x hv)))
  · -- a number
    have h25 : (tK g N p).1 = 2 ∨ (tK g N p).1 = 5 := by unfold kd at k2; split at k2 <;> omega
    refine S_readNumber (d := d + e') hg hN hpN hG.1 (by omega) (fun I2 v c1 c2 c3 c4 c5 => kb_X3_readPart_19 ha ?_) (fun I2 y c1 c2 c3 => kb_X3_readPart_19 ha ?_)
    · have hlt := nx_lt (g := g) (N := N) p (by rw [c1]; intro q; cases q)
      have hnN := nx_le (g := g) p hpN
      rw [nI_add]
      exact S_emit (d := d + e' + 3) ha (yG_a ha c5 hG.2 c4) (Or.inr (by omega)) (by omega) fun I3 m1 m2 => kb_X3_readPart_23 (b_X3_readPart_118 (hq I3 _ (Dv_num c1) ⟨rF_t (rF_f (fF_a c5)) m1, m2⟩))
    · refine S_emitB (d := d + e' + 3) ha (fB ha c3 hG.2 c2) fun I3 m1 m2 => kb_X3_readPart_23 (b_X3_readPart_118 (hq I3 (rbad y p) ?_ ⟨rF_t (rF_f c3) m1, m2⟩))
      rcases c1 with ⟨q1, q2, _⟩ | ⟨q1, rfl⟩ | ⟨v, q1, q2, rfl⟩
      · omega
      · exact Dv_big q1
      · exact absurd ⟨Nat.zero_le _, by have := tk_v p v q1; omega⟩ q2
/-! six parentheses deep -/
def BD (g : Nat → Nat) (N a : Nat) (x2 : Int32) (mth e : Nat) : Prop := ∀ (d L : Nat) (fz t : Bool) (Q : pm_R → pm_H → Prop) (I : Nat → Nat → Int32) (J : Nat → Nat → Int64) (p : Nat) (l : List Nat), p ≤ N → dk (tK g N p) = 1 → yG g N a p l I → (∀ I', af g N a l (rbad 1 p) I I' → Q (.inl none) (pm_hp L fz t I' J)) → pm_Ev (d + e) mth [.ref 1, .ref a, .int x2, .int (nI 6)] (pm_hp L fz t I J) Q
theorem dk_1 {k : Tk} (h : dk k = 1) : k.1 ≠ 1 ∧ k.1 ≠ 2 ∧ k.1 ≠ 5 ∧ k ≠ kS 40 := by
  unfold dk at h
  split at h
  · omega
  · rename_i q
    exact ⟨fun c => q (Or.inr (Or.inr (Or.inl c))), fun c => q (Or.inl c), fun c => q (Or.inr (Or.inl c)), fun c => q (Or.inr (Or.inr (Or.inr c)))⟩
theorem B_part (hg : ∀ i, g i < 256) (hN : N ≤ 700) (ha : fc a) : BD g N a x2 50 2 := by
  intro d L fz t Q I J p l hpN hk hG hq
  obtain ⟨n1, n2, n5, n40⟩ := dk_1 hk
  refine e_X3_readPart ha ?_
  have hkd := kd_lt (g := g) hpN
  rw [hG.1.1.2.2.2.1]
  have e1 : kd (tK g N p) = (tK g N p).1 := by unfold kd; rw [if_neg n5]
  refine q_t' (fun q => ?_) (q_t' (fun q => ?_) ?_)
  · rw [nI_eq (by omega) (by omega)] at q; omega
  · rw [nI_eq (by omega) (by omega)] at q; omega
  · refine S_isSign (d := d) hg hN hpN hG.1.1 (by omega) (kb_X3_readPart_82 ha ?_)
    rw [show decide (tK g N p = kS 40) = false from decide_eq_false n40]
    exact q_t rfl (S_fail (d := d) hG.1 (by omega) fun I2 m1 m2 => kb_X3_readPart_118 (hq I2 ⟨rF_f m2, fB ha m2 hG.2 m1⟩))
theorem B_product (ha : fc a) {e : Nat} (hs : BD g N a x2 50 e) : BD g N a x2 49 (e + 1) := by
  intro d L fz t Q I J p l hpN hk hG hq
  exact e_X3_readProduct ha (hs d L fz t _ I J p l hpN hk hG fun I1 hA => kb_X3_readProduct_7 ha (b_X3_readProduct_10 ha ⟨fun _ => hq I1 hA, fun _ => q_t' (bd_ne hA.2.1) (hq I1 hA)⟩))
theorem B_sum (ha : fc a) {e : Nat} (hs : BD g N a x2 49 e) : BD g N a x2 48 (e + 1) := by
  intro d L fz t Q I J p l hpN hk hG hq
  exact e_X3_readSum ha (hs d L fz t _ I J p l hpN hk hG fun I1 hA => kb_X3_readSum_7 ha (b_X3_readSum_10 ha ⟨fun _ => hq I1 hA, fun _ => q_t' (bd_ne hA.2.1) (hq I1 hA)⟩))
theorem B_test (ha : fc a) {e : Nat} (hs : BD g N a x2 48 e) : BD g N a x2 47 (e + 1) := by
  intro d L fz t Q I J p l hpN hk hG hq
  exact e_X3_readTest ha (hs d L fz t _ I J p l hpN hk hG fun I1 hA => kb_X3_readTest_7 ha (q_t' (bd_ne hA.2.1) (b_X3_readTest_65 (hq I1 hA))))
theorem B_not (hg : ∀ i, g i < 256) (hN : N ≤ 700) (ha : fc a) {e : Nat} (hs : BD g N a x2 47 (e + 1)) : BD g N a x2 46 (e + 2) := by
  intro d L fz t Q I J p l hpN hk hG hq
  have n : ¬ tK g N p = kW (wk 22) := fun q => (dk_1 hk).1 (by rw [q]; rfl)
  refine e_X3_readNot ha (b_X3_readNot_3 ha (q_f (by decide) (S_isWord (d := d + e) hg hN hpN hG.1.1 (j := 22) (by omega) (kb_X3_readNot_16 ha ?_))))
  rw [show decide (tK g N p = kW (wk 22)) = false from decide_eq_false n]
  refine q_t rfl (S_isWord (d := d + e) hg hN hpN hG.1.1 (j := 22) (by omega) (kb_X3_readNot_35 ha ?_))
  rw [show decide (tK g N p = kW (wk 22)) = false from decide_eq_false n]
  exact q_t rfl (hs d L fz t _ I J p l hpN hk hG fun I1 hA => kb_X3_readNot_51 ha (b_X3_readNot_54 ha (q_t (by decide) (hq I1 hA))))
theorem B_and (ha : fc a) {e : Nat} (hs : BD g N a x2 46 e) : BD g N a x2 45 (e + 1) := by
  intro d L fz t Q I J p l hpN hk hG hq
  exact e_X3_readAnd ha (hs d L fz t _ I J p l hpN hk hG fun I1 hA => kb_X3_readAnd_7 ha (b_X3_readAnd_10 ha ⟨fun _ => hq I1 hA, fun _ => q_t' (bd_ne hA.2.1) (hq I1 hA)⟩))
theorem dk_12 (k : Tk) : dk k = 1 ∨ dk k = 2 := by unfold dk; split; exact Or.inr rfl; exact Or.inl rfl
theorem R_deep (hg : ∀ i, g i < 256) (hN : N ≤ 700) (ha : fc a) : RD g N lo n0 a x2 44 6 6 8 := by
  have hand : BD g N a x2 45 7 := B_and ha (B_not hg hN ha (B_test ha (B_sum ha (B_product ha (B_part hg hN ha)))))
  intro d L fz t Q I J p l hpN hp1 hl hG hq
  have hkd := kd_lt (g := g) hpN
  refine e_X3_readExpr ha (q_f (by decide) ?_)
  rw [hG.1.1.2.2.2.1]
  have f2 : dk (tK g N p) = 2 → pm_Ev (d + 7) 27 [.ref 1, .int (nI 2)] (pm_hp L fz t I J) (K_X3_readExpr_36 (d + 7) fz t Q) := fun h => S_fail (d := d + 6) hG.1 (by omega) fun I2 m1 m2 => kb_X3_readExpr_36 (hq I2 (rbad 2 p) (by have := Dv_deep (K := tK g N) (nx := tnx g N) (lo := lo) (n0 := n0) (p := p); rw [h] at this; exact this) ⟨rF_f m2, fB ha m2 hG.2 m1⟩)
  refine q_eq (by omega) (by omega) (fun k2 => f2 ?_) (fun k2 => q_eq (by omega) (by omega) (fun k1 => f2 ?_) (fun k1 => ?_))
  · unfold dk; refine if_pos ?_; unfold kd at k2; split at k2 <;> omega
  · unfold dk; exact if_pos (Or.inr (Or.inr (Or.inl (kd_1 k1))))
  · refine S_isSign (d := d + 6) hg hN hpN hG.1.1 (by omega) (kb_X3_readExpr_28 ha (q_b0 (fun b => ?_) (fun b => f2 ?_)))
    · have h1 : dk (tK g N p) = 1 := by
        unfold dk
        refine if_neg ?_
        have n1 : (tK g N p).1 ≠ 1 := fun q => k1 (by unfold kd; rw [if_neg (by omega)]; exact q)
        have n2 : (tK g N p).1 ≠ 2 := fun q => k2 (by unfold kd; rw [if_neg (by omega)]; exact q)
        have n5 : (tK g N p).1 ≠ 5 := fun q => k2 (by unfold kd; rw [if_pos q])
        exact fun q => q.elim n2 (fun q => q.elim n5 (fun q => q.elim n1 (of_decide_eq_false b)))
      refine hand d L fz t _ I J p l hpN h1 hG fun I1 hA => kb_X3_readExpr_44 ha (b_X3_readExpr_47 ha ?_)
      have hQ := hq I1 (rbad 1 p) (by have := Dv_deep (K := tK g N) (nx := tnx g N) (lo := lo) (n0 := n0) (p := p); rw [h1] at this; exact this) hA
      exact ⟨fun _ => hQ, fun _ => q_t' (bd_ne hA.2.1) hQ⟩
    · unfold dk; exact if_pos (Or.inr (Or.inr (Or.inr (of_decide_eq_true b))))
theorem R_up1 (hg : ∀ i, g i < 256) (hN : N ≤ 700) (hn : n0 ≤ 16) (ha : fc a) (hx : (x2 = nI 0 ∧ lo = 6 ∧ n0 = 4) ∨ (¬ x2 = nI 0 ∧ lo = 0 ∧ n0 = 6)) (hw : w < 6) {e : Nat} (he : 4 ≤ e) (hs : RD g N lo n0 a x2 44 6 (w + 1) e) : RD g N lo n0 a x2 44 6 w (e + 7) :=
  R_expr hg hN hn ha hw (by omega) (R_and hg hN hn ha hw (by omega) (R_not hg hN hn ha (by omega) (R_test hg hN hn ha (by omega) (R_sum hg hN hn ha hw (by omega) (R_product hg hN hn ha hw (by omega) (R_part hg hN hn ha hw hx he hs))))))
theorem R_whole (hg : ∀ i, g i < 256) (hN : N ≤ 700) (hn : n0 ≤ 16) (ha : fc a) (hx : (x2 = nI 0 ∧ lo = 6 ∧ n0 = 4) ∨ (¬ x2 = nI 0 ∧ lo = 0 ∧ n0 = 6)) : RD g N lo n0 a x2 44 6 0 50 :=
  R_up1 hg hN hn ha hx (by omega) (by omega) (R_up1 hg hN hn ha hx (by omega) (by omega) (R_up1 hg hN hn ha hx (by omega) (by omega) (R_up1 hg hN hn ha hx (by omega) (by omega) (R_up1 hg hN hn ha hx (by omega) (by omega) (R_up1 hg hN hn ha hx (by omega) (by omega) (R_deep hg hN ha))))))
end Desc
