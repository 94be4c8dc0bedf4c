/-! the class reads formulas by descent; written by wip/whole/gen_desc.py -/
def RD (g : Nat → Nat) (N lo n0 a : Nat) (x2 : Int32) (mth m w e : Nat) : Prop := ∀ (d L : Nat) (fz t : Bool) (Q : pm_R → pm_H → Prop) (I : Nat → Nat → Int32) (J : Nat → Nat → Int64) (p : Nat) (l : List Nat), p ≤ N → 1 ≤ p → l.length ≤ p → yG g N a p l I → (∀ I' r, Dv (tK g N) (tnx g N) lo n0 m w none p r → af g N a l r I I' → Q (.inl none) (pm_hp L fz t I' J)) → pm_Ev (d + e) mth [.ref 1, .ref a, .int x2, .int (nI w)] (pm_hp L fz t I J) Q
section
variable {g : Nat → Nat} {N lo n0 a : Nat} {x2 : Int32} {w : Nat}
theorem nx_lt (p : Nat) (h : tK g N p ≠ kE) : p < tnx g N p := by
  by_cases hp : p ≤ N
  · exact Nat.lt_of_le_of_lt (tst_le (g := g) (N := N)) (tnx_lt hp h)
  · exact absurd (if_pos (Nat.le_trans (by omega) (tst_le (g := g) (N := N) (p := p)))) h
theorem nx_le (p : Nat) (h : p ≤ N) : tnx g N p ≤ N := tnx_N h
theorem tk_v (p v : Nat) (h : tK g N p = kN v) : v < 10000 := by
  by_cases hp : p ≤ N
  · exact tk_num hp h
  · have : tK g N p = kE := if_pos (Nat.le_trans (by omega) (tst_le (g := g) (N := N) (p := p)))
    rw [this] at h; cases h
theorem Dv_L (hn : n0 ≤ 16) {m p p' : Nat} {e : List Nat} (hp : p ≤ N) (h : Dv (tK g N) (tnx g N) lo n0 m w none p (rok e p')) : p' ≤ N ∧ e.length + p ≤ p' := by
  have := Dv_F hn nx_lt nx_le tk_v h e p' rfl hp
  exact ⟨this.1, by simpa using this.2.1⟩
end
section Desc
variable {g : Nat → Nat} {N lo n0 a : Nat} {x2 : Int32} {w : Nat}

theorem R_product (hg : ∀ i, g i < 256) (hN : N ≤ 700) (hn : n0 ≤ 16) (ha : fc a) (hw : w < 6) {e : Nat} (he : 3 ≤ e) (hs : RD g N lo n0 a x2 50 0 w e) : RD g N lo n0 a x2 49 1 w (e + 1) := by
  have hm : isCh 1 := Or.inl rfl
  intro d L fz t Q I J p l hpN hp1 hl hG hq
  have bx : ∀ i I1 y q, yB g N a y q I1 → Q (.inl none) (pm_hp L fz t I1 J) → t_X3_readProduct_10 (d + e) L fz t Q a x2 (nI w) (nI i) I1 J := fun i I1 y q hb hQ => b_X3_readProduct_10 ha ⟨fun _ => hQ, fun _ => q_t' (bd_ne hb.1) hQ⟩
  have H : ∀ f i p1 e1 I1, N - p1 = f → p1 ≤ N → i + 1 ≤ p1 → (l ++ e1).length ≤ p1 → rF a I I1 → yG g N a p1 (l ++ e1) I1 → (∀ r, Dv (tK g N) (tnx g N) lo n0 1 w (some e1) p1 r → Dv (tK g N) (tnx g N) lo n0 1 w none p r) → t_X3_readProduct_10 (d + e) L fz t Q a x2 (nI w) (nI i) I1 J := by
    intro f
    induction f using Nat.strongRecOn with
    | ind f ih =>
      intro i p1 e1 I1 hf hp1N hi hl1 hr hG1 hk
      have fin : opOf 1 (tK g N p1) = none → Q (.inl none) (pm_hp L fz t I1 J) := fun h0 => hq I1 (rok e1 p1) (hk _ (Dv_fin hm h0)) ⟨hr, hG1⟩
      have step : ∀ c (K' : pm_R → pm_H → Prop), opOf 1 (tK g N p1) = some c → (∀ I2, yG g N a (tnx g N p1) (l ++ e1) I2 → rF a I I2 → K' (.inl none) (pm_hp L fz t I2 J)) → pm_Ev (d + e) 28 [.ref 1] (pm_hp L fz t I1 J) K' := by
        intro c K' h0 hK
        obtain ⟨e', rfl⟩ : ∃ e', e = e' + 3 := ⟨e - 3, by omega⟩
        exact S_adv (d := d + e') hg hN hp1N hG1.1 fun I2 k1 k2 => hK I2 (yG_a ha k2 hG1.2 k1) (rF_t hr (rF_f (fF_a k2)))
      have sub : ∀ c I2 (K' : pm_R → pm_H → Prop), opOf 1 (tK g N p1) = some c → yG g N a (tnx g N p1) (l ++ e1) I2 → rF a I I2 → (∀ I3, pm_Ev (d + e) 7 [.ref a, .int (nI c)] (pm_hp L fz t I3 J) (K_X3_readProduct_78 (d + e) fz t Q a x2 (nI w) (nI i)) → K' (.inl none) (pm_hp L fz t I3 J)) → pm_Ev (d + e) 50 [.ref 1, .ref a, .int x2, .int (nI w)] (pm_hp L fz t I2 J) K' := by
        intro c I2 K' h0 hG2 hr2 hK
        have hc := op_18 hm h0
        have hlt := nx_lt p1 hc.2
        obtain ⟨e', he'⟩ : ∃ e', e = e' + 1 := ⟨e - 1, by omega⟩
        refine hs d L fz t _ I2 J (tnx g N p1) (l ++ e1) (nx_le p1 hp1N) (by omega) (by omega) hG2 fun I3 r hD hA => hK I3 ?_
        have hr3 := rF_t hr2 hA.1
        rcases r with ⟨e2, p2⟩ | ⟨y, q⟩
        · have hL := Dv_L hn (nx_le p1 hp1N) hD
          have hl3 : (l ++ e1 ++ e2).length < p2 := by rw [List.length_append]; omega
          have hem : ∀ I4, rF a I3 I4 → yG g N a p2 (l ++ e1 ++ e2 ++ [c]) I4 → K_X3_readProduct_78 (d + e) fz t Q a x2 (nI w) (nI i) (.inl none) (pm_hp L fz t I4 J) := by
            intro I4 k1 k2
            refine kb_X3_readProduct_78 ha ?_
            rw [nI_add]
            refine ih (N - p2) (by omega) (i + 1) p2 (e1 ++ e2 ++ [c]) I4 rfl hL.1 (by omega) (by simp at hl3 ⊢; omega) (rF_t hr3 k1) (by simpa only [List.append_assoc] using k2) (fun r h => hk r (Dv_op hm h0 hw hD h))
          rw [he']
          exact S_emit (d := d + e') ha hA.2 (Or.inl (by omega)) (by omega) (by rw [← he'.symm.symm]; subst he'; exact hem)
        · rw [he']
          refine S_emitB (d := d + e') ha hA.2 fun I4 k1 k2 => ?_
          subst he'
          exact kb_X3_readProduct_78 ha (by rw [nI_add]; exact bx _ _ y q k2 (hq I4 (rbad y q) (hk _ (Dv_opb hm h0 hw hD)) ⟨rF_t hr3 k1, k2⟩))
      refine b_X3_readProduct_10 ha (q_f (nI_ge (by omega) (by omega)) (q_f' hG1.1.2 ?_))
      obtain ⟨e', he'⟩ : ∃ e', e = e' + 1 := ⟨e - 1, by omega⟩
      have two : pm_Ev (d + e) 33 [.ref 1, .int (nI 42)] (pm_hp L fz t I1 J) (K_X3_readProduct_49 (d + e) fz t Q a x2 (nI w) (nI i)) ∨ opOf 1 (tK g N p1) = none := by
        by_cases h0 : opOf 1 (tK g N p1) = none
        · exact Or.inr h0
        · left
          subst he'
          refine S_isSign (d := d + e') hg hN hp1N hG1.1.1 (by omega) (kb_X3_readProduct_49 ha (q_b0 (fun b => ?_) (fun b => ?_)))
          · have hb := of_decide_eq_false b
            have h1 : opOf 1 (tK g N p1) = some 8 := by
              unfold opOf at h0 ⊢
              simp only [hb, if_false, if_true, show True from trivial] at h0 ⊢
              split at h0
              · rename_i q; rw [if_pos q]
              · exact absurd rfl h0
            exact step 8 _ h1 fun I2 g1 g2 => kb_X3_readProduct_65 ha (sub 8 I2 _ h1 g1 g2 fun I3 h3 => kb_X3_readProduct_72 ha h3)
          · have hb := of_decide_eq_true b
            have h1 : opOf 1 (tK g N p1) = some 7 := by
              rw [hb]; rfl
            exact step 7 _ h1 fun I2 g1 g2 => kb_X3_readProduct_65 ha (sub 7 I2 _ h1 g1 g2 fun I3 h3 => kb_X3_readProduct_72 ha h3)
      have go : pm_Ev (d + e) 33 [.ref 1, .int (nI 42)] (pm_hp L fz t I1 J) (K_X3_readProduct_31 (d + e) fz t Q a x2 (nI w) (nI i)) := by
        have two' := two
        subst he'
        refine S_isSign (d := d + e') hg hN hp1N hG1.1.1 (by omega) (kb_X3_readProduct_31 ha (q_b0' (fun b => ?_) (fun b => ?_)))
        · rcases two' with h | h
          · exact h
          · rw [of_decide_eq_true b] at h; cases h
        · refine S_isSign (d := d + e') hg hN hp1N hG1.1.1 (by omega) (kb_X3_readProduct_40 ha (q_b0 (fun b2 => ?_) (fun b2 => ?_)))
          · refine fin ?_
            have hb := of_decide_eq_false b
            have hb2 := of_decide_eq_false b2
            unfold opOf
            simp [hb, hb2]
          · rcases two' with h | h
            · exact h
            · rw [of_decide_eq_true b2] at h; cases h
      exact go
  have En : ∀ I1 r1, Dv (tK g N) (tnx g N) lo n0 0 w none p r1 → af g N a l r1 I I1 → t_X3_readProduct_10 (d + e) L fz t Q a x2 (nI w) (nI 0) I1 J := by
    intro I1 r1 hD hA
    rcases r1 with ⟨e1, p1⟩ | ⟨y, q⟩
    · have hL := Dv_L hn hpN hD
      exact H _ 0 p1 e1 I1 rfl hL.1 (by omega) (by rw [List.length_append]; omega) hA.1 hA.2 (fun r h => Dv_st hm hw hD h)
    · exact bx 0 I1 y q hA.2 (hq I1 (rbad y q) (Dv_stb hm hw hD) hA)
  exact e_X3_readProduct ha (hs d L fz t _ I J p l hpN hp1 hl hG fun I1 r1 hD hA => kb_X3_readProduct_7 ha (En I1 r1 hD hA))
theorem R_sum (hg : ∀ i, g i < 256) (hN : N ≤ 700) (hn : n0 ≤ 16) (ha : fc a) (hw : w < 6) {e : Nat} (he : 3 ≤ e) (hs : RD g N lo n0 a x2 49 1 w e) : RD g N lo n0 a x2 48 2 w (e + 1) := by
  have hm : isCh 2 := Or.inr (Or.inl rfl)
  intro d L fz t Q I J p l hpN hp1 hl hG hq
  have bx : ∀ i I1 y q, yB g N a y q I1 → Q (.inl none) (pm_hp L fz t I1 J) → t_X3_readSum_10 (d + e) L fz t Q a x2 (nI w) (nI i) I1 J := fun i I1 y q hb hQ => b_X3_readSum_10 ha ⟨fun _ => hQ, fun _ => q_t' (bd_ne hb.1) hQ⟩
  have H : ∀ f i p1 e1 I1, N - p1 = f → p1 ≤ N → i + 1 ≤ p1 → (l ++ e1).length ≤ p1 → rF a I I1 → yG g N a p1 (l ++ e1) I1 → (∀ r, Dv (tK g N) (tnx g N) lo n0 2 w (some e1) p1 r → Dv (tK g N) (tnx g N) lo n0 2 w none p r) → t_X3_readSum_10 (d + e) L fz t Q a x2 (nI w) (nI i) I1 J := by
    intro f
    induction f using Nat.strongRecOn with
    | ind f ih =>
      intro i p1 e1 I1 hf hp1N hi hl1 hr hG1 hk
      have fin : opOf 2 (tK g N p1) = none → Q (.inl none) (pm_hp L fz t I1 J) := fun h0 => hq I1 (rok e1 p1) (hk _ (Dv_fin hm h0)) ⟨hr, hG1⟩
      have step : ∀ c (K' : pm_R → pm_H → Prop), opOf 2 (tK g N p1) = some c → (∀ I2, yG g N a (tnx g N p1) (l ++ e1) I2 → rF a I I2 → K' (.inl none) (pm_hp L fz t I2 J)) → pm_Ev (d + e) 28 [.ref 1] (pm_hp L fz t I1 J) K' := by
        intro c K' h0 hK
        obtain ⟨e', rfl⟩ : ∃ e', e = e' + 3 := ⟨e - 3, by omega⟩
        exact S_adv (d := d + e') hg hN hp1N hG1.1 fun I2 k1 k2 => hK I2 (yG_a ha k2 hG1.2 k1) (rF_t hr (rF_f (fF_a k2)))
      have sub : ∀ c I2 (K' : pm_R → pm_H → Prop), opOf 2 (tK g N p1) = some c → yG g N a (tnx g N p1) (l ++ e1) I2 → rF a I I2 → (∀ I3, pm_Ev (d + e) 7 [.ref a, .int (nI c)] (pm_hp L fz t I3 J) (K_X3_readSum_77 (d + e) fz t Q a x2 (nI w) (nI i)) → K' (.inl none) (pm_hp L fz t I3 J)) → pm_Ev (d + e) 49 [.ref 1, .ref a, .int x2, .int (nI w)] (pm_hp L fz t I2 J) K' := by
        intro c I2 K' h0 hG2 hr2 hK
        have hc := op_18 hm h0
        have hlt := nx_lt p1 hc.2
        obtain ⟨e', he'⟩ : ∃ e', e = e' + 1 := ⟨e - 1, by omega⟩
        refine hs d L fz t _ I2 J (tnx g N p1) (l ++ e1) (nx_le p1 hp1N) (by omega) (by omega) hG2 fun I3 r hD hA => hK I3 ?_
        have hr3 := rF_t hr2 hA.1
        rcases r with ⟨e2, p2⟩ | ⟨y, q⟩
        · have hL := Dv_L hn (nx_le p1 hp1N) hD
          have hl3 : (l ++ e1 ++ e2).length < p2 := by rw [List.length_append]; omega
          have hem : ∀ I4, rF a I3 I4 → yG g N a p2 (l ++ e1 ++ e2 ++ [c]) I4 → K_X3_readSum_77 (d + e) fz t Q a x2 (nI w) (nI i) (.inl none) (pm_hp L fz t I4 J) := by
            intro I4 k1 k2
            refine kb_X3_readSum_77 ha ?_
            rw [nI_add]
            refine ih (N - p2) (by omega) (i + 1) p2 (e1 ++ e2 ++ [c]) I4 rfl hL.1 (by omega) (by simp at hl3 ⊢; omega) (rF_t hr3 k1) (by simpa only [List.append_assoc] using k2) (fun r h => hk r (Dv_op hm h0 hw hD h))
          rw [he']
          exact S_emit (d := d + e') ha hA.2 (Or.inl (by omega)) (by omega) (by rw [← he'.symm.symm]; subst he'; exact hem)
        · rw [he']
          refine S_emitB (d := d + e') ha hA.2 fun I4 k1 k2 => ?_
          subst he'
          exact kb_X3_readSum_77 ha (by rw [nI_add]; exact bx _ _ y q k2 (hq I4 (rbad y q) (hk _ (Dv_opb hm h0 hw hD)) ⟨rF_t hr3 k1, k2⟩))
      refine b_X3_readSum_10 ha (q_f (nI_ge (by omega) (by omega)) (q_f' hG1.1.2 ?_))
      obtain ⟨e', he'⟩ : ∃ e', e = e' + 1 := ⟨e - 1, by omega⟩
      have two : pm_Ev (d + e) 33 [.ref 1, .int (nI 43)] (pm_hp L fz t I1 J) (K_X3_readSum_49 (d + e) fz t Q a x2 (nI w) (nI i)) ∨ opOf 2 (tK g N p1) = none := by
        by_cases h0 : opOf 2 (tK g N p1) = none
        · exact Or.inr h0
        · left
          subst he'
          refine S_isSign (d := d + e') hg hN hp1N hG1.1.1 (by omega) (kb_X3_readSum_49 ha (q_b0 (fun b => ?_) (fun b => ?_)))
          · have hb := of_decide_eq_false b
            have h1 : opOf 2 (tK g N p1) = some 6 := by
              unfold opOf at h0 ⊢
              simp only [hb, if_false, if_true, show ¬ (2 = 1) from by decide] at h0 ⊢
              split at h0
              · rename_i q; rw [if_pos q]
              · exact absurd rfl h0
            exact step 6 _ h1 fun I2 g1 g2 => kb_X3_readSum_64 ha (sub 6 I2 _ h1 g1 g2 fun I3 h3 => kb_X3_readSum_71 ha h3)
          · have hb := of_decide_eq_true b
            have h1 : opOf 2 (tK g N p1) = some 5 := by
              rw [hb]; rfl
            exact step 5 _ h1 fun I2 g1 g2 => kb_X3_readSum_64 ha (sub 5 I2 _ h1 g1 g2 fun I3 h3 => kb_X3_readSum_71 ha h3)
      have go : pm_Ev (d + e) 33 [.ref 1, .int (nI 43)] (pm_hp L fz t I1 J) (K_X3_readSum_31 (d + e) fz t Q a x2 (nI w) (nI i)) := by
        have two' := two
        subst he'
        refine S_isSign (d := d + e') hg hN hp1N hG1.1.1 (by omega) (kb_X3_readSum_31 ha (q_b0' (fun b => ?_) (fun b => ?_)))
        · rcases two' with h | h
          · exact h
          · rw [of_decide_eq_true b] at h; cases h
        · refine S_isSign (d := d + e') hg hN hp1N hG1.1.1 (by omega) (kb_X3_readSum_40 ha (q_b0 (fun b2 => ?_) (fun b2 => ?_)))
          · refine fin ?_
            have hb := of_decide_eq_false b
            have hb2 := of_decide_eq_false b2
            unfold opOf
            simp [hb, hb2]
          · rcases two' with h | h
            · exact h
            · rw [of_decide_eq_true b2] at h; cases h
      exact go
  have En : ∀ I1 r1, Dv (tK g N) (tnx g N) lo n0 1 w none p r1 → af g N a l r1 I I1 → t_X3_readSum_10 (d + e) L fz t Q a x2 (nI w) (nI 0) I1 J := by
    intro I1 r1 hD hA
    rcases r1 with ⟨e1, p1⟩ | ⟨y, q⟩
    · have hL := Dv_L hn hpN hD
      exact H _ 0 p1 e1 I1 rfl hL.1 (by omega) (by rw [List.length_append]; omega) hA.1 hA.2 (fun r h => Dv_st hm hw hD h)
    · exact bx 0 I1 y q hA.2 (hq I1 (rbad y q) (Dv_stb hm hw hD) hA)
  exact e_X3_readSum ha (hs d L fz t _ I J p l hpN hp1 hl hG fun I1 r1 hD hA => kb_X3_readSum_7 ha (En I1 r1 hD hA))
theorem R_and (hg : ∀ i, g i < 256) (hN : N ≤ 700) (hn : n0 ≤ 16) (ha : fc a) (hw : w < 6) {e : Nat} (he : 3 ≤ e) (hs : RD g N lo n0 a x2 46 4 w e) : RD g N lo n0 a x2 45 5 w (e + 1) := by
  have hm : isCh 5 := Or.inr (Or.inr (Or.inl rfl))
  intro d L fz t Q I J p l hpN hp1 hl hG hq
  have bx : ∀ i I1 y q, yB g N a y q I1 → Q (.inl none) (pm_hp L fz t I1 J) → t_X3_readAnd_10 (d + e) L fz t Q a x2 (nI w) (nI i) I1 J := fun i I1 y q hb hQ => b_X3_readAnd_10 ha ⟨fun _ => hQ, fun _ => q_t' (bd_ne hb.1) hQ⟩
  have H : ∀ f i p1 e1 I1, N - p1 = f → p1 ≤ N → i + 1 ≤ p1 → (l ++ e1).length ≤ p1 → rF a I I1 → yG g N a p1 (l ++ e1) I1 → (∀ r, Dv (tK g N) (tnx g N) lo n0 5 w (some e1) p1 r → Dv (tK g N) (tnx g N) lo n0 5 w none p r) → t_X3_readAnd_10 (d + e) L fz t Q a x2 (nI w) (nI i) I1 J := by
    intro f
    induction f using Nat.strongRecOn with
    | ind f ih =>
      intro i p1 e1 I1 hf hp1N hi hl1 hr hG1 hk
      have fin : opOf 5 (tK g N p1) = none → Q (.inl none) (pm_hp L fz t I1 J) := fun h0 => hq I1 (rok e1 p1) (hk _ (Dv_fin hm h0)) ⟨hr, hG1⟩
      have step : ∀ c (K' : pm_R → pm_H → Prop), opOf 5 (tK g N p1) = some c → (∀ I2, yG g N a (tnx g N p1) (l ++ e1) I2 → rF a I I2 → K' (.inl none) (pm_hp L fz t I2 J)) → pm_Ev (d + e) 28 [.ref 1] (pm_hp L fz t I1 J) K' := by
        intro c K' h0 hK
        obtain ⟨e', rfl⟩ : ∃ e', e = e' + 3 := ⟨e - 3, by omega⟩
        exact S_adv (d := d + e') hg hN hp1N hG1.1 fun I2 k1 k2 => hK I2 (yG_a ha k2 hG1.2 k1) (rF_t hr (rF_f (fF_a k2)))
      have sub : ∀ c I2 (K' : pm_R → pm_H → Prop), opOf 5 (tK g N p1) = some c → yG g N a (tnx g N p1) (l ++ e1) I2 → rF a I I2 → (∀ I3, pm_Ev (d + e) 7 [.ref a, .int (nI c)] (pm_hp L fz t I3 J) (K_X3_readAnd_50 (d + e) fz t Q a x2 (nI w) (nI i)) → K' (.inl none) (pm_hp L fz t I3 J)) → pm_Ev (d + e) 46 [.ref 1, .ref a, .int x2, .int (nI w)] (pm_hp L fz t I2 J) K' := by
        intro c I2 K' h0 hG2 hr2 hK
        have hc := op_18 hm h0
        have hlt := nx_lt p1 hc.2
        obtain ⟨e', he'⟩ : ∃ e', e = e' + 1 := ⟨e - 1, by omega⟩
        refine hs d L fz t _ I2 J (tnx g N p1) (l ++ e1) (nx_le p1 hp1N) (by omega) (by omega) hG2 fun I3 r hD hA => hK I3 ?_
        have hr3 := rF_t hr2 hA.1
        rcases r with ⟨e2, p2⟩ | ⟨y, q⟩
        · have hL := Dv_L hn (nx_le p1 hp1N) hD
          have hl3 : (l ++ e1 ++ e2).length < p2 := by rw [List.length_append]; omega
          have hem : ∀ I4, rF a I3 I4 → yG g N a p2 (l ++ e1 ++ e2 ++ [c]) I4 → K_X3_readAnd_50 (d + e) fz t Q a x2 (nI w) (nI i) (.inl none) (pm_hp L fz t I4 J) := by
            intro I4 k1 k2
            refine kb_X3_readAnd_50 ha ?_
            rw [nI_add]
            refine ih (N - p2) (by omega) (i + 1) p2 (e1 ++ e2 ++ [c]) I4 rfl hL.1 (by omega) (by simp at hl3 ⊢; omega) (rF_t hr3 k1) (by simpa only [List.append_assoc] using k2) (fun r h => hk r (Dv_op hm h0 hw hD h))
          rw [he']
          exact S_emit (d := d + e') ha hA.2 (Or.inl (by omega)) (by omega) (by rw [← he'.symm.symm]; subst he'; exact hem)
        · rw [he']
          refine S_emitB (d := d + e') ha hA.2 fun I4 k1 k2 => ?_
          subst he'
          exact kb_X3_readAnd_50 ha (by rw [nI_add]; exact bx _ _ y q k2 (hq I4 (rbad y q) (hk _ (Dv_opb hm h0 hw hD)) ⟨rF_t hr3 k1, k2⟩))
      refine b_X3_readAnd_10 ha (q_f (nI_ge (by omega) (by omega)) (q_f' hG1.1.2 ?_))
      obtain ⟨e', he'⟩ : ∃ e', e = e' + 1 := ⟨e - 1, by omega⟩
      subst he'
      refine S_isWord (d := d + e') hg hN hp1N hG1.1.1 (j := 21) (by omega) (kb_X3_readAnd_31 ha (q_b0 (fun b => ?_) (fun b => ?_)))
      · refine fin ?_
        have hb : ¬ tK g N p1 = kW 16 := of_decide_eq_false b
        unfold opOf
        simp [hb]
      · have hb : tK g N p1 = kW 16 := of_decide_eq_true b
        have h1 : opOf 5 (tK g N p1) = some 2 := by rw [hb]; rfl
        exact step 2 _ h1 fun I2 g1 g2 => kb_X3_readAnd_38 ha (sub 2 I2 _ h1 g1 g2 fun I3 h3 => kb_X3_readAnd_45 ha h3)
  have En : ∀ I1 r1, Dv (tK g N) (tnx g N) lo n0 4 w none p r1 → af g N a l r1 I I1 → t_X3_readAnd_10 (d + e) L fz t Q a x2 (nI w) (nI 0) I1 J := by
    intro I1 r1 hD hA
    rcases r1 with ⟨e1, p1⟩ | ⟨y, q⟩
    · have hL := Dv_L hn hpN hD
      exact H _ 0 p1 e1 I1 rfl hL.1 (by omega) (by rw [List.length_append]; omega) hA.1 hA.2 (fun r h => Dv_st hm hw hD h)
    · exact bx 0 I1 y q hA.2 (hq I1 (rbad y q) (Dv_stb hm hw hD) hA)
  exact e_X3_readAnd ha (hs d L fz t _ I J p l hpN hp1 hl hG fun I1 r1 hD hA => kb_X3_readAnd_7 ha (En I1 r1 hD hA))
theorem R_expr (hg : ∀ i, g i < 256) (hN : N ≤ 700) (hn : n0 ≤ 16) (ha : fc a) (hw : w < 6) {e : Nat} (he : 3 ≤ e) (hs : RD g N lo n0 a x2 45 5 w e) : RD g N lo n0 a x2 44 6 w (e + 1) := by
  have hm : isCh 6 := Or.inr (Or.inr (Or.inr rfl))
  intro d L fz t Q I J p l hpN hp1 hl hG hq
  have bx : ∀ i I1 y q, yB g N a y q I1 → Q (.inl none) (pm_hp L fz t I1 J) → t_X3_readExpr_47 (d + e) L fz t Q a x2 (nI w) (nI i) I1 J := fun i I1 y q hb hQ => b_X3_readExpr_47 ha ⟨fun _ => hQ, fun _ => q_t' (bd_ne hb.1) hQ⟩
  have H : ∀ f i p1 e1 I1, N - p1 = f → p1 ≤ N → i + 1 ≤ p1 → (l ++ e1).length ≤ p1 → rF a I I1 → yG g N a p1 (l ++ e1) I1 → (∀ r, Dv (tK g N) (tnx g N) lo n0 6 w (some e1) p1 r → Dv (tK g N) (tnx g N) lo n0 6 w none p r) → t_X3_readExpr_47 (d + e) L fz t Q a x2 (nI w) (nI i) I1 J := by
    intro f
    induction f using Nat.strongRecOn with
    | ind f ih =>
      intro i p1 e1 I1 hf hp1N hi hl1 hr hG1 hk
      have fin : opOf 6 (tK g N p1) = none → Q (.inl none) (pm_hp L fz t I1 J) := fun h0 => hq I1 (rok e1 p1) (hk _ (Dv_fin hm h0)) ⟨hr, hG1⟩
      have step : ∀ c (K' : pm_R → pm_H → Prop), opOf 6 (tK g N p1) = some c → (∀ I2, yG g N a (tnx g N p1) (l ++ e1) I2 → rF a I I2 → K' (.inl none) (pm_hp L fz t I2 J)) → pm_Ev (d + e) 28 [.ref 1] (pm_hp L fz t I1 J) K' := by
        intro c K' h0 hK
        obtain ⟨e', rfl⟩ : ∃ e', e = e' + 3 := ⟨e - 3, by omega⟩
        exact S_adv (d := d + e') hg hN hp1N hG1.1 fun I2 k1 k2 => hK I2 (yG_a ha k2 hG1.2 k1) (rF_t hr (rF_f (fF_a k2)))
      have sub : ∀ c I2 (K' : pm_R → pm_H → Prop), opOf 6 (tK g N p1) = some c → yG g N a (tnx g N p1) (l ++ e1) I2 → rF a I I2 → (∀ I3, pm_Ev (d + e) 7 [.ref a, .int (nI c)] (pm_hp L fz t I3 J) (K_X3_readExpr_87 (d + e) fz t Q a x2 (nI w) (nI i)) → K' (.inl none) (pm_hp L fz t I3 J)) → pm_Ev (d + e) 45 [.ref 1, .ref a, .int x2, .int (nI w)] (pm_hp L fz t I2 J) K' := by
        intro c I2 K' h0 hG2 hr2 hK
        have hc := op_18 hm h0
        have hlt := nx_lt p1 hc.2
        obtain ⟨e', he'⟩ : ∃ e', e = e' + 1 := ⟨e - 1, by omega⟩
        refine hs d L fz t _ I2 J (tnx g N p1) (l ++ e1) (nx_le p1 hp1N) (by omega) (by omega) hG2 fun I3 r hD hA => hK I3 ?_
        have hr3 := rF_t hr2 hA.1
        rcases r with ⟨e2, p2⟩ | ⟨y, q⟩
        · have hL := Dv_L hn (nx_le p1 hp1N) hD
          have hl3 : (l ++ e1 ++ e2).length < p2 := by rw [List.length_append]; omega
          have hem : ∀ I4, rF a I3 I4 → yG g N a p2 (l ++ e1 ++ e2 ++ [c]) I4 → K_X3_readExpr_87 (d + e) fz t Q a x2 (nI w) (nI i) (.inl none) (pm_hp L fz t I4 J) := by
            intro I4 k1 k2
            refine kb_X3_readExpr_87 ha ?_
            rw [nI_add]
            refine ih (N - p2) (by omega) (i + 1) p2 (e1 ++ e2 ++ [c]) I4 rfl hL.1 (by omega) (by simp at hl3 ⊢; omega) (rF_t hr3 k1) (by simpa only [List.append_assoc] using k2) (fun r h => hk r (Dv_op hm h0 hw hD h))
          rw [he']
          exact S_emit (d := d + e') ha hA.2 (Or.inl (by omega)) (by omega) (by rw [← he'.symm.symm]; subst he'; exact hem)
        · rw [he']
          refine S_emitB (d := d + e') ha hA.2 fun I4 k1 k2 => ?_
          subst he'
          exact kb_X3_readExpr_87 ha (by rw [nI_add]; exact bx _ _ y q k2 (hq I4 (rbad y q) (hk _ (Dv_opb hm h0 hw hD)) ⟨rF_t hr3 k1, k2⟩))
      refine b_X3_readExpr_47 ha (q_f (nI_ge (by omega) (by omega)) (q_f' hG1.1.2 ?_))
      obtain ⟨e', he'⟩ : ∃ e', e = e' + 1 := ⟨e - 1, by omega⟩
      subst he'
      refine S_isWord (d := d + e') hg hN hp1N hG1.1.1 (j := 20) (by omega) (kb_X3_readExpr_68 ha (q_b0 (fun b => ?_) (fun b => ?_)))
      · refine fin ?_
        have hb : ¬ tK g N p1 = kW 17 := of_decide_eq_false b
        unfold opOf
        simp [hb]
      · have hb : tK g N p1 = kW 17 := of_decide_eq_true b
        have h1 : opOf 6 (tK g N p1) = some 1 := by rw [hb]; rfl
        exact step 1 _ h1 fun I2 g1 g2 => kb_X3_readExpr_75 ha (sub 1 I2 _ h1 g1 g2 fun I3 h3 => kb_X3_readExpr_82 ha h3)
  have En : ∀ I1 r1, Dv (tK g N) (tnx g N) lo n0 5 w none p r1 → af g N a l r1 I I1 → t_X3_readExpr_47 (d + e) L fz t Q a x2 (nI w) (nI 0) I1 J := by
    intro I1 r1 hD hA
    rcases r1 with ⟨e1, p1⟩ | ⟨y, q⟩
    · have hL := Dv_L hn hpN hD
      exact H _ 0 p1 e1 I1 rfl hL.1 (by omega) (by rw [List.length_append]; omega) hA.1 hA.2 (fun r h => Dv_st hm hw hD h)
    · exact bx 0 I1 y q hA.2 (hq I1 (rbad y q) (Dv_stb hm hw hD) hA)
  exact e_X3_readExpr ha (q_t (nI_lt hw (by omega)) (hs d L fz t _ I J p l hpN hp1 hl hG fun I1 r1 hD hA => kb_X3_readExpr_44 ha (En I1 r1 hD hA)))
end Desc
