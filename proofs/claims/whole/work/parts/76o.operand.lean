/-! the reference's operands -/
section Spec
variable {d L : Nat} {fz t : Bool} {Q Qo : pm_R → pm_H → Prop} {I : Nat → Nat → Int32} {J : Nat → Nat → Int64} {g : Nat → Nat} {N p lo n0 b : Nat} {W C : List Nat} {D : List Bool}
/-- one act more waits -/
theorem S_waitsI {x : Nat} (h : yW lo n0 b W C D I) (hb : W.length < 950) (hq : ∀ I', yW lo n0 b (x :: W) C D I' → wF I I' → (∀ k, k ≠ 35 → I' 85 k = I 85 k) → I' 92 = I 92 → Q (.inl none) (pm_hp L fz t I' J)) : pm_Ev (d + 1) 143 [.ref 85, .int (nI x)] (pm_hp L fz t I J) Q := by
  obtain ⟨h1, ⟨h32, h100⟩, ⟨h35, h101⟩, h4⟩ := h
  refine S_waits h35 hb (hq _ ⟨?_, ⟨?_, ?_⟩, ⟨?_, ?_⟩, ?_⟩ (wF_u (wF_c wF_r (by omega)) (by omega)) (fun k hk => by rw [pm_uk hk, pm_ua (by omega)]) (by rw [pm_ua (by omega), pm_ua (by omega)]))
  · rw [pm_uk (by omega), pm_ua (by omega), pm_uk (by omega), pm_ua (by omega)]; exact h1
  · rw [pm_uk (by omega), pm_ua (by omega)]; exact h32
  · rw [pm_ua (by omega), pm_ua (by omega)]; exact h100
  · rw [pm_us]; rfl
  · rw [pm_ua (by omega), List.reverse_cons]
    refine mC_snoc.mpr ⟨mC_u h101 (by rw [List.length_reverse]; omega), ?_⟩
    rw [List.length_reverse, Nat.zero_add]; exact pm_us
  · rw [pm_uk (by omega), pm_ua (by omega), pm_ua (by omega), pm_ua (by omega)]; exact h4
theorem mG_c {I I' : Nat → Nat → Int32} {J : Nat → Nat → Int64} {x : Nat} (hx : x = 32 ∨ x = 35 ∨ x = 36) (h : mG g N p I J) (h85 : ∀ k, k ≠ x → I' 85 k = I 85 k) (h92 : I' 92 = I 92) : mG g N p I' J := ⟨mTk_c h.1 (fun k hk => h85 k (by omega)) h92, by rw [h85 15 (by omega)]; exact h.2⟩
/-- an act waits, and on -/
theorem T_wait (hg : ∀ i, g i < 256) (hN : N ≤ 700) {x : Nat} (hx : x < 100) (h : yI g N lo n0 b p W C D I J) (hk : tK g N p ≠ kE) {K1 K2 : pm_R → pm_H → Prop} (h1 : ∀ I1, pm_Ev (d + 2) 129 [.ref 85] (pm_hp L fz t I1 J) K2 → K1 (.inl none) (pm_hp L fz t I1 J)) (h2 : ∀ I' J', yI g N lo n0 b (tnx g N p) (x :: W) C D I' J' → wF I I' → gJ J J' → K2 (.inl none) (pm_hp L fz t I' J')) : pm_Ev (d + 2) 143 [.ref 85, .int (nI x)] (pm_hp L fz t I J) K1 := by
  obtain ⟨hG, hW, hb, hw, hp, hD6, hz⟩ := h
  have hlt := nx_lt (g := g) (N := N) p hk
  have hnN := nx_le (g := g) p hp
  refine S_waitsI (d := d + 1) hW (by omega) fun I1 a1 a2 a3 a4 => h1 I1 ?_
  refine S_goesI (d := d) hg hN hp (mG_c (by omega) hG a3 a4) fun I2 J2 c1 c2 c3 => h2 I2 J2 ⟨c1, yW_g c2 a1, by simp; omega, by simp; omega, hnN, hD6, fun z hz' => ?_⟩ (wF_t a2 (wF_g c2)) c3
  rcases List.mem_cons.mp hz' with q | q
  · omega
  · exact hz z q
theorem kv_18 {k : Tk} {x : Int32} (h : kv k x) (hk : k = kW 18) : x = nI 18 := by
  rcases h with ⟨j, hj, e, rfl⟩ | ⟨hno, rfl⟩
  · rw [hk, kW_inj] at e; rw [← e]
  · exact absurd hk (hno 18 (by omega))
theorem kv_n18 {k : Tk} {x : Int32} (h : kv k x) {j : Nat} (hj : j < 19) (hk : k ≠ kW j) : ¬ x = nI j := by
  rcases h with ⟨i, hi, e, rfl⟩ | ⟨hno, rfl⟩
  · intro q
    rw [nI_eq (by omega) (by omega)] at q
    exact hk (by rw [e, q])
  · intro q
    have h0 : (0 : Int32) ≤ nI j := nI_le (Nat.zero_le _) (by omega)
    rw [← q] at h0
    exact nI_m1 h0
/-- 'not' stands and may stand -/
theorem O_not (hg : ∀ i, g i < 256) (hN : N ≤ 700) {k : Nat} (hk6 : k < 6) (h : yI g N lo n0 b p W C D I J) (hk : tK g N p = kW 18) (hq : ∀ I' J', yI g N lo n0 b (tnx g N p) (3 :: W) C D I' J' → wF I I' → gJ J J' → t_X11_operand_18 (d + 4) L fz t Qo (bz true) (nI (k + 1)) I' J') : t_X11_operand_18 (d + 4) L fz t Qo (bz true) (nI k) I J := by
  refine b_X11_operand_18 (S_good (d := d + 3) h.1.2 (kb_X11_operand_22 (q_f nI_01 (q_f nI_01 (S_known (d := d + 1) h.2.2.2.2.1 hN h.1.1 fun x hx => kb_X11_operand_33 ?_)))))
  rw [kv_18 hx hk]
  refine q_f' rfl (q_t' (fun q => by rw [nI_eq (by omega) (by omega)] at q; omega) (b_X11_operand_50 (S_good (d := d + 3) h.1.2 (kb_X11_operand_57 (q_t' nI_01 ?_)))))
  rw [nI_add]
  exact T_wait (d := d + 2) hg hN (by omega) h (by rw [hk]; intro q; cases q) (fun I1 h1 => kb_X11_operand_68 h1) (fun I' J' a1 a2 a3 => kb_X11_operand_72 (hq I' J' a1 a2 a3))
/-- a fault stands: out of the operand -/
theorem O_out {y q : Nat} {x2 x4 : Int32} (h : mBd g N y q I) (hq : Qo (.inl none) (pm_hp L fz t I J)) : t_X11_operand_18 (d + 4) L fz t Qo x2 x4 I J :=
  b_X11_operand_18 (S_goodB (d := d + 3) h (kb_X11_operand_22 (q_t rfl (S_goodB (d := d + 3) h (kb_X11_operand_79 (q_t rfl (b_X11_operand_4 (q_t rfl (S_partX (d := d + 2) h (kb_X11_operand_124 hq))))))))))
theorem yX_w {y : Nat} (hy : 0 < y ∧ y < 8) (h : yI g N lo n0 b p W C D I J) (hN : N ≤ 700) (m1 : mBd g N y p (pm_u (pm_u I 85 15 (nI y)) 85 16 (I 85 21))) : yX g N lo n0 b y p W C D (pm_u (pm_u I 85 15 (nI y)) 85 16 (I 85 21)) := by
  obtain ⟨hG, hW, hb, hw, hp, hD6, hz⟩ := h
  refine ⟨m1, ?_, by omega, by omega, hz⟩
  unfold yW at *
  have u85 : ∀ k, k ≠ 15 → k ≠ 16 → pm_u (pm_u I 85 15 (nI y)) 85 16 (I 85 21) 85 k = I 85 k := fun k q1 q2 => by rw [pm_uk q2, pm_uk q1]
  have uo : ∀ a, a ≠ 85 → pm_u (pm_u I 85 15 (nI y)) 85 16 (I 85 21) a = I a := fun a q => by rw [pm_ua q, pm_ua q]
  rw [u85 33 (by omega) (by omega), u85 34 (by omega) (by omega), u85 32 (by omega) (by omega), u85 35 (by omega) (by omega), u85 36 (by omega) (by omega), uo 100 (by omega), uo 101 (by omega), uo 102 (by omega)]
  exact hW
/-- the seventh 'not' -/
theorem O_max (hN : N ≤ 700) (h : yI g N lo n0 b p W C D I J) (hk : tK g N p = kW 18) (hq : ∀ I', yX g N lo n0 b 2 p W C D I' → wF I I' → Qo (.inl none) (pm_hp L fz t I' J)) : t_X11_operand_18 (d + 4) L fz t Qo (bz true) (nI 6) I J := by
  refine b_X11_operand_18 (S_good (d := d + 3) h.1.2 (kb_X11_operand_22 (q_f nI_01 (q_f nI_01 (S_known (d := d + 1) h.2.2.2.2.1 hN h.1.1 fun x hx => kb_X11_operand_33 ?_)))))
  rw [kv_18 hx hk]
  refine q_f' rfl (q_f' rfl (S_wrong (d := d + 3) h.1 (by omega) fun m1 m2 => kb_X11_operand_50 (S_goodB (d := d + 3) m1 (kb_X11_operand_57 (q_f' rfl ?_)))))
  exact O_out m1 (hq _ (yX_w (by omega) h hN m1) m2)
/-- no 'not' here -/
theorem O_79 (hN : N ≤ 700) {bb : Bool} {x4 : Int32} (h : yI g N lo n0 b p W C D I J) (hk : ¬ (bb = true ∧ tK g N p = kW 18)) (hq : pm_Ev (d + 4) 134 [.ref 85] (pm_hp L fz t I J) (K_X11_operand_79 (d + 4) fz t Qo (bz bb))) : t_X11_operand_18 (d + 4) L fz t Qo (bz bb) x4 I J := by
  refine b_X11_operand_18 (S_good (d := d + 3) h.1.2 (kb_X11_operand_22 (q_f nI_01 (q_b0 (fun _ => hq) (fun e => S_known (d := d + 1) h.2.2.2.2.1 hN h.1.1 fun x hx => kb_X11_operand_33 (q_t' ?_ hq))))))
  exact kv_n18 hx (by omega) (fun q => hk ⟨e, q⟩)
/-- a part stands here -/
theorem O_part (hg : ∀ i, g i < 256) (hN : N ≤ 700) (hn : 1 ≤ n0 ∧ lo + n0 ≤ 18) {bb : Bool} {x4 : Int32} (h : yI g N lo n0 b p W C D I J) (hk : ¬ (bb = true ∧ tK g N p = kW 18)) (h40 : tK g N p ≠ kS 40)
    (hqN : ∀ v I' J', tK g N p = kN v → yI g N lo n0 b (tnx g N p) W (C ++ [1, v]) D I' J' → wF I I' → gJ J J' → Qo (.inl none) (pm_hp L fz t I' J'))
    (hqV : ∀ j I' J', tK g N p = kW j → lo ≤ j → j < lo + n0 → yI g N lo n0 b (tnx g N p) W (C ++ [2, j]) D I' J' → wF I I' → gJ J J' → Qo (.inl none) (pm_hp L fz t I' J'))
    (hqX : ∀ y C' I', ((tK g N p = kB ∧ y = 2) ∨ (∃ j, tK g N p = kW j ∧ ¬ (lo ≤ j ∧ j < lo + n0) ∧ y = 3) ∨ ((tK g N p).1 ≠ 1 ∧ (tK g N p).1 ≠ 2 ∧ (tK g N p).1 ≠ 5 ∧ y = 1)) → yX g N lo n0 b y p W C' D I' → wF I I' → Qo (.inl none) (pm_hp L fz t I' J)) : t_X11_operand_18 (d + 4) L fz t Qo (bz bb) x4 I J := by
  refine O_79 hN h hk (S_good (d := d + 3) h.1.2 (kb_X11_operand_79 (q_f nI_01 (S_mSign (d := d + 3) hg h.2.2.2.2.1 h.1.1 (by decide) (kb_X11_operand_88 ?_)))))
  rw [show decide (tK g N p = kS 40) = false from decide_eq_false h40]
  exact q_t rfl (b_X11_operand_4 (q_t rfl (S_part (d := d) hg hN hn h (fun v I' J' a1 a2 a3 a4 => kb_X11_operand_124 (hqN v I' J' a1 a2 a3 a4)) (fun j I' J' a1 a2 a3 a4 a5 a6 => kb_X11_operand_124 (hqV j I' J' a1 a2 a3 a4 a5 a6)) (fun y C' I' a1 a2 a3 => kb_X11_operand_124 (hqX y C' I' a1 a2 a3)))))
/-- a parenthesis opens -/
theorem O_par (hg : ∀ i, g i < 256) (hN : N ≤ 700) {bb : Bool} {x4 : Int32} (h : yI g N lo n0 b p W C D I J) (hk : tK g N p = kS 40)
    (hq : ∀ I' J', D.length < 6 → yI g N lo n0 b (tnx g N p) (14 :: W) C (false :: D) I' J' → wF I I' → gJ J J' → t_X11_operand_18 (d + 4) L fz t Qo (bz true) (nI 0) I' J')
    (hqX : ∀ I' J', ¬ D.length < 6 → yX g N lo n0 b (dk (tK g N (tnx g N p))) (tnx g N p) (14 :: W) C D I' → wF I I' → gJ J J' → Qo (.inl none) (pm_hp L fz t I' J')) : t_X11_operand_18 (d + 4) L fz t Qo (bz bb) x4 I J := by
  refine O_79 hN h (fun q => by rw [hk] at q; cases q.2) (S_good (d := d + 3) h.1.2 (kb_X11_operand_79 (q_f nI_01 (S_mSign (d := d + 3) hg h.2.2.2.2.1 h.1.1 (by decide) (kb_X11_operand_88 ?_)))))
  rw [show decide (tK g N p = kS 40) = true from decide_eq_true hk]
  refine q_f nI_01 (T_wait (d := d + 2) hg hN (by omega) h (by rw [hk]; intro q; cases q) (fun I1 h1 => kb_X11_operand_107 h1) (fun I2 J2 a1 a2 a3 => kb_X11_operand_111 ?_))
  obtain ⟨hG, hW, hb, hw, hp, hD6, hz⟩ := id a1
  have h36 := hW.2.2.2.1
  refine e_X11_deeper ?_
  rw [h36]
  refine q_le (by omega) (by omega) (fun c => ?_) (fun c => ⟨?_, ?_⟩)
  · have bad : ∀ y, dk (tK g N (tnx g N p)) = y → 0 < y ∧ y < 8 → pm_Ev (d + 3) 133 [.ref 85, .int (nI y)] (pm_hp L fz t I2 J2) (K_X11_deeper_64 (d + 3) fz t (K_X11_operand_115 (d + 4) fz t Qo (nI 1))) := by
      intro y hy h8
      refine S_wrong (d := d + 2) hG h8 fun m1 m2 => kb_X11_deeper_64 (kb_X11_operand_115 (b_X11_operand_4 (q_f nI_01 (S_goodB (d := d + 3) m1 (kb_X11_operand_12 (q_t rfl (S_partX (d := d + 2) m1 (kb_X11_operand_124 ?_))))))))
      have := yX_w h8 a1 hN m1
      rw [← hy] at this m2 ⊢
      exact hqX _ J2 (by omega) this (wF_t a2 m2) a3
    have hd := dk_12 (tK g N (tnx g N p))
    have k1 : I2 85 20 = nI (srt (tK g N (tnx g N p))) := hG.1.2.2.1
    have hkk := tk_kd (g := g) hp
    rw [k1]
    have b2 : (tK g N (tnx g N p)).1 = 2 ∨ (tK g N (tnx g N p)).1 = 5 ∨ (tK g N (tnx g N p)).1 = 1 ∨ tK g N (tnx g N p) = kS 40 → pm_Ev (d + 3) 133 [.ref 85, .int (nI 2)] (pm_hp L fz t I2 J2) (K_X11_deeper_64 (d + 3) fz t (K_X11_operand_115 (d + 4) fz t Qo (nI 1))) := fun q => bad 2 (by unfold dk; rw [if_pos q]) (by omega)
    have sl : srt (tK g N (tnx g N p)) < 5 := by unfold srt; split; omega; split; split <;> omega; omega
    refine q_eq (by omega) (by omega) (fun q => b2 ?_) (fun q2 => q_eq (by omega) (by omega) (fun q => b2 ?_) (fun q1 => ?_))
    · unfold srt at q; split at q
      · exact Or.inr (Or.inl (by assumption))
      · split at q
        · split at q <;> omega
        · exact Or.inl q
    · unfold srt at q; split at q
      · omega
      · split at q
        · split at q <;> omega
        · exact Or.inr (Or.inr (Or.inl q))
    · refine S_mSign (d := d + 2) hg hp hG.1 (by decide) (kb_X11_deeper_53 (q_b0 (fun e => bad 1 ?_ (by omega)) (fun e => b2 (Or.inr (Or.inr (Or.inr (of_decide_eq_true e)))))))
      unfold dk
      refine if_neg ?_
      unfold srt at q2 q1
      rintro (r | r | r | r)
      · rw [if_neg (by omega), if_neg (by omega)] at q2; exact q2 r
      · rw [if_pos r] at q2; exact q2 rfl
      · rw [if_neg (by omega), if_neg (by omega)] at q1; exact q1 r
      · exact of_decide_eq_false e r
  · rw [nI_add]; exact vp_in_nI (by omega) (by omega)
  · rw [nI_add, nI_clamp (by omega)]
    have e0 : vp_nar .boolean (nI 0) = bz false := by decide
    rw [e0]
    have u85 : ∀ k, k ≠ 36 → pm_u (pm_u I2 85 36 (nI (D.length + 1))) 102 (D.length + 1) (bz false) 85 k = I2 85 k := fun k hk => by rw [pm_ua (by omega), pm_uk hk]
    have g3 : mG g N (tnx g N p) (pm_u (pm_u I2 85 36 (nI (D.length + 1))) 102 (D.length + 1) (bz false)) J2 := mG_c (by omega) hG u85 (by rw [pm_ua (by omega), pm_ua (by omega)])
    refine kb_X11_operand_115 (b_X11_operand_4 (q_f nI_01 (S_good (d := d + 3) g3.2 (kb_X11_operand_12 (q_f nI_01 (hq _ J2 c ⟨g3, ?_, hb, hw, hp, by simp; omega, hz⟩ (wF_t a2 (wF_c (wF_u wF_r (by omega)) (by omega))) a3))))))
    obtain ⟨h1, ⟨h32, h100⟩, ⟨h35, h101⟩, h4⟩ := hW
    refine ⟨?_, ⟨?_, ?_⟩, ⟨?_, ?_⟩, ?_, fun i hi => ?_⟩
    · rw [u85 33 (by omega), u85 34 (by omega)]; exact h1
    · rw [u85 32 (by omega)]; exact h32
    · rw [pm_ua (by omega), pm_ua (by omega)]; exact h100
    · rw [u85 35 (by omega)]; exact h35
    · rw [pm_ua (by omega), pm_ua (by omega)]; exact h101
    · rw [pm_ua (by omega), pm_us]; rfl
    · simp only [List.length_cons] at hi
      rw [List.reverse_cons]
      by_cases ei : i = D.length
      · rw [ei, pm_us, List.getD_eq_getElem?_getD, List.getElem?_append_right (by simp)]; simp
      · rw [pm_uk (by omega), pm_ua (by omega), h4.2 i (by omega), List.getD_eq_getElem?_getD, List.getD_eq_getElem?_getD, List.getElem?_append_left (by simp; omega)]
end Spec
