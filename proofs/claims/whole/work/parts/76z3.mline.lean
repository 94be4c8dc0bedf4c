/-! the reference reads whole lines -/
section Base
variable {D : Dr} {C l : List Nat} {I I' : Nat → Nat → Int32}
theorem mD_U (h : mD D C I) (hl : l ≠ []) (h85 : ∀ k, 26 ≤ k → k < 32 → k ≠ 30 → I' 85 k = I 85 k) (h30 : I' 85 30 = nI C.length) (h32 : I' 85 32 = nI (C ++ enc 0 l).length) (h100 : mC (I' 100) 0 (C ++ enc 0 l)) (e : ∀ b, 94 ≤ b → b < 100 → I' b = I b) : mD (uU D l) (C ++ enc 0 l) I' := by
  obtain ⟨h1, h2, ⟨_, _, h3⟩, h4⟩ := h
  unfold mD
  rw [h85 26 (by omega) (by omega) (by omega), h85 27 (by omega) (by omega) (by omega), h85 28 (by omega) (by omega) (by omega), h85 29 (by omega) (by omega) (by omega), h30, h85 31 (by omega) (by omega) (by omega), h32, e 94 (by omega) (by omega), e 95 (by omega) (by omega), e 96 (by omega) (by omega), e 97 (by omega) (by omega), e 98 (by omega) (by omega), e 99 (by omega) (by omega)]
  exact ⟨h1, h2, ⟨⟨rfl, h100⟩, mF2_new hl, mF2_add h3⟩, h4⟩
theorem mD_H (h : mD D C I) (hl : l ≠ []) (h85 : ∀ k, 26 ≤ k → k < 32 → k ≠ 31 → I' 85 k = I 85 k) (h31 : I' 85 31 = nI C.length) (h32 : I' 85 32 = nI (C ++ enc 6 l).length) (h100 : mC (I' 100) 0 (C ++ enc 6 l)) (e : ∀ b, 94 ≤ b → b < 100 → I' b = I b) : mD (uH D l) (C ++ enc 6 l) I' := by
  obtain ⟨h1, h2, ⟨_, h3, _⟩, h4⟩ := h
  unfold mD
  rw [h85 26 (by omega) (by omega) (by omega), h85 27 (by omega) (by omega) (by omega), h85 28 (by omega) (by omega) (by omega), h85 29 (by omega) (by omega) (by omega), h85 30 (by omega) (by omega) (by omega), h31, h32, e 94 (by omega) (by omega), e 95 (by omega) (by omega), e 96 (by omega) (by omega), e 97 (by omega) (by omega), e 98 (by omega) (by omega), e 99 (by omega) (by omega)]
  exact ⟨h1, h2, ⟨⟨rfl, h100⟩, mF2_add h3, mF2_new hl⟩, h4⟩
theorem mF2_m1 {o : Nat} {l : List Nat} {p : Int32} {C : List Nat} (h : mF2 o l p C) (hC : C.length ≤ 1400) : p = -1 ↔ l = [] := by
  rcases h with ⟨h1, h2⟩ | ⟨h1, A, B, h2, h3⟩
  · exact ⟨fun _ => h1, fun _ => h2⟩
  · refine ⟨fun q => absurd q ?_, fun q => absurd q h1⟩
    rw [h3]
    refine nI_ne_m1 ?_
    rw [h2, List.length_append] at hC
    omega
end Base
section Spec
variable {d L : Nat} {fz t : Bool} {Q : pm_R → pm_H → Prop} {I : Nat → Nat → Int32} {J : Nat → Nat → Int64} {g : Nat → Nat} {N p : Nat} {D : Dr} {C : List Nat} {r : Lr}
theorem S_signB {c : Int32} (hq : ∀ x, Q (.inl (some (.int x))) (pm_hp L fz t I J)) : pm_Ev (d + 1) 135 [.ref 85, .int c] (pm_hp L fz t I J) Q := e_X11_isSign ⟨fun _ => hq _, fun _ => ⟨fun _ => hq _, fun _ => hq _⟩⟩
theorem M_line (hg : ∀ i, g i < 256) (hN : N ≤ 700) (hp : p ≤ N) (hG : mG g N p I J) (hD : mD D C I) (ho : okD D) (hC : C.length ≤ 2 * p) (hk : tK g N p ≠ kE) (hL : Ln (tK g N) (tnx g N) p D r) (hq : ∀ I' J', mAf g N r I I' J' → gJ J J' → Q (.inl none) (pm_hp L fz t I' J')) : pm_Ev (d + 7) 154 [.ref 85] (pm_hp L fz t I J) Q := by
  obtain ⟨r1, hB, hE⟩ := hL
  have p0 := nx_lt p hk
  have n1 := nx_le (g := g) p hp
  have fin : ∀ I1 J1, mAf g N r1 I I1 J1 → gJ J J1 → t_X11_line_177 (d + 6) L fz t Q I1 J1 := by
    intro I1 J1 hA j1
    refine b_X11_line_177 ?_
    rcases r1 with ⟨D1, p1⟩ | ⟨y, q⟩
    · obtain ⟨l1, g1, C1, hC1, c1⟩ := hA
      obtain ⟨o1, _, o3⟩ := Bo_ok hp ho hB
      refine S_mSign (d := d + 5) hg o3 g1.1 (show 59 ∈ ss by decide) (kb_X11_line_184 ?_)
      rcases hE with ⟨k1, rfl⟩ | ⟨k1, rfl⟩
      · have := nx_lt _ (kS_nE k1)
        exact S_need (d := d + 3) hg hN o3 g1 (fun I2 J2 _ g2 f2 j2 => kb_X11_line_187 (hq I2 J2 ⟨nF_t l1 (nF_g f2), g2, C1, by omega, mD_g c1 f2⟩ (gJ_t j1 j2))) (fun I2 h => absurd k1 (of_decide_eq_false h))
      · exact S_need (d := d + 3) hg hN o3 g1 (fun I2 J2 h => absurd (of_decide_eq_true h) k1) (fun I2 _ b2 f2 => kb_X11_line_187 (hq I2 J1 ⟨nF_t l1 (nF_w f2), b2⟩ j1))
    · have hr : r = .inr (y, q) := hE
      subst hr
      exact S_signB (d := d + 5) fun x => kb_X11_line_184 (S_needB (d := d + 4) hA.2 (kb_X11_line_187 (hq I1 J1 hA j1)))
  refine e_X11_line (S_known (d := d + 3) hp hN hG.1 fun x hx => kb_X11_line_4 ?_)
  have val : ∀ j, tK g N p = kW j → j < 19 → x = nI j := by
    intro j hj hj'
    rcases hx with ⟨i, _, e, rfl⟩ | ⟨h, _⟩
    · rw [kW_inj.mp (e.symm.trans hj)]
    · exact absurd hj (h j hj')
  have nv : ∀ j, j < 19 → tK g N p ≠ kW j → ¬ x = nI j := by
    intro j hj' hj
    rcases hx with ⟨i, hi, e, rfl⟩ | ⟨_, rfl⟩
    · intro q
      rw [nI_eq (by omega) (by omega)] at q
      exact hj (q ▸ e)
    · intro q
      exact nI_ne_m1 (by omega) q.symm
  rcases hB with ⟨hw, hB⟩ | ⟨hw, hB⟩ | ⟨hw, hB⟩ | ⟨hw, hB⟩ | ⟨hw, hB⟩ | ⟨hw, hB⟩ | ⟨hw, rfl⟩
  · rw [val 10 hw (by omega)]
    refine q_f' rfl ?_
    rw [hD.1]
    have hN2 := ho.1.1
    rcases hB with ⟨b, rfl⟩ | ⟨b, hB⟩
    · rw [if_pos b]
      exact q_f (nI_ne_m1 (by omega)) (S_begF (d := d + 3) hG fun I1 b1 f1 => kb_X11_line_28 (q_t rfl (fin I1 J ⟨nF_w f1, b1⟩ (fun _ _ => rfl))))
    · rw [if_neg (by rw [b]; simp)]
      refine q_t rfl (S_begT (d := d + 3) hg hN hp hG fun I1 J1 g1 f1 j1 => kb_X11_line_28 (q_f nI_01 ?_))
      rcases hB with ⟨v, k1, v1, v2, rfl⟩ | ⟨y, w1, rfl⟩
      · have p1 := nx_lt _ (kN_nE k1)
        refine S_numT (d := d + 3) hg hN n1 g1 (by omega) k1 v1 v2 fun I2 J2 g2 f2 j2 => kb_X11_line_39 (fin _ J2 ⟨nF_u (nF_t (nF_g f1) (nF_g f2)) (by omega), mG_k g2 (by omega), C, by omega, mD_T hD (fun k h1 h2 => ?_) pm_us (fun b h1 h2 => ?_)⟩ (gJ_t j1 j2))
        · rw [pm_uk (by omega), f2.2 k (by omega), f1.2 k (by omega)]
        · rw [pm_ua (by omega), f2.1 b (by omega), f1.1 b (by omega)]
      · exact S_numF (d := d + 3) hg hN n1 g1 (by omega) w1 fun I2 x b2 f2 => kb_X11_line_39 (fin _ J1 ⟨nF_u (nF_t (nF_g f1) (nF_w f2)) (by omega), mBd_k b2 (by omega)⟩ j1)
  · rw [val 11 hw (by omega)]
    exact q_t' (by decide) (q_f' rfl (M_card (d := d + 2) hg hN hp hG hD ho hC hk hB fun I1 J1 hA j1 => kb_X11_line_55 (fin I1 J1 hA j1)))
  · rw [val 12 hw (by omega)]
    exact q_t' (by decide) (q_t' (by decide) (q_f' rfl (M_lace (d := d + 2) hg hN hp hG hD ho hC hk hB fun I1 J1 hA j1 => kb_X11_line_68 (fin I1 J1 hA j1))))
  · rw [val 13 hw (by omega)]
    exact q_t' (by decide) (q_t' (by decide) (q_t' (by decide) (q_f' rfl (M_figure (d := d + 2) hg hN hp hG hD ho hC hk hB fun I1 J1 hA j1 => kb_X11_line_81 (fin I1 J1 hA j1)))))
  · rw [val 14 hw (by omega)]
    refine q_t' (by decide) (q_t' (by decide) (q_t' (by decide) (q_t' (by decide) (q_f' rfl ?_))))
    have m1 := mF2_m1 hD.2.2.1.2.1 (by omega)
    rcases hB with ⟨b, rfl⟩ | ⟨b, r2, hB, rfl⟩
    · exact q_f (fun q => b (m1.mp q)) (S_begF (d := d + 3) hG fun I1 b1 f1 => kb_X11_line_107 (q_t rfl (fin I1 J ⟨nF_w f1, b1⟩ (fun _ _ => rfl))))
    · refine q_t (m1.mpr b) (S_begT (d := d + 3) hg hN hp hG fun I1 J1 g1 f1 j1 => kb_X11_line_107 (q_f nI_01 ?_))
      have a32 : I1 85 32 = nI C.length := (f1.2 32 (by omega)).trans hD.2.2.1.1.1
      rw [a32]
      refine S_exprC (d := d) (lo := 0) (n0 := 6) (b := 0) (C := C) hg hN (by omega) n1 (mG_k g1 (by omega)) ?_ ?_ (by omega) hB ?_
      · rw [pm_uk (by omega), a32, Nat.zero_add]
      · rw [pm_ua (by omega), f1.1 100 (by omega)]; exact hD.2.2.1.1.2
      · rcases r2 with ⟨e, p2⟩ | ⟨y, q⟩
        · intro I2 J2 g2 hp2 hb2 e32 e100 w2 j2
          have hd := Dv_ok (by omega) n1 hB
          rw [List.append_assoc, ← enc_es] at e100
          have hl : (C ++ enc 0 e).length = (C ++ es 0 e).length + 1 := by rw [enc_es]; simp; omega
          refine kb_X11_line_124 (fin I2 J2 ⟨nF_t (nF_u (nF_g f1) (by omega)) (nF_w w2), g2, C ++ enc 0 e, by omega, mD_U hD hd.2.2.2 (fun k h1 h2 h3 => ?_) ?_ ?_ e100 (fun b h1 h2 => ?_)⟩ (gJ_t j1 j2))
          · rw [w2.2 k (by omega), pm_uk h3, f1.2 k (by omega)]
          · rw [w2.2 30 (by omega), pm_us]
          · rw [e32, hl, Nat.zero_add]
          · rw [w2.1 b (by omega) (by omega) (by omega) (by omega), pm_ua (by omega), f1.1 b (by omega)]
        · intro I2 J2 b2 w2 j2
          exact kb_X11_line_124 (fin I2 J2 ⟨nF_t (nF_u (nF_g f1) (by omega)) (nF_w w2), b2⟩ (gJ_t j1 j2))
  · rw [val 15 hw (by omega)]
    refine q_t' (by decide) (q_t' (by decide) (q_t' (by decide) (q_t' (by decide) (q_t' (by decide) (q_f' rfl ?_)))))
    have m1 := mF2_m1 hD.2.2.1.2.2 (by omega)
    rcases hB with ⟨b, rfl⟩ | ⟨b, r2, hB, rfl⟩
    · exact q_f (fun q => b (m1.mp q)) (S_begF (d := d + 3) hG fun I1 b1 f1 => kb_X11_line_150 (q_t rfl (fin I1 J ⟨nF_w f1, b1⟩ (fun _ _ => rfl))))
    · refine q_t (m1.mpr b) (S_begT (d := d + 3) hg hN hp hG fun I1 J1 g1 f1 j1 => kb_X11_line_150 (q_f nI_01 ?_))
      have a32 : I1 85 32 = nI C.length := (f1.2 32 (by omega)).trans hD.2.2.1.1.1
      rw [a32]
      refine S_exprC (d := d) (lo := 6) (n0 := 4) (b := 0) (C := C) hg hN (by omega) n1 (mG_k g1 (by omega)) ?_ ?_ (by omega) hB ?_
      · rw [pm_uk (by omega), a32, Nat.zero_add]
      · rw [pm_ua (by omega), f1.1 100 (by omega)]; exact hD.2.2.1.1.2
      · rcases r2 with ⟨e, p2⟩ | ⟨y, q⟩
        · intro I2 J2 g2 hp2 hb2 e32 e100 w2 j2
          have hd := Dv_ok (by omega) n1 hB
          rw [List.append_assoc, ← enc_es] at e100
          have hl : (C ++ enc 6 e).length = (C ++ es 6 e).length + 1 := by rw [enc_es]; simp; omega
          refine kb_X11_line_169 (fin I2 J2 ⟨nF_t (nF_u (nF_g f1) (by omega)) (nF_w w2), g2, C ++ enc 6 e, by omega, mD_H hD hd.2.2.2 (fun k h1 h2 h3 => ?_) ?_ ?_ e100 (fun b h1 h2 => ?_)⟩ (gJ_t j1 j2))
          · rw [w2.2 k (by omega), pm_uk h3, f1.2 k (by omega)]
          · rw [w2.2 31 (by omega), pm_us]
          · rw [e32, hl, Nat.zero_add]
          · rw [w2.1 b (by omega) (by omega) (by omega) (by omega), pm_ua (by omega), f1.1 b (by omega)]
        · intro I2 J2 b2 w2 j2
          exact kb_X11_line_169 (fin I2 J2 ⟨nF_t (nF_u (nF_g f1) (by omega)) (nF_w w2), b2⟩ (gJ_t j1 j2))
  · refine q_t' (nv 10 (by omega) (hw 10 (by omega) (by omega))) (q_t' (nv 11 (by omega) (hw 11 (by omega) (by omega))) (q_t' (nv 12 (by omega) (hw 12 (by omega) (by omega))) (q_t' (nv 13 (by omega) (hw 13 (by omega) (by omega))) (q_t' (nv 14 (by omega) (hw 14 (by omega) (by omega))) (q_t' (nv 15 (by omega) (hw 15 (by omega) (by omega))) (S_wrong (d := d + 5) hG (by omega) fun m1 m2 => ?_))))))
    show t_X11_line_177 (d + 6) L fz t Q _ J
    exact fin _ J ⟨nF_w m2, m1⟩ (fun _ _ => rfl)
end Spec
