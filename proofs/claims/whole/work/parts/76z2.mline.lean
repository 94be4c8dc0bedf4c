/-! the reference reads lines: figures, whole lines -/
section Spec
variable {d L : Nat} {fz t : Bool} {Q : pm_R → pm_H → Prop} {I : Nat → Nat → Int32} {J : Nat → Nat → Int64} {g : Nat → Nat} {N p : Nat} {D : Dr} {C : List Nat} {r : Lr}
/-- rows that weren't told are empty -/
theorem M_zero {f n : Nat} (hf : f < 5) : ∀ j k I1, k + j = 3 → (∀ I2, (∀ b, b ≠ 98 → I2 b = I1 b) → (∀ y, y < 3 * f + k ∨ 3 * f + 3 ≤ y → I2 98 y = I1 98 y) → (∀ i, k ≤ i → i < 3 → I2 98 (3 * f + i) = nI 0) → pm_Ev (d + 3) 134 [.ref 85] (pm_hp L fz t (pm_u I2 97 f (nI n)) J) (K_X11_readsFigure_162 (d + 3) fz t Q)) → t_X11_readsFigure_127 (d + 3) L fz t Q (nI f) (nI n) (nI k) I1 J := by
  intro j
  induction j with
  | zero =>
    intro k I1 hk hq
    refine b_X11_readsFigure_127 (q_t (nI_le (by omega) (by omega)) ⟨vp_in_nI (by omega) (by omega), ?_⟩)
    rw [nI_clamp (by omega)]
    exact hq I1 (fun _ _ => rfl) (fun _ _ => rfl) (fun i h1 h2 => by omega)
  | succ j ih =>
    intro k I1 hk hq
    refine b_X11_readsFigure_127 (q_f (nI_ge (by omega) (by omega)) ?_)
    rw [nI_mul, nI_add, nI_add, nI_clamp (by omega)]
    refine ⟨vp_in_nI (by omega) (by omega), ih (k + 1) _ (by omega) fun I2 e1 e2 e3 => hq I2 (fun b hb => (e1 b hb).trans (pm_ua hb)) (fun y hy => (e2 y (by omega)).trans (pm_uk (by omega))) (fun i h1 h2 => ?_)⟩
    by_cases q : i = k
    · rw [q, e2 _ (by omega), pm_us]
    · exact e3 i (by omega) h2
theorem M_figure (hg : ∀ i, g i < 256) (hN : N ≤ 700) (hp : p ≤ N) (hG : mG g N p I J) (hD : mD D C I) (ho : okD D) (hC : C.length ≤ 2 * p) (hk : tK g N p ≠ kE) (hB : Bfi (tK g N) (tnx g N) p D r) (hq : ∀ I' J', mAf g N r I I' J' → gJ J J' → Q (.inl none) (pm_hp L fz t I' J')) : pm_Ev (d + 4) 152 [.ref 85] (pm_hp L fz t I J) Q := by
  have hm := ho.1.2.2.1
  have e29 : I 85 29 = nI (tG (dT D)) := hD.2.1.2.2
  refine e_X11_readsFigure ?_
  rw [e29]
  rcases hB with ⟨hM, rfl⟩ | ⟨hM, hB⟩
  · rw [hM]
    exact q_f' rfl (S_wrong (d := d + 2) hG (by omega) fun m1 m2 => kb_X11_readsFigure_13 (S_goodB (d := d + 2) m1 (kb_X11_readsFigure_17 (q_f' rfl (hq _ _ ⟨nF_w m2, m1⟩ (fun _ _ => rfl))))))
  · have p0 := nx_lt p hk
    have n1 := nx_le (g := g) p hp
    have n2 := nx_le (g := g) _ n1
    have n3 := nx_le (g := g) _ n2
    -- a fault: the rest is done without harm
    have bad : ∀ k y q I1 J1, k ≤ 3 → mBd g N y q I1 → nF I I1 → gJ J J1 → r = .inr (y, q) → t_X11_readsFigure_127 (d + 3) L fz t Q (nI (tG (dT D))) (nI k) (nI k) I1 J1 := by
      intro k y q I1 J1 hk3 b1 l1 j1 hr
      subst hr
      refine M_zero hM (3 - k) k I1 (by omega) fun I2 e1 _ _ => ?_
      have b2 : mBd g N y q I2 := by unfold mBd at *; rw [e1 85 (by omega)]; exact b1
      refine S_goodB (d := d + 2) (mBd_u b2 (by omega)) (kb_X11_readsFigure_162 (q_t rfl (hq _ J1 ⟨nF_c (nF_t l1 ⟨fun b _ hb => e1 b (by omega), fun k _ => by rw [e1 85 (by omega)]⟩) (by omega), mBd_u b2 (by omega)⟩ j1)))
    have bad1 : ∀ k x y q I1 J1, k ≤ 3 → mBd g N y q I1 → nF I I1 → gJ J J1 → r = .inr (y, q) → x = nI 0 ∨ x = nI 1 → t_X11_readsFigure_59 (d + 3) L fz t Q (nI (tG (dT D))) (nI k) x I1 J1 := by
      intro k x y q I1 J1 hk3 b1 l1 j1 hr hx
      have := bad k y q I1 J1 hk3 b1 l1 j1 hr
      rcases hx with rfl | rfl
      · exact b_X11_readsFigure_59 (q_t rfl this)
      · exact b_X11_readsFigure_59 (q_f nI_01 (S_goodB (d := d + 2) b1 (kb_X11_readsFigure_67 (q_t rfl this))))
    refine q_t' (fun q => by rw [nI_eq (by omega) (by omega)] at q; omega) (b_X11_readsFigure_13 (S_good (d := d + 2) hG.2 (kb_X11_readsFigure_17 (q_t' nI_01 (S_goesI (d := d + 1) hg hN hp hG fun I1 J1 g1 f1 j1 => kb_X11_readsFigure_25 ?_)))))
    have a1 : I1 85 29 = nI (tG (dT D)) := (f1.2 29 (by omega)).trans e29
    rw [a1]
    rcases hB with ⟨x, k1, v1, v2, hB⟩ | ⟨y, w1, rfl⟩
    · have p1 := nx_lt _ (kN_nE k1)
      refine S_numT (d := d) hg hN n1 g1 (by omega) k1 v1 v2 fun I2 J2 g2 f2 j2 => kb_X11_readsFigure_42 ⟨vp_in_nI (by omega) (by omega), ?_⟩
      rw [nI_clamp (by omega)]
      rcases hB with ⟨w, k2, v1', v2', hB⟩ | ⟨y, w1, rfl⟩
      · have p2 := nx_lt _ (kN_nE k2)
        refine S_numT (d := d) hg hN n2 (mG_u g2 (by omega) (by omega)) (by omega) k2 v1' v2' fun I3 J3 g3 f3 j3 => kb_X11_readsFigure_54 ⟨vp_in_nI (by omega) (by omega), ?_⟩
        rw [nI_clamp (by omega)]
        have hz := ho.2.2.2.2.1
        have h2 : 2 ^ w ≤ 2 ^ 4 := Nat.pow_le_pow_right (by omega) v2'
        -- the rows
        suffices H : ∀ m n p1 R I4 J4, n + m = 3 → p1 ≤ N → C.length ≤ 2 * p1 → mG g N p1 I4 J4 → nF I I4 → gJ J J4 → (∀ k, 26 ≤ k → k ≤ 32 → I4 85 k = I 85 k) → (∀ b, 94 ≤ b → b ≤ 100 → b < 95 ∨ 98 < b → I4 b = I b) → I4 95 = fu (I 95) (tG (dT D)) (nI x) → I4 96 = fu (I 96) (tG (dT D)) (nI w) → I4 97 = I 97 → (∀ y, y < 3 * tG (dT D) → R y = tR (dT D) y) → (∀ y, y < 3 * tG (dT D) → I4 98 y = I 98 y) → (∀ i, i < n → I4 98 (3 * tG (dT D) + i) = R (3 * tG (dT D) + i)) → (∀ i, n ≤ i → R (3 * tG (dT D) + i) = nI 0) → Rw (tK g N) (tnx g N) (tG (dT D)) w (fun n p R r => r = .inl (uG D x w n R, p)) m n p1 R r → ∀ z, (z = nI 1 ∧ m ≠ 0 ∧ (n = 0 ∨ isn (tK g N p1))) ∨ (z = nI 0 ∧ n ≠ 0 ∧ (m = 0 ∨ ¬ isn (tK g N p1))) → t_X11_readsFigure_59 (d + 3) L fz t Q (nI (tG (dT D))) (nI n) z I4 J4 by
          refine H 3 0 _ (tR (dT D)) _ J3 rfl n3 (by omega) (mG_u g3 (by omega) (by omega)) ?_ (gJ_t (gJ_t j1 j2) j3) (fun k h1 h3 => ?_) (fun b h1 h3 h4 => ?_) ?_ ?_ ?_ (fun _ _ => rfl) (fun y hy => ?_) (fun i hi => absurd hi (by omega)) (fun i _ => hz _ (by omega)) hB (nI 1) (Or.inl ⟨rfl, by omega, Or.inl rfl⟩)
          · exact nF_c (nF_t (nF_c (nF_t (nF_g f1) (nF_g f2)) (by omega)) (nF_g f3)) (by omega)
          · rw [pm_ua (by omega), f3.2 k (by omega), pm_ua (by omega), f2.2 k (by omega), f1.2 k (by omega)]
          · rw [pm_ua (by omega), f3.1 b (by omega), pm_ua (by omega), f2.1 b (by omega), f1.1 b (by omega)]
          · rw [pm_ua (by omega), f3.1 95 (by omega), pm_fu, f2.1 95 (by omega), f1.1 95 (by omega)]
          · rw [pm_fu, f3.1 96 (by omega), pm_ua (by omega), f2.1 96 (by omega), f1.1 96 (by omega)]
          · rw [pm_ua (by omega), f3.1 97 (by omega), pm_ua (by omega), f2.1 97 (by omega), f1.1 97 (by omega)]
          · rw [pm_ua (by omega), f3.1 98 (by omega), pm_ua (by omega), f2.1 98 (by omega), f1.1 98 (by omega)]
        -- the end of the rows
        have fin : ∀ n p1 R I4 J4, n ≤ 3 → C.length ≤ 2 * p1 → mG g N p1 I4 J4 → nF I I4 → gJ J J4 → (∀ k, 26 ≤ k → k ≤ 32 → I4 85 k = I 85 k) → (∀ b, 94 ≤ b → b ≤ 100 → b < 95 ∨ 98 < b → I4 b = I b) → I4 95 = fu (I 95) (tG (dT D)) (nI x) → I4 96 = fu (I 96) (tG (dT D)) (nI w) → I4 97 = I 97 → (∀ y, y < 3 * tG (dT D) → R y = tR (dT D) y) → (∀ y, y < 3 * tG (dT D) → I4 98 y = I 98 y) → (∀ i, i < n → I4 98 (3 * tG (dT D) + i) = R (3 * tG (dT D) + i)) → (∀ i, n ≤ i → R (3 * tG (dT D) + i) = nI 0) → r = .inl (uG D x w n R, p1) → t_X11_readsFigure_127 (d + 3) L fz t Q (nI (tG (dT D))) (nI n) (nI n) I4 J4 := by
          intro n p1 R I4 J4 hn hc g4 l4 j4 e85 eo e95 e96 e97 hR e98 e98' hRz hr
          subst hr
          refine M_zero hM (3 - n) n I4 (by omega) fun I5 q1 q2 q3 => ?_
          have g5 : mG g N p1 I5 J4 := ⟨mTk_c g4.1 (fun k _ => by rw [q1 85 (by omega)]) (q1 92 (by omega)), by rw [q1 85 (by omega)]; exact g4.2⟩
          refine S_good (d := d + 2) (by rw [pm_ua (by omega)]; exact g5.2) (kb_X11_readsFigure_162 (q_f nI_01 (hq _ J4 ⟨?_, mG_k (mG_u g5 (by omega) (by omega)) (by omega), C, hc, mD_G hD (fun k h1 h3 h4 => ?_) ?_ (fun b h1 h3 h4 => ?_) ?_ ?_ ?_ hR (fun y hy => ?_) (fun i hi => ?_)⟩ j4)))
          · exact nF_u (nF_c (nF_t l4 ⟨fun b _ hb => q1 b (by omega), fun k _ => by rw [q1 85 (by omega)]⟩) (by omega)) (by omega)
          · rw [pm_uk h4, pm_ua (by omega), q1 85 (by omega)]; exact e85 k h1 h3
          · rw [pm_us, pm_ua (by omega), q1 85 (by omega), e85 29 (by omega) (by omega), e29, nI_add]
          · rw [pm_ua (by omega), pm_ua (by omega), q1 b (by omega)]; exact eo b h1 h3 h4
          · rw [pm_ua (by omega), pm_ua (by omega), q1 95 (by omega)]; exact e95
          · rw [pm_ua (by omega), pm_ua (by omega), q1 96 (by omega)]; exact e96
          · rw [pm_ua (by omega), pm_fu, q1 97 (by omega), e97]
          · rw [pm_ua (by omega), pm_ua (by omega), q2 y (by omega)]; exact e98 y hy
          · rw [pm_ua (by omega), pm_ua (by omega)]
            by_cases q : i < n
            · rw [q2 _ (by omega)]; exact e98' i q
            · rw [q3 i (by omega) hi]; exact (hRz i (by omega)).symm
        intro m
        induction m with
        | zero =>
          intro n p1 R I4 J4 hm hp1 hc g4 l4 j4 e85 eo e95 e96 e97 hR e98 e98' hRz hw z hz
          rcases hz with ⟨_, h, _⟩ | ⟨rfl, _, _⟩
          · exact absurd rfl h
          · exact b_X11_readsFigure_59 (q_t rfl (fin n p1 R I4 J4 (by omega) hc g4 l4 j4 e85 eo e95 e96 e97 hR e98 e98' hRz hw))
        | succ m ih =>
          intro n p1 R I4 J4 hm hp1 hc g4 l4 j4 e85 eo e95 e96 e97 hR e98 e98' hRz hw z hz
          rcases hw with ⟨ni, n0, hw⟩ | ⟨hi, hw⟩
          · rcases hz with ⟨_, _, h | h⟩ | ⟨rfl, _, _⟩
            · exact absurd h n0
            · exact absurd h ni
            · exact b_X11_readsFigure_59 (q_t rfl (fin n p1 R I4 J4 (by omega) hc g4 l4 j4 e85 eo e95 e96 e97 hR e98 e98' hRz hw))
          · rcases hz with ⟨rfl, _, _⟩ | ⟨_, n0, h | h⟩
            · refine b_X11_readsFigure_59 (q_f nI_01 (S_good (d := d + 2) g4.2 (kb_X11_readsFigure_67 (q_f nI_01 ⟨vp_in_nI (by omega) (by omega), ?_⟩))))
              rw [nI_clamp (by omega), e96, fu_s, show (nI 1 <<< (nI w &&& 31)) - nI 1 = nI (2 ^ w - 1) from al_nI w (by omega)]
              rcases hw with ⟨v, k3, u1, u2, hw⟩ | ⟨y, w1, hr⟩
              · have p3 := nx_lt _ (kN_nE k3)
                have n4 := nx_le (g := g) p1 hp1
                refine S_numT (d := d) hg hN hp1 g4 (by omega) k3 u1 u2 fun I5 J5 g5 f5 j5 => kb_X11_readsFigure_85 ?_
                have s5 := sr_2 n4 g5
                rw [nI_mul, nI_add, nI_add, nI_clamp (by omega)]
                have next : ∀ z, (z = nI 1 ∧ m ≠ 0 ∧ (n + 1 = 0 ∨ isn (tK g N (tnx g N p1)))) ∨ (z = nI 0 ∧ n + 1 ≠ 0 ∧ (m = 0 ∨ ¬ isn (tK g N (tnx g N p1)))) → t_X11_readsFigure_59 (d + 3) L fz t Q (nI (tG (dT D))) (nI (n + 1)) z (pm_u I5 98 (3 * tG (dT D) + n) (nI v)) J5 := by
                  refine ih (n + 1) (tnx g N p1) (fu R (3 * tG (dT D) + n) (nI v)) _ J5 (by omega) n4 (by omega) (mG_u g5 (by omega) (by omega)) (nF_c (nF_t l4 (nF_g f5)) (by omega)) (gJ_t j4 j5) (fun k h1 h3 => ?_) (fun b h1 h3 h4 => ?_) ?_ ?_ ?_ (fun y hy => ?_) (fun y hy => ?_) (fun i hi => ?_) (fun i hi => ?_) hw
                  · rw [pm_ua (by omega), f5.2 k (by omega)]; exact e85 k h1 h3
                  · rw [pm_ua (by omega), f5.1 b (by omega)]; exact eo b h1 h3 h4
                  · rw [pm_ua (by omega), f5.1 95 (by omega)]; exact e95
                  · rw [pm_ua (by omega), f5.1 96 (by omega)]; exact e96
                  · rw [pm_ua (by omega), f5.1 97 (by omega)]; exact e97
                  · rw [fu_o (by omega)]; exact hR y hy
                  · rw [pm_uk (by omega), f5.1 98 (by omega)]; exact e98 y hy
                  · by_cases q : i = n
                    · rw [q, pm_us, fu_s]
                    · rw [pm_uk (by omega), fu_o (by omega), f5.1 98 (by omega)]; exact e98' i (by omega)
                  · rw [fu_o (by omega)]; exact hRz i (by omega)
                refine ⟨vp_in_nI (by omega) (by omega), q_le (by omega) (by omega) (fun c => next _ (Or.inr ⟨rfl, by omega, Or.inl (by omega)⟩)) (fun c => ⟨fun q => next _ (Or.inr ⟨rfl, by omega, Or.inr (fun h => q (s5.mpr h))⟩), fun q => next _ (Or.inl ⟨rfl, by omega, Or.inr (s5.mp q)⟩)⟩)⟩
              · refine S_numF (d := d) hg hN hp1 g4 (by omega) w1 fun I5 xx b5 f5 => kb_X11_readsFigure_85 ?_
                rw [nI_mul, nI_add, nI_add, nI_clamp (by omega)]
                have nb : ∀ z, z = nI 0 ∨ z = nI 1 → t_X11_readsFigure_59 (d + 3) L fz t Q (nI (tG (dT D))) (nI (n + 1)) z (pm_u I5 98 (3 * tG (dT D) + n) xx) J4 := fun z hz => bad1 (n + 1) z y p1 _ J4 (by omega) (mBd_u b5 (by omega)) (nF_c (nF_t l4 (nF_w f5)) (by omega)) j4 hr hz
                exact ⟨vp_in_nI (by omega) (by omega), ⟨fun _ => nb _ (Or.inl rfl), fun _ => ⟨fun _ => nb _ (Or.inl rfl), fun _ => nb _ (Or.inr rfl)⟩⟩⟩
            · omega
            · rcases hi with hi | hi
              · exact absurd hi h
              · exact absurd hi n0
      · refine S_numF (d := d) hg hN n2 (mG_u g2 (by omega) (by omega)) (by omega) w1 fun I3 xx b3 f3 => kb_X11_readsFigure_54 ⟨vp_in_nI (by omega) (by omega), bad1 0 (nI 1) y _ _ J2 (by omega) (mBd_u b3 (by omega)) ?_ (gJ_t j1 j2) rfl (Or.inr rfl)⟩
        exact nF_c (nF_t (nF_c (nF_t (nF_g f1) (nF_g f2)) (by omega)) (nF_w f3)) (by omega)
    · refine S_numF (d := d) hg hN n1 g1 (by omega) w1 fun I2 xx b2 f2 => kb_X11_readsFigure_42 ⟨vp_in_nI (by omega) (by omega), S_numberB (d := d + 1) (mBd_u b2 (by omega)) (kb_X11_readsFigure_54 ⟨vp_in_nI (by omega) (by omega), bad1 0 (nI 1) y _ _ J1 (by omega) (mBd_u (mBd_u b2 (by omega)) (by omega)) ?_ j1 rfl (Or.inr rfl)⟩)⟩
      exact nF_c (nF_c (nF_t (nF_g f1) (nF_w f2)) (by omega)) (by omega)
end Spec
