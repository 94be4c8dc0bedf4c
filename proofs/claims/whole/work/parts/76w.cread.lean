/-! the class reads lines: threads, cards, laces, figures, rules -/
section Spec
variable {d L : Nat} {fz t : Bool} {Q : pm_R → pm_H → Prop} {I : Nat → Nat → Int32} {J : Nat → Nat → Int64} {g : Nat → Nat} {N p a : Nat} {D : Dr}
theorem C_threads (hg : ∀ i, g i < 256) (hN : N ≤ 700) (ha : a = 55 ∨ a = 70) (hp : p ≤ N) (hG : cG g N p I) (hD : cD a D I) (ho : okD D) (hq : ∀ I' r, Bth (tK g N) (tnx g N) p D r → cAf g N a r I I' → Q (.inl none) (pm_hp L fz t I' J)) : pm_Ev (d + 5) 38 [.ref 1, .ref a] (pm_hp L fz t I J) Q := by
  refine e_X3_readThreads ha ?_
  rw [hD.1]
  refine q_b0 (fun b => ?_) (fun b => ?_)
  · refine S_adv (d := d + 1) hg hN hp hG fun I1 g1 f1 => kb_X3_readThreads_17 ha ?_
    refine S_readNumber (d := d) hg hN (nx_le p hp) (lo := 2) (hi := 12) (cG_u g1 (by omega)) (by omega) (fun I2 v k1 v1 v2 g2 f2 => kb_X3_readThreads_30 ha ?_) (fun I2 y n1 b2 f2 => kb_X3_readThreads_30 ha ?_)
    · refine e_X7_useThreads ha (kb_X3_readThreads_33 (hq _ (.inl (uT D v, tnx g N (tnx g N p))) (Or.inr ⟨b, Or.inl ⟨v, k1, v1, v2, rfl⟩⟩) ⟨?_, cG_u (cG_u g2 (by omega)) (by omega), cD_T hD (fun j h1 h2 => ?_) (fun k h1 h2 h3 => ?_) ?_ ?_ ?_⟩))
      · exact lF_u (lF_u (lF_t (lF_u (lF_a f1) (by omega) (by omega) (by omega)) (lF_a f2)) (by omega) (by omega) (by omega)) (by omega) (by omega) (by omega)
      · rw [pm_ua (by omega), pm_ua (by omega), f2.1 _ (by omega), pm_ua (by omega), f1.1 _ (by omega)]
      · rw [pm_uk h3, pm_uk h2, f2.1 a (by omega), pm_uk h1, f1.1 a (by omega)]
      · rw [pm_uk (by omega), pm_uk (by omega), f2.1 a (by omega), pm_us]
      · rw [pm_uk (by omega), pm_us]
      · rw [pm_us]; rfl
    · refine e_X7_useThreads ha (kb_X3_readThreads_33 (hq _ (.inr (y, tnx g N p)) (Or.inr ⟨b, Or.inr ⟨y, n1, rfl⟩⟩) ⟨?_, cBd_u (cBd_u b2 (by omega)) (by omega), ?_⟩))
      · exact lF_u (lF_u (lF_t (lF_u (lF_a f1) (by omega) (by omega) (by omega)) (lF_f f2)) (by omega) (by omega) (by omega)) (by omega) (by omega) (by omega)
      · exact wr1_o (wr1_o (wr1_f (wr1_o (wr1_f (cD_w hD ho) f1.1 (by omega)) (by omega)) f2.1 (by omega)) (by omega)) (by omega)
  · exact S_fail (d := d + 3) hG (by omega) fun I1 b1 f1 => kb_X3_readThreads_12 (hq _ (.inr (5, p)) (Or.inl ⟨b, rfl⟩) ⟨lF_f f1, b1, wr1_f (cD_w hD ho) f1.1 (by omega)⟩)
theorem C_card (hg : ∀ i, g i < 256) (hN : N ≤ 700) (ha : a = 55 ∨ a = 70) (hp : p ≤ N) (hG : cG g N p I) (hD : cD a D I) (ho : okD D) (hq : ∀ I' r, Bca (tK g N) (tnx g N) p D r → cAf g N a r I I' → Q (.inl none) (pm_hp L fz t I' J)) : pm_Ev (d + 5) 39 [.ref 1, .ref a] (pm_hp L fz t I J) Q := by
  have hm := ho.1.2.1
  have e13 : I a 13 = nI (tM (dT D)) := hD.2.1.2.2.1
  refine e_X3_readCard ha ?_
  rw [e13]
  refine q_lt (by omega) (by omega) (fun hM => ?_) (fun hM => ?_)
  · have n1 := nx_le (g := g) p hp
    have n2 := nx_le (g := g) _ n1
    have n3 := nx_le (g := g) _ n2
    refine S_adv (d := d + 1) hg hN hp hG fun I1 g1 f1 => kb_X3_readCard_21 ha ?_
    refine S_readNumber (d := d) hg hN n1 (lo := 0) (hi := 4095) g1 (by omega) (fun I2 v k1 v1 v2 g2 f2 => kb_X3_readCard_34 ha ⟨vp_in_nI (by omega) (by omega), ?_⟩) (fun I2 y w1 b2 f2 => kb_X3_readCard_34 ha ⟨vp_in_nI (by omega) (by omega), ?_⟩)
    · rw [nI_clamp (by omega)]
      refine S_readNumber (d := d) hg hN n2 (lo := 0) (hi := 9) (cG_u g2 (by omega)) (by omega) (fun I3 v' k1' v1' v2' g3 f3 => kb_X3_readCard_47 ha ⟨vp_in_nI (by omega) (by omega), ?_⟩) (fun I3 y w1 b3 f3 => kb_X3_readCard_47 ha ⟨vp_in_nI (by omega) (by omega), ?_⟩)
      · rw [nI_clamp (by omega)]
        refine S_readNumber (d := d) hg hN n3 (lo := 0) (hi := 9) (cG_u g3 (by omega)) (by omega) (fun I4 v'' k1'' v1'' v2'' g4 f4 => kb_X3_readCard_60 ha ⟨vp_in_nI (by omega) (by omega), ?_⟩) (fun I4 y w1 b4 f4 => kb_X3_readCard_60 ha ⟨vp_in_nI (by omega) (by omega), ?_⟩)
        · rw [nI_clamp (by omega)]
          refine hq _ (.inl (uC D v v' v'', _)) (Or.inr ⟨hM, Or.inl ⟨v, k1, v1, v2, Or.inl ⟨v', k1', v1', v2', Or.inl ⟨v'', k1'', v1'', v2'', rfl⟩⟩⟩⟩) ⟨?_, cG_u (cG_u g4 (by omega)) (by omega), cD_C hD (fun j h1 h2 => ?_) (fun k h1 => ?_) ?_ ?_ ?_ ?_⟩
          · exact lF_u (lF_u (lF_t (lF_u (lF_t (lF_u (lF_t (lF_a f1) (lF_a f2)) (by omega) (by omega) (by omega)) (lF_a f3)) (by omega) (by omega) (by omega)) (lF_a f4)) (by omega) (by omega) (by omega)) (by omega) (by omega) (by omega)
          · rw [pm_ua (by omega), pm_ua (by omega), f4.1 _ (by omega), pm_ua (by omega), f3.1 _ (by omega), pm_ua (by omega), f2.1 _ (by omega), f1.1 _ (by omega)]
          · rw [pm_uk h1, pm_ua (by omega), f4.1 _ (by omega), pm_ua (by omega), f3.1 _ (by omega), pm_ua (by omega), f2.1 _ (by omega), f1.1 _ (by omega)]
          · rw [pm_us, f4.1 a (by omega), pm_ua (by omega), f3.1 a (by omega), pm_ua (by omega), f2.1 a (by omega), f1.1 a (by omega), e13, nI_add]
          · rw [pm_ua (by omega), pm_ua (by omega), f4.1 _ (by omega), pm_ua (by omega), f3.1 _ (by omega), pm_fu, f2.1 _ (by omega), f1.1 _ (by omega)]
          · rw [pm_ua (by omega), pm_ua (by omega), f4.1 _ (by omega), pm_fu, f3.1 _ (by omega), pm_ua (by omega), f2.1 _ (by omega), f1.1 _ (by omega)]
          · rw [pm_ua (by omega), pm_fu, f4.1 _ (by omega), pm_ua (by omega), f3.1 _ (by omega), pm_ua (by omega), f2.1 _ (by omega), f1.1 _ (by omega)]
        · rw [nI_clamp (by omega)]
          refine hq _ (.inr (y, _)) (Or.inr ⟨hM, Or.inl ⟨v, k1, v1, v2, Or.inl ⟨v', k1', v1', v2', Or.inr ⟨y, w1, rfl⟩⟩⟩⟩) ⟨?_, cBd_u (cBd_u b4 (by omega)) (by omega), ?_⟩
          · exact lF_u (lF_u (lF_t (lF_u (lF_t (lF_u (lF_t (lF_a f1) (lF_a f2)) (by omega) (by omega) (by omega)) (lF_a f3)) (by omega) (by omega) (by omega)) (lF_f f4)) (by omega) (by omega) (by omega)) (by omega) (by omega) (by omega)
          · exact wr1_o (wr1_u (wr1_f (wr1_o (wr1_f (wr1_o (wr1_f (wr1_f (cD_w hD ho) f1.1 (by omega)) f2.1 (by omega)) (by omega)) f3.1 (by omega)) (by omega)) f4.1 (by omega)) (by omega)) (by omega)
      · rw [nI_clamp (by omega)]
        refine S_readNumberB (d := d + 3) (cBd_u b3 (by omega)) (kb_X3_readCard_60 ha ⟨vp_in_nI (by omega) (by omega), ?_⟩)
        rw [nI_clamp (by omega)]
        refine hq _ (.inr (y, _)) (Or.inr ⟨hM, Or.inl ⟨v, k1, v1, v2, Or.inr ⟨y, w1, rfl⟩⟩⟩) ⟨?_, cBd_u (cBd_u (cBd_u b3 (by omega)) (by omega)) (by omega), ?_⟩
        · exact lF_u (lF_u (lF_u (lF_t (lF_u (lF_t (lF_a f1) (lF_a f2)) (by omega) (by omega) (by omega)) (lF_f f3)) (by omega) (by omega) (by omega)) (by omega) (by omega) (by omega)) (by omega) (by omega) (by omega)
        · exact wr1_o (wr1_u (wr1_o (wr1_f (wr1_o (wr1_f (wr1_f (cD_w hD ho) f1.1 (by omega)) f2.1 (by omega)) (by omega)) f3.1 (by omega)) (by omega)) (by omega)) (by omega)
    · rw [nI_clamp (by omega)]
      refine S_readNumberB (d := d + 3) (cBd_u b2 (by omega)) (kb_X3_readCard_47 ha ⟨vp_in_nI (by omega) (by omega), ?_⟩)
      rw [nI_clamp (by omega)]
      refine S_readNumberB (d := d + 3) (cBd_u (cBd_u b2 (by omega)) (by omega)) (kb_X3_readCard_60 ha ⟨vp_in_nI (by omega) (by omega), ?_⟩)
      rw [nI_clamp (by omega)]
      refine hq _ (.inr (y, _)) (Or.inr ⟨hM, Or.inr ⟨y, w1, rfl⟩⟩) ⟨?_, cBd_u (cBd_u (cBd_u (cBd_u b2 (by omega)) (by omega)) (by omega)) (by omega), ?_⟩
      · exact lF_u (lF_u (lF_u (lF_u (lF_t (lF_a f1) (lF_f f2)) (by omega) (by omega) (by omega)) (by omega) (by omega) (by omega)) (by omega) (by omega) (by omega)) (by omega) (by omega) (by omega)
      · exact wr1_o (wr1_u (wr1_o (wr1_o (wr1_f (wr1_f (cD_w hD ho) f1.1 (by omega)) f2.1 (by omega)) (by omega)) (by omega)) (by omega)) (by omega)
  · exact S_fail (d := d + 3) hG (by omega) fun I1 b1 f1 => kb_X3_readCard_16 (hq _ (.inr (2, p)) (Or.inl ⟨by omega, rfl⟩) ⟨lF_f f1, b1, wr1_f (cD_w hD ho) f1.1 (by omega)⟩)
theorem kd_2 (hp : p ≤ N) : kd (tK g N p) = 2 ↔ isn (tK g N p) := by
  unfold kd isn
  constructor
  · intro h
    split at h
    · exact Or.inr (by assumption)
    · exact Or.inl h
  · intro h
    split
    · rfl
    · omega
theorem C_laced {W : Wk} (hg : ∀ i, g i < 256) (hN : N ≤ 700) (ha : a = 55 ∨ a = 70) (hp : p ≤ N) (hG : cG g N p I) (hD : cD a (uW D W) I) (hm : tM (dT D) ≤ 10) (hw : wp W ≤ 12)
    (h1 : ∀ I', ¬ isn (tK g N p) → cBd g N 1 p I' → fF I I' → Q (.inl none) (pm_hp L fz t I' J))
    (h2 : ∀ I', isn (tK g N p) → (tK g N p = kB ∨ 12 ≤ wp W) → cBd g N 2 p I' → fF I I' → Q (.inl none) (pm_hp L fz t I' J))
    (h3 : ∀ I' v, tK g N p = kN v → wp W < 12 → tM (dT D) ≤ v → cBd g N 3 p I' → fF I I' → Q (.inl none) (pm_hp L fz t I' J))
    (h4 : ∀ I' v, tK g N p = kN v → wp W < 12 → v < tM (dT D) → cG g N (tnx g N p) I' → cD a (uW D (uL W v)) I' → lF a I I' → Q (.inl none) (pm_hp L fz t I' J)) : pm_Ev (d + 4) 41 [.ref 1, .ref a] (pm_hp L fz t I J) Q := by
  refine e_X3_readLaced ha ?_
  have e13 : I a 13 = nI (tM (dT D)) := hD.2.1.2.2.1
  have e14 : I a 14 = nI (wp W) := hD.2.2.1
  obtain ⟨-, -, -, h5, h6, h7⟩ := hG.1
  have hnN := tnx_N (g := g) hp
  have hkd := kd_lt (g := g) hp
  rw [h5]
  refine q_eq (by omega) (by omega) (fun hk => ?_) (fun hk => ?_)
  · have hi := (kd_2 hp).mp hk
    rw [h7 hi]
    rcases tk_25 hp hi with ⟨⟨v, e, hv⟩, hl⟩ | ⟨e, hl⟩
    · refine q_f (fun q => by rw [nI_ltI (by omega) (by omega)] at q; omega) ?_
      rw [e14, h6 v e, e13]
      refine q_lt (by omega) (by omega) (fun c => q_lt (by omega) (by omega) (fun c2 => ⟨vp_in_nI (by omega) (by omega), ?_⟩) (fun c2 => ?_)) (fun c => ?_)
      · rw [nI_clamp (by omega), nI_add]
        refine S_adv (d := d) hg hN hp (cG_u (cG_u hG (by omega)) (by omega)) fun I1 g1 f1 => kb_X3_readLaced_87 (h4 _ v e c c2 g1 (cD_1 ha (cD_L hD (fun j _ _ _ => ?_) (fun k _ => ?_) ?_ ?_) f1.1) ?_)
        · rw [pm_ua (by omega), pm_ua (by omega)]
        · rw [pm_uk (by assumption), pm_ua (by omega)]
        · rw [pm_us]
        · rw [pm_ua (by omega), pm_fu]
        · exact lF_t (lF_u (lF_u lF_r (by omega) (by omega) (by omega)) (by omega) (by omega) (by omega)) (lF_a f1)
      · exact S_fail (d := d + 2) hG (by omega) fun I1 b1 f1 => kb_X3_readLaced_57 (b_X3_readLaced_87 (h3 _ v e c c2 b1 f1))
      · exact S_fail (d := d + 2) hG (by omega) fun I1 b1 f1 => kb_X3_readLaced_38 (b_X3_readLaced_87 (h2 _ hi (Or.inr c) b1 f1))
    · exact q_t (nI_lt (by omega) (by omega)) (S_fail (d := d + 2) hG (by omega) fun I1 b1 f1 => kb_X3_readLaced_38 (b_X3_readLaced_87 (h2 _ hi (Or.inl e) b1 f1)))
  · exact S_fail (d := d + 2) hG (by omega) fun I1 b1 f1 => kb_X3_readLaced_13 (b_X3_readLaced_87 (h1 _ (fun q => hk ((kd_2 hp).mpr q)) b1 f1))
theorem C_lace (hg : ∀ i, g i < 256) (hN : N ≤ 700) (ha : a = 55 ∨ a = 70) (hp : p ≤ N) (hG : cG g N p I) (hD : cD a D I) (ho : okD D) (hq : ∀ I' r, Bla (tK g N) (tnx g N) p D r → cAf g N a r I I' → Q (.inl none) (pm_hp L fz t I' J)) : pm_Ev (d + 5) 40 [.ref 1, .ref a] (pm_hp L fz t I J) Q := by
  have hm := ho.1.2.1
  have e14 : I a 14 = nI (wp (dW D)) := hD.2.2.1
  have h12 := ho.2.2.2.1
  refine e_X3_readLace ha ?_
  rw [e14]
  refine q_le (by omega) (by omega) (fun h0 => ?_) (fun h0 => ?_)
  · refine S_adv (d := d + 1) hg hN hp hG fun I1 g1 f1 => kb_X3_readLace_17 ha ?_
    have c1 : cD a (uW D (dW D)) I1 := cD_1 ha hD f1.1
    have bx : ∀ i I1 y q, cBd g N y q I1 → Q (.inl none) (pm_hp L fz t I1 J) → t_X3_readLace_24 (d + 4) L fz t Q a (nI i) I1 J := fun i I1 y q hb hQ => b_X3_readLace_24 ha ⟨fun _ => hQ, fun _ => q_t' (bd_ne hb) hQ⟩
    have key : ∀ f i p1 W I1 (K' : pm_R → pm_H → Prop), wp W ≤ 12 → wp W + f = 13 → i ≤ 13 → i + f ≤ 13 → p1 ≤ N → cG g N p1 I1 → cD a (uW D W) I1 → wr1 (a + 3) I1 → lF a I I1 → (∀ r, Lc (tK g N) (tnx g N) (tM (dT D)) (fun W p r => r = .inl (uW D W, p)) f p1 W r → Bla (tK g N) (tnx g N) p D r) → (∀ I2, t_X3_readLace_24 (d + 4) L fz t Q a (nI i) I2 J → K' (.inl none) (pm_hp L fz t I2 J)) → pm_Ev (d + 4) 41 [.ref 1, .ref a] (pm_hp L fz t I1 J) K' := by
      intro f
      induction f with
      | zero =>
        intro i p1 W I1 K' hw12 hf
        omega
      | succ f ih =>
        intro i p1 W I1 K' hw12 hf hi hif hp1 g1 c1 w1 l1 hr hK
        have n1 := nx_le (g := g) p1 hp1
        refine C_laced hg hN ha hp1 g1 c1 hm (by omega) (fun I2 k1 b2 f2 => hK I2 (bx i I2 _ _ b2 ?_)) (fun I2 k1 k2 b2 f2 => hK I2 (bx i I2 _ _ b2 ?_)) (fun I2 v k1 k2 k3 b2 f2 => hK I2 (bx i I2 _ _ b2 ?_)) (fun I2 v k1 k2 k3 g2 c2 l2 => hK I2 ?_)
        · exact hq I2 _ (hr (.inr (1, p1)) (Or.inl ⟨k1, rfl⟩)) ⟨lF_t l1 (lF_f f2), b2, wr1_f w1 f2.1 (by omega)⟩
        · exact hq I2 _ (hr (.inr (2, p1)) (Or.inr (Or.inl ⟨k1, k2, rfl⟩))) ⟨lF_t l1 (lF_f f2), b2, wr1_f w1 f2.1 (by omega)⟩
        · exact hq I2 _ (hr (.inr (3, p1)) (Or.inr (Or.inr (Or.inl ⟨v, k1, k2, k3, rfl⟩)))) ⟨lF_t l1 (lF_f f2), b2, wr1_f w1 f2.1 (by omega)⟩
        · have hkd := kd_lt (g := g) n1
          have w2 : wr1 (a + 3) I2 := fun c hc => by
            obtain ⟨w, hw, e⟩ := w1 c hc
            exact ⟨w, hw, (c2.2.2.2.2.1 c hc).trans ((c1.2.2.2.2.1 c hc).symm.trans e)⟩
          refine b_X3_readLace_24 ha (q_f (nI_ge (by omega) (by omega)) ?_)
          rw [g2.2, g2.1.2.2.2.1]
          refine q_f' rfl (q_ne (by omega) (by omega) (fun hk => ?_) (fun hk => ?_))
          · exact hq I2 _ (hr (.inl (uW D (uL W v), tnx g N p1)) (Or.inr (Or.inr (Or.inr ⟨v, k1, k2, k3, Or.inl ⟨fun q => hk ((kd_2 n1).mpr q), rfl⟩⟩)))) ⟨lF_t l1 l2, g2, c2⟩
          · refine ih (i + 1) (tnx g N p1) (uL W v) I2 _ (show wp W + 1 ≤ 12 by omega) (show wp W + 1 + f = 13 by omega) (by omega) (by omega) n1 g2 c2 w2 (lF_t l1 l2) (fun r hl => hr r (Or.inr (Or.inr (Or.inr ⟨v, k1, k2, k3, Or.inr ⟨(kd_2 n1).mp hk, hl⟩⟩)))) (fun I3 h3 => kb_X3_readLace_51 ha ?_)
            rw [nI_add]; exact h3
    exact key 13 0 _ (dW D) I1 _ h12 (by omega) (by omega) (by omega) (nx_le p hp) g1 c1 (wr1_f (cD_w hD ho) f1.1 (by omega)) (lF_a f1) (fun r hl => Or.inr ⟨by omega, hl⟩) (fun I2 h2 => kb_X3_readLace_22 ha h2)
  · exact S_fail (d := d + 3) hG (by omega) fun I1 b1 f1 => kb_X3_readLace_12 (hq _ (.inr (5, p)) (Or.inl ⟨by omega, rfl⟩) ⟨lF_f f1, b1, wr1_f (cD_w hD ho) f1.1 (by omega)⟩)
end Spec
