/-! the reference reads lines: cards, laces, figures, whole lines -/
section Spec
variable {d L : Nat} {fz t : Bool} {Q : pm_R → pm_H → Prop} {I : Nat → Nat → Int32} {J : Nat → Nat → Int64} {g : Nat → Nat} {N p : Nat} {D : Dr} {C : List Nat} {r : Lr}
theorem M_card (hg : ∀ i, g i < 256) (hN : N ≤ 700) (hp : p ≤ N) (hG : mG g N p I J) (hD : mD D C I) (ho : okD D) (hC : C.length ≤ 2 * p) (hk : tK g N p ≠ kE) (hB : Bca (tK g N) (tnx g N) p D r) (hq : ∀ I' J', mAf g N r I I' J' → gJ J J' → Q (.inl none) (pm_hp L fz t I' J')) : pm_Ev (d + 4) 150 [.ref 85] (pm_hp L fz t I J) Q := by
  have hm := ho.1.2.1
  have e27 : I 85 27 = nI (tM (dT D)) := hD.2.1.1
  refine e_X11_readsCard ?_
  rw [e27]
  rcases hB with ⟨hM, rfl⟩ | ⟨hM, hB⟩
  · rw [hM]
    exact q_f' rfl (S_wrong (d := d + 2) hG (by omega) fun m1 m2 => kb_X11_readsCard_14 (S_goodB (d := d + 2) m1 (kb_X11_readsCard_18 (q_f' rfl (hq _ _ ⟨nF_w m2, m1⟩ (fun _ _ => rfl))))))
  · have p0 := nx_lt p hk
    have n1 := nx_le (g := g) p hp
    have n2 := nx_le (g := g) _ n1
    have n3 := nx_le (g := g) _ n2
    refine q_t' (fun q => by rw [nI_eq (by omega) (by omega)] at q; omega) (b_X11_readsCard_14 (S_good (d := d + 2) hG.2 (kb_X11_readsCard_18 (q_t' nI_01 (S_goesI (d := d + 1) hg hN hp hG fun I1 J1 g1 f1 j1 => kb_X11_readsCard_26 ?_)))))
    have a1 : I1 85 27 = nI (tM (dT D)) := (f1.2 27 (by omega)).trans e27
    rw [a1, nI_add]
    rcases hB with ⟨v, k1, v1, v2, hB⟩ | ⟨y, w1, rfl⟩
    · have p1 := nx_lt _ (kN_nE k1)
      refine S_numT (d := d) hg hN n1 g1 (by omega) k1 v1 v2 fun I2 J2 g2 f2 j2 => kb_X11_readsCard_44 ⟨vp_in_nI (by omega) (by omega), ?_⟩
      have a2 : I2 85 27 = nI (tM (dT D)) := (f2.2 27 (by omega)).trans a1
      rw [nI_clamp (by omega), a2]
      rcases hB with ⟨v', k2, v1', v2', hB⟩ | ⟨y, w1, rfl⟩
      · have p2 := nx_lt _ (kN_nE k2)
        refine S_numT (d := d) hg hN n2 (mG_u g2 (by omega) (by omega)) (by omega) k2 v1' v2' fun I3 J3 g3 f3 j3 => kb_X11_readsCard_60 ⟨vp_in_nI (by omega) (by omega), ?_⟩
        have a3 : I3 85 27 = nI (tM (dT D)) := by rw [f3.2 27 (by omega), pm_ua (by omega)]; exact a2
        rw [nI_clamp (by omega), a3, nI_add]
        rcases hB with ⟨v'', k3, v1'', v2'', rfl⟩ | ⟨y, w1, rfl⟩
        · have p3 := nx_lt _ (kN_nE k3)
          refine S_numT (d := d) hg hN n3 (mG_u g3 (by omega) (by omega)) (by omega) k3 v1'' v2'' fun I4 J4 g4 f4 j4 => kb_X11_readsCard_79 ⟨vp_in_nI (by omega) (by omega), ?_⟩
          have a4 : I4 85 27 = nI (tM (dT D)) := by rw [f4.2 27 (by omega), pm_ua (by omega)]; exact a3
          rw [nI_clamp (by omega)]
          refine S_good (d := d + 2) (by rw [pm_ua (by omega)]; exact g4.2) (kb_X11_readsCard_84 (q_f nI_01 (hq _ J4 ⟨?_, mG_k (mG_u g4 (by omega) (by omega)) (by omega), C, by omega, mD_C hD hM (fun k h1 h2 h3 => ?_) ?_ (fun b h1 h2 h3 => ?_) ?_ ?_⟩ (gJ_t (gJ_t (gJ_t j1 j2) j3) j4))))
          · exact nF_u (nF_c (nF_t (nF_c (nF_t (nF_c (nF_t (nF_g f1) (nF_g f2)) (by omega)) (nF_g f3)) (by omega)) (nF_g f4)) (by omega)) (by omega)
          · rw [pm_uk h3, pm_ua (by omega), f4.2 k (by omega), pm_ua (by omega), f3.2 k (by omega), pm_ua (by omega), f2.2 k (by omega), f1.2 k (by omega)]
          · rw [pm_us, pm_ua (by omega), a4, nI_add]
          · rw [pm_ua (by omega), pm_ua (by omega), f4.1 b (by omega), pm_ua (by omega), f3.1 b (by omega), pm_ua (by omega), f2.1 b (by omega), f1.1 b (by omega)]
          · rw [pm_ua (by omega), pm_ua (by omega), f4.1 94 (by omega), pm_fu, f3.1 94 (by omega), pm_ua (by omega), f2.1 94 (by omega), f1.1 94 (by omega)]
          · rw [pm_ua (by omega), pm_fu, f4.1 99 (by omega), pm_ua (by omega), f3.1 99 (by omega), pm_fu, f2.1 99 (by omega), f1.1 99 (by omega)]
        · refine S_numF (d := d) hg hN n3 (mG_u g3 (by omega) (by omega)) (by omega) w1 fun I4 x b4 f4 => kb_X11_readsCard_79 ⟨vp_in_nI (by omega) (by omega), S_goodB (d := d + 2) (mBd_u b4 (by omega)) (kb_X11_readsCard_84 (q_t rfl (hq _ J3 ⟨?_, mBd_u b4 (by omega)⟩ (gJ_t (gJ_t j1 j2) j3))))⟩
          exact nF_c (nF_t (nF_c (nF_t (nF_c (nF_t (nF_g f1) (nF_g f2)) (by omega)) (nF_g f3)) (by omega)) (nF_w f4)) (by omega)
      · refine S_numF (d := d) hg hN n2 (mG_u g2 (by omega) (by omega)) (by omega) w1 fun I3 x b3 f3 => kb_X11_readsCard_60 ⟨vp_in_nI (by omega) (by omega), ?_⟩
        have a3 : I3 85 27 = nI (tM (dT D)) := by rw [f3.2 27 (by omega), pm_ua (by omega)]; exact a2
        rw [a3, nI_add]
        refine S_numberB (d := d + 1) (mBd_u b3 (by omega)) (kb_X11_readsCard_79 ⟨vp_in_nI (by omega) (by omega), S_goodB (d := d + 2) (mBd_u (mBd_u b3 (by omega)) (by omega)) (kb_X11_readsCard_84 (q_t rfl (hq _ J2 ⟨?_, mBd_u (mBd_u b3 (by omega)) (by omega)⟩ (gJ_t j1 j2))))⟩)
        exact nF_c (nF_c (nF_t (nF_c (nF_t (nF_g f1) (nF_g f2)) (by omega)) (nF_w f3)) (by omega)) (by omega)
    · refine S_numF (d := d) hg hN n1 g1 (by omega) w1 fun I2 x b2 f2 => kb_X11_readsCard_44 ⟨vp_in_nI (by omega) (by omega), ?_⟩
      have a2 : I2 85 27 = nI (tM (dT D)) := (f2.2 27 (by omega)).trans a1
      rw [a2]
      refine S_numberB (d := d + 1) (mBd_u b2 (by omega)) (kb_X11_readsCard_60 ⟨vp_in_nI (by omega) (by omega), ?_⟩)
      rw [pm_ua (by omega), a2, nI_add]
      refine S_numberB (d := d + 1) (mBd_u (mBd_u b2 (by omega)) (by omega)) (kb_X11_readsCard_79 ⟨vp_in_nI (by omega) (by omega), S_goodB (d := d + 2) (mBd_u (mBd_u (mBd_u b2 (by omega)) (by omega)) (by omega)) (kb_X11_readsCard_84 (q_t rfl (hq _ J1 ⟨?_, mBd_u (mBd_u (mBd_u b2 (by omega)) (by omega)) (by omega)⟩ j1)))⟩)
      exact nF_c (nF_c (nF_c (nF_t (nF_g f1) (nF_w f2)) (by omega)) (by omega)) (by omega)
theorem sr_2 (hp : p ≤ N) (h : mG g N p I J) : I 85 20 = nI 2 ↔ isn (tK g N p) := by
  have hs := srt_lt (g := g) hp
  rw [h.1.2.2.1, nI_eq (by omega) (by omega)]
  exact srt_2 hp
theorem M_lace (hg : ∀ i, g i < 256) (hN : N ≤ 700) (hp : p ≤ N) (hG : mG g N p I J) (hD : mD D C I) (ho : okD D) (hC : C.length ≤ 2 * p) (hk : tK g N p ≠ kE) (hB : Bla (tK g N) (tnx g N) p D r) (hq : ∀ I' J', mAf g N r I I' J' → gJ J J' → Q (.inl none) (pm_hp L fz t I' J')) : pm_Ev (d + 4) 151 [.ref 85] (pm_hp L fz t I J) Q := by
  have hm := ho.1.2.1
  have h12 := ho.2.2.2.1
  have e28 : I 85 28 = nI (wp (dW D)) := hD.2.1.2.1
  refine e_X11_readsLace ?_
  rw [e28]
  rcases hB with ⟨hM, rfl⟩ | ⟨hM, hB⟩
  · exact q_f (fun q => by rw [nI_leI (by omega) (by omega)] at q; omega) (S_wrong (d := d + 2) hG (by omega) fun m1 m2 => kb_X11_readsLace_12 (S_goodB (d := d + 2) m1 (kb_X11_readsLace_16 (q_f' rfl (hq _ _ ⟨nF_w m2, m1⟩ (fun _ _ => rfl))))))
  · have p0 := nx_lt p hk
    have n1 := nx_le (g := g) p hp
    refine q_t (nI_le (by omega) (by omega)) (b_X11_readsLace_12 (S_good (d := d + 2) hG.2 (kb_X11_readsLace_16 (q_t' nI_01 (S_goesI (d := d + 1) hg hN hp hG fun I1 J1 g1 f1 j1 => kb_X11_readsLace_24 ?_)))))
    suffices H : ∀ f p1 W I1 J1, Lc (tK g N) (tnx g N) (tM (dT D)) (fun W p r => r = .inl (uW D W, p)) f p1 W r → wp W ≤ 12 → p1 ≤ N → C.length ≤ 2 * p1 → mG g N p1 I1 J1 → mD (uW D W) C I1 → nF I I1 → gJ J J1 → t_X11_readsLace_26 (d + 3) L fz t Q (nI 1) I1 J1 from H 13 _ (dW D) I1 J1 hB h12 n1 (by omega) g1 (mD_g hD f1) (nF_g f1) j1
    intro f
    induction f with
    | zero => intro p1 W I1 J1 h; exact absurd h id
    | succ f ih =>
      intro p1 W I1 J1 hL hW hp1 hC1 g1 c1 l1 j1
      have e27 : I1 85 27 = nI (tM (dT D)) := c1.2.1.1
      have e28 : I1 85 28 = nI (wp W) := c1.2.1.2.1
      have s2 := sr_2 hp1 g1
      have bad : ∀ y, abad (tM (dT D)) (tK g N p1) y → r = .inr (y, p1) → t_X11_readsLace_59 (d + 3) L fz t Q I1 J1 := by
        intro y ha hr
        subst hr
        refine b_X11_readsLace_59 ?_
        rw [e27]
        exact S_amoF (d := d) hg hN hp1 g1 (by omega) ha fun I2 x b2 f2 => kb_X11_readsLace_67 (S_goodB (d := d + 2) b2 (kb_X11_readsLace_72 (q_f' rfl (hq _ _ ⟨nF_t l1 (nF_w f2), b2⟩ j1))))
      refine b_X11_readsLace_26 (q_f nI_01 (S_good (d := d + 2) g1.2 (kb_X11_readsLace_34 (q_f nI_01 ?_))))
      rw [e28]
      rcases hL with ⟨k1, hr⟩ | ⟨k1, k2, hr⟩ | ⟨v, k1, k2, k3, hr⟩ | ⟨v, k1, k2, k3, hr⟩
      · have := bad 1 (Or.inl ⟨fun q => k1 (Or.inl q), fun q => k1 (Or.inr q), rfl⟩) hr
        exact ⟨fun _ => this, fun _ => q_t' (fun q => k1 (s2.mp q)) this⟩
      · refine q_ne (by omega) (by omega) (fun c => ?_) (fun c => q_f' (s2.mpr k1) ?_)
        · rcases k2 with k2 | k2
          · exact bad 2 (Or.inr (Or.inl ⟨k2, rfl⟩)) hr
          · omega
        · subst hr
          exact S_wrong (d := d + 2) g1 (by omega) fun m1 m2 => kb_X11_readsLace_59 (S_amongB (d := d + 1) m1 (kb_X11_readsLace_67 (S_goodB (d := d + 2) m1 (kb_X11_readsLace_72 (q_f' rfl (hq _ _ ⟨nF_t l1 (nF_w m2), m1⟩ j1))))))
      · exact q_t' (fun q => by rw [nI_eq (by omega) (by omega)] at q; omega) (bad 3 (Or.inr (Or.inr ⟨v, k1, k3, rfl⟩)) hr)
      · refine q_t' (fun q => by rw [nI_eq (by omega) (by omega)] at q; omega) (b_X11_readsLace_59 ?_)
        rw [e27]
        have p2 := nx_lt _ (kN_nE k1)
        have n2 := nx_le (g := g) p1 hp1
        refine S_amoT (d := d) hg hN hp1 g1 (by omega) k1 k3 fun I2 J2 g2 f2 j2 => kb_X11_readsLace_67 (S_good (d := d + 2) g2.2 (kb_X11_readsLace_72 (q_t' nI_01 ?_)))
        have a28 : I2 85 28 = nI (wp W) := (f2.2 28 (by omega)).trans e28
        have s3 := sr_2 n2 g2
        rw [a28, nI_add, nI_add, nI_clamp (by omega)]
        have c2 : mD (uW D (uL W v)) C (pm_u (pm_u I2 99 (22 + wp W) (nI v)) 85 28 (nI (wp W + 1))) := mD_L (mD_g c1 f2) hm k2 (fun k h1 h2 h3 => by rw [pm_uk h3, pm_ua (by omega)]) pm_us (fun b h1 h2 h3 => by rw [pm_ua (by omega), pm_ua h3]) (by rw [pm_ua (by omega), pm_fu])
        have g3 : mG g N (tnx g N p1) (pm_u (pm_u I2 99 (22 + wp W) (nI v)) 85 28 (nI (wp W + 1))) J2 := mG_k (mG_u g2 (by omega) (by omega)) (by omega)
        have l3 : nF I (pm_u (pm_u I2 99 (22 + wp W) (nI v)) 85 28 (nI (wp W + 1))) := nF_u (nF_c (nF_t l1 (nF_g f2)) (by omega)) (by omega)
        refine ⟨vp_in_nI (by omega) (by omega), fun q => ?_, fun q => ?_⟩
        · rcases hr with ⟨_, hr⟩ | ⟨k4, _⟩
          · subst hr
            exact b_X11_readsLace_26 (q_t rfl (hq _ _ ⟨l3, g3, C, by omega, c2⟩ (gJ_t j1 j2)))
          · exact absurd (s3.mpr k4) q
        · rcases hr with ⟨k4, _⟩ | ⟨_, hr⟩
          · exact absurd (s3.mp q) k4
          · exact ih _ (uL W v) _ J2 hr k2 n2 (by omega) g3 c2 l3 (gJ_t j1 j2)
end Spec
