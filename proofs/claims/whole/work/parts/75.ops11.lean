section Ops
variable {A : St}
section Spec
variable {d L : Nat} {fz t : Bool} {Q : pm_R → pm_H → Prop} {I I0 : Nat → Nat → Int32} {J : Nat → Nat → Int64}
theorem S_add {m p u n : Nat} {b : Bool} {S : Nat → Se} (hN : cN 45 m S I) (hm : m < 8) (h20 : ∀ i, i < m → (S i).2.2.1 ≤ 20) (hn : n ≤ 20) (hq : ∀ I', fr [45, 46, 47, 48, 49] I I' → cN 45 (m + 1) (fun i => if i = m then (p, u, n, b) else S i) I' → Q (.inl none) (pm_hp L fz t I' J)) : pm_Ev (d + 1) 53 [.ref 45, .int (nI p), .int (nI u), .int (nI n), .int (bz b)] (pm_hp L fz t I J) Q := by
  obtain ⟨e4, C, h1, h2, h3⟩ := hN
  have c20 : ∀ i, i < m → (C i).2.2.1 ≤ 20 := fun i hi => by
    obtain ⟨j, hj, e⟩ := h2 i hi
    rw [← e]; exact h20 j hj
  -- laid at x
  have lay : ∀ (x : Nat) (I' : Nat → Nat → Int32), x ≤ m → fr [46, 47, 48, 49] I I' → (∀ k, k < x → I' 46 k = nI (C k).1 ∧ I' 47 k = nI (C k).2.1 ∧ I' 48 k = nI (C k).2.2.1 ∧ I' 49 k = bz (C k).2.2.2) → (∀ k, x < k → k ≤ m → I' 46 k = nI (C (k - 1)).1 ∧ I' 47 k = nI (C (k - 1)).2.1 ∧ I' 48 k = nI (C (k - 1)).2.2.1 ∧ I' 49 k = bz (C (k - 1)).2.2.2) → Q (.inl none) (pm_hp L fz t (pm_u (pm_u (pm_u (pm_u (pm_u I' 46 x (nI p)) 47 x (nI u)) 48 x (nI n)) 49 x (vp_nar .boolean (bz b))) 45 4 (nI (m + 1))) J) := by
    intro x I' hx hf lo hi
    refine hq _ (fr_u (by simp) (fr_u (by simp) (fr_u (by simp) (fr_u (by simp) (fr_u (by simp) (fr_m hf (by simp <;> omega))))))) ⟨by rw [pm_us], fun k => if k < x then C k else if k = x then (p, u, n, b) else C (k - 1), fun i hi' => ?_, fun i hi' => ?_, fun k hk => ?_⟩
    · show ∃ j, j < m + 1 ∧ (if j < x then C j else if j = x then (p, u, n, b) else C (j - 1)) = if i = m then (p, u, n, b) else S i
      by_cases z : i = m
      · exact ⟨x, by omega, by rw [if_neg (by omega), if_pos rfl, if_pos z]⟩
      · obtain ⟨j, hj, e⟩ := h1 i (by omega)
        by_cases w : j < x
        · exact ⟨j, by omega, by rw [if_pos w, if_neg z]; exact e⟩
        · exact ⟨j + 1, by omega, by rw [if_neg (by omega), if_neg (by omega), if_neg z, show j + 1 - 1 = j by omega]; exact e⟩
    · show ∃ j, j < m + 1 ∧ (if j = m then (p, u, n, b) else S j) = if i < x then C i else if i = x then (p, u, n, b) else C (i - 1)
      by_cases w : i < x
      · obtain ⟨j, hj, e⟩ := h2 i (by omega)
        exact ⟨j, by omega, by rw [if_neg (by omega), if_pos w]; exact e⟩
      · by_cases z : i = x
        · exact ⟨m, by omega, by rw [if_pos rfl, if_neg w, if_pos z]⟩
        · obtain ⟨j, hj, e⟩ := h2 (i - 1) (by omega)
          exact ⟨j, by omega, by rw [if_neg (by omega), if_neg w, if_neg z]; exact e⟩
    · have g46 : pm_u (pm_u (pm_u (pm_u (pm_u I' 46 x (nI p)) 47 x (nI u)) 48 x (nI n)) 49 x (vp_nar .boolean (bz b))) 45 4 (nI (m + 1)) 46 k = pm_u I' 46 x (nI p) 46 k := by rw [pm_ua (by decide), pm_ua (by decide), pm_ua (by decide), pm_ua (by decide)]
      have g47 : pm_u (pm_u (pm_u (pm_u (pm_u I' 46 x (nI p)) 47 x (nI u)) 48 x (nI n)) 49 x (vp_nar .boolean (bz b))) 45 4 (nI (m + 1)) 47 k = pm_u I' 47 x (nI u) 47 k := by
        rw [pm_ua (by decide), pm_ua (by decide), pm_ua (by decide)]
        by_cases z : k = x
        · rw [z, pm_us, pm_us]
        · rw [pm_uk z, pm_uk z, pm_ua (by decide)]
      have g48 : pm_u (pm_u (pm_u (pm_u (pm_u I' 46 x (nI p)) 47 x (nI u)) 48 x (nI n)) 49 x (vp_nar .boolean (bz b))) 45 4 (nI (m + 1)) 48 k = pm_u I' 48 x (nI n) 48 k := by
        rw [pm_ua (by decide), pm_ua (by decide)]
        by_cases z : k = x
        · rw [z, pm_us, pm_us]
        · rw [pm_uk z, pm_uk z, pm_ua (by decide), pm_ua (by decide)]
      have g49 : pm_u (pm_u (pm_u (pm_u (pm_u I' 46 x (nI p)) 47 x (nI u)) 48 x (nI n)) 49 x (vp_nar .boolean (bz b))) 45 4 (nI (m + 1)) 49 k = pm_u I' 49 x (bz b) 49 k := by
        rw [pm_ua (by decide)]
        by_cases z : k = x
        · rw [z, pm_us, pm_us, nar_b]
        · rw [pm_uk z, pm_uk z, pm_ua (by decide), pm_ua (by decide), pm_ua (by decide)]
      show pm_u _ 45 4 _ 46 k = nI (if k < x then C k else if k = x then (p, u, n, b) else C (k - 1)).1 ∧ pm_u _ 45 4 _ 47 k = nI (if k < x then C k else if k = x then (p, u, n, b) else C (k - 1)).2.1 ∧ pm_u _ 45 4 _ 48 k = nI (if k < x then C k else if k = x then (p, u, n, b) else C (k - 1)).2.2.1 ∧ pm_u _ 45 4 _ 49 k = bz (if k < x then C k else if k = x then (p, u, n, b) else C (k - 1)).2.2.2
      rw [g46, g47, g48, g49]
      by_cases z : k = x
      · rw [if_neg (by omega), if_pos z, z, pm_us, pm_us, pm_us, pm_us]
        exact ⟨rfl, rfl, rfl, rfl⟩
      · rw [pm_uk z, pm_uk z, pm_uk z, pm_uk z]
        by_cases w : k < x
        · rw [if_pos w]; exact lo k w
        · rw [if_neg w, if_neg z]; exact hi k (by omega) (by omega)
  have loop : ∀ (x : Nat) (I' : Nat → Nat → Int32), x ≤ m → fr [46, 47, 48, 49] I I' → (∀ k, k < x → I' 46 k = nI (C k).1 ∧ I' 47 k = nI (C k).2.1 ∧ I' 48 k = nI (C k).2.2.1 ∧ I' 49 k = bz (C k).2.2.2) → (∀ k, x < k → k ≤ m → I' 46 k = nI (C (k - 1)).1 ∧ I' 47 k = nI (C (k - 1)).2.1 ∧ I' 48 k = nI (C (k - 1)).2.2.1 ∧ I' 49 k = bz (C (k - 1)).2.2.2) → t_X4_add_16 d L fz t Q 45 (nI p) (nI u) (nI n) (bz b) (nI x) I' J := by
    intro x
    induction x with
    | zero =>
      intro I' hx hf lo hi
      refine b_X4_add_16 (Or.inl rfl) (q_t (nI_le (by omega) (by omega)) ?_)
      have v : vp_in (nI 0) 8 := vp_in_nI (by omega) (by omega)
      rw [hf 45 (by decide), e4, nI_add]
      exact ⟨v, v, v, v, lay 0 I' hx hf lo hi⟩
    | succ x ih =>
      intro I' hx hf lo hi
      have v : vp_in (nI (x + 1)) 8 := vp_in_nI (by omega) (by omega)
      have v' : vp_in (nI x) 8 := vp_in_nI (by omega) (by omega)
      obtain ⟨g1, g2, g3, g4⟩ := lo x (by omega)
      have cx := c20 x (by omega)
      refine b_X4_add_16 (Or.inl rfl) (q_f (nI_ge (by omega) (by omega)) ?_)
      rw [pk_sub (by omega), show x + 1 - 1 = x by omega, hf 45 (by decide), e4, nI_add, nI_clamp (by omega), nI_clamp (by omega)]
      change vp_in (nI x) 8 ∧ (I' 48 x ≤ nI n → _) ∧ (¬ I' 48 x ≤ nI n → _)
      rw [g3]
      refine ⟨v', q_le (by omega) (by omega) (fun z => ⟨v, v, v, v, lay (x + 1) I' hx hf lo hi⟩) (fun z => ⟨v', v, v', v, v', v, v', v, ?_⟩)⟩
      rw [pk_m1]
      change t_X4_add_16 d L fz t Q 45 (nI p) (nI u) (nI n) (bz b) (nI x) (pm_u (pm_u (pm_u (pm_u I' 46 (x + 1) (I' 46 x)) 47 (x + 1) (I' 47 x)) 48 (x + 1) (nI (C x).2.2.1)) 49 (x + 1) (vp_nar .boolean (I' 49 x))) J
      have c46 : ∀ k, pm_u (pm_u (pm_u (pm_u I' 46 (x + 1) (I' 46 x)) 47 (x + 1) (I' 47 x)) 48 (x + 1) (nI (C x).2.2.1)) 49 (x + 1) (vp_nar .boolean (I' 49 x)) 46 k = if k = x + 1 then I' 46 x else I' 46 k := fun k => by
        rw [pm_ua (by decide), pm_ua (by decide), pm_ua (by decide)]
        by_cases y : k = x + 1
        · rw [y, pm_us, if_pos rfl]
        · rw [pm_uk y, if_neg y]
      have c47 : ∀ k, pm_u (pm_u (pm_u (pm_u I' 46 (x + 1) (I' 46 x)) 47 (x + 1) (I' 47 x)) 48 (x + 1) (nI (C x).2.2.1)) 49 (x + 1) (vp_nar .boolean (I' 49 x)) 47 k = if k = x + 1 then I' 47 x else I' 47 k := fun k => by
        rw [pm_ua (by decide), pm_ua (by decide)]
        by_cases y : k = x + 1
        · rw [y, pm_us, if_pos rfl]
        · rw [pm_uk y, if_neg y, pm_ua (by decide)]
      have c48 : ∀ k, pm_u (pm_u (pm_u (pm_u I' 46 (x + 1) (I' 46 x)) 47 (x + 1) (I' 47 x)) 48 (x + 1) (nI (C x).2.2.1)) 49 (x + 1) (vp_nar .boolean (I' 49 x)) 48 k = if k = x + 1 then nI (C x).2.2.1 else I' 48 k := fun k => by
        rw [pm_ua (by decide)]
        by_cases y : k = x + 1
        · rw [y, pm_us, if_pos rfl]
        · rw [pm_uk y, if_neg y, pm_ua (by decide), pm_ua (by decide)]
      have c49 : ∀ k, pm_u (pm_u (pm_u (pm_u I' 46 (x + 1) (I' 46 x)) 47 (x + 1) (I' 47 x)) 48 (x + 1) (nI (C x).2.2.1)) 49 (x + 1) (vp_nar .boolean (I' 49 x)) 49 k = if k = x + 1 then bz (C x).2.2.2 else I' 49 k := fun k => by
        by_cases y : k = x + 1
        · rw [y, pm_us, if_pos rfl, g4, nar_b]
        · rw [pm_uk y, if_neg y, pm_ua (by decide), pm_ua (by decide), pm_ua (by decide)]
      refine ih _ (by omega) (fr_u (by simp) (fr_u (by simp) (fr_u (by simp) (fr_u (by simp) hf)))) (fun k hk => ?_) (fun k a b' => ?_)
      · rw [c46, c47, c48, c49, if_neg (by omega), if_neg (by omega), if_neg (by omega), if_neg (by omega)]
        exact lo k (by omega)
      · rw [c46, c47, c48, c49]
        by_cases y : k = x + 1
        · rw [if_pos y, if_pos y, if_pos y, if_pos y, y, show x + 1 - 1 = x by omega]
          exact ⟨g1, g2, rfl, rfl⟩
        · rw [if_neg y, if_neg y, if_neg y, if_neg y]
          exact hi k (by omega) b'
  refine e_X4_add (Or.inl rfl) ?_
  rw [e4]
  exact q_t (nI_lt (by omega) (by omega)) (loop m I (Nat.le_refl _) fr_r (fun k hk => h3 k hk) (fun k a b => absurd b (by omega)))
end Spec
def sSe (A : St) (s : Se) : St := (sT A, sW A, (sNA A, sA A), (sNS A + 1, fun i => if i = sNS A then s else sS A i), sI A, sB A, sF A, sR A)
theorem op_see (ho : ok A) (x y z : Int32) (b : Bool) : opx 266 209 [.int x, .int y, .int z, .int (bz b)] A 1 := by
  have hn := ho.1.1
  have h12 := ho.2.1.2.2.2
  obtain ⟨h8, hs⟩ := ho.2.2.2.1
  cases h1 : inR x (wp (sW A)) with
  | true =>
    obtain ⟨k, hk', rfl⟩ := inR_t (by omega) h1
    cases h2 : inR y (tN (sT A)) with
    | true =>
      have h2' := h2
      obtain ⟨u, hu, rfl⟩ := inR_t (by omega) h2
      have mg : ∀ {L : Nat} {fz t : Bool} {Q : pm_R → pm_H → Prop} {I : Nat → Nat → Int32} {J : Nat → Nat → Int64}, mS A I → (((pm_u I 85 0 (nI 0)) 85 55 = nI 8 → pm_Ev 59 158 [.ref 85, .int (nI 2)] (pm_hp L fz t (pm_u I 85 0 (nI 0)) J) (K_X11_see_64 59 fz t Q)) ∧ (¬ (pm_u I 85 0 (nI 0)) 85 55 = nI 8 → pm_Ev 59 119 [.int z, .int (nI 0), .int (nI 20)] (pm_hp L fz t (pm_u I 85 0 (nI 0)) J) (K_X11_see_56 59 fz t Q (nI k) (nI u) z (bz b)))) → pm_Ev 60 209 [.ref 85, .int (nI k), .int (nI u), .int z, .int (bz b)] (pm_hp L fz t I J) Q := by
        intro L fz t Q I J hS hb
        have hw := mw_0 ho hS
        refine e_X11_see (mPy hw h1 (kb_X11_see_10 (q_f nI_01 ?_)))
        rw [hw.1.1.1]
        exact q_f (nI_nlt (by omega) (by omega)) (q_f (nI_ge (by omega) (by omega)) (S_right1 hw.2.2 (by omega) (kb_X11_see_35 (q_t' nI_01 hb))))
      by_cases hg : sNS A < 8 ∧ inR z 21 = true
      · obtain ⟨g1, g2⟩ := hg
        have g2' := g2
        obtain ⟨n, hn20, rfl⟩ := inR_t (by omega) g2
        refine ⟨sSe A (k, u, n, b), 0, by decide, nI (sNS A + 1), ?_, ?_, ?_⟩
        · obtain ⟨o1, o2, o3, o4, o5, o6⟩ := ho
          refine ⟨o1, o2, o3, ⟨by show sNS A + 1 ≤ 8; omega, fun i hi => ?_⟩, o5, o6⟩
          have hi' : i < sNS A + 1 := hi
          show (if i = sNS A then (k, u, n, b) else sS A i).1 < wp (sW A) ∧ (if i = sNS A then (k, u, n, b) else sS A i).2.1 < tN (sT A) ∧ (if i = sNS A then (k, u, n, b) else sS A i).2.2.1 ≤ 20
          by_cases w : i = sNS A
          · rw [if_pos w]; exact ⟨hk', hu, by show n ≤ 20; omega⟩
          · rw [if_neg w]; exact hs i (by omega)
        · intro L fz t I J Q hS hk
          refine e_X10_see (gPy hS.2.1.1 h1 (kb_X10_see_5 (S_isThread hS.1.1 (kb_X10_see_10 ?_))))
          rw [h2', hS.2.2.2.2.1.1]
          refine q_t' nI_01 (q_f (nI_ge (by omega) (by omega)) (q_f (nI_nlt (by omega) (by omega)) (q_t (nI_le (by omega) (by omega)) ?_)))
          refine S_add hS.2.2.2.2.1 g1 (fun i hi => (hs i hi).2.2) (by omega) fun I1 f1 c1 => kb_X10_see_70 ?_
          rw [c1.1]
          obtain ⟨k1, k2, k3, k4⟩ := cS_keep (J' := J) hS f1 (fun a ha => Or.inr (by unfold as'; simp at ha ⊢; omega)) rfl
          exact hk true t I1 J ⟨k1, cW_fr hS.2.1 f1 (by decide) (by decide) (by decide) (by decide), cM_fr hS.2.2.1 f1 (by decide) (by decide), cA_of (f1 _ (by decide)) (f1 _ (by decide)) (f1 _ (by decide)) (f1 _ (by decide)) rfl hS.2.2.2.1, c1, k2, k3, k4, by rw [f1 20 (by decide)]; exact hS.2.2.2.2.2.2.2.2⟩ (fun a ha => f1 a (by simp; omega)) (fun _ _ => rfl)
        · intro L fz t I J Q hS hk
          have hw := mw_0 ho hS
          refine mg hS ?_
          rw [hw.1.2.2.2.2.1.1]
          refine q_f (fun w => by have := (nI_eq (by omega) (by omega)).mp w; omega) (S_within (m := 20) (by omega) (kb_X11_see_56 ?_))
          rw [g2', hw.1.2.2.2.2.1.1, pk_mul, nI_add, nI_add, nI_add, nI_add, nI_clamp (n := 4 * sNS A) (by omega), nI_clamp (n := 4 * sNS A + 1) (by omega), nI_clamp (n := 4 * sNS A + 2) (by omega), nI_clamp (n := 4 * sNS A + 3) (by omega)]
          have fin : ∀ v, v = bz b → Q (.inl (some (.int (nI (sNS A + 1))))) (pm_hp L fz t (pm_u (pm_u (pm_u (pm_u (pm_u (pm_u I 85 0 (nI 0)) 110 (4 * sNS A) (nI k)) 110 (4 * sNS A + 1) (nI u)) 110 (4 * sNS A + 2) (nI n)) 110 (4 * sNS A + 3) v) 85 55 (nI (sNS A + 1))) J) := fun v hv => by
            rw [hv]
            have hf : fr [85, 110] (pm_u I 85 0 (nI 0)) (pm_u (pm_u (pm_u (pm_u (pm_u (pm_u I 85 0 (nI 0)) 110 (4 * sNS A) (nI k)) 110 (4 * sNS A + 1) (nI u)) 110 (4 * sNS A + 2) (nI n)) 110 (4 * sNS A + 3) (bz b)) 85 55 (nI (sNS A + 1))) := fr_u (by simp) (fr_u (by simp) (fr_u (by simp) (fr_u (by simp) (fr_u (by simp) fr_r))))
            have e85 : ∀ j, j ≠ 55 → (pm_u (pm_u (pm_u (pm_u (pm_u (pm_u I 85 0 (nI 0)) 110 (4 * sNS A) (nI k)) 110 (4 * sNS A + 1) (nI u)) 110 (4 * sNS A + 2) (nI n)) 110 (4 * sNS A + 3) (bz b)) 85 55 (nI (sNS A + 1))) 85 j = (pm_u I 85 0 (nI 0)) 85 j := fun j hj => by rw [pm_uk hj, pm_ua (by decide), pm_ua (by decide), pm_ua (by decide), pm_ua (by decide)]
            refine hk _ J _ (mS_of (A' := sSe A (k, u, n, b)) hw.1 hf rfl (fun j hj => e85 j (by omega)) (by decide) (by decide) (by decide) (by decide) (by decide) (by decide) (by rw [e85 3 (by decide)]; exact hw.1.2.1) (by rw [hf 103 (by decide)]; exact hw.1.2.2.1) ⟨by rw [e85 48 (by decide)]; exact hw.1.2.2.2.1.1, by unfold mA; rw [hf 104 (by decide)]; exact hw.1.2.2.2.1.2⟩ ⟨by rw [pm_us]; rfl, fun i hi => ?_⟩ (mI_fr hw.1.2.2.2.2.2.1 hf (fun j hj => e85 j (by omega)) (by decide) (by decide) (by decide)) ⟨by rw [e85 14 (by decide)]; exact hw.1.2.2.2.2.2.2.1.1, by rw [hf 92 (by decide)]; exact hw.1.2.2.2.2.2.2.1.2⟩ (by rw [e85 16 (by decide)]; exact hw.1.2.2.2.2.2.2.2.1) (by rw [hf 93 (by decide)]; exact hw.1.2.2.2.2.2.2.2.2)) (fun a ha => ?_) (fun _ _ => rfl) ?_ pv_0
            · have hi' : i < sNS A + 1 := hi
              show pm_u _ 85 55 _ 110 (4 * i) = nI (if i = sNS A then (k, u, n, b) else sS A i).1 ∧ pm_u _ 85 55 _ 110 (4 * i + 1) = nI (if i = sNS A then (k, u, n, b) else sS A i).2.1 ∧ pm_u _ 85 55 _ 110 (4 * i + 2) = nI (if i = sNS A then (k, u, n, b) else sS A i).2.2.1 ∧ pm_u _ 85 55 _ 110 (4 * i + 3) = bz (if i = sNS A then (k, u, n, b) else sS A i).2.2.2
              rw [pm_ua (by decide)]
              by_cases w : i = sNS A
              · rw [if_pos w, w]
                refine ⟨?_, ?_, ?_, ?_⟩
                · rw [pm_uk (by omega), pm_uk (by omega), pm_uk (by omega), pm_us]
                · rw [pm_uk (by omega), pm_uk (by omega), pm_us]
                · rw [pm_uk (by omega), pm_us]
                · rw [pm_us]
              · rw [if_neg w]
                have := hw.1.2.2.2.2.1.2 i (by omega)
                refine ⟨?_, ?_, ?_, ?_⟩
                · rw [pm_uk (by omega), pm_uk (by omega), pm_uk (by omega), pm_uk (by omega)]; exact this.1
                · rw [pm_uk (by omega), pm_uk (by omega), pm_uk (by omega), pm_uk (by omega)]; exact this.2.1
                · rw [pm_uk (by omega), pm_uk (by omega), pm_uk (by omega), pm_uk (by omega)]; exact this.2.2.1
                · rw [pm_uk (by omega), pm_uk (by omega), pm_uk (by omega), pm_uk (by omega)]; exact this.2.2.2
            · rw [hf a (by simp; omega)]; exact hw.2.1 a ha
            · rw [e85 0 (by decide)]; exact hw.2.2
          refine q_t' nI_01 ⟨vp_in_nI (by omega) (by omega), vp_in_nI (by omega) (by omega), vp_in_nI (by omega) (by omega), q_b0 (fun w => ⟨vp_in_nI (by omega) (by omega), fin _ (by rw [w]; rfl)⟩) (fun w => ⟨vp_in_nI (by omega) (by omega), fin _ (by rw [w]; rfl)⟩)⟩
      · refine ⟨sRef A 2, 0, by decide, -1, ok_ref ho, ?_, ?_⟩
        · intro L fz t I J Q hS hk
          have E : Q (.inl (some (.int (-1 : Int32)))) (pm_hp L true t (pm_u I 20 2 ((I 20 2) + (nI 1))) J) := hk true t _ J (cS_ref hS (by omega)) co_20 (fun _ _ => rfl)
          refine e_X10_see (gPy hS.2.1.1 h1 (kb_X10_see_5 (S_isThread hS.1.1 (kb_X10_see_10 ?_))))
          rw [h2', hS.2.2.2.2.1.1]
          refine q_t' nI_01 (q_le (by omega) (by omega) (fun _ => E) (fun a => ⟨fun _ => E, fun c => ⟨fun e => ?_, fun _ => E⟩⟩))
          exact absurd ⟨a, inR_in c (fun w => nlt_le.mpr e ((le_of_lt_S (m := 20) (by omega)).mp w))⟩ hg
        · intro L fz t I J Q hS hk
          have hw := mw_0 ho hS
          have E : pm_Ev 59 158 [.ref 85, .int (nI 2)] (pm_hp L fz t (pm_u I 85 0 (nI 0)) J) (K_X11_see_64 59 fz t Q) := S_refuses (by omega) (kb_X11_see_64 (hk _ J _ (mS_r0 ho hS (by omega)) mo_r0 (fun _ _ => rfl) r0_0 pv_0))
          refine mg hS ⟨fun _ => E, fun a => S_within (m := 20) (by omega) (kb_X11_see_56 (q_b0' (fun w => ?_) (fun _ => E)))⟩
          rw [hw.1.2.2.2.2.1.1] at a
          exact absurd ⟨by
            have : sNS A ≠ 8 := fun v => a (by rw [v])
            omega, w⟩ hg
    | false =>
      refine ⟨A, 1, by decide, 0, ho, ?_, ?_⟩
      · intro L fz t I J Q hS hk
        refine e_X10_see (gPy hS.2.1.1 h1 (kb_X10_see_5 (S_isThread hS.1.1 (kb_X10_see_10 ?_))))
        rw [h2]
        exact q_f' rfl (cS_r hS hk)
      · intro L fz t I J Q hS hk
        have hw := mw_0 ho hS
        have bad : pm_Ev 59 118 [.ref 85, .int (nI 0), .int (nI 1)] (pm_hp L fz t (pm_u I 85 0 (nI 0)) J) (K_X11_see_35 59 fz t Q (nI k) y z (bz b)) := S_right0 hw.2.2 (by omega) (kb_X11_see_35 (q_f' rfl (mw_x ho hw hk (pv_e (by omega)))))
        refine e_X11_see (mPy hw h1 (kb_X11_see_10 (q_f nI_01 ⟨fun _ => bad, fun a => ⟨fun _ => bad, fun c => ?_⟩⟩)))
        rw [hw.1.1.1] at c
        rw [inR_in a c] at h2; cases h2
  | false =>
    refine ⟨A, 1, by decide, 0, ho, ?_, ?_⟩
    · intro L fz t I J Q hS hk
      exact e_X10_see (gPn hS.2.1.1 h1 (cS_r hS hk))
    · intro L fz t I J Q hS hk
      exact e_X11_see (mPn (mw_0 ho hS) h1 (kb_X11_see_10 (q_t rfl (mw_x ho (mw_0 ho hS) hk (pv_e (by omega))))))
/-! the tape -/
def byt (x : Int32) (s : Nat) : Nat := ((x >>> (nI s &&& 31)) &&& nI 255).toBitVec.toNat
theorem byt_lt (x : Int32) (s : Nat) : byt x s < 256 := by
  have hs : sm ((x >>> (nI s &&& 31)) &&& nI 255) 8 := sm_and' (sm_nI (by decide))
  obtain ⟨m, hm, e⟩ := sm_of hs (by omega)
  unfold byt
  rw [e, pk_tn (by omega)]; exact hm
theorem byt_n (x : Int32) (s : Nat) : (x >>> (nI s &&& 31)) &&& nI 255 = nI (byt x s) := by
  unfold byt
  apply Int32.toBitVec_inj.1
  show _ = BitVec.ofNat 32 _
  simp
theorem byt_s (x : Int32) (s : Nat) : vp_nar .byte (Int8.toInt32 (Int32.toInt8 (x >>> (nI s &&& 31)))) = sby (byt x s) := by
  rw [pk_vb]
  unfold sby
  rw [← byt_n]
  congr 1
  apply Int8.toBitVec_inj.1
  show (x >>> (nI s &&& 31)).toBitVec.signExtend 8 = ((x >>> (nI s &&& 31)) &&& nI 255).toBitVec.signExtend 8
  apply BitVec.eq_of_getLsbD_eq
  intro i hi
  rw [BitVec.getLsbD_signExtend, BitVec.getLsbD_signExtend, if_pos (by omega), if_pos (by omega)]
  show (decide (i < 8) && bt (x >>> (nI s &&& 31)) i) = (decide (i < 8) && bt ((x >>> (nI s &&& 31)) &&& nI 255) i)
  rw [b_and, show bt (nI 255) i = decide (i < 8) from b_255 i, decide_eq_true hi, Bool.and_true]
theorem gD_l {B C : List Nat} {i : Nat} (h : i < B.length) : (B ++ C).getD i 0 = B.getD i 0 := by rw [List.getD_eq_getElem?_getD, List.getD_eq_getElem?_getD, List.getElem?_append_left h]
theorem gD_r {B : List Nat} {x : Nat} : (B ++ [x]).getD B.length 0 = x := by rw [List.getD_eq_getElem?_getD, List.getElem?_append_right (Nat.le_refl _), Nat.sub_self]; rfl
def by4 (x : Int32) : List Nat := [byt x 24, byt x 16, byt x 8, byt x 0]
section Spec
variable {d L : Nat} {fz t : Bool} {Q : pm_R → pm_H → Prop} {I I0 : Nat → Nat → Int32} {J : Nat → Nat → Int64}
theorem cB_add {B : List Nat} {x : Nat} (hB : cB B I) : cB (B ++ [x]) (pm_u (pm_u I 2 B.length (sby x)) 1 1 (nI (B.length + 1))) := by
  refine ⟨by rw [pm_us, List.length_append]; rfl, fun i hi => ?_⟩
  rw [List.length_append] at hi
  have hi' : i < B.length + 1 := hi
  rw [pm_ua (by decide)]
  by_cases e : i = B.length
  · rw [e, pm_us, gD_r]
  · rw [pm_uk e, gD_l (by omega)]; exact hB.2 i (by omega)
theorem mB_add {B : List Nat} {x : Nat} (hB : mB B I) : mB (B ++ [x]) (pm_u (pm_u I 92 B.length (nI x)) 85 14 (nI (B.length + 1))) := by
  refine ⟨by rw [pm_us, List.length_append]; rfl, fun i hi => ?_⟩
  rw [List.length_append] at hi
  have hi' : i < B.length + 1 := hi
  rw [pm_ua (by decide)]
  by_cases e : i = B.length
  · rw [e, pm_us, gD_r]
  · rw [pm_uk e, gD_l (by omega)]; exact hB.2 i (by omega)
theorem S_append {B : List Nat} {x : Int32} (hB : cB B I) (hl : B.length + 4 ≤ 700) (hq : ∀ I', fr [1, 2] I I' → cB (B ++ by4 x) I' → Q (.inl none) (pm_hp L fz t I' J)) : pm_Ev (d + 1) 25 [.ref 1, .int x] (pm_hp L fz t I J) Q := by
  have st : ∀ (B : List Nat) (s : Nat) (I1 : Nat → Nat → Int32), cB B I1 → B.length < 700 → s < 32 → (∀ I2, fr [1, 2] I1 I2 → cB (B ++ [byt x s]) I2 → t_X3_append_3 d L fz t Q x (nI s + (-8 : Int32)) I2 J) → t_X3_append_3 d L fz t Q x (nI s) I1 J := by
    intro B s I1 hB hl hs nx
    refine b_X3_append_3 (q_f (nI_nlt (by omega) (by omega)) ?_)
    rw [hB.1, byt_s, nI_clamp (by omega), nI_add]
    exact q_f (nI_ge (by omega) (by omega)) ⟨vp_in_nI (by omega) (by omega), nx _ (fr_u (by simp) (fr_u (by simp) fr_r)) (cB_add hB)⟩
  refine e_X3_append (st B 24 I hB (by omega) (by omega) fun I1 f1 c1 => ?_)
  have l1 : (B ++ [byt x 24]).length = B.length + 1 := by rw [List.length_append]; rfl
  refine st (B ++ [byt x 24]) 16 I1 c1 (by omega) (by omega) fun I2 f2 c2 => ?_
  have l2 : (B ++ [byt x 24] ++ [byt x 16]).length = B.length + 2 := by rw [List.length_append, l1]; rfl
  refine st (B ++ [byt x 24] ++ [byt x 16]) 8 I2 c2 (by omega) (by omega) fun I3 f3 c3 => ?_
  have l3 : (B ++ [byt x 24] ++ [byt x 16] ++ [byt x 8]).length = B.length + 3 := by rw [List.length_append, l2]; rfl
  refine st (B ++ [byt x 24] ++ [byt x 16] ++ [byt x 8]) 0 I3 c3 (by omega) (by omega) fun I4 f4 c4 => ?_
  refine b_X3_append_3 (q_t (by decide) (hq I4 (fr_t (fr_t (fr_t f1 f2) f3) f4) ?_))
  have e : B ++ [byt x 24] ++ [byt x 16] ++ [byt x 8] ++ [byt x 0] = B ++ by4 x := by simp [by4]
  rw [← e]; exact c4
theorem S_lays {B : List Nat} {x : Int32} (hB : mB B I) (hl : B.length + 4 ≤ 700) (hq : ∀ I', fr [85, 92] I I' → (∀ j, j ≠ 14 → I' 85 j = I 85 j) → mB (B ++ by4 x) I' → Q (.inl none) (pm_hp L fz t I' J)) : pm_Ev (d + 1) 125 [.ref 85, .int x] (pm_hp L fz t I J) Q := by
  have st : ∀ (B : List Nat) (s : Nat) (I1 : Nat → Nat → Int32), mB B I1 → B.length < 700 → s < 32 → (∀ I2, fr [85, 92] I1 I2 → (∀ j, j ≠ 14 → I2 85 j = I1 85 j) → mB (B ++ [byt x s]) I2 → t_X11_lays_3 d L fz t Q x (nI s + (-8 : Int32)) I2 J) → t_X11_lays_3 d L fz t Q x (nI s) I1 J := by
    intro B s I1 hB hl hs nx
    refine b_X11_lays_3 (q_f (nI_nlt (by omega) (by omega)) ?_)
    rw [hB.1, byt_n, nI_clamp (by omega), nI_add]
    exact ⟨vp_in_nI (by omega) (by omega), nx _ (fr_u (by simp) (fr_u (by simp) fr_r)) (fun j hj => by rw [pm_uk hj, pm_ua (by decide)]) (mB_add hB)⟩
  refine e_X11_lays (st B 24 I hB (by omega) (by omega) fun I1 f1 g1 c1 => ?_)
  have l1 : (B ++ [byt x 24]).length = B.length + 1 := by rw [List.length_append]; rfl
  refine st (B ++ [byt x 24]) 16 I1 c1 (by omega) (by omega) fun I2 f2 g2 c2 => ?_
  have l2 : (B ++ [byt x 24] ++ [byt x 16]).length = B.length + 2 := by rw [List.length_append, l1]; rfl
  refine st (B ++ [byt x 24] ++ [byt x 16]) 8 I2 c2 (by omega) (by omega) fun I3 f3 g3 c3 => ?_
  have l3 : (B ++ [byt x 24] ++ [byt x 16] ++ [byt x 8]).length = B.length + 3 := by rw [List.length_append, l2]; rfl
  refine st (B ++ [byt x 24] ++ [byt x 16] ++ [byt x 8]) 0 I3 c3 (by omega) (by omega) fun I4 f4 g4 c4 => ?_
  refine b_X11_lays_3 (q_t (by decide) (hq I4 (fr_t (fr_t (fr_t f1 f2) f3) f4) (fun j hj => by rw [g4 j hj, g3 j hj, g2 j hj, g1 j hj]) ?_))
  have e : B ++ [byt x 24] ++ [byt x 16] ++ [byt x 8] ++ [byt x 0] = B ++ by4 x := by simp [by4]
  rw [← e]; exact c4
end Spec
def sFe (A : St) (B : List Nat) : St := (sT A, sW A, (sNA A, sA A), (sNS A, sS A), sI A, B, sF A, sR A)
theorem cS_B {B : List Nat} {t : Bool} {I I' : Nat → Nat → Int32} {J : Nat → Nat → Int64} (hS : cS A t I J) (hf : fr [1, 2] I I') (hB : cB B I') : cS (sFe A B) t I' J := by
  have u : ∀ a, a ≠ 1 → a ≠ 2 → I' a = I a := fun a h1 h2 => hf a (by simp; omega)
  obtain ⟨h1, h2, h3, h4, h5, ⟨h6, h6'⟩, h7, h8, h9⟩ := hS
  refine ⟨cT_fr h1 hf (by cases t <;> decide) (by cases t <;> decide) (by cases t <;> decide) (by cases t <;> decide) (by cases t <;> decide) (by cases t <;> decide) (by cases t <;> decide) (by cases t <;> decide) (by cases t <;> decide) (by cases t <;> decide), cW_fr h2 hf (by decide) (by decide) (by decide) (by decide), cM_fr h3 hf (by decide) (by decide), cA_of (u _ (by decide) (by decide)) (u _ (by decide) (by decide)) (u _ (by decide) (by decide)) (u _ (by decide) (by decide)) rfl h4, cN_of (u _ (by decide) (by decide)) (u _ (by decide) (by decide)) (u _ (by decide) (by decide)) (u _ (by decide) (by decide)) (u _ (by decide) (by decide)) h5, ⟨by rw [u 0 (by decide) (by decide)]; exact h6, fun V k Bs q C hi => ?_⟩, hB, ⟨by rw [u 0 (by decide) (by decide)]; exact h8.1, wr_of h8.2 (u 58 (by decide) (by decide)) (u 73 (by decide) (by decide))⟩, by rw [u 20 (by decide) (by decide)]; exact h9⟩
  obtain ⟨g1, g2, g3⟩ := h6' V k Bs q C hi
  exact ⟨cW_fr g1 hf (by decide) (by decide) (by decide) (by decide), cA_of (u _ (by decide) (by decide)) (u _ (by decide) (by decide)) (u _ (by decide) (by decide)) (u _ (by decide) (by decide)) rfl g2, cN_of (u _ (by decide) (by decide)) (u _ (by decide) (by decide)) (u _ (by decide) (by decide)) (u _ (by decide) (by decide)) (u _ (by decide) (by decide)) g3⟩
theorem op_feed (ho : ok A) (a b c e f : Int32) : opx 85 124 [.int a, .int b, .int c, .int e, .int f] A 1 := by
  have h700 := ho.2.2.2.2.2.1
  by_cases hl : (sB A).length + 20 ≤ 700
  · have len : ∀ (B : List Nat) (x : Int32), (B ++ by4 x).length = B.length + 4 := fun B x => by rw [List.length_append]; rfl
    have l1 := len (sB A) a
    have l2 := len (sB A ++ by4 a) b
    have l3 := len (sB A ++ by4 a ++ by4 b) c
    have l4 := len (sB A ++ by4 a ++ by4 b ++ by4 c) e
    have l5 := len (sB A ++ by4 a ++ by4 b ++ by4 c ++ by4 e) f
    refine ⟨sFe A (sB A ++ by4 a ++ by4 b ++ by4 c ++ by4 e ++ by4 f), 0, by decide, nI ((sB A).length + 20), ?_, ?_, ?_⟩
    · obtain ⟨o1, o2, o3, o4, o5, o6, o7⟩ := ho
      refine ⟨o1, o2, o3, o4, o5, by show (sB A ++ by4 a ++ by4 b ++ by4 c ++ by4 e ++ by4 f).length ≤ 700; omega, fun x hx => ?_⟩
      have hx' : x ∈ sB A ++ by4 a ++ by4 b ++ by4 c ++ by4 e ++ by4 f := hx
      have h4 : ∀ y : Int32, x ∈ by4 y → x < 256 := fun y hy => by
        unfold by4 at hy
        simp at hy
        rcases hy with rfl | rfl | rfl | rfl <;> exact byt_lt _ _
      simp only [List.mem_append] at hx'
      rcases hx' with ((((hx' | hx') | hx') | hx') | hx') | hx'
      · exact o7 x hx'
      · exact h4 _ hx'
      · exact h4 _ hx'
      · exact h4 _ hx'
      · exact h4 _ hx'
      · exact h4 _ hx'
    · intro L fz t I J Q hS hk
      refine e_X10_feed ?_
      rw [hS.2.2.2.2.2.2.1.1, nI_add]
      refine q_t (nI_le (by omega) (by omega)) ?_
      refine S_append hS.2.2.2.2.2.2.1 (by omega) fun I1 f1 c1 => kb_X10_feed_26 ?_
      refine S_append c1 (by omega) fun I2 f2 c2 => kb_X10_feed_34 ?_
      refine S_append c2 (by omega) fun I3 f3 c3 => kb_X10_feed_42 ?_
      refine S_append c3 (by omega) fun I4 f4 c4 => kb_X10_feed_51 ?_
      refine S_append c4 (by omega) fun I5 f5 c5 => kb_X10_feed_60 ?_
      have hf := fr_t (fr_t (fr_t (fr_t f1 f2) f3) f4) f5
      rw [c5.1, show (sB A ++ by4 a ++ by4 b ++ by4 c ++ by4 e ++ by4 f).length = (sB A).length + 20 by omega]
      exact hk fz t I5 J (cS_B hS hf c5) (fun x hx => hf x (by simp; omega)) (fun _ _ => rfl)
    · intro L fz t I J Q hS hk
      have hw := mw_0 ho hS
      refine e_X11_feed ?_
      rw [hS.2.2.2.2.2.2.1.1, nI_add]
      refine q_t (nI_le (by omega) (by omega)) ?_
      refine S_lays hw.1.2.2.2.2.2.2.1 (by omega) fun I1 f1 g1 c1 => kb_X11_feed_25 ?_
      refine S_lays c1 (by omega) fun I2 f2 g2 c2 => kb_X11_feed_30 ?_
      refine S_lays c2 (by omega) fun I3 f3 g3 c3 => kb_X11_feed_35 ?_
      refine S_lays c3 (by omega) fun I4 f4 g4 c4 => kb_X11_feed_41 ?_
      refine S_lays c4 (by omega) fun I5 f5 g5 c5 => kb_X11_feed_47 ?_
      have hf := fr_t (fr_t (fr_t (fr_t f1 f2) f3) f4) f5
      have g : ∀ j, j ≠ 14 → I5 85 j = (pm_u I 85 0 (nI 0)) 85 j := fun j hj => by rw [g5 j hj, g4 j hj, g3 j hj, g2 j hj, g1 j hj]
      rw [c5.1, show (sB A ++ by4 a ++ by4 b ++ by4 c ++ by4 e ++ by4 f).length = (sB A).length + 20 by omega]
      refine hk _ J _ (mS_of (A' := sFe A _) hw.1 hf rfl (fun j hj => g j (by omega)) (by decide) (by decide) (by decide) (by decide) (by decide) (by decide) (by rw [g 3 (by decide)]; exact hw.1.2.1) (by rw [hf 103 (by decide)]; exact hw.1.2.2.1) ⟨by rw [g 48 (by decide)]; exact hw.1.2.2.2.1.1, by unfold mA; rw [hf 104 (by decide)]; exact hw.1.2.2.2.1.2⟩ ⟨by rw [g 55 (by decide)]; exact hw.1.2.2.2.2.1.1, by unfold mN; rw [hf 110 (by decide)]; exact hw.1.2.2.2.2.1.2⟩ (mI_fr hw.1.2.2.2.2.2.1 hf (fun j hj => g j (by omega)) (by decide) (by decide) (by decide)) c5 (by rw [g 16 (by decide)]; exact hw.1.2.2.2.2.2.2.2.1) (by rw [hf 93 (by decide)]; exact hw.1.2.2.2.2.2.2.2.2)) (fun x hx => ?_) (fun _ _ => rfl) ?_ pv_0
      · rw [hf x (by simp; omega)]; exact hw.2.1 x hx
      · rw [g 0 (by decide)]; exact hw.2.2
  · refine ⟨A, 0, by decide, -1, ho, ?_, ?_⟩
    · intro L fz t I J Q hS hk
      refine e_X10_feed ?_
      rw [hS.2.2.2.2.2.2.1.1, nI_add]
      exact q_f (nI_ge (by omega) (by omega)) (cS_r hS hk)
    · intro L fz t I J Q hS hk
      refine e_X11_feed ?_
      rw [hS.2.2.2.2.2.2.1.1, nI_add]
      exact q_f (nI_ge (by omega) (by omega)) (mw_e (mw_0 ho hS) hk pv_0)
end Ops
