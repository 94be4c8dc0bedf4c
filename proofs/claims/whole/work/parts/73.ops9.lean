section Ops
variable {A : St}
def opv (kc km : Nat) (A : St) : Prop := ∃ A', ok A' ∧ CS 59 kc [.ref 0] A A' (.inl none) ∧ MS 60 km [.ref 85] A A' 0 (fun r => r = .inl none)
def sUn (A : St) : St := (sT A, sA A (sNA A - 1), (sNA A - 1, sA A), (sNS A, sS A), sI A, sB A, sF A, sR A)
theorem tIk : ∀ k, k < 4 → (nI k).toInt = (k : Int) := fun k hk => nI_toInt (by omega)
theorem op_undo (ho : ok A) : opx 89 159 [] A 1 := by
  have hm := ho.1.2.1
  have h12 := ho.2.1.2.2.2
  obtain ⟨hn40, hAs⟩ := ho.2.2.1
  by_cases h0 : sNA A = 0
  · refine ⟨A, 0, by decide, -1, ho, ?_, ?_⟩
    · intro L fz t I J Q hS hk
      refine e_X10_undo ?_
      rw [hS.2.2.2.1.1, h0]
      exact q_f (by decide) (cS_r hS hk)
    · intro L fz t I J Q hS hk
      refine e_X11_undo ?_
      rw [hS.2.2.2.1.1, h0]
      exact q_f' rfl (mw_e (mw_0 ho hS) hk pv_0)
  · obtain ⟨oU, pU⟩ := hAs (sNA A - 1) (by omega)
    have hok : ok (sUn A) := by
      obtain ⟨h1, h2, ⟨h3, h3'⟩, ⟨h4, h4'⟩, h5, h6⟩ := ho
      refine ⟨h1, oU, ⟨by show sNA A - 1 ≤ 40; omega, fun i hi => ?_⟩, ⟨h4, fun i hi => by show (sS A i).1 < wp (sA A (sNA A - 1)) ∧ _; rw [pU]; exact h4' i hi⟩, fun V k Bs q C hI => ?_, h6⟩
      · have hi' : i < sNA A - 1 := hi
        show okW (sT A) (sA A i) ∧ wp (sA A i) = wp (sA A (sNA A - 1))
        rw [pU]; exact h3' i (by omega)
      · obtain ⟨g1, g2, g3, g4⟩ := h5 V k Bs q C hI
        exact ⟨g1, g2.trans pU.symm, g3, g4⟩
    refine ⟨sUn A, 0, by decide, nI (sNA A - 1), hok, ?_, ?_⟩
    · intro L fz t I J Q hS hk
      refine e_X10_undo ?_
      have hA := hS.2.2.2.1
      rw [hA.1]
      refine q_t (nI_le (by omega) (by omega)) ?_
      have hd := hA.2 (sNA A - 1) (by omega)
      have enx : nx (sNA A) (sA A) (sW A) (sNA A - 1) = sW A := if_neg (by omega)
      rw [enx] at hd
      -- behind: the class's state
      have fin : ∀ I', fr [23, 24, 25, 26, 35] I I' → I' 35 4 = nI (sNA A - 1) → cW 23 (sA A (sNA A - 1)) I' → Q (.inl (some (.int (nI (sNA A - 1))))) (pm_hp L fz t I' J) := fun I' hf e35 hW => by
        obtain ⟨g1, g2, g3, g4⟩ := cS_keep (J' := J) hS hf (fun a ha => Or.inr (by unfold as'; simp at ha ⊢; omega)) rfl
        refine hk fz t I' J ⟨g1, hW, cM_fr hS.2.2.1 hf (by decide) (by decide), ⟨e35, fun i hi => ?_⟩, cN_of (hf _ (by decide)) (hf _ (by decide)) (hf _ (by decide)) (hf _ (by decide)) (hf _ (by decide)) hS.2.2.2.2.1, g2, g3, g4, by rw [hf 20 (by decide)]; exact hS.2.2.2.2.2.2.2.2⟩ (fun a ha => hf a (by simp; omega)) (fun _ _ => rfl)
        have hi' : i < sNA A - 1 := hi
        have := hA.2 i (by omega)
        show dl (I' 36 i) (I' 37 i) (I' 38 i) (J 39 i) (sA A i) (nx (sNA A - 1) (sA A) (sA A (sNA A - 1)) i)
        rw [hf 36 (by decide), hf 37 (by decide), hf 38 (by decide)]
        have e : nx (sNA A - 1) (sA A) (sA A (sNA A - 1)) i = nx (sNA A) (sA A) (sW A) i := by
          unfold nx
          by_cases z : i + 1 < sNA A - 1
          · rw [if_pos z, if_pos (by omega)]
          · rw [if_neg z, if_pos (by omega), show i + 1 = sNA A - 1 by omega]
        rw [e]; exact this
      refine e_X0_takeBack (Or.inl rfl) (Or.inl rfl) ?_
      rw [hA.1]
      refine q_t (nI_le (by omega) (by omega)) ?_
      rw [pk_sub (by omega), nI_clamp (by omega)]
      have v : vp_in (nI (sNA A - 1)) 40 := vp_in_nI (by omega) (by omega)
      have end128 : ∀ I', fr [23, 24, 25, 26, 35] I I' → I' 35 4 = nI (sNA A - 1) → cW 23 (sA A (sNA A - 1)) I' → t_X0_takeBack_128 57 L fz t (K_X10_undo_24 58 fz t Q) I' J := fun I' hf e35 hW => b_X0_takeBack_128 (kb_X10_undo_24 (by rw [e35]; exact fin I' hf e35 hW))
      have wc : ∀ {V : Wk}, cW 23 V I → cW 23 V (pm_u I 35 4 (nI (sNA A - 1))) := fun h => cW_fr h (fr_u (S := [35]) (by simp) fr_r) (by decide) (by decide) (by decide) (by decide)
      refine ⟨v, v, v, ?_⟩
      change ((I 36 (sNA A - 1)).toInt < 1 ∨ 3 < (I 36 (sNA A - 1)).toInt → _) ∧ ((I 36 (sNA A - 1)).toInt = 1 → vp_in (I 37 (sNA A - 1)) 10 ∧ _) ∧ ((I 36 (sNA A - 1)).toInt = 2 → vp_in (I 37 (sNA A - 1)) 10 ∧ _) ∧ ((I 36 (sNA A - 1)).toInt = 3 → _)
      rcases hd with ⟨k1, c, hc, k2, k3⟩ | ⟨k1, c, w, hc, k2, k3, k4⟩ | ⟨k1, i, j, hi, hj, k2, k3, k4⟩ | ⟨k1, k2, k3, k4, k5, k6, k7⟩
      · rw [show I 36 (sNA A - 1) = _ from k1, tIk 1 (by omega)]
        refine ⟨fun z => by omega, fun _ => ?_, fun z => by omega, fun z => by omega⟩
        rw [show I 37 (sNA A - 1) = _ from k2]
        refine ⟨vp_in_nI hc (by omega), ?_⟩
        change t_X0_takeBack_128 57 L fz t _ (pm_u (pm_u I 35 4 (nI (sNA A - 1))) 24 (nI c).toNatClampNeg (I 38 (sNA A - 1))) J
        rw [nI_clamp (by omega)]
        refine end128 _ (fr_u (by simp) (fr_u (by simp) fr_r)) (by rw [pm_ua (by decide), pm_us]) ?_
        rw [k3]; exact cW_ho (w := 23) (wc hS.2.1)
      · rw [show I 36 (sNA A - 1) = _ from k1, tIk 2 (by omega)]
        refine ⟨fun z => by omega, fun z => by omega, fun _ => ?_, fun z => by omega⟩
        rw [show I 37 (sNA A - 1) = _ from k2]
        refine ⟨vp_in_nI hc (by omega), ?_⟩
        change t_X0_takeBack_128 57 L fz t _ (pm_u (pm_u I 35 4 (nI (sNA A - 1))) 25 (nI c).toNatClampNeg (I 38 (sNA A - 1))) J
        rw [show I 38 (sNA A - 1) = _ from k3, nI_clamp (by omega)]
        refine end128 _ (fr_u (by simp) (fr_u (by simp) fr_r)) (by rw [pm_ua (by decide), pm_us]) ?_
        rw [k4]; exact cW_we (w := 23) (wc hS.2.1)
      · rw [show I 36 (sNA A - 1) = _ from k1, tIk 3 (by omega)]
        refine ⟨fun z => by omega, fun z => by omega, fun z => by omega, fun _ => ?_⟩
        change pm_Ev 57 81 [.ref 23, .int (I 37 (sNA A - 1)), .int (I 38 (sNA A - 1))] _ _
        rw [show I 37 (sNA A - 1) = _ from k2, show I 38 (sNA A - 1) = _ from k3]
        refine S_exchange (T := sT A) (Or.inl rfl) (wc hS.2.1) ho.2.1 hi hj fun I2 f2 w2 => kb_X0_takeBack_102 (end128 I2 (fr_t (fr_u (by simp) fr_r) (fr_m f2 (by simp))) (by rw [f2 35 (by decide), pm_us]) ?_)
        rw [k4]; exact w2
      · rw [show I 36 (sNA A - 1) = _ from k1, tIk 0 (by omega)]
        refine ⟨fun _ => ⟨v, ?_⟩, fun z => by omega, fun z => by omega, fun z => by omega⟩
        change pm_Ev 57 84 [.ref 23, .long (J 39 (sNA A - 1))] (pm_hp L fz t (pm_u (pm_u (pm_u I 35 4 (nI (sNA A - 1))) 23 4 (I 37 (sNA A - 1))) 23 5 (I 38 (sNA A - 1))) J) _
        rw [show J 39 (sNA A - 1) = _ from k4, show I 37 (sNA A - 1) = _ from k2, show I 38 (sNA A - 1) = _ from k3]
        refine S_unpackWear (Or.inl rfl) oU.2.1 fun I2 f2 w2 => kb_X0_takeBack_128 (kb_X10_undo_24 ?_)
        have e23 : ∀ j, I2 23 j = (pm_u (pm_u (pm_u I 35 4 (nI (sNA A - 1))) 23 4 (ws (sA A (sNA A - 1)))) 23 5 (wg (sA A (sNA A - 1)))) 23 j := fun j => by rw [f2 23 (by decide)]
        have e35 : I2 35 4 = nI (sNA A - 1) := by rw [f2 35 (by decide), pm_ua (by decide), pm_ua (by decide), pm_us]
        rw [e35]
        refine fin I2 (fr_t (fr_u (by simp) (fr_u (by simp) (fr_u (by simp) fr_r))) (fr_m f2 (by simp))) e35 ⟨?_, ?_, ?_, fun c hc => ?_, w2, fun k hk' => ?_⟩
        · rw [e23, pm_uk (by decide), pm_uk (by decide), pm_ua (by decide), k7]; exact hS.2.1.1
        · rw [e23, pm_uk (by decide), pm_us]
        · rw [e23, pm_us]
        · rw [f2 24 (by decide), pm_ua (by decide), pm_ua (by decide), pm_ua (by decide), k5]; exact hS.2.1.2.2.2.1 c hc
        · rw [f2 26 (by decide), pm_ua (by decide), pm_ua (by decide), pm_ua (by decide), k6]
          exact hS.2.1.2.2.2.2.2 k (by rw [k7] at hk'; exact hk')
    · intro L fz t I J Q hS hk
      refine e_X11_undo ?_
      rw [hS.2.2.2.1.1, pk_sub (by omega)]
      refine q_t' (fun z => h0 ((nI_eq (by omega) (by omega)).mp z)) ?_
      have hw := mw_0 ho hS
      have loop : ∀ (j i : Nat) (I' : Nat → Nat → Int32), i + j = 34 → fr [103] (pm_u (pm_u I 85 0 (nI 0)) 85 48 (nI (sNA A - 1))) I' → (∀ k, k < i → I' 103 k = I 104 (34 * (sNA A - 1) + k)) → t_X11_undo_26 59 L fz t Q (nI i) I' J := by
        intro j
        induction j with
        | zero =>
          intro i I' hi hf hk'
          obtain rfl : i = 34 := by omega
          have e85 : ∀ j, j ≠ 48 → I' 85 j = (pm_u I 85 0 (nI 0)) 85 j := fun j hj => by rw [hf 85 (by decide), pm_uk hj]
          have e48 : I' 85 48 = nI (sNA A - 1) := by rw [hf 85 (by decide), pm_us]
          have e104 : I' 104 = I 104 := by rw [hf 104 (by decide), pm_ua (by decide), pm_ua (by decide)]
          refine b_X11_undo_26 (q_t (nI_le (by omega) (by omega)) ?_)
          rw [e48]
          have hf2 : fr [85, 103] (pm_u I 85 0 (nI 0)) I' := fr_t (fr_u (by simp) fr_r) (fr_m hf (by simp))
          refine hk _ J _ (mS_of (A' := sUn A) hw.1 hf2 rfl (fun j hj => e85 j (by omega)) (by decide) (by decide) (by decide) (by decide) (by decide) (by decide) (by rw [e85 3 (by decide)]; show _ = nI (wp (sA A (sNA A - 1))); rw [pU]; exact hw.1.2.1) ?_ ⟨e48, ?_⟩ ⟨by rw [e85 55 (by decide)]; exact hw.1.2.2.2.2.1.1, by unfold mN; rw [hf2 110 (by decide)]; exact hw.1.2.2.2.2.1.2⟩ (mI_fr hw.1.2.2.2.2.2.1 hf2 (fun j hj => e85 j (by omega)) (by decide) (by decide) (by decide)) ⟨by rw [e85 14 (by decide)]; exact hw.1.2.2.2.2.2.2.1.1, by rw [hf2 92 (by decide)]; exact hw.1.2.2.2.2.2.2.1.2⟩ (by rw [e85 16 (by decide)]; exact hw.1.2.2.2.2.2.2.2.1) (by rw [hf2 93 (by decide)]; exact hw.1.2.2.2.2.2.2.2.2)) (fun a ha => ?_) (fun _ _ => rfl) ?_ pv_0
          · exact mR_of (hS.2.2.2.1.2 (sNA A - 1) (by omega)) hm (by show wp (sA A (sNA A - 1)) ≤ 12; rw [pU]; exact h12) (fun k q => by rw [Nat.zero_add]; exact hk' k q)
          · intro i hi
            have hi' : i < sNA A - 1 := hi
            rw [e104]; exact hS.2.2.2.1.2 i (by omega)
          · rw [hf2 a (by simp; omega)]; exact hw.2.1 a ha
          · rw [e85 0 (by decide)]; exact hw.2.2
        | succ j ih =>
          intro i I' hi hf hk'
          have e48 : I' 85 48 = nI (sNA A - 1) := by rw [hf 85 (by decide), pm_us]
          have e104 : I' 104 = I 104 := by rw [hf 104 (by decide), pm_ua (by decide), pm_ua (by decide)]
          refine b_X11_undo_26 (q_f (nI_ge (by omega) (by omega)) ?_)
          rw [e48, e104, pk_mul, nI_add, nI_add, nI_clamp (by omega), nI_clamp (by omega)]
          refine ⟨vp_in_nI (by omega) (by omega), vp_in_nI (by omega) (by omega), ih (i + 1) _ (by omega) (fr_u (by simp) hf) (fun k q => ?_)⟩
          by_cases z : k = i
          · rw [z, pm_us]
          · rw [pm_uk z]; exact hk' k (by omega)
      exact loop 34 0 _ (by omega) fr_r (fun k h => absurd h (by omega))
def sFo (A : St) : St := (sT A, sW A, (sNA A, sA A), (0, sS A), sI A, sB A, sF A, sR A)
theorem op_forget (ho : ok A) : opv 91 210 A := by
  refine ⟨sFo A, ?_, ?_, ?_⟩
  · obtain ⟨h1, h2, h3, h4, h5, h6⟩ := ho
    exact ⟨h1, h2, h3, ⟨Nat.zero_le _, fun i hi => absurd hi (by show ¬ i < 0; omega)⟩, h5, h6⟩
  · intro L fz t I J Q hS hk
    refine e_X10_forget ?_
    have hf : fr [45] I (pm_u I 45 4 (nI 0)) := fr_u (by simp) fr_r
    obtain ⟨g1, g2, g3, g4⟩ := cS_keep (J' := J) hS hf (fun a ha => Or.inr (by simp at ha; subst ha; decide)) rfl
    exact hk fz t _ J ⟨g1, cW_fr hS.2.1 hf (by decide) (by decide) (by decide) (by decide), cM_fr hS.2.2.1 hf (by decide) (by decide), cA_of (hf _ (by decide)) (hf _ (by decide)) (hf _ (by decide)) (hf _ (by decide)) rfl hS.2.2.2.1, ⟨by rw [pm_us]; rfl, fun _ => (0, 0, 0, false), fun i hi => absurd hi (by show ¬ i < 0; omega), fun i hi => absurd hi (by show ¬ i < 0; omega), fun i hi => absurd hi (by show ¬ i < 0; omega)⟩, g2, g3, g4, by rw [hf 20 (by decide)]; exact hS.2.2.2.2.2.2.2.2⟩ (fun a ha => hf a (by simp; omega)) (fun _ _ => rfl)
  · intro L fz t I J Q hS hk
    refine e_X11_forget ?_
    have hw := mw_0 ho hS
    have hf : fr [85] (pm_u I 85 0 (nI 0)) (pm_u (pm_u I 85 0 (nI 0)) 85 55 (nI 0)) := fr_u (by simp) fr_r
    refine hk _ J _ (mS_of (A' := sFo A) hw.1 hf rfl (fun j hj => by rw [pm_uk (by omega)]) (by decide) (by decide) (by decide) (by decide) (by decide) (by decide) (by rw [pm_uk (by decide)]; exact hw.1.2.1) hw.1.2.2.1 ⟨by rw [pm_uk (by decide)]; exact hw.1.2.2.2.1.1, hw.1.2.2.2.1.2⟩ ⟨by rw [pm_us]; rfl, fun i hi => absurd hi (by show ¬ i < 0; omega)⟩ (mI_fr hw.1.2.2.2.2.2.1 hf (fun j hj => by rw [pm_uk (by omega)]) (by decide) (by decide) (by decide)) ⟨by rw [pm_uk (by decide)]; exact hw.1.2.2.2.2.2.2.1.1, hw.1.2.2.2.2.2.2.1.2⟩ (by rw [pm_uk (by decide)]; exact hw.1.2.2.2.2.2.2.2.1) hw.1.2.2.2.2.2.2.2.2) (fun a ha => ?_) (fun _ _ => rfl) ?_ rfl
    · rw [pm_ua (by omega)]; exact hw.2.1 a ha
    · rw [pm_uk (by decide)]; exact hw.2.2
end Ops
