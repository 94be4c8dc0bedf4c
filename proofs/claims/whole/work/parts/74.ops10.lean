theorem nar_b (b : Bool) : vp_nar .boolean (bz b) = bz b := by cases b <;> rfl
section Ops
variable {A : St}
section Spec
variable {d L : Nat} {fz t : Bool} {Q : pm_R → pm_H → Prop} {I I0 : Nat → Nat → Int32} {J : Nat → Nat → Int64}
theorem S_acopy {a b n : Nat} {As : Nat → Wk} {W : Wk} (hab : (a = 35 ∧ b = 40) ∨ (a = 40 ∧ b = 35)) (hA : cA b n As W I J) (hn : n ≤ 40) (hq : ∀ I' J', fr [a, a + 1, a + 2, a + 3] I I' → (∀ x, x ≠ a + 4 → J' x = J x) → cA a n As W I' J' → Q (.inl none) (pm_hp L fz t I' J')) : pm_Ev (d + 1) 3 [.ref a, .ref b] (pm_hp L fz t I J) Q := by
  refine e_X0_copy (by omega) (by omega) (hq _ _ (fr_u (by simp) (fr_ur (by simp) (fr_ur (by simp) (fr_ur (by simp) fr_r)))) (fun x hx => pm_ura hx) ⟨by rw [pm_us]; exact hA.1, fun i hi => ?_⟩)
  rw [pm_ua (by omega), pm_ua (by omega), pm_ua (by omega), pm_ura (by omega), pm_ura (by omega), pm_urs, cpy_0 (by omega)]
  rw [show pm_ur (pm_ur (pm_ur I (a + 1) (va_cpy (I (b + 1)) (I (a + 1)) 0 0 40)) (a + 2) (va_cpy (I (b + 2)) (I (a + 2)) 0 0 40)) (a + 3) (va_cpy (I (b + 3)) (I (a + 3)) 0 0 40) (a + 2) i = I (b + 2) i by rw [pm_ura (by omega), pm_urs, cpy_0 (by omega)]]
  rw [pm_urs, cpy_0 (by omega), pm_urs, show va_cpy (J (b + 4)) (J (a + 4)) 0 0 40 i = J (b + 4) i by rw [pk_cpy_in (by omega) (by omega), show 0 + (i - 0) = i by omega]]
  exact hA.2 i hi
theorem S_scopy {a b m : Nat} {S : Nat → Se} (hab : (a = 45 ∧ b = 50) ∨ (a = 50 ∧ b = 45)) (hN : cN b m S I) (hm : m ≤ 8) (hq : ∀ I', fr [a, a + 1, a + 2, a + 3, a + 4] I I' → cN a m S I' → Q (.inl none) (pm_hp L fz t I' J)) : pm_Ev (d + 1) 54 [.ref a, .ref b] (pm_hp L fz t I J) Q := by
  obtain ⟨e4, C, h1, h2, h3⟩ := hN
  have loop : ∀ (j i : Nat) (I' : Nat → Nat → Int32), i + j = 8 → fr [a + 1, a + 2, a + 3, a + 4] I I' → (∀ k, k < i → k < m → I' (a + 1) k = nI (C k).1 ∧ I' (a + 2) k = nI (C k).2.1 ∧ I' (a + 3) k = nI (C k).2.2.1 ∧ I' (a + 4) k = bz (C k).2.2.2) → t_X4_copy_2 d L fz t Q a b (nI i) I' J := by
    intro j
    induction j with
    | zero =>
      intro i I' hi hf hk
      obtain rfl : i = 8 := by omega
      refine b_X4_copy_2 (by omega) (by omega) (q_t (nI_le (by omega) (by omega)) (hq _ (fr_u (by simp) (fr_m hf (by intro x; simp; omega))) ⟨?_, C, h1, h2, fun k hk' => ?_⟩))
      · rw [pm_us, hf b (by simp; omega)]; exact e4
      · rw [pm_ua (by omega), pm_ua (by omega), pm_ua (by omega), pm_ua (by omega)]
        exact hk k (by omega) hk'
    | succ j ih =>
      intro i I' hi hf hk
      refine b_X4_copy_2 (by omega) (by omega) (q_f (nI_ge (by omega) (by omega)) ?_)
      rw [nI_clamp (by omega), nI_add, hf (b + 1) (by simp; omega), hf (b + 2) (by simp; omega), hf (b + 3) (by simp; omega), hf (b + 4) (by simp; omega)]
      have v : vp_in (nI i) 8 := vp_in_nI (by omega) (by omega)
      refine ⟨v, v, v, v, v, v, v, v, ih (i + 1) _ (by omega) (fr_u (by simp) (fr_u (by simp) (fr_u (by simp) (fr_u (by simp) hf)))) (fun k hk' hkm => ?_)⟩
      by_cases e : k = i
      · subst e
        obtain ⟨g1, g2, g3, g4⟩ := h3 k hkm
        refine ⟨?_, ?_, ?_, ?_⟩
        · rw [pm_ua (by omega), pm_ua (by omega), pm_ua (by omega), pm_us]; exact g1
        · rw [pm_ua (by omega), pm_ua (by omega), pm_us]; exact g2
        · rw [pm_ua (by omega), pm_us]; exact g3
        · rw [pm_us, g4]; exact nar_b _
      · obtain ⟨g1, g2, g3, g4⟩ := hk k (by omega) hkm
        refine ⟨?_, ?_, ?_, ?_⟩
        · rw [pm_ua (by omega), pm_ua (by omega), pm_ua (by omega), pm_uk e]; exact g1
        · rw [pm_ua (by omega), pm_ua (by omega), pm_uk e, pm_ua (by omega)]; exact g2
        · rw [pm_ua (by omega), pm_uk e, pm_ua (by omega), pm_ua (by omega)]; exact g3
        · rw [pm_uk e, pm_ua (by omega), pm_ua (by omega), pm_ua (by omega)]; exact g4
  exact e_X4_copy (by omega) (by omega) (loop 8 0 I (by omega) fr_r (fun k h => absurd h (by omega)))
end Spec
def sIm (A : St) : St := (sT A, sW A, (sNA A, sA A), (sNS A, sS A), some (sW A, sNA A, sA A, sNS A, sS A), sB A, sF A, sR A)
theorem op_image (ho : ok A) : opv 93 234 A := by
  have hm := ho.1.2.1
  have h12 := ho.2.1.2.2.2
  refine ⟨sIm A, ?_, ?_, ?_⟩
  · obtain ⟨h1, h2, h3, h4, h5, h6⟩ := ho
    refine ⟨h1, h2, h3, h4, fun V k Bs q C hI => ?_, h6⟩
    have e : some (sW A, sNA A, sA A, sNS A, sS A) = some (V, k, Bs, q, C) := hI
    cases e
    exact ⟨h2, rfl, h3, h4⟩
  · intro L fz t I J Q hS hk
    refine e_X10_image (S_wcopy (w := 31) (v := 23) (by omega) hS.2.1 h12 fun I1 f1 c1 => kb_X10_image_11 ?_)
    have a1 : cA 35 (sNA A) (sA A) (sW A) I1 J := cA_of (f1 _ (by decide)) (f1 _ (by decide)) (f1 _ (by decide)) (f1 _ (by decide)) rfl hS.2.2.2.1
    refine S_acopy (a := 40) (b := 35) (by omega) a1 ho.2.2.1.1 fun I2 J2 f2 j2 c2 => kb_X10_image_22 ?_
    have n2 : cN 45 (sNS A) (sS A) I2 := cN_of (by rw [f2 _ (by decide), f1 _ (by decide)]) (by rw [f2 _ (by decide), f1 _ (by decide)]) (by rw [f2 _ (by decide), f1 _ (by decide)]) (by rw [f2 _ (by decide), f1 _ (by decide)]) (by rw [f2 _ (by decide), f1 _ (by decide)]) hS.2.2.2.2.1
    refine S_scopy (a := 50) (b := 45) (by omega) n2 ho.2.2.2.1.1 fun I3 f3 c3 => kb_X10_image_33 ?_
    have hf : fr [0, 31, 32, 33, 34, 40, 41, 42, 43, 50, 51, 52, 53, 54] I (pm_u I3 0 17 (nI 1)) := fr_u (by simp) (fr_t (fr_t (fr_m f1 (by simp <;> omega)) (fr_m f2 (by simp <;> omega))) (fr_m f3 (by simp <;> omega)))
    have n0 : ∀ a, a ∉ [0, 31, 32, 33, 34, 40, 41, 42, 43, 50, 51, 52, 53, 54] → (pm_u I3 0 17 (nI 1)) a = I a := hf
    have e0 : ∀ j, j ≠ 17 → (pm_u I3 0 17 (nI 1)) 0 j = I 0 j := fun j hj => by rw [pm_uk hj, f3 0 (by decide), f2 0 (by decide), f1 0 (by decide)]
    refine hk fz t _ J2 ⟨cT_fr hS.1 hf (by cases t <;> decide) (by cases t <;> decide) (by cases t <;> decide) (by cases t <;> decide) (by cases t <;> decide) (by cases t <;> decide) (by cases t <;> decide) (by cases t <;> decide) (by cases t <;> decide) (by cases t <;> decide), cW_fr hS.2.1 hf (by decide) (by decide) (by decide) (by decide), cM_fr hS.2.2.1 hf (by decide) (by decide), cA_of (n0 _ (by decide)) (n0 _ (by decide)) (n0 _ (by decide)) (n0 _ (by decide)) (j2 39 (by decide)) hS.2.2.2.1, cN_of (n0 _ (by decide)) (n0 _ (by decide)) (n0 _ (by decide)) (n0 _ (by decide)) (n0 _ (by decide)) hS.2.2.2.2.1, ⟨by rw [pm_us]; rfl, fun V k Bs q C hI => ?_⟩, ⟨by rw [n0 1 (by decide)]; exact hS.2.2.2.2.2.2.1.1, by rw [n0 2 (by decide)]; exact hS.2.2.2.2.2.2.1.2⟩, ⟨by rw [e0 18 (by decide)]; exact hS.2.2.2.2.2.2.2.1.1, wr_of hS.2.2.2.2.2.2.2.1.2 (n0 58 (by decide)) (n0 73 (by decide))⟩, by rw [n0 20 (by decide)]; exact hS.2.2.2.2.2.2.2.2⟩ (fun a ha => hf a (by simp; omega)) (fun a ha => j2 a (by omega))
    have e : some (sW A, sNA A, sA A, sNS A, sS A) = some (V, k, Bs, q, C) := hI
    cases e
    have f3' : fr [0, 50, 51, 52, 53, 54] I2 (pm_u I3 0 17 (nI 1)) := fr_u (by simp) (fr_m f3 (by simp <;> omega))
    refine ⟨cW_fr (cW_fr c1 f2 (by decide) (by decide) (by decide) (by decide)) f3' (by decide) (by decide) (by decide) (by decide), cA_of (f3' _ (by decide)) (f3' _ (by decide)) (f3' _ (by decide)) (f3' _ (by decide)) rfl c2, cN_of (pm_ua (by decide)) (pm_ua (by decide)) (pm_ua (by decide)) (pm_ua (by decide)) (pm_ua (by decide)) c3⟩
  · intro L fz t I J Q hS hk
    have hw := mw_0 ho hS
    refine e_X11_image ?_
    have loop : ∀ (j i : Nat) (I' : Nat → Nat → Int32), i + j = 34 → fr [114] (pm_u (pm_u (pm_u (pm_u I 85 0 (nI 0)) 85 61 (nI 1)) 85 62 (I 85 48)) 85 63 (I 85 55)) I' → (∀ k, k < i → I' 114 k = I 103 k) → t_X11_image_28 59 L fz t Q (nI i) I' J := by
      intro j
      induction j with
      | zero =>
        intro i I' hi hf hk'
        obtain rfl : i = 34 := by omega
        refine b_X11_image_28 (q_t (nI_le (by omega) (by omega)) (S_copies (a1 := 104) (a2 := 115) (n0 := 1360) (by omega) fun I2 f2 c2 => kb_X11_image_64 (S_copies (a1 := 110) (a2 := 116) (n0 := 32) (by omega) fun I3 f3 c3 => kb_X11_image_76 ?_)))
        have e85 : I3 85 = (pm_u (pm_u (pm_u (pm_u I 85 0 (nI 0)) 85 61 (nI 1)) 85 62 (I 85 48)) 85 63 (I 85 55)) 85 := by rw [f3 85 (by decide), f2 85 (by decide), hf 85 (by decide)]
        have e85' : ∀ j, j ≠ 61 → j ≠ 62 → j ≠ 63 → I3 85 j = (pm_u I 85 0 (nI 0)) 85 j := fun j a b c => by rw [e85, pm_uk c, pm_uk b, pm_uk a]
        have hf2 : fr [85, 114, 115, 116] (pm_u I 85 0 (nI 0)) I3 := fr_t (fr_t (fr_t (fr_u (by simp) (fr_u (by simp) (fr_u (by simp) fr_r))) (fr_m hf (by simp))) (fr_m f2 (by simp))) (fr_m f3 (by simp))
        refine hk _ J _ (mS_of (A' := sIm A) hw.1 hf2 rfl (fun j hj => e85' j (by omega) (by omega) (by omega)) (by decide) (by decide) (by decide) (by decide) (by decide) (by decide) (by rw [e85' 3 (by decide) (by decide) (by decide)]; exact hw.1.2.1) (by rw [hf2 103 (by decide)]; exact hw.1.2.2.1) ⟨by rw [e85' 48 (by decide) (by decide) (by decide)]; exact hw.1.2.2.2.1.1, by unfold mA; rw [hf2 104 (by decide)]; exact hw.1.2.2.2.1.2⟩ ⟨by rw [e85' 55 (by decide) (by decide) (by decide)]; exact hw.1.2.2.2.2.1.1, by unfold mN; rw [hf2 110 (by decide)]; exact hw.1.2.2.2.2.1.2⟩ ⟨by rw [e85, pm_uk (by decide), pm_uk (by decide), pm_us]; rfl, fun V k Bs q C hI => ?_⟩ ⟨by rw [e85' 14 (by decide) (by decide) (by decide)]; exact hw.1.2.2.2.2.2.2.1.1, by rw [hf2 92 (by decide)]; exact hw.1.2.2.2.2.2.2.1.2⟩ (by rw [e85' 16 (by decide) (by decide) (by decide)]; exact hw.1.2.2.2.2.2.2.2.1) (by rw [hf2 93 (by decide)]; exact hw.1.2.2.2.2.2.2.2.2)) (fun a ha => ?_) (fun _ _ => rfl) ?_ rfl
        · have e : some (sW A, sNA A, sA A, sNS A, sS A) = some (V, k, Bs, q, C) := hI
          cases e
          refine ⟨?_, by rw [e85, pm_uk (by decide), pm_us]; exact hS.2.2.2.1.1, fun i hi => ?_, by rw [e85, pm_us]; exact hS.2.2.2.2.1.1, fun i hi => ?_⟩
          · rw [f3 114 (by decide), f2 114 (by decide)]
            exact mR_of hS.2.2.1 hm h12 (fun k hk2 => by rw [Nat.zero_add]; exact hk' k hk2)
          · have h40 := ho.2.2.1.1
            rw [f3 115 (by decide)]
            refine mR_of (hS.2.2.2.1.2 i hi) hm (by rw [(ho.2.2.1.2 i hi).2]; exact h12) (fun k hk2 => ?_)
            rw [c2 _ (by omega), hf 104 (by decide), pm_ua (by decide), pm_ua (by decide), pm_ua (by decide), pm_ua (by decide)]
          · have h8 := ho.2.2.2.1.1
            have e110 : I2 110 = I 110 := by rw [f2 110 (by decide), hf 110 (by decide), pm_ua (by decide), pm_ua (by decide), pm_ua (by decide), pm_ua (by decide)]
            rw [c3 _ (by omega), c3 _ (by omega), c3 _ (by omega), c3 _ (by omega), e110]
            exact hS.2.2.2.2.1.2 i hi
        · rw [hf2 a (by simp; omega)]; exact hw.2.1 a ha
        · rw [e85' 0 (by decide) (by decide) (by decide)]; exact hw.2.2
      | succ j ih =>
        intro i I' hi hf hk'
        refine b_X11_image_28 (q_f (nI_ge (by omega) (by omega)) ?_)
        rw [nI_clamp (by omega), nI_add, hf 103 (by decide), pm_ua (by decide), pm_ua (by decide), pm_ua (by decide), pm_ua (by decide)]
        refine ⟨vp_in_nI (by omega) (by omega), vp_in_nI (by omega) (by omega), ih (i + 1) _ (by omega) (fr_u (by simp) hf) (fun k q => ?_)⟩
        by_cases z : k = i
        · rw [z, pm_us]
        · rw [pm_uk z]; exact hk' k (by omega)
    exact loop 34 0 _ (by omega) fr_r (fun k h => absurd h (by omega))
theorem op_restore (ho : ok A) : opx 94 235 [] A 1 := by
  have hm := ho.1.2.1
  cases hI : sI A with
  | none =>
    refine ⟨A, 0, by decide, nI 0, ho, ?_, ?_⟩
    · intro L fz t I J Q hS hk
      refine e_X10_restore ?_
      have := hS.2.2.2.2.2.1.1
      rw [hI] at this
      rw [this]
      exact q_f' rfl (cS_r hS hk)
    · intro L fz t I J Q hS hk
      refine e_X11_restore ?_
      have := hS.2.2.2.2.2.1.1
      rw [hI] at this
      rw [this]
      exact q_f' rfl (mw_e (mw_0 ho hS) hk pv_0)
  | some im =>
    obtain ⟨V, k, Bs, q, C⟩ := im
    obtain ⟨o1, o2, o3, o4⟩ := ho.2.2.2.2.1 V k Bs q C hI
    have hp := o1.2.2.2
    refine ⟨(sT A, V, (k, Bs), (q, C), sI A, sB A, sF A, sR A), 0, by decide, nI 1, ?_, ?_, ?_⟩
    · obtain ⟨h1, h2, h3, h4, h5, h6⟩ := ho
      refine ⟨h1, o1, o3, o4, fun V' k' Bs' q' C' hI' => ?_, h6⟩
      have e : sI A = some (V', k', Bs', q', C') := hI'
      rw [hI] at e
      cases e
      exact ⟨o1, rfl, o3, o4⟩
    · intro L fz t I J Q hS hk
      obtain ⟨i1, i2⟩ := hS.2.2.2.2.2.1
      obtain ⟨c1, c2, c3⟩ := i2 V k Bs q C hI
      refine e_X10_restore ?_
      rw [i1, hI]
      refine q_t' nI_01 (S_wcopy (w := 23) (v := 31) (by omega) c1 hp fun I1 f1 w1 => kb_X10_restore_20 ?_)
      have a1 : cA 40 k Bs V I1 J := cA_of (f1 _ (by decide)) (f1 _ (by decide)) (f1 _ (by decide)) (f1 _ (by decide)) rfl c2
      refine S_acopy (a := 35) (b := 40) (by omega) a1 o3.1 fun I2 J2 f2 j2 w2 => kb_X10_restore_31 ?_
      have n2 : cN 50 q C I2 := cN_of (by rw [f2 _ (by decide), f1 _ (by decide)]) (by rw [f2 _ (by decide), f1 _ (by decide)]) (by rw [f2 _ (by decide), f1 _ (by decide)]) (by rw [f2 _ (by decide), f1 _ (by decide)]) (by rw [f2 _ (by decide), f1 _ (by decide)]) c3
      refine S_scopy (a := 45) (b := 50) (by omega) n2 o4.1 fun I3 f3 w3 => kb_X10_restore_42 ?_
      have hf : fr [23, 24, 25, 26, 35, 36, 37, 38, 45, 46, 47, 48, 49] I I3 := fr_t (fr_t (fr_m f1 (by simp <;> omega)) (fr_m f2 (by simp <;> omega))) (fr_m f3 (by simp <;> omega))
      obtain ⟨g1, g2, g3, g4⟩ := cS_keep (J' := J2) hS hf (fun a ha => Or.inr (by unfold as'; simp at ha ⊢; omega)) (j2 44 (by decide))
      refine hk fz t I3 J2 ⟨g1, cW_fr (cW_fr w1 f2 (by decide) (by decide) (by decide) (by decide)) f3 (by decide) (by decide) (by decide) (by decide), cM_fr hS.2.2.1 hf (by decide) (by decide), cA_of (f3 _ (by decide)) (f3 _ (by decide)) (f3 _ (by decide)) (f3 _ (by decide)) rfl w2, w3, g2, g3, g4, by rw [hf 20 (by decide)]; exact hS.2.2.2.2.2.2.2.2⟩ (fun a ha => hf a (by simp; omega)) (fun a ha => j2 a (by omega))
    · intro L fz t I J Q hS hk
      have hw := mw_0 ho hS
      obtain ⟨i1, i2⟩ := hS.2.2.2.2.2.1
      obtain ⟨m1, m2, m3, m4, m5⟩ := i2 V k Bs q C hI
      refine e_X11_restore ?_
      rw [i1, hI, m2, m4]
      refine q_t' nI_01 ?_
      have loop : ∀ (j i : Nat) (I' : Nat → Nat → Int32), i + j = 34 → fr [103] (pm_u (pm_u (pm_u I 85 0 (nI 0)) 85 48 (nI k)) 85 55 (nI q)) I' → (∀ k, k < i → I' 103 k = I 114 k) → t_X11_restore_32 59 L fz t Q (nI i) I' J := by
        intro j
        induction j with
        | zero =>
          intro i I' hi hf hk'
          obtain rfl : i = 34 := by omega
          refine b_X11_restore_32 (q_t (nI_le (by omega) (by omega)) (S_copies (a1 := 115) (a2 := 104) (n0 := 1360) (by omega) fun I2 f2 c2 => kb_X11_restore_68 (S_copies (a1 := 116) (a2 := 110) (n0 := 32) (by omega) fun I3 f3 c3 => kb_X11_restore_80 ?_)))
          have e85 : I3 85 = (pm_u (pm_u (pm_u I 85 0 (nI 0)) 85 48 (nI k)) 85 55 (nI q)) 85 := by rw [f3 85 (by decide), f2 85 (by decide), hf 85 (by decide)]
          have e85' : ∀ j, j ≠ 48 → j ≠ 55 → I3 85 j = (pm_u I 85 0 (nI 0)) 85 j := fun j a b => by rw [e85, pm_uk b, pm_uk a]
          have hf2 : fr [85, 103, 104, 110] (pm_u I 85 0 (nI 0)) I3 := fr_t (fr_t (fr_t (fr_u (by simp) (fr_u (by simp) fr_r)) (fr_m hf (by simp))) (fr_m f2 (by simp))) (fr_m f3 (by simp))
          refine hk _ J _ (mS_of (A' := (sT A, V, (k, Bs), (q, C), sI A, sB A, sF A, sR A)) hw.1 hf2 rfl (fun j hj => e85' j (by omega) (by omega)) (by decide) (by decide) (by decide) (by decide) (by decide) (by decide) (by rw [e85' 3 (by decide) (by decide)]; show _ = nI (wp V); rw [o2]; exact hw.1.2.1) ?_ ⟨by rw [e85, pm_uk (by decide), pm_us]; rfl, fun i hi => ?_⟩ ⟨by rw [e85, pm_us]; rfl, fun i hi => ?_⟩ (mI_fr hw.1.2.2.2.2.2.1 hf2 (fun j hj => e85' j (by omega) (by omega)) (by decide) (by decide) (by decide)) ⟨by rw [e85' 14 (by decide) (by decide)]; exact hw.1.2.2.2.2.2.2.1.1, by rw [hf2 92 (by decide)]; exact hw.1.2.2.2.2.2.2.1.2⟩ (by rw [e85' 16 (by decide) (by decide)]; exact hw.1.2.2.2.2.2.2.2.1) (by rw [hf2 93 (by decide)]; exact hw.1.2.2.2.2.2.2.2.2)) (fun a ha => ?_) (fun _ _ => rfl) ?_ pv_0
          · rw [f3 103 (by decide), f2 103 (by decide)]
            exact mR_of m1 hm hp (fun k hk2 => by rw [Nat.zero_add]; exact hk' k hk2)
          · have h40 := o3.1
            have hi' : i < k := hi
            rw [f3 104 (by decide)]
            refine mR_of (m3 i hi') hm (by show wp (Bs i) ≤ 12; rw [(o3.2 i hi').2]; exact hp) (fun x hx => ?_)
            rw [c2 _ (by omega), hf 115 (by decide), pm_ua (by decide), pm_ua (by decide), pm_ua (by decide)]
          · have h8 := o4.1
            have hi' : i < q := hi
            have e116 : I2 116 = I 116 := by rw [f2 116 (by decide), hf 116 (by decide), pm_ua (by decide), pm_ua (by decide), pm_ua (by decide)]
            rw [c3 _ (by omega), c3 _ (by omega), c3 _ (by omega), c3 _ (by omega), e116]
            exact m5 i hi'
          · rw [hf2 a (by simp; omega)]; exact hw.2.1 a ha
          · rw [e85' 0 (by decide) (by decide)]; exact hw.2.2
        | succ j ih =>
          intro i I' hi hf hk'
          refine b_X11_restore_32 (q_f (nI_ge (by omega) (by omega)) ?_)
          rw [nI_clamp (by omega), nI_add, hf 114 (by decide), pm_ua (by decide), pm_ua (by decide), pm_ua (by decide)]
          refine ⟨vp_in_nI (by omega) (by omega), vp_in_nI (by omega) (by omega), ih (i + 1) _ (by omega) (fr_u (by simp) hf) (fun x hx => ?_)⟩
          by_cases z : x = i
          · rw [z, pm_us]
          · rw [pm_uk z]; exact hk' x (by omega)
      exact loop 34 0 _ (by omega) fr_r (fun x h => absurd h (by omega))
end Ops
