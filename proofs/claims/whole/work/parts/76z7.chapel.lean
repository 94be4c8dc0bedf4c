/-! the call that reads -/
theorem ok_aOk {A : St} {D : Dr} (ho : okD D) : ok (aOk A D) := by
  have hN2 := ho.1.1
  exact ⟨ho.1, ⟨fun c _ => sm_and' (sm_al (by omega)), ho.2.1, ho.2.2.1, ho.2.2.2.1⟩, ⟨Nat.zero_le _, fun i hi => absurd hi (Nat.not_lt_zero i)⟩, ⟨Nat.zero_le _, fun i hi => absurd hi (Nat.not_lt_zero i)⟩, fun V k Bs q C h => (by cases h), Nat.zero_le _, fun x hx => (by cases hx)⟩
theorem ok_aBad {A : St} {p : Int32} (ho : ok A) : ok (aBad A p) :=
  ⟨ho.1, ho.2.1, ho.2.2.1, ho.2.2.2.1, ho.2.2.2.2.1, Nat.zero_le _, fun x hx => (by cases hx)⟩
theorem M_chapel {A : St} (ho : ok A) (x : Int32) {A' : St} {e : Nat} {v : Int32} (hR : cRel A x A' e v) : MS 60 155 [.ref 85, .int x] A A' e (pv e v) := by
  intro L fz t I J Q hS hk
  have h700 := ho.2.2.2.2.2.1
  have h256 := ho.2.2.2.2.2.2
  have hB := hS.2.2.2.2.2.2.1
  rcases hR with ⟨hx, rfl, rfl⟩ | ⟨n, D0, r, hn, rfl, o0, z0, hr, rfl, hm⟩
  · have bad : pm_Ev 59 118 [.ref 85, .int (nI 0), .int (nI 1)] (pm_hp L fz t (pm_u I 85 0 (nI 0)) J) (K_X11_chapel_27 59 fz t Q x) := by
      refine e_X11_right (q_f' pm_us (q_f' rfl (q_t' nI_01 (kb_X11_chapel_27 (q_f' rfl ?_)))))
      exact mS_d ho hS hk (mq_th m0_q) pm_us (pv_e (by decide))
    refine e_X11_chapel ⟨fun _ => bad, fun h1 => ⟨fun _ => bad, fun h2 => absurd ?_ hx⟩⟩
    obtain ⟨j, hj, rfl⟩ := nI_of h1
    rw [hB.1, nI_ltI (by omega) (by omega)] at h2
    exact ⟨j, by omega, rfl⟩
  · refine e_X11_chapel (q_f (fun q => by rw [nI_ltI (by omega) (by omega)] at q; omega) (q_f (fun q => by rw [hB.1, nI_ltI (by omega) (by omega)] at q; omega) (e_X11_right (q_f' pm_us (q_t' nI_01 (kb_X11_chapel_27 (q_t' nI_01 ?_)))))))
    have hg := gB_lt h256
    generalize hI0 : pm_u (pm_u (pm_u (pm_u (pm_u (pm_u (pm_u (pm_u (pm_u (pm_u (pm_u (pm_u (pm_u (pm_u (pm_u I 85 0 (nI 0)) 85 14 (nI 0)) 85 16 (-1 : Int32)) 85 15 (nI 0)) 85 18 (nI n)) 85 19 (nI 0)) 85 26 (-1 : Int32)) 85 27 (nI 0)) 85 28 (nI 0)) 85 29 (nI 0)) 85 30 (-1 : Int32)) 85 31 (-1 : Int32)) 99 0 (nI 0)) 99 1 (nI 0)) 85 32 (nI 0) = I0
    have a : ∀ b, b ≠ 85 → b ≠ 99 → I0 b = I b := fun b h1 h2 => by rw [← hI0, pm_ua h1, pm_ua h2, pm_ua h2, pm_ua h1, pm_ua h1, pm_ua h1, pm_ua h1, pm_ua h1, pm_ua h1, pm_ua h1, pm_ua h1, pm_ua h1, pm_ua h1, pm_ua h1, pm_ua h1]
    have q85 : ∀ k, I0 85 k = if k = 32 then nI 0 else if k = 31 then -1 else if k = 30 then -1 else if k = 29 then nI 0 else if k = 28 then nI 0 else if k = 27 then nI 0 else if k = 26 then -1 else if k = 19 then nI 0 else if k = 18 then nI n else if k = 15 then nI 0 else if k = 16 then -1 else if k = 14 then nI 0 else if k = 0 then nI 0 else I 85 k := fun k => by
      rw [← hI0]
      by_cases e1 : k = 32
      · rw [e1, pm_us, if_pos rfl]
      rw [pm_uk e1, if_neg e1, pm_ua (by decide), pm_ua (by decide)]
      by_cases e2 : k = 31
      · rw [e2, pm_us, if_pos rfl]
      rw [pm_uk e2, if_neg e2]
      by_cases e3 : k = 30
      · rw [e3, pm_us, if_pos rfl]
      rw [pm_uk e3, if_neg e3]
      by_cases e4 : k = 29
      · rw [e4, pm_us, if_pos rfl]
      rw [pm_uk e4, if_neg e4]
      by_cases e5 : k = 28
      · rw [e5, pm_us, if_pos rfl]
      rw [pm_uk e5, if_neg e5]
      by_cases e6 : k = 27
      · rw [e6, pm_us, if_pos rfl]
      rw [pm_uk e6, if_neg e6]
      by_cases e7 : k = 26
      · rw [e7, pm_us, if_pos rfl]
      rw [pm_uk e7, if_neg e7]
      by_cases e8 : k = 19
      · rw [e8, pm_us, if_pos rfl]
      rw [pm_uk e8, if_neg e8]
      by_cases e9 : k = 18
      · rw [e9, pm_us, if_pos rfl]
      rw [pm_uk e9, if_neg e9]
      by_cases e10 : k = 15
      · rw [e10, pm_us, if_pos rfl]
      rw [pm_uk e10, if_neg e10]
      by_cases e11 : k = 16
      · rw [e11, pm_us, if_pos rfl]
      rw [pm_uk e11, if_neg e11]
      by_cases e12 : k = 14
      · rw [e12, pm_us, if_pos rfl]
      rw [pm_uk e12, if_neg e12]
      by_cases e13 : k = 0
      · rw [e13, pm_us, if_pos rfl]
      rw [pm_uk e13, if_neg e13]
    have qo : ∀ k, k ≠ 0 → k < 14 ∨ 37 ≤ k → I0 85 k = I 85 k := fun k h1 h2 => by
      rw [q85 k, if_neg (by omega), if_neg (by omega), if_neg (by omega), if_neg (by omega), if_neg (by omega), if_neg (by omega), if_neg (by omega), if_neg (by omega), if_neg (by omega), if_neg (by omega), if_neg (by omega), if_neg (by omega), if_neg h1]
    have c99 : I0 99 0 = nI 0 ∧ I0 99 1 = nI 0 := by
      rw [← hI0, pm_ua (by decide)]
      exact ⟨by rw [pm_uk (by decide), pm_us], pm_us⟩
    have tp : mTp (gB (sB A)) n I0 := ⟨q85 18, fun i hi => by rw [a 92 (by decide) (by decide)]; exact hB.2 i (by omega)⟩
    obtain ⟨z1, z2, z3, z4, z5, z6⟩ := z0
    have D00 : mD D0 [] I0 := by
      refine ⟨?_, ⟨?_, ?_, ?_⟩, ⟨⟨q85 32, fun i hi => absurd hi (Nat.not_lt_zero i)⟩, Or.inl ⟨z5, q85 30⟩, Or.inl ⟨z6, q85 31⟩⟩, fun c hc => ?_, fun f hf => ?_, fun f hf => ?_, ?_, ?_, fun c hc => ?_, fun k hk => ?_⟩
      · rw [z1]; exact q85 26
      · rw [z2]; exact q85 27
      · rw [z3]; exact q85 28
      · rw [z4]; exact q85 29
      · rw [z2] at hc; exact absurd hc (Nat.not_lt_zero c)
      · rw [z4] at hf; exact absurd hf (Nat.not_lt_zero f)
      · rw [z4] at hf; exact absurd hf (Nat.not_lt_zero f)
      · rw [o0.2.2.2.2.2.2.1]; exact c99.1
      · rw [o0.2.2.2.2.2.2.2]; exact c99.2
      · rw [z2] at hc; exact absurd hc (Nat.not_lt_zero c)
      · rw [z3] at hk; exact absurd hk (Nat.not_lt_zero k)
    refine S_goes (d := 57) hg (by omega) tp (p := 0) (Nat.zero_le _) (q85 19) fun I1 J1 k1 f1 j1 => ?_
    show t_X11_chapel_110 59 L fz t Q I1 J1
    have g1 : mG (gB (sB A)) n 0 I1 J1 := ⟨k1, (f1.2 15 (by omega)).trans (q85 15)⟩
    refine M_lines (d := 52) (I := I0) (J := J) (r := r) hg (by omega) (fun I2 J2 D p C hr2 oD hp hC g2 c2 l2 j2 => ?_) (fun I2 J2 y q hr2 b2 l2 j2 => ?_) 701 0 D0 [] I1 J1 hr (Nat.zero_le _) o0 (Nat.zero_le _) g1 (mD_g D00 f1) (nF_g f1) j1
    · subst hr2
      obtain ⟨rfl, rfl⟩ := hm
      refine M_tail (d := 57) c2 oD (by omega) g2.2 fun I3 hT e3 eR e48 e55 e61 eo e85 => hk I3 J2 _ ⟨hT, e3, eR, ⟨e48, fun i hi => absurd hi (Nat.not_lt_zero i)⟩, ⟨e55, fun i hi => absurd hi (Nat.not_lt_zero i)⟩, ⟨e61, fun V k Bs q C' h => (by cases h)⟩, ⟨?_, fun i hi => absurd hi (Nat.not_lt_zero i)⟩, ?_, fun i hi => ?_⟩ (fun b hb => ?_) (fun b hb => j2 b (by omega)) ?_ pv_0
      · rw [e85 14 (by omega), l2.2 14 (by omega)]; exact q85 14
      · rw [e85 16 (by omega), l2.2 16 (Or.inr (Or.inr (Or.inr (Or.inr ⟨Or.inr rfl, g2.2⟩))))]; exact q85 16
      · rw [eo 93 (by omega) (by omega) (by omega), l2.1 93 (by omega) (by omega), a 93 (by omega) (by omega)]
        exact hS.2.2.2.2.2.2.2.2 i hi
      · rw [eo b (by omega) (by omega) (by omega), l2.1 b (by omega) (by omega), a b (by omega) (by omega)]
      · rw [e85 0 (by omega), l2.2 0 (by omega)]; exact q85 0
    · subst hr2
      obtain ⟨rfl, hy, rfl⟩ := hm
      have w85 : ∀ k, k ≠ 0 → k < 14 ∨ 37 ≤ k → pm_u I2 93 0 (I2 93 0 + nI 1) 85 k = I 85 k := fun k h1 h2 => by rw [pm_ua (by omega), l2.2 k (by omega), qo k h1 h2]
      have wo' : ∀ b, b ≠ 85 → b ≠ 93 → (b < 94 ∨ 103 ≤ b) → pm_u I2 93 0 (I2 93 0 + nI 1) b = I b := fun b h1 h2 h3 => by rw [pm_ua h2, l2.1 b h1 (by omega), a b h1 (by omega)]
      have hf : fr [85, 93, 94, 95, 96, 97, 98, 99, 100, 101, 102] I (pm_u I2 93 0 (I2 93 0 + nI 1)) := fun b hb => wo' b (by simp at hb; omega) (by simp at hb; omega) (by simp at hb; omega)
      rw [b2.1]
      refine hk _ J2 _ (mS_of (A' := aBad A (nI (tst (gB (sB A)) n q))) hS hf rfl (fun j hj => w85 j (by omega) (by omega)) (by decide) (by decide) (by decide) (by decide) (by decide) (by decide) ?_ ?_ ⟨?_, ?_⟩ ⟨?_, ?_⟩ (mI_fr hS.2.2.2.2.2.1 hf (fun j hj => w85 j (by omega) (by omega)) (by decide) (by decide) (by decide)) ⟨?_, fun i hi => absurd hi (Nat.not_lt_zero i)⟩ ?_ (fun i hi => ?_)) (fun b hb => wo' b (by omega) (by omega) (by omega)) (fun b hb => j2 b (by omega)) ?_ pv_0
      · rw [w85 3 (by omega) (by omega)]; exact hS.2.1
      · rw [wo' 103 (by omega) (by omega) (by omega)]; exact hS.2.2.1
      · rw [w85 48 (by omega) (by omega)]; exact hS.2.2.2.1.1
      · unfold mA; rw [wo' 104 (by omega) (by omega) (by omega)]; exact hS.2.2.2.1.2
      · rw [w85 55 (by omega) (by omega)]; exact hS.2.2.2.2.1.1
      · unfold mN; rw [wo' 110 (by omega) (by omega) (by omega)]; exact hS.2.2.2.2.1.2
      · rw [pm_ua (by omega), l2.2 14 (by omega)]; exact q85 14
      · rw [pm_ua (by omega)]; exact b2.2.2
      · show _ = if i = 0 then sR A i + nI 1 else sR A i
        by_cases e : i = 0
        · rw [e, pm_us, if_pos rfl, l2.1 93 (by omega) (by omega), a 93 (by omega) (by omega), hS.2.2.2.2.2.2.2.2 0 (by omega)]
        · rw [pm_uk e, if_neg e, l2.1 93 (by omega) (by omega), a 93 (by omega) (by omega)]; exact hS.2.2.2.2.2.2.2.2 i hi
      · rw [pm_ua (by omega), l2.2 0 (by omega)]; exact q85 0
theorem op_chapel {A : St} (ho : ok A) (x : Int32) : opr 249 155 [.int x] A 2 := by
  refine ⟨cRel A x, C_chapel ho x, fun A' e v h => ⟨?_, ?_, M_chapel ho x h⟩⟩
  · rcases h with ⟨_, rfl, _⟩ | ⟨n, D0, r, _, _, o0, _, hr, _, hm⟩
    · exact ho
    · rcases r with ⟨D, p⟩ | ⟨y, q⟩
      · rw [hm.2]; exact ok_aOk (Rd_ok 701 0 D0 (Nat.zero_le _) o0 hr).1
      · rw [hm.2.2]; exact ok_aBad ho
  · rcases h with ⟨_, _, rfl⟩ | ⟨n, D0, r, _, _, _, _, _, rfl, _⟩
    · decide
    · decide
