/-! the call that reads: the class -/
def aOk (A : St) (D : Dr) : St := (dT D, wB D, (0, sA A), (0, sS A), none, [], -1, sR A)
def aBad (A : St) (p : Int32) : St := (sT A, sW A, (sNA A, sA A), (sNS A, sS A), sI A, [], p, fun i => if i = 0 then sR A i + nI 1 else sR A i)
def cRel (A : St) (x : Int32) (A' : St) (e : Nat) (v : Int32) : Prop := (¬ (∃ n, n ≤ (sB A).length ∧ x = nI n) ∧ A' = A ∧ e = 1) ∨ (∃ n D0 r, n ≤ (sB A).length ∧ x = nI n ∧ okD D0 ∧ s0 D0 ∧ Rd (tK (gB (sB A)) n) (tnx (gB (sB A)) n) 701 0 D0 r ∧ e = 0 ∧ match r with
  | .inl (D, _) => v = nI 0 ∧ A' = aOk A D
  | .inr (y, q) => v = nI y ∧ (0 < y ∧ y < 8) ∧ A' = aBad A (nI (tst (gB (sB A)) n q)))
def CSr (D kc : Nat) (as : List Value) (A : St) (one : Nat) (Rel : St → Nat → Int32 → Prop) : Prop := ∀ (L : Nat) (fz t : Bool) (I : Nat → Nat → Int32) (J : Nat → Nat → Int64) (Q : pm_R → pm_H → Prop), cS A t I J → (∀ (A' : St) (e : Nat) (v : Int32), Rel A' e v → ∀ (fz' t' : Bool) (I' : Nat → Nat → Int32) (J' : Nat → Nat → Int64), cS A' t' I' J' → co I I' → (∀ a, 85 ≤ a → J' a = J a) → Q (er one e v) (pm_hp L fz' t' I' J')) → pm_Ev D kc as (pm_hp L fz t I J) Q
def opr (kc km : Nat) (as : List Value) (A : St) (one : Nat) : Prop := ∃ Rel : St → Nat → Int32 → Prop, CSr 59 kc (.ref 0 :: as) A one Rel ∧ ∀ A' e v, Rel A' e v → ok A' ∧ e ≤ hiE kc ∧ MS 60 km (.ref 85 :: as) A A' e (pv e v)
theorem td_n (t : Bool) : (pm_td t = 55 ∧ pm_td (!t) = 70) ∨ (pm_td t = 70 ∧ pm_td (!t) = 55) := by cases t; exact Or.inl ⟨rfl, rfl⟩; exact Or.inr ⟨rfl, rfl⟩
theorem C_chapel {A : St} (ho : ok A) (x : Int32) : CSr 59 249 [.ref 0, .int x] A 2 (cRel A x) := by
  intro L fz t I J Q hS hk
  have h700 := ho.2.2.2.2.2.1
  have h256 := ho.2.2.2.2.2.2
  have hB := hS.2.2.2.2.2.2.1
  have td := td_n t
  refine e_X10_chapel ?_
  by_cases hx : ∃ n, n ≤ (sB A).length ∧ x = nI n
  · obtain ⟨n, hn, rfl⟩ := hx
    have hwr := hS.2.2.2.2.2.2.2.1.2
    have hw : wr1 (pm_td (!t) + 3) I := by
      rcases td with ⟨_, e⟩ | ⟨_, e⟩ <;> rw [e]
      · exact fun c hc => hwr 73 (Or.inr rfl) c hc
      · exact fun c hc => hwr 58 (Or.inl rfl) c hc
    have ha : pm_td (!t) = 55 ∨ pm_td (!t) = 70 := by omega
    refine q_f (fun q => by rw [nI_ltI (by omega) (by omega)] at q; omega) ?_
    rw [hB.1]
    refine q_t (nI_le hn (by omega)) (C_read (d := 5) hB h256 h700 hn ha hw fun I1 D0 r o0 z0 hr e1 hm => kb_X10_chapel_37 ?_)
    have oe : ∀ b, 85 ≤ b → I1 b = I b := fun b hb => e1 b (by omega) (by omega)
    rcases r with ⟨D, p⟩ | ⟨y, q⟩
    · obtain ⟨g1, c1⟩ := hm
      obtain ⟨oD, _⟩ := Rd_ok 701 0 D0 (Nat.zero_le _) o0 hr
      refine q_t g1.2 (e_X2_forgetRule (S_fill (d := 56) (n0 := 120) (by omega) fun I2 f2 v2 => kb_X2_forgetRule_8 (kb_X10_chapel_103 ?_)))
      have c2 : cD (pm_td (!t)) D I2 := cD_j c1 fun j hj => by rw [f2 _ (by simp; omega), pm_ua (by omega), pm_ua (by omega)]
      refine C_begin (d := 57) ha c2 oD.2.2.2.1 fun I3 f3 w3 => kb_X10_chapel_114 (t := !t) (hk (aOk A D) 0 (nI 0) (Or.inr ⟨n, D0, .inl (D, p), hn, rfl, o0, z0, hr, rfl, rfl, rfl⟩) fz (!t) _ J ?_ (fun b hb => ?_) (fun _ _ => rfl))
      · have n3 : ∀ b, b ≠ 23 → b ≠ 24 → b ≠ 25 → b ≠ 26 → I3 b = I2 b := fun b h1 h2 h3 h4 => f3 b (by simp; omega)
        have n2 : ∀ b, b ≠ 8 → b ≠ 0 → b ≠ 1 → I2 b = I1 b := fun b h1 h2 h3 => by rw [f2 b (by simpa using h1), pm_ua h2, pm_ua h3]
        have c3 : cD (pm_td (!t)) D I3 := cD_j c2 fun j hj => n3 _ (by omega) (by omega) (by omega) (by omega)
        have c4 : cD (pm_td (!t)) D (pm_u (pm_u (pm_u I3 35 4 (nI 0)) 45 4 (nI 0)) 0 17 (nI 0)) := cD_j c3 fun j hj => by rw [pm_ua (by omega), pm_ua (by omega), pm_ua (by omega)]
        have z : ∀ b, b ≠ 0 → b ≠ 35 → b ≠ 45 → pm_u (pm_u (pm_u I3 35 4 (nI 0)) 45 4 (nI 0)) 0 17 (nI 0) b = I3 b := fun b h1 h2 h3 => by rw [pm_ua h1, pm_ua h3, pm_ua h2]
        refine ⟨c4.2.1, ?_, fun p' w' _ _ hne => absurd ?_ hne, ⟨?_, fun i hi => absurd hi (Nat.not_lt_zero i)⟩, ⟨?_, fun _ => (0, 0, 0, false), fun i hi => absurd hi (Nat.not_lt_zero i), fun i hi => absurd hi (Nat.not_lt_zero i), fun i hi => absurd hi (Nat.not_lt_zero i)⟩, ⟨?_, fun V k Bs q' C' h => (by cases h)⟩, ⟨?_, fun i hi => absurd hi (Nat.not_lt_zero i)⟩, ⟨?_, ?_⟩, fun i hi => ?_⟩
        · unfold cW at *
          rw [z 23 (by omega) (by omega) (by omega), z (23 + 1) (by omega) (by omega) (by omega), z (23 + 2) (by omega) (by omega) (by omega), z (23 + 3) (by omega) (by omega) (by omega)]
          exact w3
        · have hce : ce (dT D) p' w' < 120 := by unfold ce; split <;> split <;> omega
          show pm_u (pm_u (pm_u I3 35 4 (nI 0)) 45 4 (nI 0)) 0 17 (nI 0) 8 (ce (dT D) p' w') = nI 0
          rw [z 8 (by omega) (by omega) (by omega), n3 8 (by omega) (by omega) (by omega) (by omega)]
          exact v2 _ hce
        · rw [pm_ua (by omega), pm_ua (by omega), pm_us]; rfl
        · rw [pm_ua (by omega), pm_us]; rfl
        · rw [pm_us]; rfl
        · rw [z 1 (by omega) (by omega) (by omega), n3 1 (by omega) (by omega) (by omega) (by omega), f2 1 (by simp), pm_ua (by omega), pm_us]; rfl
        · rw [pm_uk (by omega), pm_ua (by omega), pm_ua (by omega), n3 0 (by omega) (by omega) (by omega) (by omega), f2 0 (by simp), pm_us]; rfl
        · intro b hb c hc
          by_cases q : b = pm_td (!t) + 3
          · rw [q]; exact cD_w c4 oD c hc
          · rw [z b (by omega) (by omega) (by omega), n3 b (by omega) (by omega) (by omega) (by omega), n2 b (by omega) (by omega) (by omega), e1 b (by omega) (by omega)]
            exact hwr b hb c hc
        · rw [z 20 (by omega) (by omega) (by omega), n3 20 (by omega) (by omega) (by omega) (by omega), n2 20 (by omega) (by omega) (by omega), e1 20 (by omega) (by omega)]
          exact hS.2.2.2.2.2.2.2.2 i hi
      · rw [pm_ua (by omega), pm_ua (by omega), pm_ua (by omega), f3 b (by simp; omega), f2 b (by simp; omega), pm_ua (by omega), pm_ua (by omega)]
        exact oe b hb
    · obtain ⟨b1, w1⟩ := hm
      have hf : ∀ b, b ≠ 0 → b ≠ 1 → b ≠ 20 → (b < pm_td (!t) ∨ pm_td (!t) + 15 ≤ b) → pm_u (pm_u (pm_u I1 1 1 (nI 0)) 0 18 (I1 1 9)) 20 0 (I1 20 0 + nI 1) b = I b := fun b h1 h2 h3 h4 => by rw [pm_ua h3, pm_ua h1, pm_ua h2]; exact e1 b h2 h4
      have h8 : I1 1 8 = nI y := b1.1
      refine q_f (bd_ne b1) ?_
      rw [h8]
      refine hk (aBad A (nI (tst (gB (sB A)) n q))) 0 (nI y) (Or.inr ⟨n, D0, .inr (y, q), hn, rfl, o0, z0, hr, rfl, rfl, b1.2.1, rfl⟩) fz t _ J ?_ (fun b hb => hf b (by omega) (by omega) (by omega) (by omega)) (fun _ _ => rfl)
      obtain ⟨h1, h2, h3, h4, h5, ⟨h6, h6'⟩, h7, ⟨h8', h8''⟩, h9⟩ := hS
      have td' : ∀ j, j < 15 → pm_u (pm_u (pm_u I1 1 1 (nI 0)) 0 18 (I1 1 9)) 20 0 (I1 20 0 + nI 1) (pm_td t + j) = I (pm_td t + j) := fun j hj => hf _ (by omega) (by omega) (by omega) (by omega)
      have s : ∀ b, 3 ≤ b → b ≤ 54 → b ≠ 20 → pm_u (pm_u (pm_u I1 1 1 (nI 0)) 0 18 (I1 1 9)) 20 0 (I1 20 0 + nI 1) b = I b := fun b q1 q2 q3 => hf b (by omega) (by omega) (by omega) (by omega)
      refine ⟨?_, ?_, ?_, cA_of (s _ (by omega) (by omega) (by omega)) (s _ (by omega) (by omega) (by omega)) (s _ (by omega) (by omega) (by omega)) (s _ (by omega) (by omega) (by omega)) rfl h4, cN_of (s _ (by omega) (by omega) (by omega)) (s _ (by omega) (by omega) (by omega)) (s _ (by omega) (by omega) (by omega)) (s _ (by omega) (by omega) (by omega)) (s _ (by omega) (by omega) (by omega)) h5, ⟨?_, fun V k Bs q' C' hi => ?_⟩, ⟨?_, fun i hi => absurd hi (Nat.not_lt_zero i)⟩, ⟨?_, ?_⟩, fun i hi => ?_⟩
      · obtain ⟨t1, t2, t3, t4, t5, t6, t7, t8, t9⟩ := h1
        have t0 : pm_u (pm_u (pm_u I1 1 1 (nI 0)) 0 18 (I1 1 9)) 20 0 (I1 20 0 + nI 1) (pm_td t) = I (pm_td t) := td' 0 (by omega)
        exact ⟨by rw [t0]; exact t1, by rw [t0]; exact t2, by rw [t0]; exact t3, by rw [t0]; exact t4, cF_of (td' 9 (by omega)) (td' 10 (by omega)) t5, cF_of (td' 12 (by omega)) (td' 13 (by omega)) t6, by rw [td' 2 (by omega)]; exact t7, by rw [td' 5 (by omega), td' 6 (by omega), td' 7 (by omega)]; exact t8, by rw [td' 8 (by omega)]; exact t9⟩
      · unfold cW at *
        rw [s 23 (by omega) (by omega) (by omega), s (23 + 1) (by omega) (by omega) (by omega), s (23 + 2) (by omega) (by omega) (by omega), s (23 + 3) (by omega) (by omega) (by omega)]
        exact h2
      · intro p' w' q1 q2
        rw [s 7 (by omega) (by omega) (by omega), s 8 (by omega) (by omega) (by omega)]
        exact h3 p' w' q1 q2
      · rw [pm_ua (by omega), pm_uk (by omega), pm_ua (by omega), e1 0 (by omega) (by omega)]; exact h6
      · obtain ⟨k1, k2, k3⟩ := h6' V k Bs q' C' hi
        refine ⟨?_, cA_of (s _ (by omega) (by omega) (by omega)) (s _ (by omega) (by omega) (by omega)) (s _ (by omega) (by omega) (by omega)) (s _ (by omega) (by omega) (by omega)) rfl k2, cN_of (s _ (by omega) (by omega) (by omega)) (s _ (by omega) (by omega) (by omega)) (s _ (by omega) (by omega) (by omega)) (s _ (by omega) (by omega) (by omega)) (s _ (by omega) (by omega) (by omega)) k3⟩
        unfold cW at *
        rw [s 31 (by omega) (by omega) (by omega), s (31 + 1) (by omega) (by omega) (by omega), s (31 + 2) (by omega) (by omega) (by omega), s (31 + 3) (by omega) (by omega) (by omega)]
        exact k1
      · rw [pm_ua (by omega), pm_ua (by omega), pm_us]; rfl
      · rw [pm_ua (by omega), pm_us, b1.2.2]; rfl
      · intro b hb c hc
        by_cases q : b = pm_td (!t) + 3
        · rw [q, pm_ua (by omega), pm_ua (by omega), pm_ua (by omega)]; exact w1 c hc
        · rw [hf b (by omega) (by omega) (by omega) (by omega)]; exact h8'' b hb c hc
      · show _ = if i = 0 then sR A i + nI 1 else sR A i
        by_cases e : i = 0
        · rw [e, pm_us, if_pos rfl, e1 20 (by omega) (by omega), h9 0 (by omega)]
        · rw [pm_uk e, if_neg e, pm_ua (by omega), pm_ua (by omega), e1 20 (by omega) (by omega)]; exact h9 i hi
  · have ex : Q (.inr 2) (pm_hp L true t I J) := hk A 1 0 (Or.inl ⟨hx, rfl, rfl⟩) true t I J hS (fun _ _ => rfl) (fun _ _ => rfl)
    refine ⟨fun _ => ex, fun h1 => ⟨fun h2 => absurd ?_ hx, fun _ => ex⟩⟩
    obtain ⟨j, hj, rfl⟩ := nI_of h1
    rw [hB.1, nI_leI (by omega) (by omega)] at h2
    exact ⟨j, h2, rfl⟩
