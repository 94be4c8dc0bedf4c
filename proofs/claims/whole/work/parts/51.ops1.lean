/-! calls: what the class answers, what the reference answers -/
def CS (D kc : Nat) (as : List Value) (A A' : St) (r : pm_R) : Prop := ∀ (L : Nat) (fz t : Bool) (I : Nat → Nat → Int32) (J : Nat → Nat → Int64) (Q : pm_R → pm_H → Prop), cS A t I J → (∀ (fz' t' : Bool) (I' : Nat → Nat → Int32) (J' : Nat → Nat → Int64), cS A' t' I' J' → co I I' → (∀ a, 85 ≤ a → J' a = J a) → Q r (pm_hp L fz' t' I' J')) → pm_Ev D kc as (pm_hp L fz t I J) Q
def MS (D km : Nat) (as : List Value) (A A' : St) (e : Nat) (P : pm_R → Prop) : Prop := ∀ (L : Nat) (fz t : Bool) (I : Nat → Nat → Int32) (J : Nat → Nat → Int64) (Q : pm_R → pm_H → Prop), mS A I → (∀ (I' : Nat → Nat → Int32) (J' : Nat → Nat → Int64) (r : pm_R), mS A' I' → mo I I' → (∀ a, a < 85 ∨ 117 ≤ a → J' a = J a) → I' 85 0 = nI e → P r → Q r (pm_hp L fz t I' J')) → pm_Ev D km as (pm_hp L fz t I J) Q
def er (one e : Nat) (v : Int32) : pm_R := if e = 0 then .inl (some (.int v)) else if e = 1 then .inr one else .inr 2
def pv (e : Nat) (v : Int32) : pm_R → Prop := fun r => ∃ v', (e = 0 → v' = v) ∧ r = .inl (some (.int v'))
theorem pv_0 {v : Int32} : pv 0 v (.inl (some (.int v))) := ⟨v, fun _ => rfl, rfl⟩
theorem pv_e {e : Nat} {v v' : Int32} (h : e ≠ 0) : pv e v (.inl (some (.int v'))) := ⟨v', fun q => absurd q h, rfl⟩
def hiE (kc : Nat) : Nat := if kc < 95 then 0 else if kc = 258 ∨ kc = 270 ∨ kc = 272 ∨ kc = 273 then 2 else 1
def op2 (kc km : Nat) (as : List Value) (A : St) (one : Nat) : Prop := ∃ e, e ≤ hiE kc ∧ ∃ v, CS 59 kc (.ref 0 :: as) A A (er one e v) ∧ MS 60 km (.ref 85 :: as) A A e (pv e v)
theorem cS_r {A : St} {t : Bool} {I : Nat → Nat → Int32} {J : Nat → Nat → Int64} {L : Nat} {Q : pm_R → pm_H → Prop} {r : pm_R} (hS : cS A t I J) (hk : ∀ (fz' t' : Bool) (I' : Nat → Nat → Int32) (J' : Nat → Nat → Int64), cS A t' I' J' → co I I' → (∀ a, 85 ≤ a → J' a = J a) → Q r (pm_hp L fz' t' I' J')) {fz' : Bool} : Q r (pm_hp L fz' t I J) := hk fz' t I J hS (fun _ _ => rfl) (fun _ _ => rfl)
theorem cS_d {A : St} {t : Bool} {I I' : Nat → Nat → Int32} {J : Nat → Nat → Int64} {L : Nat} {Q : pm_R → pm_H → Prop} {r : pm_R} (hS : cS A t I J) (hk : ∀ (fz' t' : Bool) (I' : Nat → Nat → Int32) (J' : Nat → Nat → Int64), cS A t' I' J' → co I I' → (∀ a, 85 ≤ a → J' a = J a) → Q r (pm_hp L fz' t' I' J')) {fz' : Bool} (hf : fr (qs t) I I') (hM : cM (sT A) I') : Q r (pm_hp L fz' t I' J) := hk fz' t I' J (cS_q hS hf hM) (co_q hf) (fun _ _ => rfl)
theorem mS_d {A : St} {I I' : Nat → Nat → Int32} {J : Nat → Nat → Int64} {L : Nat} {fz t : Bool} {Q : pm_R → pm_H → Prop} {e : Nat} {P : pm_R → Prop} {r : pm_R} (ho : ok A) (hS : mS A I) (hk : ∀ (I' : Nat → Nat → Int32) (J' : Nat → Nat → Int64) (r : pm_R), mS A I' → mo I I' → (∀ a, a < 85 ∨ 117 ≤ a → J' a = J a) → I' 85 0 = nI e → P r → Q r (pm_hp L fz t I' J')) (hq : mq I I') (he : I' 85 0 = nI e) (hP : P r) : Q r (pm_hp L fz t I' J) := hk I' J r (mS_q ho hS hq) (mo_q hq) (fun _ _ => rfl) he hP
/-- the reference's heap at the beginning of a call -/
theorem m0_q {I : Nat → Nat → Int32} : mq I (pm_u I 85 0 (nI 0)) := mq_th mq_r
theorem m0_0 {I : Nat → Nat → Int32} : pm_u I 85 0 (nI 0) 85 0 = nI 0 := pm_us
theorem rt_0 {I : Nat → Nat → Int32} {v : Nat} {b : Bool} (h : b = false) : rt b v I 85 0 = nI v := by rw [rt_f h, pm_us]
theorem mq_rt' {I I' : Nat → Nat → Int32} {b : Bool} {v : Nat} (h : mq I I') : mq I (rt b v I') := mq_t h mq_rt
theorem tI_nI {n : Nat} (h : n < 2 ^ 31) : (nI n).toInt = (n : Int) := nI_toInt h
section Ops
variable {A : St}
theorem op_card (ho : ok A) (x y : Int32) : op2 251 184 [.int x, .int y] A 1 := by
  have oT := ho.1
  have oW := ho.2.1
  have hm := oT.2.1
  by_cases h1 : inR x (tM (sT A)) = true
  · obtain ⟨c, hc, rfl⟩ := inR_t (by omega) h1
    by_cases h2 : inR y 5 = true
    · obtain ⟨u, hu, rfl⟩ := inR_t (by omega) h2
      refine ⟨0, by decide, if u = 0 then wo (sW A) c else if u = 1 then tW (sT A) c else if u = 2 then nI (ww (sW A) c) else if u = 3 then eff (sT A) (sW A) c else pl (sW A) c, ?_, ?_⟩
      · intro L fz t I J Q hS hk
        refine e_X10_card (S_needCard hS.1.2.2.1 (fun _ => kb_X10_card_5 ?_) (fun q => by rw [h1] at q; cases q))
        rw [tI_nI (by omega), nI_clamp (by omega), hS.2.1.2.2.2.1 c (by omega), hS.1.2.2.2.2.2.2.1 c hc, hS.2.1.2.2.2.2.1 c (by omega)]
        refine ⟨fun q => by omega, fun q => ⟨vp_in_nI (by omega) (by omega), ?_⟩, fun q => ⟨vp_in_nI (by omega) (by omega), ?_⟩, fun q => ⟨vp_in_nI (by omega) (by omega), ?_⟩, fun q => ?_, fun q => ?_⟩
        · have := cS_r (fz' := true) hS hk
          rw [show u = 0 by omega] at this; exact this
        · have := cS_r (fz' := true) hS hk
          rw [show u = 1 by omega] at this; exact this
        · have := cS_r (fz' := true) hS hk
          rw [show u = 2 by omega] at this; exact this
        · refine S_had (td_or t) (Or.inl rfl) hS.1 hS.2.1 oW (by omega) (kb_X10_card_82 ?_)
          have := cS_r (fz' := true) hS hk
          rw [show u = 3 by omega] at this; exact this
        · refine S_placesOf (T := sT A) (Or.inl rfl) hS.2.1 oW oT (by omega) (kb_X10_card_91 ?_)
          have := cS_r (fz' := true) hS hk
          rw [show u = 4 by omega] at this; exact this
      · intro L fz t I J Q hS hk
        have hS0 := mS_q ho hS m0_q
        have fin : ∀ v, v = (if u = 0 then wo (sW A) c else if u = 1 then tW (sT A) c else if u = 2 then nI (ww (sW A) c) else if u = 3 then eff (sT A) (sW A) c else pl (sW A) c) → Q (.inl (some (.int v))) (pm_hp L fz t (pm_u I 85 0 (nI 0)) J) := fun v hv => by
          rw [hv]; exact mS_d ho hS hk m0_q m0_0 pv_0
        refine e_X11_card (S_isIn (m := tM (sT A)) (Or.inl ⟨rfl, rfl⟩) hS0.1.2.1 m0_0 (kb_X11_card_10 ?_))
        rw [h1, rt_t rfl]
        refine q_f (by decide) (S_isWhat (by omega) m0_0 (kb_X11_card_19 ?_))
        rw [h2, rt_t rfl, tI_nI (by omega), nI_add, nI_add, nI_clamp (by omega), nI_clamp (by omega), nI_clamp (by omega)]
        refine q_t' (by decide) ⟨fun q => ?_, fun q => ⟨vp_in_nI (by omega) (by omega), ?_⟩, fun q => ⟨vp_in_nI (by omega) (by omega), ?_⟩, fun q => ⟨vp_in_nI (by omega) (by omega), ?_⟩, fun q => ?_⟩
        · refine S_mplacesOf (b := 0) (T := sT A) (Or.inl rfl) hS0.2.1 hS0.2.2.1 oT oW (by omega) (kb_X11_card_95 (fin _ ?_))
          rw [if_neg (by omega), if_neg (by omega), if_neg (by omega), if_neg (by omega)]
        · refine fin _ ?_
          rw [if_pos (by omega), ← (hS0.2.2.1.2.2.1 c hc).1]
        · refine fin _ ?_
          rw [if_neg (by omega), if_pos (by omega), ← hS0.1.2.2.2.2.2.1 c hc]
        · refine fin _ ?_
          rw [if_neg (by omega), if_neg (by omega), if_pos (by omega), ← (hS0.2.2.1.2.2.1 c hc).2]
        · refine S_holesOf (b := 0) (Or.inl rfl) hS0.1 hS0.2.2.1 oT oW hc (kb_X11_card_88 (fin _ ?_))
          rw [if_neg (by omega), if_neg (by omega), if_neg (by omega), if_pos (by omega)]
    · have h2' : inR y 5 = false := by cases q : inR y 5; rfl; exact absurd q h2
      refine ⟨1, by decide, 0, ?_, ?_⟩
      · intro L fz t I J Q hS hk
        refine e_X10_card (S_needCard hS.1.2.2.1 (fun _ => kb_X10_card_5 ?_) (fun q => by rw [h1] at q; cases q))
        have fin : y.toInt < 0 ∨ 4 < y.toInt := by
          apply Classical.byContradiction
          intro q
          refine h2 (inR_in (fun z => ?_) (fun z => ?_))
          · rw [fa_lt, nI_toInt (by omega)] at z; omega
          · rw [fa_le, nI_toInt (by omega)] at z; omega
        refine ⟨fun _ => cS_r hS hk, fun q => by omega, fun q => by omega, fun q => by omega, fun q => by omega, fun q => by omega⟩
      · intro L fz t I J Q hS hk
        have hS0 := mS_q ho hS m0_q
        refine e_X11_card (S_isIn (m := tM (sT A)) (Or.inl ⟨rfl, rfl⟩) hS0.1.2.1 m0_0 (kb_X11_card_10 ?_))
        rw [h1, rt_t rfl]
        refine q_f (by decide) (S_isWhat (by omega) m0_0 (kb_X11_card_19 ?_))
        rw [h2']
        exact q_f' rfl (mS_d ho hS hk (mq_rt' m0_q) (rt_0 rfl) (pv_e (by omega)))
  · have h1' : inR x (tM (sT A)) = false := by cases q : inR x (tM (sT A)); rfl; exact absurd q h1
    refine ⟨1, by decide, 0, ?_, ?_⟩
    · intro L fz t I J Q hS hk
      exact e_X10_card (S_needCard hS.1.2.2.1 (fun q => absurd q h1) (fun _ => cS_r hS hk))
    · intro L fz t I J Q hS hk
      have hS0 := mS_q ho hS m0_q
      refine e_X11_card (S_isIn (m := tM (sT A)) (Or.inl ⟨rfl, rfl⟩) hS0.1.2.1 m0_0 (kb_X11_card_10 ?_))
      rw [h1']
      exact q_t rfl (mS_d ho hS hk (mq_rt' m0_q) (rt_0 rfl) (pv_e (by omega)))
end Ops
