theorem mn_none {F : Nat → Nat} {f : Nat → Bool} {a : Nat} : ∀ {n : Nat}, (∀ j, j < n → f j = false) → mn F f a n = a
  | 0, _ => rfl
  | n + 1, h => by rw [mn, if_neg (by rw [h n (by omega)]; decide), mn_none (fun j hj => h j (by omega))]
theorem lv_0 {g : Nat → Nat → Nat} {p s l : Nat} (h : rk p s = 0) : lv g p s l = 0 := by unfold lv; rw [h]; rfl
theorem lv_mn {g : Nat → Nat → Nat} (hg : ∀ i j, g i j ≤ 99) {p s l a : Nat} (hp : p ≤ 9) (h : 0 < rk p s) (ha : 990 ≤ a) : mn (oF g p s (some l)) (fe s) a p = lv g p s l := by
  obtain ⟨j, hj, hf⟩ := cn_pos (f := fe s) (n := p) h
  have l1 := oF_le hg (s := s) hp (some l) j
  rw [lv_step h, mn_start (b := 99999) hj hf (by omega) (by omega)]
  rfl
theorem pN_pred (k : Nat) : pN (k + 1) + (-1 : Int32) = pN k := by
  cases k with
  | zero => decide
  | succ k => exact pk_m1 k
section Ops
variable {A : St}
section Spec
variable {d L : Nat} {fz t : Bool} {Q : pm_R → pm_H → Prop} {I I0 : Nat → Nat → Int32} {J : Nat → Nat → Int64}
def orA (A : St) (o : Option Nat) : Int32 := match o with
  | none => nI (mn (oF (gO A) (wp (sW A)) 0 none) (fe 0) 99999 (wp (sW A)))
  | some i => oI (wkO (gO A) (wp (sW A)) (i + 1)).2
theorem cw_bestOrder {o : Option Nat} (ho : ok A) (h : cw A t J I0 I) (h9 : wp (sW A) ≤ 9) (h1 : 1 ≤ wp (sW A)) (hi : ∀ i, o = some i → i < wp (sW A)) (hq : ∀ I', cw A t J I0 I' → Q (.inl (some (.int (orA A o)))) (pm_hp L fz t I' J)) : pm_Ev (d + 5) 65 [.ref 12, .ref (pm_td t), .ref 23, .int (oI o)] (pm_hp L fz t I J) Q := by
  refine e_X6_bestOrder (td_or t) (Or.inl rfl) ?_
  rw [h.1.2.1.1]
  refine q_f (nI_nlt (by omega) (by omega)) (q_t (nI_le (by omega) (by omega)) ?_)
  refine S_tlearn (td_or t) (Or.inl rfl) h.1.1 h.1.2.1 ho.1 ho.2.1 fun I1 f1 p1 => kb_X6_bestOrder_25 (Or.inl rfl) ?_
  have w1 : cw A t J I0 I1 := cw_fr h f1 (fun a ha => by
    simp at ha
    rcases ha with rfl | rfl | rfl
    · exact ⟨qs_lo (by omega), by omega, by omega⟩
    · exact ⟨qs_lo (by omega), by omega, by omega⟩
    · exact ⟨by unfold qs; simp, by have := td_or t; omega, by have := td_or t; omega⟩)
  have hfull : ((nI 1) <<< ((nI (wp (sW A))) &&& 31)) - (nI 1) = nI (2 ^ wp (sW A) - 1) := al_nI _ (by omega)
  have h2p : 2 ^ wp (sW A) ≤ 512 := Nat.pow_le_pow_right (n := 2) (by omega) h9
  have h1p : 0 < 2 ^ wp (sW A) := Nat.two_pow_pos _
  rw [w1.1.2.1.1, hfull]
  have sets : ∀ (s : Nat) (I' : Nat → Nat → Int32), s < 2 ^ wp (sW A) → cw A t J I0 I' → cP (sT A) (sW A) I' → cRs A 15 (s + 1) false I' → t_X6_bestOrder_39 (d + 4) L fz t Q 23 (oI o) (nI (2 ^ wp (sW A) - 1)) (nI s) I' J := by
    intro s
    induction s with
    | zero =>
      intro I' hs h' hP hR
      refine b_X6_bestOrder_39 (Or.inl rfl) (q_t (nI_le (by omega) (by omega)) ?_)
      cases o with
      | none =>
        refine q_f' rfl (cw_leastBehind (o := none) ho h' hP h9 hs (cR_of hR hs) (fun l hl => by cases hl) (kb_X6_bestOrder_124 (b_X6_bestOrder_133 ?_)))
        have l1 := oF_le (gO_le A) (s := 0) h9 none 0
        rw [mn_start (b := 99999) (j := 0) (by omega) (by decide) (by omega) (by omega)]
        exact hq I' h'
      | some i =>
        have hi' := hi i rfl
        exact q_t' (nI_ne_m1 (by omega)) (cw_walkTo ho h' hP h9 hR hi' (kb_X6_bestOrder_133 (hq I' h')))
    | succ s ih =>
      intro I' hs h' hP hR
      have h5 := p512 h9 hs
      refine b_X6_bestOrder_39 (Or.inl rfl) (q_f (nI_ge (by omega) (by omega)) ?_)
      have inner : ∀ (j l : Nat) (I' : Nat → Nat → Int32), l + j = wp (sW A) → cw A t J I0 I' → cP (sT A) (sW A) I' → cRs A 15 (s + 1 + 1) false I' → (∀ l', l' < l → (s + 1).testBit l' = true → I' 15 ((s + 1) * 9 + l') = nI (lv (gO A) (wp (sW A)) (s + 1) l')) → t_X6_bestOrder_47 (d + 4) L fz t Q 23 (oI o) (nI (2 ^ wp (sW A) - 1)) (nI (s + 1)) (nI l) I' J := by
        intro j
        induction j with
        | zero =>
          intro l I' hl h' hP hR hr
          obtain rfl : l = wp (sW A) := by omega
          refine b_X6_bestOrder_47 (Or.inl rfl) ?_
          rw [h'.1.2.1.1, pk_m1]
          refine q_t (nI_le (by omega) (by omega)) (ih I' (by omega) h' hP fun s' l h1 h2 h3 h4 => ?_)
          by_cases e : s' = s + 1
          · rw [e]
            rcases h4 with h4 | h4
            · cases h4
            · rw [e] at h4; exact hr l h3 h4
          · exact hR s' l (by omega) h2 h3 h4
        | succ j ih2 =>
          intro l I' hl h' hP hR hr
          refine b_X6_bestOrder_47 (Or.inl rfl) ?_
          rw [h'.1.2.1.1, bit_nI _ (by omega), nI_add, pk_mul, nI_add]
          refine q_f (nI_ge (by omega) (by omega)) (q_b1 (fun q => ?_) (fun q => ?_))
          · refine ih2 (l + 1) I' (by omega) h' hP hR fun l' h1 h2 => ?_
            by_cases e : l' = l
            · rw [e, q] at h2; cases h2
            · exact hr l' (by omega) h2
          · have put : ∀ r, r = lv (gO A) (wp (sW A)) (s + 1) l → t_X6_bestOrder_99 (d + 4) L fz t Q 23 (oI o) (nI (2 ^ wp (sW A) - 1)) (nI (s + 1)) (nI l) (nI ((s + 1) * 9 + l)) (nI r) I' J := fun r hr' => by
              refine b_X6_bestOrder_99 (Or.inl rfl) ?_
              rw [nI_clamp (by omega), nI_add]
              refine ⟨vp_in_nI (by omega) (by omega), ih2 (l + 1) _ (by omega) (cw_u h' (qs_lo (by omega)) (by omega) (by omega)) (fun c e a b => by rw [pm_ua (by decide)]; exact hP c e a b) (fun s' l'' h1 h2 h3 h4 => ?_) (fun l' h1 h2 => ?_)⟩
              · rw [pm_uk (by omega)]; exact hR s' l'' h1 h2 h3 h4
              · by_cases e : l' = l
                · rw [e, pm_us, hr']
                · rw [pm_uk (by omega)]; exact hr l' (by omega) h2
            refine q_ne (by omega) (by omega) (fun z => ?_) (fun z => ?_)
            · have hrk : 0 < rk (wp (sW A)) (s + 1) := by
                rcases Nat.eq_zero_or_pos (rk (wp (sW A)) (s + 1)) with y | y
                · exact absurd ((rk_0 hs).mp y) z
                · exact y
              refine cw_leastBehind (o := some l) ho h' hP h9 hs (cR_of hR hs) (fun l' hl' => by cases hl'; omega) ?_
              exact put _ (lv_mn (gO_le A) h9 hrk (by omega))
            · exact put 0 (lv_0 ((rk_0 hs).mpr z)).symm
      exact inner (wp (sW A)) 0 I' (by omega) h' hP hR (fun l' h => absurd h (by omega))
  exact sets (2 ^ wp (sW A) - 1) I1 (by omega) w1 p1 (fun s' l h1 h2 _ _ => absurd h1 (by omega))
end Spec
theorem op_order (ho : ok A) (x : Int32) : op2 263 206 [.int x] A 1 := by
  have h12 := ho.2.1.2.2.2
  have hm := ho.1.2.1
  have main : ∀ o : Option Nat, (∀ i, o = some i → i < wp (sW A)) → op2 263 206 [.int (oI o)] A 1 := by
    intro o hio
    -- both guards
    have cg : ∀ {L : Nat} {fz t : Bool} {Q : pm_R → pm_H → Prop} {I : Nat → Nat → Int32} {J : Nat → Nat → Int64}, cS A t I J → (((I 23 3) ≤ (nI 9) → pm_Ev 58 65 [.ref 12, .ref (pm_td t), .ref 23, .int (oI o)] (pm_hp L fz t I J) (K_X10_order_55 58 fz t Q)) ∧ (¬ (I 23 3) ≤ (nI 9) → Q (.inl (some (.int (-2 : Int32)))) (pm_hp L fz t I J))) → pm_Ev 59 263 [.ref 0, .int (oI o)] (pm_hp L fz t I J) Q := by
      intro L fz t Q I J hS hb
      cases o with
      | none => exact e_X10_order (q_t rfl hb)
      | some i =>
        have hi := hio i rfl
        refine e_X10_order (q_f (nI_ne_m1 (by omega)) (S_cisPick hS.2.1.1 (kb_X10_order_10 ?_)))
        rw [show inR (oI (some i)) (wp (sW A)) = true from inR_nI (by omega) hi]
        exact q_t' nI_01 hb
    have mg : ∀ {L : Nat} {fz t : Bool} {Q : pm_R → pm_H → Prop} {I : Nat → Nat → Int32} {J : Nat → Nat → Int64}, mS A I → pm_Ev 59 118 [.ref 85, .int (nI 1), .int (nI 1)] (pm_hp L fz t (pm_u I 85 0 (nI 0)) J) (K_X11_order_28 59 fz t Q (oI o)) → pm_Ev 60 206 [.ref 85, .int (oI o)] (pm_hp L fz t I J) Q := by
      intro L fz t Q I J hS hb
      refine e_X11_order (q_f ?_ (q_f ?_ hb))
      · cases o with
        | none => decide
        | some i =>
          have hi := hio i rfl
          show ¬ nI i < (-1 : Int32)
          rw [fa_lt, nI_toInt (by omega), show (-1 : Int32).toInt = -1 from rfl]; omega
      · rw [hS.2.1]
        cases o with
        | none =>
          show ¬ nI _ ≤ (-1 : Int32)
          rw [fa_le, nI_toInt (by omega), show (-1 : Int32).toInt = -1 from rfl]; omega
        | some i => exact nI_ge (hio i rfl) (by omega)
    by_cases h9 : wp (sW A) ≤ 9
    · by_cases h0 : wp (sW A) = 0
      · -- no lace
        have hn : o = none := by
          cases o with
          | none => rfl
          | some i => have := hio i rfl; omega
        subst hn
        refine ⟨0, by decide, nI 0, ?_, ?_⟩
        · intro L fz t I J Q hS hk
          refine cg hS ?_
          rw [hS.2.1.1]
          refine q_t (nI_le (by omega) (by omega)) (e_X6_bestOrder (td_or t) (Or.inl rfl) ?_)
          rw [hS.2.1.1]
          exact q_t (nI_lt (by omega) (by omega)) (kb_X10_order_55 (cw_e (cw_0 hS) hk))
        · intro L fz t I J Q hS hk
          have hw := mw_0 ho hS
          refine mg hS (S_right1 hw.2.2 (by omega) (kb_X11_order_28 (q_t' nI_01 ?_)))
          rw [hw.1.2.1, h0]
          refine q_t (by decide) ?_
          refine e_X11_laysOrder (b_X11_laysOrder_2 (q_t (by decide) (kb_X11_order_57 (b_X11_order_63 ?_))))
          rw [hw.1.2.1, h0]
          exact q_t (by decide) (q_f' rfl (q_f' rfl (mw_e hw hk pv_0)))
      · refine ⟨0, by decide, orA A o, ?_, ?_⟩
        · intro L fz t I J Q hS hk
          refine cg hS ?_
          rw [hS.2.1.1]
          exact q_t (nI_le (by omega) (by omega)) (cw_bestOrder ho (cw_0 hS) h9 (by omega) hio fun I' w' => kb_X10_order_55 (cw_e w' hk))
        · intro L fz t I J Q hS hk
          have hw := mw_0 ho hS
          refine mg hS (S_right1 hw.2.2 (by omega) (kb_X11_order_28 (q_t' nI_01 ?_)))
          have hfull : ((nI 1) <<< ((nI (wp (sW A))) &&& 31)) - (nI 1) = nI (2 ^ wp (sW A) - 1) := al_nI _ (by omega)
          have h2p : 2 ^ wp (sW A) ≤ 512 := Nat.pow_le_pow_right (n := 2) (by omega) h9
          have h1p : 0 < 2 ^ wp (sW A) := Nat.two_pow_pos _
          rw [hw.1.2.1, hfull]
          refine q_t (nI_le (by omega) (by omega)) ?_
          have u109 : ∀ I' k v, mw A I I' → mw A I (pm_u I' 109 k v) := fun I' k v h' => mw_f ho h' (mq_w (S := [109]) (fr_u (by simp) fr_r) (by simp)) (by rw [pm_ua (by omega)]; exact h'.2.2)
          have fsn : ∀ I' I'', mw A I I' → fr [105, 106] I' I'' → mw A I I'' := fun I' I'' h' hf => mw_f ho h' (mq_w hf (by simp <;> omega)) (by rw [hf 85 (by decide)]; exact h'.2.2)
          have lcd : ∀ I', mw A I I' → ∀ k, k < wp (sW A) → I' 103 (22 + k) = nI (wl (sW A) k) := fun I' h' k hk => by
            have := h'.1.2.2.1.2.2.2 k hk
            rw [Nat.zero_add] at this; exact this
          have gle := fun (s : Nat) => oF_le (gO_le A) (p := wp (sW A)) (s := s)
          -- the walk
          have walk : ∀ (I1 : Nat → Nat → Int32) (i : Nat), o = some i → cRs A 109 1 true I1 → ∀ (j k : Nat) (v : Int32) (I' : Nat → Nat → Int32), k + j = i + 1 → mw A I I' → I' 109 = I1 109 → (k ≤ i → v = nI (mn (oF (gO A) (wp (sW A)) (wkO (gO A) (wp (sW A)) k).1 (wkO (gO A) (wp (sW A)) k).2) (fe (wkO (gO A) (wp (sW A)) k).1) 99999 (wp (sW A)))) → t_X11_order_124 59 L fz t Q (nI i) (nI (wkO (gO A) (wp (sW A)) k).1) (oI (wkO (gO A) (wp (sW A)) k).2) v (nI k) I' J := by
            intro I1 i hoi hR j
            have hi := hio i hoi
            induction j with
            | zero =>
              intro k v I' hk' h' e109 hv
              obtain rfl : k = i + 1 := by omega
              refine b_X11_order_124 (q_t (nI_lt (by omega) (by omega)) (mw_e h' hk ⟨_, fun _ => ?_, rfl⟩))
              rw [hoi]; rfl
            | succ j ih =>
              intro k v I' hk' h' e109 hv
              obtain ⟨w1, w2, w3, w4⟩ := wkO_ok (g := gO A) (p := wp (sW A)) (k := k) (by omega)
              have nx := ih (k + 1)
              rw [wkO] at nx
              refine b_X11_order_124 (q_f (nI_nlt (by omega) (by omega)) ?_)
              rw [hv (by omega), h'.1.2.1, pk_sub (by omega)]
              generalize (wkO (gO A) (wp (sW A)) k).1 = s at *
              generalize (wkO (gO A) (wp (sW A)) k).2 = o' at *
              have h5 := p512 h9 w1
              obtain ⟨b, hb⟩ : ∃ b, ab (oF (gO A) (wp (sW A)) s o') (fe s) (wp (sW A)) = some b := by
                cases q : ab (oF (gO A) (wp (sW A)) s o') (fe s) (wp (sW A)) with
                | some b => exact ⟨b, rfl⟩
                | none =>
                  obtain ⟨j, hj, hf⟩ := cn_pos (f := fe s) (n := wp (sW A)) (by show 0 < rk _ _; omega)
                  rw [ab_none q j hj] at hf; cases hf
              obtain ⟨b1, b2, b3, b4⟩ := ab_some hb
              have gb := gle s h9 o' b
              have hmn : mn (oF (gO A) (wp (sW A)) s o') (fe s) 99999 (wp (sW A)) = oF (gO A) (wp (sW A)) s o' b := mn_ab hb (by omega)
              rw [hmn]
              rw [hb] at nx
              dsimp only at nx
              have hb5 := p512 h9 (set_lt w1 b1)
              have hrk := rk_set b1 b2
              -- which place
              have its : ∀ (y : Nat) (I2 : Nat → Nat → Int32), y ≤ wp (sW A) → mw A I I2 → I2 109 = I1 109 → t_X11_order_141 59 L fz t Q (nI i) (nI s) (oI o') (nI (oF (gO A) (wp (sW A)) s o' b)) (nI k) (oI (ff (fun x => fe s x && decide (oF (gO A) (wp (sW A)) s o' x = oF (gO A) (wp (sW A)) s o' b)) (wp (sW A) - y) y)) (pN y) I2 J := by
                intro y
                induction y with
                | zero =>
                  intro I2 hy h2 e2
                  have hff : ff (fun x => fe s x && decide (oF (gO A) (wp (sW A)) s o' x = oF (gO A) (wp (sW A)) s o' b)) (wp (sW A) - 0) 0 = some b := by
                    rw [Nat.sub_zero]
                    refine ff_is b1 (by rw [b2, decide_eq_true rfl]; rfl) (fun x hx => ?_)
                    cases hfx : fe s x with
                    | false => rfl
                    | true =>
                      have := b4 x hx hfx
                      rw [decide_eq_false (by omega)]; rfl
                  rw [hff]
                  have fin : ∀ (r : Nat) (I3 : Nat → Nat → Int32), r = og (gO A) o' b → mw A I I3 → I3 109 = I1 109 → t_X11_order_271 59 L fz t Q (nI i) (nI s) (nI k) (nI b) (nI (oF (gO A) (wp (sW A)) s o' b)) (nI r) I3 J := fun r I3 hr h3 e3 => by
                    refine b_X11_order_271 ?_
                    have hle : r ≤ oF (gO A) (wp (sW A)) s o' b := by rw [hr]; unfold oF; omega
                    rw [set_nI s (by omega), pk_sub hle, nI_add]
                    refine nx _ I3 (by omega) h3 e3 (fun hki => ?_)
                    rw [lv_mn (gO_le A) h9 (by omega) (by omega), hr]
                    unfold oF
                    rw [Nat.add_sub_cancel_left]
                  refine b_X11_order_141 (q_t (by decide) ?_)
                  cases o' with
                  | none => exact q_f' rfl (fin 0 I2 rfl h2 e2)
                  | some l =>
                    have hl := w3 l rfl
                    refine q_t' (nI_ne_m1 (by omega)) ?_
                    show vp_in (nI 22 + nI l) 68 ∧ vp_in (nI 22 + nI b) 68 ∧ pm_Ev 59 166 [.ref 85, .int (I2 103 (nI 22 + nI l).toNatClampNeg), .int (I2 103 (nI 22 + nI b).toNatClampNeg)] _ _
                    rw [nI_add, nI_add, nI_clamp (by omega), nI_clamp (by omega), lcd I2 h2 l hl, lcd I2 h2 b b1]
                    refine ⟨vp_in_nI (by omega) (by omega), vp_in_nI (by omega) (by omega), ?_⟩
                    refine S_snarlOf h2.1.1 h2.1.2.2.1 ho.1 ho.2.1 (ho.2.1.2.2.1 l hl) (ho.2.1.2.2.1 b b1) fun I3 f3 => ?_
                    exact fin _ I3 rfl (fsn _ _ h2 f3) (by rw [f3 109 (by decide)]; exact e2)
                | succ y ihy =>
                  intro I2 hy h2 e2
                  have hrec : ff (fun x => fe s x && decide (oF (gO A) (wp (sW A)) s o' x = oF (gO A) (wp (sW A)) s o' b)) (wp (sW A) - y) y = if (fe s y && decide (oF (gO A) (wp (sW A)) s o' y = oF (gO A) (wp (sW A)) s o' b)) = true then some y else ff (fun x => fe s x && decide (oF (gO A) (wp (sW A)) s o' x = oF (gO A) (wp (sW A)) s o' b)) (wp (sW A) - (y + 1)) (y + 1) := by
                    rw [show wp (sW A) - y = wp (sW A) - (y + 1) + 1 by omega]; rfl
                  refine b_X11_order_141 (q_f (nI_nlt (by omega) (by omega)) ?_)
                  rw [pN_pred]
                  show (¬ ((nI s >>> (nI y &&& 31)) &&& nI 1) = nI 1 → _) ∧ (((nI s >>> (nI y &&& 31)) &&& nI 1) = nI 1 → _)
                  rw [bit_nI s (by omega)]
                  refine q_b1 (fun q => ?_) (fun q => ?_)
                  · have hf : fe s y = true := by unfold fe; rw [q]; rfl
                    have gy := gle s h9 o' y
                    have hy5 := p512 h9 (set_lt w1 (show y < wp (sW A) by omega))
                    have fin : ∀ (r : Nat) (I3 : Nat → Nat → Int32), r = og (gO A) o' y → mw A I I3 → I3 109 = I1 109 → t_X11_order_193 59 L fz t Q (nI i) (nI s) (oI o') (nI (oF (gO A) (wp (sW A)) s o' b)) (nI k) (oI (ff (fun x => fe s x && decide (oF (gO A) (wp (sW A)) s o' x = oF (gO A) (wp (sW A)) s o' b)) (wp (sW A) - (y + 1)) (y + 1))) (nI y) (nI r) I3 J := fun r I3 hr h3 e3 => by
                      refine b_X11_order_193 ?_
                      have hgt := set_gt hf
                      have e4 := hR (s ||| 2 ^ y) y (by omega) (set_lt w1 (by omega)) (by omega) (Or.inl rfl)
                      rw [← e3, Nat.mul_comm] at e4
                      rw [set_nI s (by omega), pk_mul, nI_add, nI_clamp (by omega), e4, nI_add, hr, show og (gO A) o' y + lv (gO A) (wp (sW A)) (s ||| 2 ^ y) y = oF (gO A) (wp (sW A)) s o' y from rfl]
                      have nx2 := ihy I3 (by omega) h3 e3
                      rw [hrec] at nx2
                      have em1 : nI y + (-1 : Int32) = pN y := pN_pred y
                      rw [em1]
                      refine ⟨vp_in_nI (by omega) (by omega), q_ne (by omega) (by omega) (fun z => ?_) (fun z => ?_)⟩
                      · rw [if_neg (by rw [hf, decide_eq_false z]; decide)] at nx2; exact nx2
                      · rw [if_pos (by rw [hf, decide_eq_true z]; rfl)] at nx2; exact nx2
                    cases o' with
                    | none => exact q_f' rfl (fin 0 I2 rfl h2 e2)
                    | some l =>
                      have hl := w3 l rfl
                      refine q_t' (nI_ne_m1 (by omega)) ?_
                      show vp_in (nI 22 + nI l) 68 ∧ vp_in (nI 22 + nI y) 68 ∧ pm_Ev 59 166 [.ref 85, .int (I2 103 (nI 22 + nI l).toNatClampNeg), .int (I2 103 (nI 22 + nI y).toNatClampNeg)] _ _
                      rw [nI_add, nI_add, nI_clamp (by omega), nI_clamp (by omega), lcd I2 h2 l hl, lcd I2 h2 y (by omega)]
                      refine ⟨vp_in_nI (by omega) (by omega), vp_in_nI (by omega) (by omega), ?_⟩
                      refine S_snarlOf h2.1.1 h2.1.2.2.1 ho.1 ho.2.1 (ho.2.1.2.2.1 l hl) (ho.2.1.2.2.1 y (by omega)) fun I3 f3 => ?_
                      exact fin _ I3 rfl (fsn _ _ h2 f3) (by rw [f3 109 (by decide)]; exact e2)
                  · have nx2 := ihy I2 (by omega) h2 e2
                    rw [hrec, if_neg (by unfold fe; rw [q]; simp)] at nx2; exact nx2
              have := its (wp (sW A)) I' (Nat.le_refl _) h' e109
              rw [Nat.sub_self, show pN (wp (sW A)) = nI (wp (sW A) - 1) by cases hw : wp (sW A) with
                | zero => exact absurd hw h0
                | succ n => rfl] at this
              exact this
          -- behind the table
          have behind : ∀ (I1 : Nat → Nat → Int32), mw A I I1 → cRs A 109 1 true I1 → ∀ (j k : Nat), k + j = wp (sW A) → t_X11_order_63 59 L fz t Q (oI o) (nI (mn (oF (gO A) (wp (sW A)) 0 none) (fe 0) 99999 k)) (nI k) I1 J := by
            intro I1 h1 hR j
            induction j with
            | zero =>
              intro k hk'
              obtain rfl : k = wp (sW A) := by omega
              refine b_X11_order_63 ?_
              rw [h1.1.2.1]
              refine q_t (nI_le (by omega) (by omega)) ?_
              cases o with
              | none => exact q_f' rfl (q_t' (fun z => h0 ((nI_eq (by omega) (by omega)).mp z)) (mw_e h1 hk pv_0))
              | some i =>
                have hi := hio i rfl
                exact q_t' (nI_ne_m1 (by omega)) (walk I1 i rfl hR (i + 1) 0 _ I1 (by omega) h1 rfl (fun _ => rfl))
            | succ j ih =>
              intro k hk'
              have nx := ih (k + 1) (by omega)
              rw [mn, if_pos (by unfold fe; simp)] at nx
              have h2k : 2 ^ k < 2 ^ wp (sW A) := Nat.pow_lt_pow_right (by omega) (by omega)
              have l1 := mn_le_a (F := oF (gO A) (wp (sW A)) 0 none) (f := fe 0) (a := 99999) (n := k)
              have l2 := gle 0 h9 none k
              have e4 := hR (2 ^ k) k (Nat.one_le_two_pow) h2k (by omega) (Or.inl rfl)
              rw [Nat.mul_comm] at e4
              have e5 : oF (gO A) (wp (sW A)) 0 none k = lv (gO A) (wp (sW A)) (2 ^ k) k := by unfold oF; rw [Nat.zero_or]; exact Nat.zero_add _
              refine b_X11_order_63 ?_
              rw [h1.1.2.1, pw_nI k (by omega), pk_mul, nI_add, nI_clamp (by omega), e4, ← e5]
              refine q_f (nI_ge (by omega) (by omega)) ⟨vp_in_nI (by omega) (by omega), S_lesser (by omega) (by omega) (kb_X11_order_88 ?_)⟩
              rw [nI_add]; exact nx
          -- the table
          have sets : ∀ (s : Nat) (I' : Nat → Nat → Int32), s < 2 ^ wp (sW A) → mw A I I' → cRs A 109 (s + 1) true I' → t_X11_laysOrder_2 58 L fz t (K_X11_order_57 59 fz t Q (oI o)) (nI (2 ^ wp (sW A) - 1)) (nI s) I' J := by
            intro s
            induction s with
            | zero =>
              intro I' hs h' hR
              exact b_X11_laysOrder_2 (q_t (nI_le (by omega) (by omega)) (kb_X11_order_57 (behind I' h' hR (wp (sW A)) 0 (by omega))))
            | succ s ih =>
              intro I' hs h' hR
              have h5 := p512 h9 hs
              refine b_X11_laysOrder_2 (q_f (nI_ge (by omega) (by omega)) ?_)
              have inner : ∀ (j l : Nat) (I' : Nat → Nat → Int32), l + j = wp (sW A) → mw A I I' → cRs A 109 (s + 1 + 1) true I' → (∀ l', l' < l → I' 109 ((s + 1) * 9 + l') = nI (lv (gO A) (wp (sW A)) (s + 1) l')) → t_X11_laysOrder_8 58 L fz t (K_X11_order_57 59 fz t Q (oI o)) (nI (2 ^ wp (sW A) - 1)) (nI (s + 1)) (nI l) I' J := by
                intro j
                induction j with
                | zero =>
                  intro l I' hl h' hR hr
                  obtain rfl : l = wp (sW A) := by omega
                  refine b_X11_laysOrder_8 ?_
                  rw [h'.1.2.1, pk_m1]
                  refine q_t (nI_le (by omega) (by omega)) (ih I' (by omega) h' fun s' l h1 h2 h3 h4 => ?_)
                  by_cases e : s' = s + 1
                  · rw [e]; exact hr l h3
                  · exact hR s' l (by omega) h2 h3 h4
                | succ j ih2 =>
                  intro l I' hl h' hR hr
                  refine b_X11_laysOrder_8 ?_
                  rw [h'.1.2.1]
                  refine q_f (nI_ge (by omega) (by omega)) ?_
                  have best : ∀ (a : Nat), a ≤ 99999 → mn (oF (gO A) (wp (sW A)) (s + 1) (some l)) (fe (s + 1)) a (wp (sW A)) = lv (gO A) (wp (sW A)) (s + 1) l → ∀ (j' x : Nat) (I2 : Nat → Nat → Int32), x + j' = wp (sW A) → mw A I I2 → I2 109 = I' 109 → t_X11_laysOrder_33 58 L fz t (K_X11_order_57 59 fz t Q (oI o)) (nI (2 ^ wp (sW A) - 1)) (nI (s + 1)) (nI l) (nI (mn (oF (gO A) (wp (sW A)) (s + 1) (some l)) (fe (s + 1)) a x)) (nI x) I2 J := by
                    intro a ha hav j'
                    induction j' with
                    | zero =>
                      intro x I2 hx h2 e2
                      obtain rfl : x = wp (sW A) := by omega
                      refine b_X11_laysOrder_33 ?_
                      rw [h2.1.2.1, pk_mul, nI_add, nI_clamp (by omega), nI_add, hav]
                      refine q_t (nI_le (by omega) (by omega)) ⟨vp_in_nI (by omega) (by omega), ih2 (l + 1) _ (by omega) (u109 I2 _ _ h2) (fun s' l' h1 h2' h3 h4 => ?_) (fun l' h1 => ?_)⟩
                      · rw [pm_uk (by omega), e2]; exact hR s' l' h1 h2' h3 h4
                      · by_cases e : l' = l
                        · rw [e, show (s + 1) * 9 + l = 9 * (s + 1) + l by omega, pm_us]
                        · rw [pm_uk (by omega), e2]; exact hr l' (by omega)
                    | succ j' ihx =>
                      intro x I2 hx h2 e2
                      have l1 := mn_le_a (F := oF (gO A) (wp (sW A)) (s + 1) (some l)) (f := fe (s + 1)) (a := a) (n := x)
                      have l2 := gle (s + 1) h9 (some l) x
                      refine b_X11_laysOrder_33 ?_
                      rw [h2.1.2.1, bit_nI _ (by omega)]
                      refine q_f (nI_ge (by omega) (by omega)) (q_b0' (fun q => ?_) (fun q => ?_))
                      · have nx := ihx (x + 1) I2 (by omega) h2 e2
                        rw [mn, if_neg (by unfold fe; rw [q]; decide)] at nx
                        rw [nI_add]; exact nx
                      · have hf : fe (s + 1) x = true := by unfold fe; rw [q]; rfl
                        have hx5 := p512 h9 (set_lt hs (show x < wp (sW A) by omega))
                        rw [nI_add, nI_add, nI_clamp (by omega), nI_clamp (by omega), lcd I2 h2 l (by omega), lcd I2 h2 x (by omega)]
                        refine ⟨vp_in_nI (by omega) (by omega), vp_in_nI (by omega) (by omega), ?_⟩
                        refine S_snarlOf h2.1.1 h2.1.2.2.1 ho.1 ho.2.1 (ho.2.1.2.2.1 l (by omega)) (ho.2.1.2.2.1 x (by omega)) fun I3 f3 => kb_X11_laysOrder_76 ?_
                        have e3 : I3 109 = I' 109 := by rw [f3 109 (by decide)]; exact e2
                        have e4 := cR_of hR hs x (by omega) hf
                        rw [Nat.mul_comm] at e4
                        rw [set_nI _ (by omega), pk_mul, nI_add, nI_clamp (by omega), e3, e4, nI_add]
                        have h3 := fsn _ _ h2 f3
                        have nx := ihx (x + 1) I3 (by omega) h3 e3
                        rw [mn, if_pos hf] at nx
                        refine ⟨vp_in_nI (by omega) (by omega), S_lesser (by omega) (by show oF (gO A) (wp (sW A)) (s + 1) (some l) x < _; omega) (kb_X11_laysOrder_97 ?_)⟩
                        rw [nI_add]; exact nx
                  refine q_ne (by omega) (by omega) (fun z => ?_) (fun z => ?_)
                  · have hrk : 0 < rk (wp (sW A)) (s + 1) := by
                      rcases Nat.eq_zero_or_pos (rk (wp (sW A)) (s + 1)) with y | y
                      · exact absurd ((rk_0 hs).mp y) z
                      · exact y
                    exact best 99999 (by omega) (lv_mn (gO_le A) h9 hrk (by omega)) (wp (sW A)) 0 I' (by omega) h' rfl
                  · have hrk := (rk_0 hs).mpr z
                    exact best 0 (by omega) (by rw [mn_none (cn_0 hrk), lv_0 hrk]) (wp (sW A)) 0 I' (by omega) h' rfl
              exact inner (wp (sW A)) 0 I' (by omega) h' hR (fun l' h => absurd h (by omega))
          exact e_X11_laysOrder (sets (2 ^ wp (sW A) - 1) _ (by omega) hw (fun s' l h1 h2 _ _ => absurd h1 (by omega)))
    · refine ⟨0, by decide, -2, ?_, ?_⟩
      · intro L fz t I J Q hS hk
        refine cg hS ?_
        rw [hS.2.1.1]
        exact q_f (nI_ge (by omega) (by omega)) (cw_e (cw_0 hS) hk)
      · intro L fz t I J Q hS hk
        have hw := mw_0 ho hS
        refine mg hS (S_right1 hw.2.2 (by omega) (kb_X11_order_28 (q_t' nI_01 ?_)))
        rw [hw.1.2.1]
        exact q_f (nI_ge (by omega) (by omega)) (mw_e hw hk pv_0)
  by_cases h0 : x = -1
  · subst h0; exact main none (fun i h => by cases h)
  · cases h1 : inR x (wp (sW A)) with
    | true =>
      obtain ⟨u, hu, rfl⟩ := inR_t (by omega) h1
      exact main (some u) (fun i h => by cases h; exact hu)
    | false =>
      refine ⟨1, by decide, 0, ?_, ?_⟩
      · intro L fz t I J Q hS hk
        refine e_X10_order (q_f h0 (S_cisPick hS.2.1.1 (kb_X10_order_10 ?_)))
        rw [h1]
        exact q_f' rfl (cS_r hS hk)
      · intro L fz t I J Q hS hk
        have hw := mw_0 ho hS
        have bad : pm_Ev 59 118 [.ref 85, .int (nI 0), .int (nI 1)] (pm_hp L fz t (pm_u I 85 0 (nI 0)) J) (K_X11_order_28 59 fz t Q x) := S_right0 hw.2.2 (by omega) (kb_X11_order_28 (q_f' rfl (mw_x ho hw hk (pv_e (by omega)))))
        refine e_X11_order ⟨fun _ => bad, fun q => ⟨fun _ => bad, fun q2 => ?_⟩⟩
        exfalso
        have : inR x (wp (sW A)) = true := by
          refine inR_in (fun z => ?_) (fun z => q2 (by rw [hS.2.1]; exact z))
          rw [fa_lt, show (-1 : Int32).toInt = -1 from rfl] at q
          rw [fa_lt, nI_toInt (by omega)] at z
          exact h0 ((fa_eq x (-1)).mpr (by rw [show (-1 : Int32).toInt = -1 from rfl]; omega))
        rw [this] at h1; cases h1
end Ops
