section Ops
variable {A : St}
/-- which coats fit -/
def cE (A : St) (c k : Nat) : Bool := decide (k < wp (sW A)) && decide ((clR (sT A) (sW A) k &&& (eff (sT A) (sW A) c ^^^ (-1 : Int32))) = nI 0)
theorem cE_p : ∀ c k, cE A c k = true → k < wp (sW A) := fun c k h => by
  unfold cE at h
  rw [Bool.and_eq_true] at h
  exact of_decide_eq_true h.1
def coA (A : St) (o : Option Nat) : Int32 := match o with
  | none => nI (mv (cE A) (wp (sW A)) (tM (sT A)) 0 0)
  | some c => oI (itc (cE A) (wp (sW A)) (tM (sT A)) c (tkn (cE A) (wp (sW A)) (tM (sT A)) c))
section Spec
variable {d L : Nat} {fz t : Bool} {Q : pm_R → pm_H → Prop} {I I0 : Nat → Nat → Int32} {J : Nat → Nat → Int64}
theorem S_coatsFor {R : Nat → Int32} {p : Nat} {h : Int32} (hp : I 3 1 = nI p) (h12 : p ≤ 12) (hR : ∀ k, k < p → I 4 k = R k) (hq : Q (.inl (some (.int (mk (fun k => decide ((R k &&& (h ^^^ (-1 : Int32))) = nI 0)) p)))) (pm_hp L fz t I J)) : pm_Ev (d + 1) 24 [.ref 3, .int h] (pm_hp L fz t I J) Q := by
  have loop : ∀ (j i : Nat), i + j = p → t_X2_coatsFor_4 d L fz t Q h (mk (fun k => decide ((R k &&& (h ^^^ (-1 : Int32))) = nI 0)) i) (nI i) I J := by
    intro j
    induction j with
    | zero =>
      intro i hi
      obtain rfl : i = p := by omega
      refine b_X2_coatsFor_4 ?_
      rw [hp]
      exact q_t (nI_le (by omega) (by omega)) hq
    | succ j ih =>
      intro i hi
      refine b_X2_coatsFor_4 ?_
      rw [hp, nI_clamp (by omega), hR i (by omega), nI_add]
      refine q_f (nI_ge (by omega) (by omega)) ⟨vp_in_nI (by omega) (by omega), fun q => ?_, fun q => ?_⟩
      · rw [mk_Sf (decide_eq_false q)]; exact ih (i + 1) (by omega)
      · rw [mk_St (decide_eq_true q)]; exact ih (i + 1) (by omega)
  exact e_X2_coatsFor (loop p 0 (by omega))
theorem S_wclear {m : Nat} (hq : ∀ I', fr [16, 18] I I' → I' 16 3 = nI m → (∀ c, c < 10 → I' 18 c = -1) → Q (.inl none) (pm_hp L fz t I' J)) : pm_Ev (d + 2) 73 [.ref 16, .int (nI m)] (pm_hp L fz t I J) Q :=
  e_X8_clear (S_fill (a0 := 18) (n0 := 10) (by omega) fun I1 f1 g1 => kb_X8_clear_13 (hq I1 (fr_t (fr_u (by simp) fr_r) (fr_m f1 (by simp))) (by rw [f1 16 (by decide), pm_us]) g1))
theorem cE_mk {c : Nat} (h12 : wp (sW A) ≤ 12) : mk (fun k => decide ((clR (sT A) (sW A) k &&& (eff (sT A) (sW A) c ^^^ (-1 : Int32))) = nI 0)) (wp (sW A)) = mk (cE A c) 12 := by
  refine sm_ext (n := 12) (sm_mono (sm_mk _ (by omega)) h12) (sm_mk _ (by omega)) fun i hi => ?_
  rw [bt_mk (by omega) hi, b_mk _ _ (by omega) i (by omega)]
  rfl
theorem cw_coats {o : Option Nat} (ho : ok A) (h : cw A t J I0 I) (hio : ∀ c, o = some c → c < tM (sT A)) (hq : ∀ I', cw A t J I0 I' → Q (.inl (some (.int (coA A o)))) (pm_hp L fz t I' J)) : t_X10_coats_10 58 L fz t Q (oI o) I J := by
  have hm := ho.1.2.1
  have h12 := ho.2.1.2.2.2
  refine b_X10_coats_10 (cw_weave0 ho h fun I1 w1 f1 p1 c1 => kb_X10_coats_26 ?_)
  rw [w1.1.1.2.2.1]
  refine S_wclear fun I2 f2 m2 g2 => kb_X10_coats_40 ?_
  have w2 : cw A t J I0 I2 := cw_fr w1 f2 (fun a ha => by simp at ha; exact ⟨qs_lo (by omega), by omega, by omega⟩)
  have loop : ∀ (j c : Nat) (I' : Nat → Nat → Int32), c + j = tM (sT A) → cw A t J I0 I' → fr [17] I2 I' → (∀ c', c' < c → I' 17 c' = mk (cE A c') 12) → t_X10_coats_42 58 L fz t Q (oI o) (nI c) I' J := by
    intro j
    induction j with
    | zero =>
      intro c I' hc h' hf g'
      obtain rfl : c = tM (sT A) := by omega
      refine b_X10_coats_42 ?_
      rw [h'.1.1.2.2.1]
      refine q_t (nI_le (by omega) (by omega)) (S_deal (E := cE A) (p := wp (sW A)) hm h12 cE_p ⟨by rw [hf 16 (by decide)]; exact m2, g'⟩ (fun c hc => by rw [hf 18 (by decide)]; exact g2 c hc) fun I3 f3 g3 => kb_X10_coats_94 ?_)
      have w3 : cw A t J I0 I3 := cw_fr h' f3 (fun a ha => by simp at ha; exact ⟨qs_lo (by omega), by omega, by omega⟩)
      have fin := hq I3 w3
      cases o with
      | none => exact q_f' rfl fin
      | some c =>
        have hc' := hio c rfl
        refine q_t' (nI_ne_m1 (by omega)) ?_
        show vp_in (nI c) 10 ∧ Q (.inl (some (.int (I3 18 (nI c).toNatClampNeg)))) _
        rw [nI_clamp (by omega), g3 c hc']
        exact ⟨vp_in_nI (by omega) (by omega), fin⟩
    | succ j ih =>
      intro c I' hc h' hf g'
      refine b_X10_coats_42 ?_
      rw [h'.1.1.2.2.1]
      refine q_f (nI_ge (by omega) (by omega)) (S_had (td_or t) (Or.inl rfl) h'.1.1 h'.1.2.1 ho.2.1 (by omega) (kb_X10_coats_77 ?_))
      refine S_coatsFor (R := clR (sT A) (sW A)) (p := wp (sW A)) (by rw [hf 3 (by decide), f2 3 (by decide)]; exact p1) h12 (fun k hk => by rw [hf 4 (by decide), f2 4 (by decide)]; exact c1 k hk) (kb_X10_coats_80 ?_)
      rw [cE_mk h12, nI_clamp (by omega), nI_add]
      refine ⟨vp_in_nI (by omega) (by omega), ih (c + 1) _ (by omega) (cw_u h' (qs_lo (by omega)) (by omega) (by omega)) (fr_u (by simp) hf) (fun c' hc' => ?_)⟩
      by_cases e : c' = c
      · rw [e, pm_us]
      · rw [pm_uk e]; exact g' c' (by omega)
  exact loop (tM (sT A)) 0 I2 (by omega) w2 fr_r (fun c' h => absurd h (by omega))
theorem cw_coatsv1 {o : Option Nat} (ho : ok A) (h : cw A t J I0 I) (hio : ∀ c, o = some c → c < tM (sT A)) (hq : ∀ I', cw A t J I0 I' → Q (.inl (some (.int (coA A o)))) (pm_hp L fz t I' J)) : t_X10_coats_10v1 58 L fz t Q (oI o) I J := by
  have hm := ho.1.2.1
  have h12 := ho.2.1.2.2.2
  refine b_X10_coats_10v1 (cw_weave0 ho h fun I1 w1 f1 p1 c1 => kb_X10_coats_26v1 ?_)
  rw [w1.1.1.2.2.1]
  refine S_wclear fun I2 f2 m2 g2 => kb_X10_coats_40v1 ?_
  have w2 : cw A t J I0 I2 := cw_fr w1 f2 (fun a ha => by simp at ha; exact ⟨qs_lo (by omega), by omega, by omega⟩)
  have loop : ∀ (j c : Nat) (I' : Nat → Nat → Int32), c + j = tM (sT A) → cw A t J I0 I' → fr [17] I2 I' → (∀ c', c' < c → I' 17 c' = mk (cE A c') 12) → t_X10_coats_42v1 58 L fz t Q (oI o) (nI c) I' J := by
    intro j
    induction j with
    | zero =>
      intro c I' hc h' hf g'
      obtain rfl : c = tM (sT A) := by omega
      refine b_X10_coats_42v1 ?_
      rw [h'.1.1.2.2.1]
      refine q_t (nI_le (by omega) (by omega)) (S_deal (E := cE A) (p := wp (sW A)) hm h12 cE_p ⟨by rw [hf 16 (by decide)]; exact m2, g'⟩ (fun c hc => by rw [hf 18 (by decide)]; exact g2 c hc) fun I3 f3 g3 => kb_X10_coats_94v1 ?_)
      have w3 : cw A t J I0 I3 := cw_fr h' f3 (fun a ha => by simp at ha; exact ⟨qs_lo (by omega), by omega, by omega⟩)
      have fin := hq I3 w3
      cases o with
      | none => exact q_f' rfl fin
      | some c =>
        have hc' := hio c rfl
        refine q_t' (nI_ne_m1 (by omega)) ?_
        show vp_in (nI c) 10 ∧ Q (.inl (some (.int (I3 18 (nI c).toNatClampNeg)))) _
        rw [nI_clamp (by omega), g3 c hc']
        exact ⟨vp_in_nI (by omega) (by omega), fin⟩
    | succ j ih =>
      intro c I' hc h' hf g'
      refine b_X10_coats_42v1 ?_
      rw [h'.1.1.2.2.1]
      refine q_f (nI_ge (by omega) (by omega)) (S_had (td_or t) (Or.inl rfl) h'.1.1 h'.1.2.1 ho.2.1 (by omega) (kb_X10_coats_77v1 ?_))
      refine S_coatsFor (R := clR (sT A) (sW A)) (p := wp (sW A)) (by rw [hf 3 (by decide), f2 3 (by decide)]; exact p1) h12 (fun k hk => by rw [hf 4 (by decide), f2 4 (by decide)]; exact c1 k hk) (kb_X10_coats_80v1 ?_)
      rw [cE_mk h12, nI_clamp (by omega), nI_add]
      refine ⟨vp_in_nI (by omega) (by omega), ih (c + 1) _ (by omega) (cw_u h' (qs_lo (by omega)) (by omega) (by omega)) (fr_u (by simp) hf) (fun c' hc' => ?_)⟩
      by_cases e : c' = c
      · rw [e, pm_us]
      · rw [pm_uk e]; exact g' c' (by omega)
  exact loop (tM (sT A)) 0 I2 (by omega) w2 fr_r (fun c' h => absurd h (by omega))
/-- rows of the reference's table from card c on -/
def mTb (A : St) (c : Nat) (I : Nat → Nat → Int32) : Prop := ∀ c' s, c ≤ c' → c' < tM (sT A) → s < 2 ^ wp (sW A) → I 113 (4096 * c' + s) = nI (mv (cE A) (wp (sW A)) (tM (sT A)) c' s)
theorem mw_mostOf {c s : Nat} (ho : ok A) (h : mw A I0 I) (hT : mTb A c I) (hc : c ≤ tM (sT A)) (hs : s < 2 ^ wp (sW A)) (hq : Q (.inl (some (.int (nI (mv (cE A) (wp (sW A)) (tM (sT A)) c s))))) (pm_hp L fz t I J)) : pm_Ev (d + 1) 218 [.ref 85, .int (nI c), .int (nI s)] (pm_hp L fz t I J) Q := by
  have hm := ho.1.2.1
  have h2 := two_12 ho.2.1.2.2.2
  refine e_X11_mostOf ?_
  rw [h.1.1.2.1]
  refine q_ne (by omega) (by omega) (fun q => ?_) (fun q => ?_)
  · rw [pk_mul, nI_add, nI_clamp (by omega), hT c s (Nat.le_refl _) (by omega) hs]
    exact ⟨vp_in_nI (by omega) (by omega), hq⟩
  · rw [q, mv_end] at hq; exact hq
theorem mw_isCoat {c k : Nat} (ho : ok A) (h : mw A I0 I) (hc : c < tM (sT A)) (hk : k < wp (sW A)) (hR : ∀ k, k < wp (sW A) → I 107 k = clR (sT A) (sW A) k) (hq : Q (.inl (some (.int (bz (cE A c k))))) (pm_hp L fz t I J)) : pm_Ev (d + 3) 217 [.ref 85, .int (nI c), .int (nI k)] (pm_hp L fz t I J) Q := by
  have h12 := ho.2.1.2.2.2
  refine e_X11_isCoat ?_
  rw [nI_clamp (by omega), hR k hk]
  refine ⟨vp_in_nI (by omega) (by omega), S_holesOf (b := 0) (Or.inl rfl) h.1.1 h.1.2.2.1 ho.1 ho.2.1 hc (kb_X11_isCoat_12 ?_)⟩
  unfold cE at hq
  rw [decide_eq_true hk, Bool.true_and] at hq
  refine ⟨fun q => ?_, fun q => ?_⟩
  · rw [decide_eq_false q] at hq; exact hq
  · rw [decide_eq_true q] at hq; exact hq
end Spec
theorem op_coats (ho : ok A) (x : Int32) : op2 271 219 [.int x] A 1 := by
  have h12 := ho.2.1.2.2.2
  have hm := ho.1.2.1
  have h2p := two_12 h12
  have main : ∀ o : Option Nat, (∀ i, o = some i → i < tM (sT A)) → op2 271 219 [.int (oI o)] A 1 := by
    intro o hio
    refine ⟨0, by decide, coA A o, ?_, ?_⟩
    · intro L fz t I J Q hS hk
      cases o with
      | none => exact e_X10_coats (q_t rfl (cw_coats ho (cw_0 hS) hio fun I' w' => cw_e w' hk))
      | some i =>
        have hi := hio i rfl
        exact e_X10_coats (q_f (nI_ne_m1 (by omega)) (gCy hS.1.2.2.1 (inR_nI (by omega) hi) (cw_coatsv1 ho (cw_0 hS) hio fun I' w' => cw_e w' hk)))
    · intro L fz t I J Q hS hk
      have hw := mw_0 ho hS
      refine e_X11_coats (q_f ?_ (q_f ?_ (S_right1 hw.2.2 (by omega) (kb_X11_coats_28 (q_t' nI_01 (mw_weaves ho hw fun I1 w1 f1 p1 c1 => kb_X11_coats_38 ?_))))))
      · cases o with
        | none => decide
        | some i =>
          have hi := hio i rfl
          show ¬ nI i < (-1 : Int32)
          rw [fa_lt, nI_toInt (by omega), show (-1 : Int32).toInt = -1 from rfl]; omega
      · rw [hS.1.2.1]
        cases o with
        | none =>
          show ¬ nI _ ≤ (-1 : Int32)
          rw [fa_le, nI_toInt (by omega), show (-1 : Int32).toInt = -1 from rfl]; omega
        | some i => exact nI_ge (hio i rfl) (by omega)
      have u113 : ∀ I' k v, mw A I I' → mw A I (pm_u I' 113 k v) := fun I' k v h' => mw_f ho h' (mq_w (S := [113]) (fr_u (by simp) fr_r) (by simp)) (by rw [pm_ua (by omega)]; exact h'.2.2)
      -- the walk
      have walk : ∀ (I' : Nat → Nat → Int32) (i : Nat), o = some i → mw A I I' → I' 107 = I1 107 → mTb A 0 I' → ∀ (j c : Nat) (v : Int32), c + j = i + 1 → (0 < c → v = oI (itc (cE A) (wp (sW A)) (tM (sT A)) (c - 1) (tkn (cE A) (wp (sW A)) (tM (sT A)) (c - 1)))) → t_X11_coats_190 59 L fz t Q (nI i) (nI (tkn (cE A) (wp (sW A)) (tM (sT A)) c)) v (nI c) I' J := by
        intro I' i hoi h' e107 hT j
        have hi := hio i hoi
        have hR : ∀ k, k < wp (sW A) → I' 107 k = clR (sT A) (sW A) k := fun k hk => by rw [e107]; exact c1 k hk
        induction j with
        | zero =>
          intro c v hc hv
          obtain rfl : c = i + 1 := by omega
          refine b_X11_coats_190 (q_t (nI_lt (by omega) (by omega)) (mw_e h' hk ⟨_, fun _ => ?_, rfl⟩))
          rw [hv (by omega), hoi]; rfl
        | succ j ih =>
          intro c v hc hv
          have hs := tkn_lt (E := cE A) (p := wp (sW A)) (m := tM (sT A)) c
          have nx := ih (c + 1)
          rw [tkn, show c + 1 - 1 = c by omega] at nx
          refine b_X11_coats_190 (q_f (nI_nlt (by omega) (by omega)) ?_)
          rw [h'.1.2.1]
          generalize tkn (cE A) (wp (sW A)) (tM (sT A)) c = s at *
          have its : ∀ (y : Nat), y ≤ wp (sW A) → t_X11_coats_206 59 L fz t Q (nI i) (nI s) (oI (ff (itF (cE A) (wp (sW A)) (tM (sT A)) c s) (wp (sW A) - y) y)) (nI c) (pN y) I' J := by
            intro y
            induction y with
            | zero =>
              intro hy
              rw [Nat.sub_zero]
              refine b_X11_coats_206 (q_t (by decide) ?_)
              have nx2 := fun v hv => nx v (by omega) hv
              cases q : itc (cE A) (wp (sW A)) (tM (sT A)) c s with
              | none =>
                rw [q] at nx2
                unfold itc at q
                rw [q, nI_add]
                exact q_t rfl (nx2 _ (fun _ => rfl))
              | some b =>
                rw [q] at nx2
                unfold itc at q
                have hb := (ff_some q).2.1
                rw [q, nI_add]
                refine q_f (nI_ne_m1 (by omega)) ?_
                show t_X11_coats_190 _ _ _ _ _ _ (nI s ||| (nI 1 <<< (nI b &&& 31))) (nI b) _ _ _
                rw [set_nI s (by omega)]
                exact nx2 _ (fun _ => rfl)
            | succ y ihy =>
              intro hy
              have hrec : ff (itF (cE A) (wp (sW A)) (tM (sT A)) c s) (wp (sW A) - y) y = if itF (cE A) (wp (sW A)) (tM (sT A)) c s y = true then some y else ff (itF (cE A) (wp (sW A)) (tM (sT A)) c s) (wp (sW A) - (y + 1)) (y + 1) := by
                rw [show wp (sW A) - y = wp (sW A) - (y + 1) + 1 by omega]; rfl
              have nx2 := ihy (by omega)
              rw [hrec] at nx2
              refine b_X11_coats_206 (q_f (nI_nlt (by omega) (by omega)) ?_)
              rw [pN_pred]
              show (¬ ((nI s >>> (nI y &&& 31)) &&& nI 1) = nI 0 → _) ∧ (((nI s >>> (nI y &&& 31)) &&& nI 1) = nI 0 → _)
              rw [bit_nI s (by omega)]
              refine q_b0' (fun q => ?_) (fun q => ?_)
              · rw [if_neg (by unfold itF cf fe; rw [q]; simp)] at nx2; exact nx2
              · have hf : fe s y = true := by unfold fe; rw [q]; rfl
                show pm_Ev 59 217 [.ref 85, .int (nI c), .int (nI y)] _ _
                refine mw_isCoat ho h' (by omega) (by omega) hR (kb_X11_coats_228 ?_)
                rw [pN_pred]
                refine q_b0 (fun z => ?_) (fun z => ?_)
                · rw [if_neg (by unfold itF cf; rw [z]; simp)] at nx2; exact nx2
                · show pm_Ev 59 218 [.ref 85, .int (nI c + nI 1), .int (nI s ||| (nI 1 <<< (nI y &&& 31)))] _ _
                  rw [nI_add, set_nI s (by omega)]
                  have l1 := mv_le (E := cE A) (p := wp (sW A)) (m := tM (sT A)) (c := c + 1) (s := s ||| 2 ^ y)
                  have l2 := mv_le (E := cE A) (p := wp (sW A)) (m := tM (sT A)) (c := c) (s := s)
                  refine mw_mostOf ho h' (fun c' s' a b => hT c' s' (by omega) b) (by omega) (set_lt hs (by omega)) (kb_X11_coats_246 (mw_mostOf ho h' (fun c' s' a b => hT c' s' (by omega) b) (by omega) hs (kb_X11_coats_254 ?_)))
                  rw [nI_add, pN_pred]
                  refine q_ne (by omega) (by omega) (fun w => ?_) (fun w => ?_)
                  · rw [if_neg (by unfold itF cf; rw [hf, z, decide_eq_false w]; decide)] at nx2; exact nx2
                  · rw [if_pos (by unfold itF cf; rw [hf, z, decide_eq_true w]; rfl)] at nx2; exact nx2
          have := its (wp (sW A)) (Nat.le_refl _)
          rw [Nat.sub_self] at this
          cases hwp : wp (sW A) with
          | zero =>
            rw [hwp] at this
            exact this
          | succ n =>
            rw [hwp] at this
            rw [pk_sub (by omega)]
            exact this
      -- the table, from the last card on
      have table : ∀ (y : Nat) (I' : Nat → Nat → Int32), y ≤ tM (sT A) → mw A I I' → I' 107 = I1 107 → mTb A y I' → t_X11_coats_45 59 L fz t Q (oI o) (pN y) I' J := by
        intro y
        induction y with
        | zero =>
          intro I' hy h' e107 hT
          refine b_X11_coats_45 (q_t (by decide) ?_)
          cases o with
          | none => exact q_f' rfl (mw_mostOf (c := 0) (s := 0) ho h' hT (by omega) h2p.2 (kb_X11_coats_182 (mw_e h' hk pv_0)))
          | some i =>
            have hi := hio i rfl
            exact q_t' (nI_ne_m1 (by omega)) (walk I' i rfl h' e107 hT (i + 1) 0 _ (by omega) (fun h => absurd h (by omega)))
        | succ y ih =>
          intro I' hy h' e107 hT
          refine b_X11_coats_45 (q_f (nI_nlt (by omega) (by omega)) ?_)
          show t_X11_coats_51 59 L fz t Q (oI o) (nI y) (nI 0) I' J
          have sets : ∀ (j s : Nat) (I' : Nat → Nat → Int32), s + j = 2 ^ wp (sW A) → mw A I I' → I' 107 = I1 107 → mTb A (y + 1) I' → (∀ s', s' < s → I' 113 (4096 * y + s') = nI (mv (cE A) (wp (sW A)) (tM (sT A)) y s')) → t_X11_coats_51 59 L fz t Q (oI o) (nI y) (nI s) I' J := by
            intro j
            induction j with
            | zero =>
              intro s I' hs h' e107 hT hr
              obtain rfl : s = 2 ^ wp (sW A) := by omega
              refine b_X11_coats_51 ?_
              rw [h'.1.2.1, pw_nI _ (by omega), show nI y + (-1 : Int32) = pN y from pN_pred y]
              refine q_t (nI_le (by omega) (by omega)) (ih I' (by omega) h' e107 fun c' s' a b e => ?_)
              by_cases z : c' = y
              · rw [z]; exact hr s' e
              · exact hT c' s' (by omega) b e
            | succ j ihs =>
              intro s I' hs h' e107 hT hr
              have hR : ∀ k, k < wp (sW A) → I' 107 k = clR (sT A) (sW A) k := fun k hk => by rw [e107]; exact c1 k hk
              refine b_X11_coats_51 ?_
              rw [h'.1.2.1, pw_nI _ (by omega), nI_add]
              refine q_f (nI_ge (by omega) (by omega)) (mw_mostOf ho h' hT (by omega) (by omega) (kb_X11_coats_69 ?_))
              have best : ∀ (j' k : Nat), k + j' = wp (sW A) → t_X11_coats_74 59 L fz t Q (oI o) (nI y) (nI s) (nI (mxk (cf (cE A) s y) (fun k => 1 + mv (cE A) (wp (sW A)) (tM (sT A)) (y + 1) (s ||| 2 ^ k)) (mv (cE A) (wp (sW A)) (tM (sT A)) (y + 1) s) k)) (nI k) I' J := by
                intro j'
                induction j' with
                | zero =>
                  intro k hk'
                  obtain rfl : k = wp (sW A) := by omega
                  refine b_X11_coats_74 ?_
                  rw [h'.1.2.1, pk_mul, nI_add, nI_clamp (by omega), nI_add, ← mv_step (by omega)]
                  refine q_t (nI_le (by omega) (by omega)) ⟨vp_in_nI (by omega) (by omega), ihs (s + 1) _ (by omega) (u113 I' _ _ h') (by rw [pm_ua (by decide)]; exact e107) (fun c' s' a b e => ?_) (fun s' hs' => ?_)⟩
                  · rw [pm_uk (by omega)]; exact hT c' s' a b e
                  · by_cases z : s' = s
                    · rw [z, pm_us]
                    · rw [pm_uk (by omega)]; exact hr s' (by omega)
                | succ j' ihk =>
                  intro k hk'
                  have nx := ihk (k + 1) (by omega)
                  rw [mxk] at nx
                  have l1 := mv_le (E := cE A) (p := wp (sW A)) (m := tM (sT A)) (c := y + 1) (s := s ||| 2 ^ k)
                  have l3 := mxk_le (f := cf (cE A) s y) (F := fun k => 1 + mv (cE A) (wp (sW A)) (tM (sT A)) (y + 1) (s ||| 2 ^ k)) (a := mv (cE A) (wp (sW A)) (tM (sT A)) (y + 1) s) (b := 11) (n := k) (by have := mv_le (E := cE A) (p := wp (sW A)) (m := tM (sT A)) (c := y + 1) (s := s); omega) (fun k _ _ => by have := mv_le (E := cE A) (p := wp (sW A)) (m := tM (sT A)) (c := y + 1) (s := s ||| 2 ^ k); omega)
                  refine b_X11_coats_74 ?_
                  rw [h'.1.2.1, bit_nI s (by omega)]
                  refine q_f (nI_ge (by omega) (by omega)) (q_b0' (fun q => ?_) (fun q => ?_))
                  · rw [if_neg (by unfold cf fe; rw [q]; simp)] at nx
                    rw [nI_add]; exact nx
                  · have hf : fe s k = true := by unfold fe; rw [q]; rfl
                    refine mw_isCoat ho h' (by omega) (by omega) hR (kb_X11_coats_99 (q_b0 (fun z => ?_) (fun z => ?_)))
                    · rw [if_neg (by unfold cf; rw [z]; simp)] at nx
                      rw [nI_add]; exact nx
                    · rw [nI_add, set_nI s (by omega)]
                      refine mw_mostOf ho h' hT (by omega) (set_lt (by omega) (by omega)) (kb_X11_coats_116 ?_)
                      rw [if_pos (by unfold cf; rw [hf, z]; rfl)] at nx
                      rw [nI_add, nI_add, nI_add]
                      refine q_le (by omega) (by omega) (fun w => ?_) (fun w => ?_)
                      · rw [Nat.max_eq_left w] at nx; exact nx
                      · rw [set_nI s (by omega)]
                        refine mw_mostOf ho h' hT (by omega) (set_lt (by omega) (by omega)) (kb_X11_coats_136 ?_)
                        rw [Nat.max_eq_right (by omega)] at nx
                        rw [nI_add, nI_add]; exact nx
              exact best (wp (sW A)) 0 (by omega)
          exact sets (2 ^ wp (sW A)) 0 I' (by omega) h' e107 hT (fun s' h => absurd h (by omega))
      have := table (tM (sT A)) I1 (Nat.le_refl _) w1 rfl (fun c' s' a b => absurd b (by omega))
      rw [w1.1.1.2.1]
      cases htm : tM (sT A) with
      | zero => rw [htm] at this; exact this
      | succ n =>
        rw [htm] at this
        rw [pk_sub (by omega)]
        exact this
  by_cases h0 : x = -1
  · subst h0; exact main none (fun i h => by cases h)
  · cases h1 : inR x (tM (sT A)) with
    | true =>
      obtain ⟨u, hu, rfl⟩ := inR_t (by omega) h1
      exact main (some u) (fun i h => by cases h; exact hu)
    | false =>
      refine ⟨1, by decide, 0, ?_, ?_⟩
      · intro L fz t I J Q hS hk
        exact e_X10_coats (q_f h0 (gCn hS.1.2.2.1 h1 (cS_r hS hk)))
      · intro L fz t I J Q hS hk
        have hw := mw_0 ho hS
        have bad : pm_Ev 59 118 [.ref 85, .int (nI 0), .int (nI 1)] (pm_hp L fz t (pm_u I 85 0 (nI 0)) J) (K_X11_coats_28 59 fz t Q x) := S_right0 hw.2.2 (by omega) (kb_X11_coats_28 (q_f' rfl (mw_x ho hw hk (pv_e (by omega)))))
        refine e_X11_coats ⟨fun _ => bad, fun q => ⟨fun _ => bad, fun q2 => ?_⟩⟩
        exfalso
        have : inR x (tM (sT A)) = true := by
          refine inR_in (fun z => ?_) (fun z => q2 (by rw [hS.1.2.1]; exact z))
          rw [fa_lt, show (-1 : Int32).toInt = -1 from rfl] at q
          rw [fa_lt, nI_toInt (by omega)] at z
          exact h0 ((fa_eq x (-1)).mpr (by rw [show (-1 : Int32).toInt = -1 from rfl]; omega))
        rw [this] at h1; cases h1
end Ops
