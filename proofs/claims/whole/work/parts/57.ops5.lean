theorem ff_snoc {f : Nat → Bool} : ∀ (j i : Nat), ff f (j + 1) i = match ff f j i with
    | some k => some k
    | none => if f (i + j) = true then some (i + j) else none
  | 0, i => by rw [ff]; rfl
  | j + 1, i => by
    show (if f i = true then some i else ff f (j + 1) (i + 1)) = match (if f i = true then some i else ff f j (i + 1)) with
      | some k => some k
      | none => if f (i + (j + 1)) = true then some (i + (j + 1)) else none
    cases h : f i with
    | true => rfl
    | false =>
      rw [if_neg (by decide), if_neg (by decide), ff_snoc j (i + 1), show i + 1 + j = i + (j + 1) by omega]
theorem ff_sn_s {f : Nat → Bool} {j k : Nat} (h : ff f j 0 = some k) : ff f (j + 1) 0 = some k := by rw [ff_snoc, h]
theorem ff_sn_t {f : Nat → Bool} {j : Nat} (h : ff f j 0 = none) (hf : f j = true) : ff f (j + 1) 0 = some j := by rw [ff_snoc, h, Nat.zero_add]; exact if_pos hf
theorem ff_sn_f {f : Nat → Bool} {j : Nat} (hf : f j = false) : ff f (j + 1) 0 = ff f j 0 := by
  rw [ff_snoc, Nat.zero_add]
  cases ff f j 0 with
  | some k => rfl
  | none => exact if_neg (by rw [hf]; decide)
/-! count -/
def orr (R : Nat → Int32) : Nat → Int32
  | 0 => nI 0
  | k + 1 => orr R k ||| R k
def mvd (R : Nat → Int32) (p b : Nat) : Bool := aB (fun k => decide (R k = R (k + b))) (p - b)
def rp (R : Nat → Int32) (p : Nat) : Int32 := match ff (mvd R p) (p - 1) 1 with
  | some b => nI b
  | none => nI p
def cv (A : St) : Nat → Int32
  | 0 => nI (tN (sT A))
  | 1 => nI (tM (sT A))
  | 2 => nI (wp (sW A))
  | 3 => nI (tG (sT A))
  | 4 => ws (sW A)
  | 5 => wg (sW A)
  | 6 => nI (ls (sT A) (sW A) (wl (sW A)) (wp (sW A) - 1))
  | 7 => al (tN (sT A)) &&& (orr (clR (sT A) (sW A)) (wp (sW A)) ^^^ (-1 : Int32))
  | 8 => rp (clR (sT A) (sW A)) (wp (sW A))
  | 9 => sta (sT A) (clR (sT A) (sW A)) (wp (sW A))
  | 10 => nI (sNA A)
  | 11 => nI (sNS A)
  | 12 => nI (sB A).length
  | 13 => sR A 0
  | 14 => sR A 1
  | 15 => sR A 2
  | _ => 0
section Spec
variable {d L : Nat} {fz t : Bool} {Q : pm_R → pm_H → Prop} {I I0 : Nat → Nat → Int32} {J : Nat → Nat → Int64} {R : Nat → Int32} {p : Nat} {A : St}
theorem S_isAsMovedBy {b : Nat} (hp : I 3 1 = nI p) (h12 : p ≤ 12) (hb : b < 12) (hR : ∀ k, k < p → I 4 k = R k) (hq : Q (.inl (some (.int (bz (mvd R p b))))) (pm_hp L fz t I J)) : pm_Ev (d + 1) 19 [.ref 3, .int (nI b)] (pm_hp L fz t I J) Q := by
  have loop : ∀ (j i : Nat), j = p - b - i → i ≤ p → (∀ k, k < i → R k = R (k + b)) → t_X2_isAsMovedBy_2 d L fz t Q (nI b) (nI i) I J := by
    intro j
    induction j with
    | zero =>
      intro i hi hip e
      refine b_X2_isAsMovedBy_2 ?_
      rw [hp, nI_add]
      refine q_t (nI_le (by omega) (by omega)) ?_
      have : mvd R p b = true := aB_t.mpr fun k hk => decide_eq_true (e k (by omega))
      rw [this] at hq; exact hq
    | succ j ih =>
      intro i hi hip e
      refine b_X2_isAsMovedBy_2 ?_
      rw [hp, nI_add, nI_add, nI_clamp (by omega), nI_clamp (by omega), hR i (by omega), hR (i + b) (by omega)]
      refine q_f (nI_ge (by omega) (by omega)) ⟨vp_in_nI (by omega) (by omega), vp_in_nI (by omega) (by omega), fun q => ih (i + 1) (by omega) (by omega) (fun k hk => ?_), fun q => ?_⟩
      · by_cases z : k = i
        · rw [z]; exact q
        · exact e k (by omega)
      · have : mvd R p b = false := ab_f (i := i) (by omega) (decide_eq_false q)
        rw [this] at hq; exact hq
  exact e_X2_isAsMovedBy (loop (p - b) 0 (by omega) (by omega) (fun k h => absurd h (by omega)))
theorem cw_plain (ho : ok A) (h : cw A t J I0 I) (hq : ∀ I', cw A t J I0 I' → Q (.inl (some (.int (cv A 7)))) (pm_hp L fz t I' J)) : pm_Ev (d + 6) 98 [.ref 0] (pm_hp L fz t I J) Q := by
  have h12 := ho.2.1.2.2.2
  refine e_X10_plainThreads (cw_weave0 ho h fun I1 w1 _ p1 c1 => kb_X10_plainThreads_16 ?_)
  have loop : ∀ (j i : Nat), i + j = wp (sW A) → t_X10_plainThreads_20 (d + 5) L fz t Q (orr (clR (sT A) (sW A)) i) (nI i) I1 J := by
    intro j
    induction j with
    | zero =>
      intro i hi
      obtain rfl : i = wp (sW A) := by omega
      refine b_X10_plainThreads_20 ?_
      rw [p1, w1.1.1.2.1]
      exact q_t (nI_le (by omega) (by omega)) (hq I1 w1)
    | succ j ih =>
      intro i hi
      refine b_X10_plainThreads_20 ?_
      rw [p1, nI_clamp (by omega), c1 i (by omega), nI_add]
      exact q_f (nI_ge (by omega) (by omega)) ⟨vp_in_nI (by omega) (by omega), ih (i + 1) (by omega)⟩
  exact loop (wp (sW A)) 0 (by omega)
theorem cw_repeat (ho : ok A) (h : cw A t J I0 I) (hq : ∀ I', cw A t J I0 I' → Q (.inl (some (.int (cv A 8)))) (pm_hp L fz t I' J)) : pm_Ev (d + 6) 99 [.ref 0] (pm_hp L fz t I J) Q := by
  have h12 := ho.2.1.2.2.2
  refine e_X10_repeatOf (cw_weave0 ho h fun I1 w1 _ p1 c1 => kb_X10_repeatOf_16 ?_)
  have hq1 : Q (.inl (some (.int (rp (clR (sT A) (sW A)) (wp (sW A)))))) (pm_hp L fz t I1 J) := hq I1 w1
  have loop : ∀ (j i : Nat), j = wp (sW A) - i → 1 ≤ i → i ≤ 12 → ff (mvd (clR (sT A) (sW A)) (wp (sW A))) j i = ff (mvd (clR (sT A) (sW A)) (wp (sW A))) (wp (sW A) - 1) 1 → t_X10_repeatOf_18 (d + 5) L fz t Q (nI i) I1 J := by
    intro j
    induction j with
    | zero =>
      intro i hi h1 h2 e
      refine b_X10_repeatOf_18 ?_
      rw [p1]
      unfold rp at hq1
      rw [← e] at hq1
      exact q_t (nI_le (by omega) (by omega)) hq1
    | succ j ih =>
      intro i hi h1 h2 e
      refine b_X10_repeatOf_18 ?_
      rw [p1]
      refine q_f (nI_ge (by omega) (by omega)) (S_isAsMovedBy p1 h12 (by omega) c1 (kb_X10_repeatOf_37 ?_))
      rw [nI_add]
      refine q_b0 (fun q => ih (i + 1) (by omega) (by omega) (by omega) ?_) (fun q => ?_)
      · rw [← e, ff, if_neg (by rw [q]; decide)]
      · unfold rp at hq1
        rw [← e, ff, if_pos q] at hq1; exact hq1
  exact loop (wp (sW A) - 1) 1 (by omega) (by omega) (by omega) rfl
theorem mw_plain (ho : ok A) (h : mw A I0 I) (c1 : ∀ k, k < wp (sW A) → I 107 k = clR (sT A) (sW A) k) (hq : Q (.inl (some (.int (cv A 7)))) (pm_hp L fz t I J)) : pm_Ev (d + 2) 177 [.ref 85] (pm_hp L fz t I J) Q := by
  have h12 := ho.2.1.2.2.2
  have loop : ∀ (j i : Nat), i + j = wp (sW A) → t_X11_plain_4 (d + 1) L fz t Q (orr (clR (sT A) (sW A)) i) (nI i) I J := by
    intro j
    induction j with
    | zero =>
      intro i hi
      obtain rfl : i = wp (sW A) := by omega
      refine b_X11_plain_4 ?_
      rw [h.1.2.1]
      exact q_t (nI_le (by omega) (by omega)) (S_all h.1.1 (kb_X11_plain_31 hq))
    | succ j ih =>
      intro i hi
      refine b_X11_plain_4 ?_
      rw [h.1.2.1, nI_clamp (by omega), c1 i (by omega), nI_add]
      exact q_f (nI_ge (by omega) (by omega)) ⟨vp_in_nI (by omega) (by omega), ih (i + 1) (by omega)⟩
  exact e_X11_plain (loop (wp (sW A)) 0 (by omega))
theorem mw_repeat (ho : ok A) (h : mw A I0 I) (c1 : ∀ k, k < wp (sW A) → I 107 k = clR (sT A) (sW A) k) (hq : Q (.inl (some (.int (cv A 8)))) (pm_hp L fz t I J)) : pm_Ev (d + 1) 178 [.ref 85] (pm_hp L fz t I J) Q := by
  have h12 := ho.2.1.2.2.2
  have hq1 : Q (.inl (some (.int (rp (clR (sT A) (sW A)) (wp (sW A)))))) (pm_hp L fz t I J) := hq
  have loop : ∀ (j i : Nat), j = wp (sW A) - i → 1 ≤ i → i ≤ 12 → ff (mvd (clR (sT A) (sW A)) (wp (sW A))) j i = ff (mvd (clR (sT A) (sW A)) (wp (sW A))) (wp (sW A) - 1) 1 → t_X11_repeat_2 d L fz t Q (nI i) I J := by
    intro j
    induction j with
    | zero =>
      intro i hi h1 h2 e
      refine b_X11_repeat_2 ?_
      rw [h.1.2.1]
      unfold rp at hq1
      rw [← e] at hq1
      exact q_t (nI_le (by omega) (by omega)) hq1
    | succ j ih =>
      intro i hi h1 h2 e
      refine b_X11_repeat_2 ?_
      rw [h.1.2.1]
      refine q_f (nI_ge (by omega) (by omega)) ?_
      have inner : ∀ (j' k : Nat), k + j' = wp (sW A) - i → t_X11_repeat_14 d L fz t Q (nI i) (bz (aB (fun k => decide (clR (sT A) (sW A) k = clR (sT A) (sW A) (k + i))) k)) (nI k) I J := by
        intro j'
        induction j' with
        | zero =>
          intro k hk
          obtain rfl : k = wp (sW A) - i := by omega
          refine b_X11_repeat_14 ?_
          rw [h.1.2.1, nI_add, nI_add]
          refine q_t (nI_le (by omega) (by omega)) (q_b0 (fun q => ih (i + 1) (by omega) (by omega) (by omega) ?_) (fun q => ?_))
          · rw [← e, ff, if_neg (by unfold mvd; rw [q]; decide)]
          · unfold rp at hq1
            rw [← e, ff, if_pos (by unfold mvd; exact q)] at hq1; exact hq1
        | succ j' ih' =>
          intro k hk
          refine b_X11_repeat_14 ?_
          have nx := ih' (k + 1) (by omega)
          rw [aB] at nx
          rw [h.1.2.1, nI_add, nI_add, nI_add, nI_clamp (by omega), nI_clamp (by omega), c1 k (by omega), c1 (k + i) (by omega)]
          refine q_f (nI_ge (by omega) (by omega)) (q_b0 (fun q => ?_) (fun q => ⟨vp_in_nI (by omega) (by omega), vp_in_nI (by omega) (by omega), fun z => ?_, fun z => ?_⟩))
          · rw [q, Bool.false_and] at nx; exact nx
          · rw [q, decide_eq_false z] at nx; exact nx
          · rw [q, decide_eq_true z] at nx; exact nx
      exact inner (wp (sW A) - i) 0 (by omega)
  exact e_X11_repeat (loop (wp (sW A) - 1) 1 (by omega) (by omega) (by omega) rfl)
end Spec
section Ops
variable {A : St}
theorem op_count (ho : ok A) (x : Int32) : op2 250 179 [.int x] A 1 := by
  have h12 := ho.2.1.2.2.2
  cases h1 : inR x 16 with
  | true =>
    obtain ⟨u, hu, rfl⟩ := inR_t (by omega) h1
    refine ⟨0, by decide, cv A u, ?_, ?_⟩
    · intro L fz t I J Q hS hk
      have fin : ∀ v, v = cv A u → Q (.inl (some (.int v))) (pm_hp L fz t I J) := fun v hv => by
        rw [hv]; exact cw_e (cw_0 hS) hk
      refine e_X10_count ?_
      rw [tI_nI (by omega), hS.1.1, hS.1.2.2.1, hS.2.1.1, hS.1.2.2.2.1, hS.2.1.2.1, hS.2.1.2.2.1, hS.2.2.2.1.1, hS.2.2.2.2.1.1, hS.2.2.2.2.2.2.1.1, hS.2.2.2.2.2.2.2.2 0 (by omega), hS.2.2.2.2.2.2.2.2 1 (by omega), hS.2.2.2.2.2.2.2.2 2 (by omega)]
      refine ⟨fun q => by omega, fun q => fin _ (by rw [show u = 0 by omega]; rfl), fun q => fin _ (by rw [show u = 1 by omega]; rfl), fun q => fin _ (by rw [show u = 2 by omega]; rfl), fun q => fin _ (by rw [show u = 3 by omega]; rfl), fun q => fin _ (by rw [show u = 4 by omega]; rfl), fun q => fin _ (by rw [show u = 5 by omega]; rfl), fun q => ?_, fun q => ?_, fun q => ?_, fun q => ?_, fun q => fin _ (by rw [show u = 10 by omega]; rfl), fun q => fin _ (by rw [show u = 11 by omega]; rfl), fun q => fin _ (by rw [show u = 12 by omega]; rfl), fun q => fin _ (by rw [show u = 13 by omega]; rfl), fun q => fin _ (by rw [show u = 14 by omega]; rfl), fun q => fin _ (by rw [show u = 15 by omega]; rfl)⟩
      · obtain rfl : u = 6 := by omega
        refine e_X6_ofLace (td_or t) (Or.inl rfl) (S_tlearn (td_or t) (Or.inl rfl) hS.1 hS.2.1 ho.1 ho.2.1 fun I1 f1 p1 => kb_X6_ofLace_6 (Or.inl rfl) ?_)
        have w1 : cw A t J I I1 := cw_fr (cw_0 hS) f1 (fun a ha => by
          simp at ha
          rcases ha with rfl | rfl | rfl
          · exact ⟨qs_lo (by omega), by omega, by omega⟩
          · exact ⟨qs_lo (by omega), by omega, by omega⟩
          · exact ⟨by unfold qs; simp, by have := td_or t; omega, by have := td_or t; omega⟩)
        exact S_sumOf (Or.inl rfl) w1.1.2.1 ho.1 ho.2.1 p1 (kb_X6_ofLace_11 (kb_X10_count_143 (cw_e w1 hk)))
      · obtain rfl : u = 7 := by omega
        exact cw_plain ho (cw_0 hS) fun I1 w1 => kb_X10_count_148 (cw_e w1 hk)
      · obtain rfl : u = 8 := by omega
        exact cw_repeat ho (cw_0 hS) fun I1 w1 => kb_X10_count_153 (cw_e w1 hk)
      · obtain rfl : u = 9 := by omega
        refine e_X10_standingNow (cw_weave0 ho (cw_0 hS) fun I1 w1 _ p1 c1 => kb_X10_standingNow_16 ?_)
        exact S_cstanding (td_or t) w1.1.1 ho.1 p1 c1 h12 (kb_X10_standingNow_27 (kb_X10_count_158 (cw_e w1 hk)))
    · intro L fz t I J Q hS hk
      have hw := mw_0 ho hS
      refine e_X11_count (S_within (m := 15) (by omega) (kb_X11_count_13 (S_right hw.2.2 (by omega) (kb_X11_count_17 ?_))))
      rw [h1, rt_t rfl]
      refine q_t' nI_01 (mw_weaves ho hw fun I1 w1 _ p1 c1 => kb_X11_count_27 ?_)
      have fin : ∀ v, v = cv A u → Q (.inl (some (.int v))) (pm_hp L fz t I1 J) := fun v hv => by
        rw [hv]; exact mw_e w1 hk pv_0
      rw [tI_nI (by omega), w1.1.1.1, w1.1.1.2.1, w1.1.2.1, w1.1.1.2.2.1, show I1 103 0 = _ from w1.1.2.2.1.1, show I1 103 1 = _ from w1.1.2.2.1.2.1, w1.1.2.2.2.1.1, w1.1.2.2.2.2.1.1, w1.1.2.2.2.2.2.2.1.1]
      refine ⟨fun q => ?_, fun q => fin _ (by rw [show u = 0 by omega]; rfl), fun q => fin _ (by rw [show u = 1 by omega]; rfl), fun q => fin _ (by rw [show u = 2 by omega]; rfl), fun q => fin _ (by rw [show u = 3 by omega]; rfl), fun q => fin _ (by rw [show u = 4 by omega]; rfl), fun q => fin _ (by rw [show u = 5 by omega]; rfl), fun q => ?_, fun q => ?_, fun q => ?_, fun q => ?_, fun q => fin _ (by rw [show u = 10 by omega]; rfl), fun q => fin _ (by rw [show u = 11 by omega]; rfl), fun q => fin _ (by rw [show u = 12 by omega]; rfl)⟩
      · rw [pk_sub (by omega), nI_clamp (by omega), w1.1.2.2.2.2.2.2.2.2 (u - 13) (by omega)]
        refine ⟨vp_in_nI (by omega) (by omega), fin _ ?_⟩
        have : u = 13 ∨ u = 14 ∨ u = 15 := by omega
        rcases this with rfl | rfl | rfl <;> rfl
      · obtain rfl : u = 6 := by omega
        refine S_laceSnarl (W := sW A) w1.1.1 w1.1.2.1 w1.1.2.2.1 ho.1 ho.2.1 (fun _ _ => rfl) fun I2 f2 => kb_X11_count_134 ?_
        exact mw_e (mw_f ho w1 (mq_w f2 (by simp <;> omega)) (by rw [f2 85 (by decide)]; exact w1.2.2)) hk pv_0
      · obtain rfl : u = 7 := by omega
        exact mw_plain ho w1 c1 (kb_X11_count_139 (mw_e w1 hk pv_0))
      · obtain rfl : u = 8 := by omega
        exact mw_repeat ho w1 c1 (kb_X11_count_144 (mw_e w1 hk pv_0))
      · obtain rfl : u = 9 := by omega
        exact S_mstanding w1.1.1 ho.1 p1 c1 h12 (kb_X11_count_149 (mw_e w1 hk pv_0))
  | false =>
    refine ⟨1, by decide, 0, ?_, ?_⟩
    · intro L fz t I J Q hS hk
      have o := tI_out (m := 15) (by omega) h1
      refine e_X10_count ⟨fun _ => cS_r hS hk, ?_⟩
      refine ⟨fun q => by omega, fun q => by omega, fun q => by omega, fun q => by omega, fun q => by omega, fun q => by omega, fun q => by omega, fun q => by omega, fun q => by omega, fun q => by omega, fun q => by omega, fun q => by omega, fun q => by omega, fun q => by omega, fun q => by omega, fun q => by omega⟩
    · intro L fz t I J Q hS hk
      have hw := mw_0 ho hS
      refine e_X11_count (S_within (m := 15) (by omega) (kb_X11_count_13 (S_right hw.2.2 (by omega) (kb_X11_count_17 ?_))))
      rw [h1, rt_f rfl]
      exact q_f' rfl (mw_x ho hw hk (pv_e (by omega)))
end Ops
