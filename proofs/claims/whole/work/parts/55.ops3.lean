theorem q_S {x : Int32} {lo : Nat} {E B : Prop} (h : inS x lo = false) (e : E) : (x < nI lo → E) ∧ (¬ x < nI lo → ((x ≤ nI 30 → B) ∧ (¬ x ≤ nI 30 → E))) :=
  ⟨fun _ => e, fun a => ⟨fun b => absurd h (by unfold inS; rw [decide_eq_true ⟨a, nlt_le.mpr b⟩]; decide), fun _ => e⟩⟩
theorem q_S' {x : Int32} {lo : Nat} {E B : Prop} (h : inS x lo = true) (b : B) : (x < nI lo → E) ∧ (¬ x < nI lo → ((x ≤ nI 30 → B) ∧ (¬ x ≤ nI 30 → E))) :=
  ⟨fun a => absurd a (of_decide_eq_true h).1, fun _ => ⟨fun _ => b, fun c => absurd (nlt_le.mp (of_decide_eq_true h).2) c⟩⟩
/-- where two cloths are unlike -/
def xo (R S : Nat → Int32) : Nat → Int32
  | 0 => nI 0
  | n + 1 => xo R S n ||| (R n ^^^ S n)
theorem b_xo (R S : Nat → Int32) (i : Nat) : ∀ n, bt (xo R S n) i = eB (fun k => bt (R k) i ^^ bt (S k) i) n
  | 0 => b_n0 i
  | n + 1 => by rw [xo, b_or, b_xo R S i n, b_xor]; rfl
theorem xo_0 {R S : Nat → Int32} {n : Nat} : xo R S n = nI 0 ↔ ∀ k, k < n → R k = S k := by
  constructor
  · intro h k hk
    refine b_ext fun i hi => ?_
    have := b_xo R S i n
    rw [h, b_n0] at this
    have := eB_f.mp this.symm k hk
    cases h1 : bt (R k) i <;> cases h2 : bt (S k) i <;> simp [h1, h2] at this ⊢
  · intro h
    refine b_ext fun i hi => ?_
    rw [b_xo, b_n0]
    refine eB_f.mpr fun k hk => ?_
    rw [h k hk]; simp
def oI : Option Nat → Int32
  | none => -1
  | some k => nI k
section Spec
variable {d L : Nat} {fz t : Bool} {Q : pm_R → pm_H → Prop} {I : Nat → Nat → Int32} {J : Nat → Nat → Int64} {R S : Nat → Int32} {p : Nat}
theorem S_unlikeAside (hp : I 3 1 = nI p) (h12 : p ≤ 12) (hR : ∀ k, k < p → I 4 k = R k) (hS : ∀ k, k < p → I 5 k = S k) (hq : Q (.inl (some (.int (xo R S p)))) (pm_hp L fz t I J)) : pm_Ev (d + 1) 18 [.ref 3] (pm_hp L fz t I J) Q := by
  have loop : ∀ (j i : Nat), i + j = p → t_X2_unlikeAside_4 d L fz t Q (xo R S i) (nI i) I J := by
    intro j
    induction j with
    | zero =>
      intro i hi
      obtain rfl : i = p := by omega
      refine b_X2_unlikeAside_4 ?_
      rw [hp]
      exact q_t (nI_le (by omega) (by omega)) hq
    | succ j ih =>
      intro i hi
      refine b_X2_unlikeAside_4 ?_
      rw [hp, nI_clamp (by omega), hR i (by omega), hS i (by omega), nI_add]
      exact q_f (nI_ge (by omega) (by omega)) ⟨vp_in_nI (by omega) (by omega), vp_in_nI (by omega) (by omega), ih (i + 1) (by omega)⟩
  exact e_X2_unlikeAside (loop p 0 (by omega))
theorem S_isLikeNow (hp : I 85 3 = nI p) (h12 : p ≤ 12) (hR : ∀ k, k < p → I 107 k = R k) (hS : ∀ k, k < p → I 108 k = S k) (hq : Q (.inl (some (.int (bz (decide (∀ k, k < p → R k = S k)))))) (pm_hp L fz t I J)) : pm_Ev (d + 1) 200 [.ref 85] (pm_hp L fz t I J) Q := by
  have loop : ∀ (j i : Nat), i + j = p → (∀ k, k < i → R k = S k) → t_X11_isLikeNow_2 d L fz t Q (nI i) I J := by
    intro j
    induction j with
    | zero =>
      intro i hi hk
      obtain rfl : i = p := by omega
      refine b_X11_isLikeNow_2 ?_
      rw [hp]
      rw [decide_eq_true hk] at hq
      exact q_t (nI_le (by omega) (by omega)) hq
    | succ j ih =>
      intro i hi hk
      refine b_X11_isLikeNow_2 ?_
      rw [hp, nI_clamp (by omega), hR i (by omega), hS i (by omega), nI_add]
      refine q_f (nI_ge (by omega) (by omega)) ⟨vp_in_nI (by omega) (by omega), vp_in_nI (by omega) (by omega), fun q => ih (i + 1) (by omega) (fun k h => ?_), fun q => ?_⟩
      · by_cases e : k = i
        · rw [e]; exact q
        · exact hk k (by omega)
      · rw [decide_eq_false (fun z => q (z i (by omega)))] at hq; exact hq
  exact e_X11_isLikeNow (loop p 0 (by omega) (fun k h => absurd h (by omega)))
end Spec
section Ops
variable {A : St}
theorem op_then (ho : ok A) (x y : Int32) : op2 258 196 [.int x, .int y] A 1 := by
  have h12 := ho.2.1.2.2.2
  cases h1 : inR x (wp (sW A)) with
  | true =>
    obtain ⟨k, hk', rfl⟩ := inR_t (by omega) h1
    cases h2 : inS y 0 with
    | true =>
      obtain ⟨n, -, hn, rfl⟩ := inS_t (by omega) h2
      refine ⟨0, by decide, clR (sT A) (wag (sW A) n) k, ?_, ?_⟩
      · intro L fz t I J Q hS hk
        refine e_X10_then (gPy hS.2.1.1 h1 (kb_X10_then_5 (q_S' h2 ?_)))
        refine cw_weave ho (cw_0 hS) (by omega) fun I' h' hf h3 h4 => kb_X10_then_41 ⟨vp_in_nI (by omega) (by omega), ?_⟩
        rw [nI_clamp (by omega), h4 k hk']
        exact cw_e h' hk
      · intro L fz t I J Q hS hk
        have hw := mw_0 ho hS
        refine e_X11_then (mPy hw h1 (kb_X11_then_10 (q_f nI_01 (mSy hw (by omega) h2 (kb_X11_then_20 (q_t' nI_01 ?_))))))
        refine mw_tries ho hw fun I1 w1 _ r1 => kb_X11_then_29 ?_
        refine mw_sunN ho w1 r1 ho.2.1 rfl (by omega) fun I2 w2 _ r2 => kb_X11_then_34 ?_
        obtain ⟨e1, e2, e3, e4, e5⟩ := sn_eq ho.2.1 ho.1 n
        refine mw_weavesT ho w2 r2 e5 e3 fun I3 w3 _ _ _ _ h4 => kb_X11_then_40 ⟨vp_in_nI (by omega) (by omega), ?_⟩
        rw [nI_clamp (by omega), h4 k (by rw [e3]; exact hk'), show clR (sT A) (sn (sT A) (sW A) n) k = clR (sT A) (wag (sW A) n) k from cl_sn ho.2.1 ho.1 n (k + 1)]
        exact mw_e w3 hk pv_0
    | false =>
      refine ⟨2, by decide, 0, ?_, ?_⟩
      · intro L fz t I J Q hS hk
        exact e_X10_then (gPy hS.2.1.1 h1 (kb_X10_then_5 (q_S h2 (cS_r hS hk))))
      · intro L fz t I J Q hS hk
        have hw := mw_0 ho hS
        exact e_X11_then (mPy hw h1 (kb_X11_then_10 (q_f nI_01 (mSn hw (by omega) h2 (kb_X11_then_20 (q_f' rfl (mw_x ho hw hk (pv_e (by omega)))))))))
  | false =>
    refine ⟨1, by decide, 0, ?_, ?_⟩
    · intro L fz t I J Q hS hk
      exact e_X10_then (gPn hS.2.1.1 h1 (cS_r hS hk))
    · intro L fz t I J Q hS hk
      exact e_X11_then (mPn (mw_0 ho hS) h1 (kb_X11_then_10 (q_t rfl (mw_x ho (mw_0 ho hS) hk (pv_e (by omega))))))
theorem op_granted (ho : ok A) (x : Int32) : op2 259 197 [.int x] A 2 := by
  have h12 := ho.2.1.2.2.2
  cases h2 : inS x 0 with
  | true =>
    obtain ⟨n, -, hn, rfl⟩ := inS_t (by omega) h2
    refine ⟨0, by decide, gr (sT A) (sW A) n, ?_, ?_⟩
    · intro L fz t I J Q hS hk
      refine e_X10_granted (q_S' h2 ?_)
      refine S_grantsBehind (Or.inl rfl) hS.1 hS.2.1 ho.1 ho.2.1 hS.2.2.1 hn fun I' hf hM => kb_X10_granted_29 ?_
      exact cw_e (cw_f (cw_0 hS) (fr_m hf (fun a ha => by unfold qs; simp at ha ⊢ <;> omega)) hM) hk
    · intro L fz t I J Q hS hk
      have hw := mw_0 ho hS
      refine e_X11_granted (mSy hw (by omega) h2 (kb_X11_granted_12 (q_t' nI_01 ?_)))
      refine mw_tries ho hw fun I1 w1 _ r1 => kb_X11_granted_21 ?_
      refine mw_sunN ho w1 r1 ho.2.1 rfl (by omega) fun I2 w2 _ r2 => kb_X11_granted_26 ?_
      rw [show I2 103 35 = _ from r2.2.1, gr_sn ho.2.1 ho.1]
      exact mw_e w2 hk pv_0
  | false =>
    refine ⟨1, by decide, 0, ?_, ?_⟩
    · intro L fz t I J Q hS hk
      exact e_X10_granted (q_S h2 (cS_r hS hk))
    · intro L fz t I J Q hS hk
      have hw := mw_0 ho hS
      exact e_X11_granted (mSn hw (by omega) h2 (kb_X11_granted_12 (q_f' rfl (mw_x ho hw hk (pv_e (by omega))))))
def df (T : Td) (W : Wk) (i : Nat) : Bool := !decide (∀ k, k < wp W → clR T (wag W i) k = clR T W k)
theorem df_late {T : Td} {W : Wk} {i : Nat} (h : 9 ≤ i) : df T W i = df T W 9 := by
  unfold df
  congr 2
  apply propext
  constructor
  · intro q k hk; rw [← q k hk]; exact cl_wag_late (by omega) h (by omega)
  · intro q k hk; rw [← q k hk]; exact cl_wag_late h (by omega) (by omega)
theorem df_ff (T : Td) (W : Wk) : ff (df T W) 30 1 = ff (df T W) 9 1 := by
  cases h : ff (df T W) 9 1 with
  | none =>
    have h0 := ff_none.mp h
    refine ff_none.mpr fun k h1 h2 => ?_
    by_cases q : k < 10
    · exact h0 k h1 (by omega)
    · rw [df_late (by omega)]; exact h0 9 (by omega) (by omega)
  | some i =>
    obtain ⟨h1, h2, h3, h4⟩ := ff_some h
    cases h' : ff (df T W) 30 1 with
    | none => rw [ff_none.mp h' i h1 (by omega)] at h3; cases h3
    | some i' =>
      obtain ⟨g1, g2, g3, g4⟩ := ff_some h'
      rcases Nat.lt_trichotomy i i' with q | q | q
      · rw [g4 i h1 q] at h3; cases h3
      · rw [q]
      · rw [h4 i' g1 q] at g3; cases g3
theorem op_changes (ho : ok A) : op2 90 201 [] A 1 := by
  have h12 := ho.2.1.2.2.2
  refine ⟨0, by decide, oI (ff (df (sT A) (sW A)) 9 1), ?_, ?_⟩
  · intro L fz t I J Q hS hk
    refine e_X10_changes (cw_weave0 ho (cw_0 hS) fun I1 w1 f1 p1 c1 => kb_X10_changes_16 (e_X2_keepAside (kb_X10_changes_23 ?_)))
    have loop : ∀ (j i : Nat) (I' : Nat → Nat → Int32), i + j = 10 → cw A t J I I' → (∀ k, k < wp (sW A) → I' 5 k = clR (sT A) (sW A) k) → ff (df (sT A) (sW A)) j i = ff (df (sT A) (sW A)) 9 1 → t_X10_changes_25 58 L fz t Q (nI i) I' J := by
      intro j
      induction j with
      | zero =>
        intro i I' hi h' h5 e
        obtain rfl : i = 10 := by omega
        refine b_X10_changes_25 (q_t (nI_lt (by omega) (by omega)) ?_)
        have := cw_e (fz' := fz) h' hk
        rw [← e] at this
        exact this
      | succ j ih =>
        intro i I' hi h' h5 e
        refine b_X10_changes_25 (q_f (nI_nlt (by omega) (by omega)) ?_)
        refine cw_weave ho h' (by omega) fun I'' h'' hf hp hc => kb_X10_changes_47 ?_
        have h5' : ∀ k, k < wp (sW A) → I'' 5 k = clR (sT A) (sW A) k := fun k hk => by rw [hf 5 (by cases t <;> simp [pm_td])]; exact h5 k hk
        refine S_unlikeAside hp h12 hc h5' (kb_X10_changes_54 ?_)
        rw [xo_0, nI_add]
        refine ⟨fun q => ih (i + 1) I'' (by omega) h'' h5' ?_, fun q => ?_⟩
        · rw [← e, ff, if_neg (by unfold df; rw [decide_eq_true q]; decide)]
        · have := cw_e (fz' := fz) h'' hk
          rw [← e, ff, if_pos (by unfold df; rw [decide_eq_false q]; rfl)] at this
          exact this
    refine loop 9 1 _ (by omega) (cw_fr (S := [5]) w1 (fr_ur List.mem_cons_self fr_r) (fun a ha => by simp at ha; exact ⟨qs_lo (by omega), by omega, by omega⟩)) (fun k hk' => ?_) rfl
    rw [pm_urs, cpy_0 (by omega)]; exact c1 k hk'
  · intro L fz t I J Q hS hk
    have hw := mw_0 ho hS
    refine e_X11_changes (e_X11_laysNow (mw_weaves ho hw fun I1 w1 f1 p1 c1 => kb_X11_laysNow_5 ?_))
    refine S_copies (a1 := 107) (a2 := 108) (n0 := 12) (by omega) fun I2 f2 c2 => kb_X11_laysNow_17 (kb_X11_changes_9 ?_)
    have w2 : mw A I I2 := mw_f ho w1 (mq_w f2 (by simp)) (by rw [f2 85 (by decide)]; exact w1.2.2)
    refine mw_tries ho w2 fun I3 w3 f3 r3 => kb_X11_changes_13 ?_
    have loop : ∀ (j i : Nat) (I' : Nat → Nat → Int32), i + j = 31 → 1 ≤ i → mw A I I' → (∀ k, k < wp (sW A) → I' 108 k = clR (sT A) (sW A) k) → mR (I' 103) 34 (tM (sT A)) (sn (sT A) (sW A) (i - 1)) → ff (df (sT A) (sW A)) j i = ff (df (sT A) (sW A)) 9 1 → t_X11_changes_15 59 L fz t Q (nI i) I' J := by
      intro j
      induction j with
      | zero =>
        intro i I' hi h1 h' h5 hr e
        obtain rfl : i = 31 := by omega
        refine b_X11_changes_15 (q_t (nI_lt (by omega) (by omega)) ?_)
        exact mw_e h' hk ⟨_, fun _ => (by rw [← e]; rfl), rfl⟩
      | succ j ih =>
        intro i I' hi h1 h' h5 hr e
        obtain ⟨e1, e2, e3, e4, e5⟩ := sn_eq ho.2.1 ho.1 (i - 1)
        obtain ⟨g1, g2, g3, g4, g5⟩ := sn_eq ho.2.1 ho.1 i
        refine b_X11_changes_15 (q_f (nI_nlt (by omega) (by omega)) ?_)
        refine mw_sun ho h' hr e5 e3 fun I'' h'' hf _ hr' => kb_X11_changes_27 ?_
        have hr2 : mR (I'' 103) 34 (tM (sT A)) (sn (sT A) (sW A) i) := by
          have : sn (sT A) (sW A) i = sun (sT A) (sn (sT A) (sW A) (i - 1)) := by
            rw [show i = i - 1 + 1 by omega]; rfl
          rw [this]; exact hr'
        refine mw_weavesT ho h'' hr2 g5 g3 fun I4 w4 f4 _ r4 _ c4 => kb_X11_changes_33 ?_
        have h5' : ∀ k, k < wp (sW A) → I4 108 k = clR (sT A) (sW A) k := fun k hk => by rw [f4 108 (by decide), hf 108 (by decide)]; exact h5 k hk
        have c4' : ∀ k, k < wp (sW A) → I4 107 k = clR (sT A) (wag (sW A) i) k := fun k hk => by rw [c4 k (by rw [g3]; exact hk)]; exact cl_sn ho.2.1 ho.1 i (k + 1)
        refine S_isLikeNow w4.1.2.1 h12 c4' h5' (kb_X11_changes_37 ?_)
        refine q_b0' (fun q => ?_) (fun q => ?_)
        · rw [nI_add]
          refine ih (i + 1) I4 (by omega) (by omega) w4 h5' ?_ ?_
          · rw [show i + 1 - 1 = i by omega]; exact r4
          · rw [← e, ff, if_neg (by unfold df; rw [q]; decide)]
        · refine mw_e w4 hk ⟨_, fun _ => ?_, rfl⟩
          rw [← e, ff, if_pos (by unfold df; rw [q]; rfl)]; rfl
    refine loop 30 1 I3 (by omega) (by omega) w3 (fun k hk' => ?_) r3 (df_ff _ _)
    rw [f3 108 (by decide), c2 k (by omega)]; exact c1 k hk'
/-- by cutting: the most, the best -/
def cu (T : Td) (W : Wk) (n : Nat) : Nat → Int32 × Int32
  | 0 => (gr T W n, -1)
  | i + 1 => if gr T (wWe W i 0) n ≤ (cu T W n i).1 then cu T W n i else (gr T (wWe W i 0) n, nI i)
theorem op_cutting (ho : ok A) (x : Int32) : op2 279 231 [.int x] A 2 := by
  have h12 := ho.2.1.2.2.2
  have hm := ho.1.2.1
  cases h2 : inS x 1 with
  | true =>
    obtain ⟨n, -, hn, rfl⟩ := inS_t (by omega) h2
    refine ⟨0, by decide, (cu (sT A) (sW A) n (tM (sT A))).2, ?_, ?_⟩
    · intro L fz t I J Q hS hk
      refine e_X10_cutting (q_S' h2 ?_)
      refine S_grantsBehind (Or.inl rfl) hS.1 hS.2.1 ho.1 ho.2.1 hS.2.2.1 hn fun I' hf hM => kb_X10_cutting_31 ?_
      have w1 : cw A t J I I' := cw_f (cw_0 hS) (fr_m hf (fun a ha => by unfold qs; simp at ha ⊢ <;> omega)) hM
      have loop : ∀ (j i : Nat) (I' : Nat → Nat → Int32), i + j = tM (sT A) → cw A t J I I' → t_X10_cutting_37 58 L fz t Q (nI n) (cu (sT A) (sW A) n i).1 (cu (sT A) (sW A) n i).2 (nI i) I' J := by
        intro j
        induction j with
        | zero =>
          intro i I' hi h'
          obtain rfl : i = tM (sT A) := by omega
          refine b_X10_cutting_37 ?_
          rw [h'.1.1.2.2.1]
          exact q_t (nI_le (by omega) (by omega)) (cw_e h' hk)
        | succ j ih =>
          intro i I' hi h'
          refine b_X10_cutting_37 ?_
          rw [h'.1.1.2.2.1]
          refine q_f (nI_ge (by omega) (by omega)) (cw_copy ho h' fun I'' h'' hf hW => kb_X10_cutting_60 ⟨vp_in_nI (by omega) (by omega), ?_⟩)
          rw [nI_clamp (by omega)]
          have h3 : cw A t J I (pm_u I'' 29 i (nI 0)) := cw_u h'' (qs_lo (by omega)) (by omega) (by omega)
          refine S_grantsBehind (W := wWe (sW A) i 0) (Or.inr rfl) h3.1.1 (cW_we hW) ho.1 (okW_we ho.2.1 (by omega)) h3.1.2.2.1 hn fun I4 f4 M4 => kb_X10_cutting_80 ?_
          have h4 : cw A t J I I4 := cw_f h3 (fr_m f4 (fun a ha => by unfold qs; simp at ha ⊢ <;> omega)) M4
          rw [nI_add]
          have := ih (i + 1) I4 (by omega) h4
          rw [cu] at this
          refine ⟨fun q => ?_, fun q => ?_⟩
          · rw [if_pos q] at this; exact this
          · rw [if_neg q] at this; exact this
      exact loop (tM (sT A)) 0 I' (by omega) w1
    · intro L fz t I J Q hS hk
      have hw := mw_0 ho hS
      refine e_X11_cutting (mSy hw (by omega) h2 (kb_X11_cutting_12 (q_t' nI_01 ?_)))
      refine mw_tries ho hw fun I1 w1 _ r1 => kb_X11_cutting_21 ?_
      refine mw_sunN ho w1 r1 ho.2.1 rfl (by omega) fun I2 w2 _ r2 => kb_X11_cutting_26 ?_
      rw [show I2 103 35 = _ from r2.2.1, gr_sn ho.2.1 ho.1]
      have loop : ∀ (j i : Nat) (I' : Nat → Nat → Int32), i + j = tM (sT A) → mw A I I' → t_X11_cutting_39 59 L fz t Q (nI n) (cu (sT A) (sW A) n i).1 (cu (sT A) (sW A) n i).2 (nI i) I' J := by
        intro j
        induction j with
        | zero =>
          intro i I' hi h'
          obtain rfl : i = tM (sT A) := by omega
          refine b_X11_cutting_39 ?_
          rw [h'.1.1.2.1]
          exact q_t (nI_le (by omega) (by omega)) (mw_e h' hk pv_0)
        | succ j ih =>
          intro i I' hi h'
          refine b_X11_cutting_39 ?_
          rw [h'.1.1.2.1]
          refine q_f (nI_ge (by omega) (by omega)) (mw_tries ho h' fun I3 w3 _ r3 => kb_X11_cutting_52 ?_)
          rw [nI_add, nI_clamp (by omega)]
          refine ⟨vp_in_nI (by omega) (by omega), ?_⟩
          have r4 : mR (pm_u I3 103 (46 + i) (nI 0) 103) 34 (tM (sT A)) (wWe (sW A) i 0) := mR_we (b := 34) r3 hm h12 (by omega)
          refine mw_sunN ho (mw_u ho w3 (by omega)) r4 (okW_we ho.2.1 (by omega)) rfl (by omega) fun I5 w5 _ r5 => kb_X11_cutting_68 ?_
          rw [show I5 103 35 = _ from r5.2.1, gr_sn (okW_we ho.2.1 (by omega)) ho.1, nI_add]
          have := ih (i + 1) I5 (by omega) w5
          rw [cu] at this
          refine ⟨fun q => ?_, fun q => ?_⟩
          · rw [if_neg (nle_lt.mpr q)] at this; exact this
          · rw [if_pos (nlt_le.mp q)] at this; exact this
      exact loop (tM (sT A)) 0 I2 (by omega) w2
  | false =>
    refine ⟨1, by decide, 0, ?_, ?_⟩
    · intro L fz t I J Q hS hk
      exact e_X10_cutting (q_S h2 (cS_r hS hk))
    · intro L fz t I J Q hS hk
      have hw := mw_0 ho hS
      exact e_X11_cutting (mSn hw (by omega) h2 (kb_X11_cutting_12 (q_f' rfl (mw_x ho hw hk (pv_e (by omega))))))
theorem op_turning (ho : ok A) (x : Int32) : op2 277 229 [.int x] A 1 := by
  have h12 := ho.2.1.2.2.2
  have hm := ho.1.2.1
  have h5 := ho.1.2.2.1
  cases h1 : inR x (tG (sT A)) with
  | true =>
    obtain ⟨f, hf, rfl⟩ := inR_t (by omega) h1
    refine ⟨0, by decide, mk (fun c => anw (sT A) (clR (sT A) (wHo (sW A) c (tu (tN (sT A)) (wo (sW A) c)))) (wp (sW A)) f) (tM (sT A)), ?_, ?_⟩
    · intro L fz t I J Q hS hk
      refine e_X10_turning (gFy hS.1.2.2.2.1 h1 (kb_X10_turning_5 ?_))
      have loop : ∀ (j i : Nat) (I' : Nat → Nat → Int32), i + j = tM (sT A) → cw A t J I I' → t_X10_turning_9 58 L true t Q (nI f) (mk (fun c => anw (sT A) (clR (sT A) (wHo (sW A) c (tu (tN (sT A)) (wo (sW A) c)))) (wp (sW A)) f) i) (nI i) I' J := by
        intro j
        induction j with
        | zero =>
          intro i I' hi h'
          obtain rfl : i = tM (sT A) := by omega
          refine b_X10_turning_9 ?_
          rw [h'.1.1.2.2.1]
          exact q_t (nI_le (by omega) (by omega)) (cw_e h' hk)
        | succ j ih =>
          intro i I' hi h'
          refine b_X10_turning_9 ?_
          rw [h'.1.1.2.2.1]
          refine q_f (nI_ge (by omega) (by omega)) (cw_tryTurned ho h' (by omega) fun I2 w2 _ c2 => kb_X10_turning_25 ?_)
          refine cw_weaveT0 ho w2 c2 (sm_wHo ho i) fun I3 w3 _ c3 p3 r3 => kb_X10_turning_41 ?_
          refine S_isAnywhere (td_or t) w3.1.1 ho.1 p3 r3 h12 hf (kb_X10_turning_53 ?_)
          rw [nI_add]
          refine q_b0 (fun q => ?_) (fun q => ?_)
          · rw [mk_Sf (by exact q)]; exact ih (i + 1) I3 (by omega) w3
          · rw [mk_St (by exact q)]; exact ih (i + 1) I3 (by omega) w3
      exact loop (tM (sT A)) 0 I (by omega) (cw_0 hS)
    · intro L fz t I J Q hS hk
      have hw := mw_0 ho hS
      refine e_X11_turning (mFy hw h1 (kb_X11_turning_10 (q_t' nI_01 ?_)))
      have loop : ∀ (j i : Nat) (I' : Nat → Nat → Int32), i + j = tM (sT A) → mw A I I' → t_X11_turning_19 59 L fz t Q (nI f) (mk (fun c => anw (sT A) (clR (sT A) (wHo (sW A) c (tu (tN (sT A)) (wo (sW A) c)))) (wp (sW A)) f) i) (nI i) I' J := by
        intro j
        induction j with
        | zero =>
          intro i I' hi h'
          obtain rfl : i = tM (sT A) := by omega
          refine b_X11_turning_19 ?_
          rw [h'.1.1.2.1]
          exact q_t (nI_le (by omega) (by omega)) (mw_e h' hk pv_0)
        | succ j ih =>
          intro i I' hi h'
          refine b_X11_turning_19 ?_
          rw [h'.1.1.2.1]
          refine q_f (nI_ge (by omega) (by omega)) (mw_triesTurned ho h' (by omega) fun I2 w2 _ c2 => kb_X11_turning_32 ?_)
          refine mw_weavesT ho w2 c2 (sm_wHo ho i) rfl fun I3 w3 _ _ _ p3 r3 => kb_X11_turning_38 ?_
          refine S_firstOf w3.1.1 ho.1 p3 r3 h12 hf (kb_X11_turning_44 ?_)
          rw [nI_add]
          have hm1 : foI (fst (sT A) (clR (sT A) (wHo (sW A) i (tu (tN (sT A)) (wo (sW A) i)))) (wp (sW A)) f) = -1 ↔ anw (sT A) (clR (sT A) (wHo (sW A) i (tu (tN (sT A)) (wo (sW A) i)))) (wp (sW A)) f = false := fst_m1 ho.1 h12
          refine ⟨fun q => ?_, fun q => ?_⟩
          · rw [or_0, mk_Sf (f := fun c => anw (sT A) (clR (sT A) (wHo (sW A) c (tu (tN (sT A)) (wo (sW A) c)))) (wp (sW A)) f) (hm1.mp q)]; exact ih (i + 1) I3 (by omega) w3
          · rw [mk_St (f := fun c => anw (sT A) (clR (sT A) (wHo (sW A) c (tu (tN (sT A)) (wo (sW A) c)))) (wp (sW A)) f) (by
              cases y : anw (sT A) (clR (sT A) (wHo (sW A) i (tu (tN (sT A)) (wo (sW A) i)))) (wp (sW A)) f
              · exact absurd (hm1.mpr y) q
              · rfl)]
            exact ih (i + 1) I3 (by omega) w3
      exact loop (tM (sT A)) 0 _ (by omega) hw
  | false =>
    refine ⟨1, by decide, 0, ?_, ?_⟩
    · intro L fz t I J Q hS hk
      exact e_X10_turning (gFn hS.1.2.2.2.1 h1 (cS_r hS hk))
    · intro L fz t I J Q hS hk
      exact e_X11_turning (mFn (mw_0 ho hS) h1 (kb_X11_turning_10 (q_f' rfl (mw_x ho (mw_0 ho hS) hk (pv_e (by omega))))))
theorem okW_lo {T : Td} {W : Wk} (h : okW T W) {k : Nat} : okW T (wlo W k) := ⟨h.1, h.2.1, fun j hj => by
  have hj' : j < wp W - 1 := hj
  show (if j < k then wl W j else wl W (j + 1)) < tM T
  split
  · exact h.2.2.1 j (by omega)
  · exact h.2.2.1 (j + 1) (by omega), by
  show wp W - 1 ≤ 12
  have := h.2.2.2; omega⟩
theorem op_leftOut (ho : ok A) (x : Int32) : op2 278 230 [.int x] A 1 := by
  have h12 := ho.2.1.2.2.2
  cases h1 : inR x (wp (sW A)) with
  | true =>
    obtain ⟨k, hk', rfl⟩ := inR_t (by omega) h1
    have hp : wp (wlo (sW A) k) ≤ 12 := by show wp (sW A) - 1 ≤ 12; omega
    refine ⟨0, by decide, sta (sT A) (clR (sT A) (wlo (sW A) k)) (wp (wlo (sW A) k)), ?_, ?_⟩
    · intro L fz t I J Q hS hk
      refine e_X10_leftOut (gPy hS.2.1.1 h1 (kb_X10_leftOut_5 ?_))
      refine cw_copy ho (cw_0 hS) fun I1 w1 _ c1 => kb_X10_leftOut_16 ?_
      refine S_leaveOut (w := 27) (Or.inr (Or.inl rfl)) c1 h12 hk' fun I2 f2 c2 => kb_X10_leftOut_24 ?_
      have w2 : cw A t J I I2 := cw_fr w1 f2 (fun a ha => by simp at ha; exact ⟨qs_lo (by omega), by omega, by omega⟩)
      refine cw_weaveT0 ho w2 c2 (okW_lo ho.2.1) fun I3 w3 _ c3 p3 r3 => kb_X10_leftOut_40 ?_
      exact S_cstanding (td_or t) w3.1.1 ho.1 p3 r3 hp (kb_X10_leftOut_51 (cw_e w3 hk))
    · intro L fz t I J Q hS hk
      have hw := mw_0 ho hS
      refine e_X11_leftOut (mPy hw h1 (kb_X11_leftOut_10 (q_t' nI_01 ?_)))
      have eg : (if wp (sW A) ≤ k then wp (sW A) else wp (sW A) - 1) = wp (wlo (sW A) k) := by rw [if_neg (by omega)]; rfl
      refine S_weavesBut (b := 0) (V := wlo (sW A) k) (g := fun j => if j ≤ k then j else j - 1) (Or.inl rfl) hw.1.1 hw.1.2.1 hw.1.2.2.1 ho.1 ho.2.1 ⟨rfl, rfl⟩ (fun j _ => ?_) (fun j hj => ?_) fun I2 f2 h85 p2 r2 => kb_X11_leftOut_21 ?_
      · show (if j ≤ k then j else j - 1) ≤ j ∧ (j = 0 → (if j ≤ k then j else j - 1) = 0)
        split <;> omega
      · show if nI j = nI k then (if j + 1 ≤ k then j + 1 else j + 1 - 1) = (if j ≤ k then j else j - 1) else (if j + 1 ≤ k then j + 1 else j + 1 - 1) = (if j ≤ k then j else j - 1) + 1 ∧ wl (wlo (sW A) k) (if j ≤ k then j else j - 1) = wl (sW A) j
        simp only [nI_eq (show j < 2 ^ 31 by omega) (show k < 2 ^ 31 by omega)]
        by_cases e : j = k
        · rw [if_pos e, if_neg (by omega), if_pos (by omega)]; omega
        · rw [if_neg e]
          by_cases q : j < k
          · rw [if_pos (by omega), if_pos (by omega)]
            refine ⟨rfl, ?_⟩
            show (if j < k then wl (sW A) j else wl (sW A) (j + 1)) = wl (sW A) j
            rw [if_pos q]
          · rw [if_neg (by omega), if_neg (by omega)]
            refine ⟨by omega, ?_⟩
            show (if j - 1 < k then wl (sW A) (j - 1) else wl (sW A) (j - 1 + 1)) = wl (sW A) j
            rw [if_neg (by omega), show j - 1 + 1 = j by omega]
      · have p2 : I2 85 52 = nI (if wp (sW A) ≤ k then wp (sW A) else wp (sW A) - 1) := p2
        have r2 : ∀ j, j < (if wp (sW A) ≤ k then wp (sW A) else wp (sW A) - 1) → I2 107 j = clR (sT A) (wlo (sW A) k) j := r2
        rw [eg] at p2 r2
        have w2 : mw A I I2 := mw_103 ho hw (fr_m f2 (by simp <;> omega)) h85 (fun k _ => by rw [f2 103 (by decide)])
        exact S_mstanding w2.1.1 ho.1 p2 r2 hp (kb_X11_leftOut_25 (mw_e w2 hk pv_0))
  | false =>
    refine ⟨1, by decide, 0, ?_, ?_⟩
    · intro L fz t I J Q hS hk
      exact e_X10_leftOut (gPn hS.2.1.1 h1 (cS_r hS hk))
    · intro L fz t I J Q hS hk
      exact e_X11_leftOut (mPn (mw_0 ho hS) h1 (kb_X11_leftOut_10 (q_f' rfl (mw_x ho (mw_0 ho hS) hk (pv_e (by omega))))))
end Ops
