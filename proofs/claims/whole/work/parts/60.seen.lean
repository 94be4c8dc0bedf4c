section Ops
variable {A : St}
section Spec
variable {d L : Nat} {fz t : Bool} {Q : pm_R → pm_H → Prop} {I I0 : Nat → Nat → Int32} {J : Nat → Nat → Int64} {V : Wk}
theorem cw_wearOfAll (ho : ok A) (h : cw A t J I0 I) (hV : cW 27 V I) (hq : Q (.inl (some (.int (nI (sW' V (tM (sT A))))))) (pm_hp L fz t I J)) : pm_Ev (d + 1) 115 [.ref 0, .ref 27] (pm_hp L fz t I J) Q := by
  have hm := ho.1.2.1
  have loop : ∀ (j i : Nat), i + j = tM (sT A) → t_X10_wearOfAll_4 d L fz t Q 27 (nI (sW' V i)) (nI i) I J := by
    intro j
    induction j with
    | zero =>
      intro i hi
      obtain rfl : i = tM (sT A) := by omega
      refine b_X10_wearOfAll_4 (Or.inr (Or.inl rfl)) ?_
      rw [h.1.1.2.2.1]
      exact q_t (nI_le (by omega) (by omega)) hq
    | succ j ih =>
      intro i hi
      refine b_X10_wearOfAll_4 (Or.inr (Or.inl rfl)) ?_
      rw [h.1.1.2.2.1, nI_clamp (by omega), hV.2.2.2.2.1 i (by omega), nI_add, nI_add]
      exact q_f (nI_ge (by omega) (by omega)) ⟨vp_in_nI (by omega) (by omega), ih (i + 1) (by omega)⟩
  exact e_X10_wearOfAll (Or.inr (Or.inl rfl)) (loop (tM (sT A)) 0 (by omega))
theorem cw_threadsUp (ho : ok A) (h : cw A t J I0 I) (hV : cW 27 V I) (oV : okW (sT A) V) (hq : ∀ I', cw A t J I0 I' → Q (.inl (some (.int (nI (sU (clR (sT A) V) (wp V)))))) (pm_hp L fz t I' J)) : pm_Ev (d + 6) 116 [.ref 0, .ref 27] (pm_hp L fz t I J) Q := by
  have h12 := oV.2.2.2
  have hn := ho.1.1
  refine e_X10_threadsUp (Or.inr (Or.inl rfl)) (cw_weaveT0 ho h hV oV fun I1 w1 _ _ p1 c1 => kb_X10_threadsUp_13 ?_)
  have loop : ∀ (j i : Nat), i + j = wp V → t_X10_threadsUp_17 (d + 5) L fz t Q (nI (sU (clR (sT A) V) i)) (nI i) I1 J := by
    intro j
    induction j with
    | zero =>
      intro i hi
      obtain rfl : i = wp V := by omega
      refine b_X10_threadsUp_17 ?_
      rw [p1]
      exact q_t (nI_le (by omega) (by omega)) (hq I1 w1)
    | succ j ih =>
      intro i hi
      refine b_X10_threadsUp_17 ?_
      rw [p1, nI_clamp (by omega), c1 i (by omega)]
      refine q_f (nI_ge (by omega) (by omega)) ⟨vp_in_nI (by omega) (by omega), S_bitCount (sm_mono (sm_cl ho.1 oV (i + 1) (by omega)) (by omega)) (kb_X10_threadsUp_41 ?_)⟩
      rw [nI_add, nI_add]
      exact ih (i + 1) (by omega)
  exact loop (wp V) 0 (by omega)
end Spec
theorem op_drawn (ho : ok A) (x y z : Int32) : op2 273 225 [.int x, .int y, .int z] A 1 := by
  have hm := ho.1.2.1
  have h12 := ho.2.1.2.2.2
  cases h1 : inR z 3 with
  | true =>
    obtain ⟨u, hu, rfl⟩ := inR_t (by omega) h1
    cases h2 : inS y 0 with
    | true =>
      obtain ⟨n, -, hn, rfl⟩ := inS_t (by omega) h2
      have dok := fun i => dn_ok ho.1 (s := x) ho.2.1 i
      refine ⟨0, by decide, drA (sT A) (dn (sT A) x (sW A) n).2 u, ?_, ?_⟩
      · intro L fz t I J Q hS hk
        refine e_X10_drawn (gWy (by omega) h1 (kb_X10_drawn_5 (q_S' h2 (cw_copy ho (cw_0 hS) fun I1 w1 _ c1 => kb_X10_drawn_36 ?_))))
        have loop : ∀ (j i : Nat) (I' : Nat → Nat → Int32), i + j = n → cw A t J I I' → cW 27 (dn (sT A) x (sW A) i).2 I' → t_X10_drawn_42 58 L true t Q (nI n) (nI u) (dn (sT A) x (sW A) i).1 (nI i) I' J := by
          intro j
          induction j with
          | zero =>
            intro i I' hi h' hV
            obtain rfl : i = n := by omega
            have fin : ∀ I' v, cw A t J I I' → v = drA (sT A) (dn (sT A) x (sW A) i).2 u → Q (.inl (some (.int v))) (pm_hp L true t I' J) := fun I' v w hv => by
              rw [hv]; exact cw_e w hk
            refine b_X10_drawn_42 (q_t (nI_le (by omega) (by omega)) (q_ne (by omega) (by omega) (fun q => q_ne (by omega) (by omega) (fun q2 => ?_) (fun q2 => ?_)) (fun q => fin I' _ h' ?_)))
            · exact cw_threadsUp ho h' hV (dok i).1 fun I2 w2 => kb_X10_drawn_106 (fin I2 _ w2 (by unfold drA; rw [if_neg q, if_neg q2]))
            · exact cw_wearOfAll ho h' hV (kb_X10_drawn_95 (b_X10_drawn_106 (fin I' _ h' (by unfold drA; rw [if_neg q, if_pos q2]))))
            · unfold drA; rw [if_pos q]; exact hV.2.2.1
          | succ j ih =>
            intro i I' hi h' hV
            have ob := bef_ok ho.1 (s := (dn (sT A) x (sW A) i).1) (dok i).1
            refine b_X10_drawn_42 (q_f (nI_ge (by omega) (by omega)) (cw_befall ho h' hV (dok i).1 fun I2 w2 c2 => kb_X10_drawn_54 ?_))
            refine S_passSunday (Or.inr (Or.inl rfl)) w2.1.1 c2 ho.1 ob.1 w2.1.2.2.1 fun I3 f3 M3 c3 => kb_X10_drawn_64 ?_
            have w3 : cw A t J I I3 := cw_f w2 (fr_m f3 (fun a ha => by unfold qs; simp at ha ⊢ <;> omega)) M3
            rw [nI_add]
            exact ih (i + 1) I3 (by omega) w3 c3
        exact loop n 0 I1 (by omega) w1 c1
      · intro L fz t I J Q hS hk
        have hw := mw_0 ho hS
        refine e_X11_drawn (mWy hw (by omega) h1 (kb_X11_drawn_11 (q_f nI_01 (mSy hw (by omega) h2 (kb_X11_drawn_21 (q_t' nI_01 (mw_tries ho hw fun I1 w1 _ r1 => kb_X11_drawn_30 ?_)))))))
        have loop : ∀ (j i : Nat) (I' : Nat → Nat → Int32), i + j = n → mw A I I' → I' 85 60 = (dn (sT A) x (sW A) i).1 → mR (I' 103) 34 (tM (sT A)) (dn (sT A) x (sW A) i).2 → t_X11_drawn_38 59 L fz t Q (nI n) (nI u) (nI i) I' J := by
          intro j
          induction j with
          | zero =>
            intro i I' hi h' hs hV
            obtain rfl : i = n := by omega
            have fin : ∀ I' v, mw A I I' → v = drA (sT A) (dn (sT A) x (sW A) i).2 u → Q (.inl (some (.int v))) (pm_hp L fz t I' J) := fun I' v w hv => by
              rw [hv]; exact mw_e w hk pv_0
            have hp := (dok i).2
            -- the threads that are up
            have ups' : ∀ (x4 : Int32) (I' : Nat → Nat → Int32), mw A I I' → mR (I' 103) 34 (tM (sT A)) (dn (sT A) x (sW A) i).2 → (u = 1 → x4 = nI (sW' (dn (sT A) x (sW A) i).2 (tM (sT A)))) → (u = 2 → x4 = nI 0) → ¬ u = 0 → pm_Ev 59 169 [.ref 85, .int (nI 34)] (pm_hp L fz t I' J) (K_X11_drawn_126 59 fz t Q (nI u) x4) := by
              intro x4 I' h' hV e1 e2 q0
              refine mw_weavesT ho h' hV (dok i).1 hp fun I3 w3 _ _ _ p3 c3 => kb_X11_drawn_126 ?_
              by_cases q1 : u = 1
              · refine b_X11_drawn_129 ⟨fun _ => fin I3 _ w3 ?_, fun _ => q_ne (by omega) (by omega) (fun q => fin I3 _ w3 ?_) (fun q => by omega)⟩
                · unfold drA; rw [if_neg q0, if_pos q1]; exact e1 q1
                · unfold drA; rw [if_neg q0, if_pos q1]; exact e1 q1
              · obtain rfl : u = 2 := by omega
                rw [e2 rfl]
                have lp : ∀ (j k : Nat), k + j = wp (dn (sT A) x (sW A) i).2 → t_X11_drawn_129 59 L fz t Q (nI 2) (nI (sU (clR (sT A) (dn (sT A) x (sW A) i).2) k)) (nI k) I3 J := by
                  intro j
                  induction j with
                  | zero =>
                    intro k hk'
                    obtain rfl : k = wp (dn (sT A) x (sW A) i).2 := by omega
                    refine b_X11_drawn_129 ?_
                    rw [w3.1.2.1, ← hp]
                    exact q_t (nI_le (by omega) (by omega)) (fin I3 _ w3 (by unfold drA; rw [if_neg (by omega), if_neg (by omega)]))
                  | succ j ih =>
                    intro k hk'
                    refine b_X11_drawn_129 ?_
                    rw [w3.1.2.1, ← hp, nI_clamp (by omega), c3 k (by omega)]
                    refine q_f (nI_ge (by omega) (by omega)) (q_f' rfl ⟨vp_in_nI (by omega) (by omega), S_bits (kb_X11_drawn_155 ?_)⟩)
                    rw [nI_add, nI_add]
                    exact ih (k + 1) (by omega)
                exact lp (wp (dn (sT A) x (sW A) i).2) 0 (by omega)
            refine b_X11_drawn_38 (q_t (nI_le (by omega) (by omega)) (q_ne (by omega) (by omega) (fun q => ?_) (fun q => fin I' _ h' ?_)))
            · by_cases q1 : u = 1
              · subst q1
                have lp : ∀ (j c : Nat), c + j = tM (sT A) → t_X11_drawn_85 59 L fz t Q (nI 1) (nI (sW' (dn (sT A) x (sW A) i).2 c)) (nI c) I' J := by
                  intro j
                  induction j with
                  | zero =>
                    intro c hc
                    obtain rfl : c = tM (sT A) := by omega
                    refine b_X11_drawn_85 ?_
                    rw [h'.1.1.2.1]
                    exact q_t (nI_le (by omega) (by omega)) (ups' _ I' h' hV (fun _ => rfl) (fun z => by omega) (by omega))
                  | succ j ih =>
                    intro c hc
                    refine b_X11_drawn_85 ?_
                    have hh := (hV.2.2.1 c (by omega)).2
                    rw [h'.1.1.2.1, nI_add, nI_clamp (by omega), hh, nI_add, nI_add]
                    exact q_f (nI_ge (by omega) (by omega)) (q_f' rfl ⟨vp_in_nI (by omega) (by omega), ih (c + 1) (by omega)⟩)
                exact lp (tM (sT A)) 0 (by omega)
              · have key := ups' (nI 0) I' h' hV (fun z => absurd z q1) (fun _ => rfl) q
                exact b_X11_drawn_85 ⟨fun _ => key, fun _ => q_ne (by omega) (by omega) (fun _ => key) (fun z => absurd z q1)⟩
            · unfold drA; rw [if_pos q]; exact hV.2.1
          | succ j ih =>
            intro i I' hi h' hs hV
            have ob := bef_ok ho.1 (s := (dn (sT A) x (sW A) i).1) (dok i).1
            have go : ∀ I2, mw A I I2 → I2 85 60 = (bef (sT A) (dn (sT A) x (sW A) i).1 (dn (sT A) x (sW A) i).2).1 → mR (I2 103) 34 (tM (sT A)) (bef (sT A) (dn (sT A) x (sW A) i).1 (dn (sT A) x (sW A) i).2).2 → t_X11_drawn_55 59 L fz t Q (nI n) (nI u) (nI i) I2 J := fun I2 w2 s2 r2 => by
              refine b_X11_drawn_55 (mw_sun ho w2 r2 ob.1 (ob.2.trans (dok i).2) fun I3 w3 f3 e3 r3 => kb_X11_drawn_61 ?_)
              rw [nI_add]
              exact ih (i + 1) I3 (by omega) w3 (by rw [e3 60 (by omega)]; exact s2) r3
            refine b_X11_drawn_38 (q_f (nI_ge (by omega) (by omega)) ?_)
            rw [h'.1.1.2.1]
            refine q_le (by omega) (by omega) (fun q => ?_) (fun q => ?_)
            · have eb : bef (sT A) (dn (sT A) x (sW A) i).1 (dn (sT A) x (sW A) i).2 = ((dn (sT A) x (sW A) i).1, (dn (sT A) x (sW A) i).2) := by unfold bef; rw [if_pos (by omega)]
              refine go I' h' ?_ ?_
              · rw [eb]; exact hs
              · rw [eb]; exact hV
            · refine mw_happens ho h' hV (dok i).1 q fun I2 w2 s2 r2 => ?_
              rw [hs] at s2 r2
              exact go I2 w2 s2 r2
        exact loop n 0 _ (by omega) (mw_60 ho w1) pm_us (by rw [pm_ua (by decide)]; exact r1)
    | false =>
      refine ⟨2, by decide, 0, ?_, ?_⟩
      · intro L fz t I J Q hS hk
        exact e_X10_drawn (gWy (by omega) h1 (kb_X10_drawn_5 (q_S h2 (cS_r hS hk))))
      · intro L fz t I J Q hS hk
        have hw := mw_0 ho hS
        exact e_X11_drawn (mWy hw (by omega) h1 (kb_X11_drawn_11 (q_f nI_01 (mSn hw (by omega) h2 (kb_X11_drawn_21 (q_f' rfl (mw_x ho hw hk (pv_e (by omega)))))))))
  | false =>
    refine ⟨1, by decide, 0, ?_, ?_⟩
    · intro L fz t I J Q hS hk
      exact e_X10_drawn (gWn (by omega) h1 (cS_r hS hk))
    · intro L fz t I J Q hS hk
      exact e_X11_drawn (mWn (mw_0 ho hS) (by omega) h1 (kb_X11_drawn_11 (q_t rfl (mw_x ho (mw_0 ho hS) hk (pv_e (by omega))))))
/-! what was seen -/
def so (T : Td) (V : Wk) (s : Se) : Bool := bt (clR T (wag V s.2.2.1) s.1) s.2.1 == s.2.2.2
def sok (T : Td) (V : Wk) (m : Nat) (S : Nat → Se) : Bool := aB (fun i => so T V (S i)) m
def nas (T : Td) (V : Wk) (m : Nat) (S : Nat → Se) (u : Nat) : Bool := eB (fun i => decide ((S i).2.1 = u) && !so T V (S i)) m
theorem nas_eq {T : Td} {V : Wk} {m : Nat} {C S : Nat → Se} (h1 : ∀ i, i < m → ∃ j, j < m ∧ C j = S i) (h2 : ∀ i, i < m → ∃ j, j < m ∧ S j = C i) (u : Nat) : nas T V m C u = nas T V m S u := by
  refine bool_eq (eB_t.trans ⟨?_, ?_⟩ |>.trans eB_t.symm)
  · rintro ⟨i, hi, h⟩
    obtain ⟨j, hj, e⟩ := h2 i hi
    exact ⟨j, hj, by rw [e]; exact h⟩
  · rintro ⟨i, hi, h⟩
    obtain ⟨j, hj, e⟩ := h1 i hi
    exact ⟨j, hj, by rw [e]; exact h⟩
theorem nas_0 {T : Td} {V : Wk} {m : Nat} {S : Nat → Se} (ht : ∀ i, i < m → (S i).2.1 < 12) : mk (nas T V m S) 12 = nI 0 ↔ sok T V m S = true := by
  refine (mk_eq0 (by omega)).trans ⟨fun h => aB_t.mpr fun i hi => ?_, fun h u hu => eB_f.mpr fun i hi => ?_⟩
  · have := eB_f.mp (h (S i).2.1 (ht i hi)) i hi
    rw [decide_eq_true rfl, Bool.true_and] at this
    cases q : so T V (S i) with
    | true => rfl
    | false => rw [q] at this; cases this
  · rw [aB_t.mp h i hi]; simp
theorem or_mkS {f g : Nat → Bool} {k : Nat} (hk : k < 12) (h : ∀ u, u < 12 → g u = (f u || decide (k = u))) : mk f 12 ||| (nI 1 <<< (nI k &&& 31)) = mk g 12 := by
  refine sm_ext (n := 12) (sm_or (sm_mk _ (by omega)) (sm_pw hk (by omega))) (sm_mk _ (by omega)) fun i hi => ?_
  rw [b_or, bt_mk (by omega) hi, bt_mk (by omega) hi, h i hi, show nI 1 <<< (nI k &&& 31) = pw k from rfl, b_pw k (by omega) i (by omega)]
  congr 1
  exact decide_eq_decide.mpr ⟨fun e => e.symm, fun e => e.symm⟩
section Spec
variable {d L : Nat} {fz t : Bool} {Q : pm_R → pm_H → Prop} {I I0 : Nat → Nat → Int32} {J : Nat → Nat → Int64} {V : Wk}
theorem cw_notAsSeen {w : Nat} (ho : ok A) (h : cw A t J I0 I) (hw : w = 23 ∨ w = 27) (hV : cW w V I) (oV : okW (sT A) V) (hp : wp V = wp (sW A)) (hq : ∀ I', cw A t J I0 I' → fr [3, 4, 6, 7, 8, pm_td t + 9 + 2] I I' → Q (.inl (some (.int (mk (nas (sT A) V (sNS A) (sS A)) 12)))) (pm_hp L fz t I' J)) : pm_Ev (d + 6) 104 [.ref 0, .ref w] (pm_hp L fz t I J) Q := by
  have hw' : w = 23 ∨ w = 27 ∨ w = 31 := by omega
  have h12 := oV.2.2.2
  have hn := ho.1.1
  obtain ⟨h8, hs⟩ := ho.2.2.2.1
  obtain ⟨e4, C, hC1, hC2, hC3⟩ := h.1.2.2.2.2.1
  have hc : ∀ i, i < sNS A → (C i).1 < wp V ∧ (C i).2.1 < tN (sT A) ∧ (C i).2.2.1 ≤ 20 := fun i hi => by
    obtain ⟨j, hj, e⟩ := hC2 i hi
    rw [← e, hp]; exact hs j hj
  have fin : ∀ I', cw A t J I0 I' → fr [3, 4, 6, 7, 8, pm_td t + 9 + 2] I I' → Q (.inl (some (.int (mk (nas (sT A) V (sNS A) C) 12)))) (pm_hp L fz t I' J) := fun I' w' f' => by
    have := hq I' w' f'
    rw [← mk_congr (fun u _ => nas_eq hC1 hC2 u)] at this; exact this
  have loop : ∀ (j i : Nat) (x : Int32) (I' : Nat → Nat → Int32), i + j = sNS A → cw A t J I0 I' → fr [3, 4, 6, 7, 8, pm_td t + 9 + 2] I I' → (x = -1 ∨ ∃ n, n ≤ 20 ∧ x = nI n ∧ ∀ k, k < wp V → I' 4 k = clR (sT A) (wag V n) k) → t_X10_threadsNotAsSeen_7 (d + 5) L fz t Q w x (mk (nas (sT A) V i C) 12) (nI i) I' J := by
    intro j
    induction j with
    | zero =>
      intro i x I' hi h' hf hx
      obtain rfl : i = sNS A := by omega
      refine b_X10_threadsNotAsSeen_7 hw' ?_
      rw [h'.1.2.2.2.2.1.1]
      exact q_t (nI_le (by omega) (by omega)) (fin I' h' hf)
    | succ j ih =>
      intro i x I' hi h' hf hx
      obtain ⟨c1, c2, c3⟩ := hc i (by omega)
      obtain ⟨g1, g2, g3, g4⟩ := hC3 i (by omega)
      have cell : ∀ I'', fr [3, 4, 6, 7, 8, pm_td t + 9 + 2] I I'' → I'' 46 = I 46 ∧ I'' 47 = I 47 ∧ I'' 48 = I 48 ∧ I'' 49 = I 49 := fun I'' f => ⟨f _ (by cases t <;> simp [pm_td]), f _ (by cases t <;> simp [pm_td]), f _ (by cases t <;> simp [pm_td]), f _ (by cases t <;> simp [pm_td])⟩
      have last : ∀ I'', cw A t J I0 I'' → fr [3, 4, 6, 7, 8, pm_td t + 9 + 2] I I'' → (∀ k, k < wp V → I'' 4 k = clR (sT A) (wag V (C i).2.2.1) k) → t_X10_threadsNotAsSeen_57 (d + 5) L fz t Q w (nI (C i).2.2.1) (mk (nas (sT A) V i C) 12) (nI i) I'' J := fun I'' w2 f2 r2 => by
        obtain ⟨k6, k7, k8, k9⟩ := cell I'' f2
        refine b_X10_threadsNotAsSeen_57 hw' ?_
        rw [nI_clamp (n := i) (by omega), k6, k7, k9, show I 46 i = _ from g1, show I 47 i = _ from g2, show I 49 i = _ from g4, nI_clamp (by omega), r2 _ c1, b_bit _ (by omega : (C i).2.1 < 32), nI_add]
        have vi : vp_in (nI i) 8 := vp_in_nI (by omega) (by omega)
        have good : so (sT A) V (C i) = true → t_X10_threadsNotAsSeen_7 (d + 5) L fz t Q w (nI (C i).2.2.1) (mk (nas (sT A) V i C) 12) (nI (i + 1)) I'' J := fun q => by
          have := ih (i + 1) (nI (C i).2.2.1) I'' (by omega) w2 f2 (Or.inr ⟨_, c3, rfl, r2⟩)
          rw [mk_congr (f := nas (sT A) V (i + 1) C) (g := nas (sT A) V i C) (fun u _ => by unfold nas; rw [eB, q]; simp)] at this; exact this
        have bad : so (sT A) V (C i) = false → t_X10_threadsNotAsSeen_7 (d + 5) L fz t Q w (nI (C i).2.2.1) (mk (nas (sT A) V i C) 12 ||| (nI 1 <<< (nI (C i).2.1 &&& 31))) (nI (i + 1)) I'' J := fun q => by
          have := ih (i + 1) (nI (C i).2.2.1) I'' (by omega) w2 f2 (Or.inr ⟨_, c3, rfl, r2⟩)
          rw [or_mkS (g := nas (sT A) V (i + 1) C) (by omega) (fun u _ => by unfold nas; rw [eB, q]; simp)]; exact this
        refine ⟨vi, vp_in_nI (by omega) (by omega), vi, q_b1 (fun q => ⟨vi, ?_⟩) (fun q => ⟨vi, ?_⟩)⟩
        · rw [show nI 0 = bz false from rfl, bz_inj]
          refine ⟨fun z => good ?_, fun z => ⟨vi, bad ?_⟩⟩
          · unfold so; rw [q, ← z]; rfl
          · unfold so; rw [q]; cases e : (C i).2.2.2
            · exact absurd e.symm z
            · rfl
        · rw [show nI 1 = bz true from rfl, bz_inj]
          refine ⟨fun z => good ?_, fun z => ⟨vi, bad ?_⟩⟩
          · unfold so; rw [q, ← z]; rfl
          · unfold so; rw [q]; cases e : (C i).2.2.2
            · rfl
            · exact absurd e.symm z
      refine b_X10_threadsNotAsSeen_7 hw' ?_
      obtain ⟨k6, k7, k8, k9⟩ := cell I' hf
      rw [h'.1.2.2.2.2.1.1, nI_clamp (n := i) (by omega), k8, show I 48 i = _ from g3]
      refine q_f (nI_ge (by omega) (by omega)) ⟨vp_in_nI (by omega) (by omega), fun q => ?_, fun q => ⟨vp_in_nI (by omega) (by omega), ?_⟩⟩
      · rcases hx with hx | ⟨n, hn20, hx, hr⟩
        · rw [hx] at q; exact absurd q (nI_ne_m1 (by omega))
        · rw [hx] at q
          have e : (C i).2.2.1 = n := (nI_eq (by omega) (by omega)).mp q
          rw [hx, ← e]
          exact last I' h' hf (by rw [e]; exact hr)
      · have hV' : cW w V I' := cW_fr hV hf (by cases t <;> simp [pm_td] <;> omega) (by cases t <;> simp [pm_td] <;> omega) (by cases t <;> simp [pm_td] <;> omega) (by cases t <;> simp [pm_td] <;> omega)
        refine S_weave (td_or t) hw' h'.1.1 hV' ho.1 oV h'.1.2.2.1 (by omega) fun I2 f2 M2 p2 r2 => ?_
        exact last I2 (cw_f h' (fr_m f2 (fun a ha => by unfold qs; simp at ha ⊢ <;> omega)) M2) (fr_t hf f2) r2
  have h0 := loop (sNS A) 0 (-1) I (by omega) h fr_r (Or.inl rfl)
  have e0 : mk (nas (sT A) V 0 C) 12 = nI 0 := (mk_eq0 (by omega)).mpr fun u _ => rfl
  rw [e0] at h0
  exact e_X10_threadsNotAsSeen hw' h0
/-- the last Sunday and one -/
def mx (S : Nat → Se) : Nat → Nat
  | 0 => 0
  | i + 1 => max (mx S i) ((S i).2.2.1 + 1)
def pN : Nat → Int32
  | 0 => -1
  | k + 1 => nI k
theorem pN_lt {a n : Nat} (ha : a < 2 ^ 31) (hn : n < 2 ^ 31) : pN a < nI n ↔ a ≤ n := by
  cases a with
  | zero =>
    refine ⟨fun _ => Nat.zero_le _, fun _ => ?_⟩
    rw [fa_lt, nI_toInt hn, show (pN 0).toInt = -1 from rfl]; omega
  | succ a =>
    show nI a < nI n ↔ _
    rw [nI_ltI (by omega) hn]; omega
theorem pN_le {a n : Nat} (ha : a < 2 ^ 31) (hn : n < 2 ^ 31) : nI n ≤ pN a ↔ n + 1 ≤ a := by
  cases a with
  | zero =>
    refine ⟨fun h => ?_, fun h => absurd h (by omega)⟩
    rw [fa_le, nI_toInt hn, show (pN 0).toInt = -1 from rfl] at h; omega
  | succ a =>
    show nI n ≤ nI a ↔ _
    rw [nI_leI hn (by omega)]; omega
theorem mx_le {S : Nat → Se} : ∀ {m : Nat}, (∀ i, i < m → (S i).2.2.1 ≤ 20) → mx S m ≤ 21
  | 0, _ => Nat.zero_le _
  | m + 1, h => by
    have := mx_le (m := m) (fun i hi => h i (by omega))
    have := h m (by omega)
    rw [mx]; omega
theorem mx_ge {S : Nat → Se} : ∀ {m i : Nat}, i < m → (S i).2.2.1 < mx S m
  | 0, _, h => absurd h (by omega)
  | m + 1, i, h => by
    rw [mx]
    by_cases e : i = m
    · rw [e]; omega
    · have := mx_ge (S := S) (m := m) (i := i) (by omega); omega
theorem mw_isSeen (ho : ok A) (h : mw A I0 I) (hV : mR (I 103) 34 (tM (sT A)) V) (oV : okW (sT A) V) (hp : wp V = wp (sW A)) (hq : ∀ I', mw A I0 I' → fr [85, 103, 105, 106, 107] I I' → Q (.inl (some (.int (bz (sok (sT A) V (sNS A) (sS A)))))) (pm_hp L fz t I' J)) : pm_Ev (d + 7) 211 [.ref 85] (pm_hp L fz t I J) Q := by
  have h12 := oV.2.2.2
  have hn := ho.1.1
  obtain ⟨h8, hs⟩ := ho.2.2.2.1
  have m21 := mx_le (S := sS A) (m := sNS A) (fun i hi => (hs i hi).2.2)
  have cell : ∀ I', fr [85, 103, 105, 106, 107] I I' → mw A I0 I' → ∀ i, i < sNS A → I' 110 (4 * i) = nI (sS A i).1 ∧ I' 110 (4 * i + 1) = nI (sS A i).2.1 ∧ I' 110 (4 * i + 2) = nI (sS A i).2.2.1 ∧ I' 110 (4 * i + 3) = bz (sS A i).2.2.2 := fun I' _ w' i hi => w'.1.2.2.2.2.1.2 i hi
  have days : ∀ (j n : Nat) (I' : Nat → Nat → Int32), n + j = mx (sS A) (sNS A) → mw A I0 I' → fr [85, 103, 105, 106, 107] I I' → mR (I' 103) 34 (tM (sT A)) (sn (sT A) V n) → (∀ i, i < sNS A → (sS A i).2.2.1 < n → so (sT A) V (sS A i) = true) → t_X11_isSeen_49 (d + 6) L fz t Q (pN (mx (sS A) (sNS A))) (nI n) I' J := by
    intro j
    induction j with
    | zero =>
      intro n I' hn' h' hf hr hg
      refine b_X11_isSeen_49 ?_
      have := hq I' h' hf
      rw [show sok (sT A) V (sNS A) (sS A) = true from aB_t.mpr fun i hi => hg i hi (by have := mx_ge (S := sS A) hi; omega)] at this
      exact q_t ((pN_lt (by omega) (by omega)).mpr (by omega)) this
    | succ j ih =>
      intro n I' hn' h' hf hr hg
      obtain ⟨e1, e2, e3, e4, e5⟩ := sn_eq oV ho.1 n
      refine b_X11_isSeen_49 (q_f (fun z => by rw [pN_lt (by omega) (by omega)] at z; omega) ?_)
      refine mw_weavesT ho h' hr e5 (e3.trans hp) fun I2 w2 f2 _ r2 _ c2 => kb_X11_isSeen_60 ?_
      have f2' : fr [85, 103, 105, 106, 107] I I2 := fr_t hf (fr_m f2 (by simp <;> omega))
      have inner : ∀ (j' i : Nat), i + j' = sNS A → (∀ i', i' < i → (sS A i').2.2.1 = n → so (sT A) V (sS A i') = true) → t_X11_isSeen_62 (d + 6) L fz t Q (pN (mx (sS A) (sNS A))) (nI n) (nI i) I2 J := by
        intro j'
        induction j' with
        | zero =>
          intro i hi hg'
          obtain rfl : i = sNS A := by omega
          refine b_X11_isSeen_62 ?_
          rw [w2.1.2.2.2.2.1.1]
          refine q_t (nI_le (by omega) (by omega)) (mw_sun ho w2 r2 e5 (e3.trans hp) fun I3 w3 f3 _ r3 => kb_X11_isSeen_137 ?_)
          rw [nI_add]
          refine ih (n + 1) I3 (by omega) w3 (fr_t f2' f3) r3 fun i hi q => ?_
          by_cases e : (sS A i).2.2.1 = n
          · exact hg' i hi e
          · exact hg i hi (by omega)
        | succ j' ih' =>
          intro i hi hg'
          obtain ⟨k0, k1, k2, k3⟩ := cell I2 f2' w2 i (by omega)
          obtain ⟨s1, s2, s3⟩ := hs i (by omega)
          refine b_X11_isSeen_62 ?_
          rw [w2.1.2.2.2.2.1.1, pk_mul, nI_add, nI_add, nI_add, nI_add, nI_clamp (n := 4 * i) (by omega), nI_clamp (n := 4 * i + 1) (by omega), nI_clamp (n := 4 * i + 2) (by omega), nI_clamp (n := 4 * i + 3) (by omega), k0, k1, k2, k3, nI_clamp (by omega), c2 _ (by rw [e3, hp]; exact s1), b_bit _ (by omega : (sS A i).2.1 < 32), bz_inj]
          refine q_f (nI_ge (by omega) (by omega)) ⟨vp_in_nI (by omega) (by omega), q_ne (by omega) (by omega) (fun q => ih' (i + 1) (by omega) (fun i' hi' e => ?_)) (fun q => ⟨vp_in_nI (by omega) (by omega), vp_in_nI (by omega) (by omega), vp_in_nI (by omega) (by omega), vp_in_nI (by omega) (by omega), fun z => ih' (i + 1) (by omega) (fun i' hi' e => ?_), fun z => ?_⟩)⟩
          · by_cases y : i' = i
            · rw [y] at e; exact absurd e q
            · exact hg' i' (by omega) e
          · by_cases y : i' = i
            · rw [y]
              unfold so
              rw [q, show clR (sT A) (wag V n) (sS A i).1 = clR (sT A) (sn (sT A) V n) (sS A i).1 from (cl_sn oV ho.1 n _).symm, z]
              simp
            · exact hg' i' (by omega) e
          · have := hq I2 w2 f2'
            have hf0 : so (sT A) V (sS A i) = false := by
              unfold so
              rw [q, show clR (sT A) (wag V n) (sS A i).1 = clR (sT A) (sn (sT A) V n) (sS A i).1 from (cl_sn oV ho.1 n _).symm]
              simpa using z
            rw [show sok (sT A) V (sNS A) (sS A) = false from ab_f (i := i) (by omega) hf0] at this
            exact this
      exact inner (sNS A) 0 (by omega) (fun i' h => absurd h (by omega))
  have firsts : ∀ (j i : Nat), i + j = sNS A → t_X11_isSeen_4 (d + 6) L fz t Q (pN (mx (sS A) i)) (nI i) I J := by
    intro j
    induction j with
    | zero =>
      intro i hi
      obtain rfl : i = sNS A := by omega
      refine b_X11_isSeen_4 ?_
      rw [h.1.2.2.2.2.1.1]
      exact q_t (nI_le (by omega) (by omega)) (days (mx (sS A) (sNS A)) 0 I (by omega) h fr_r hV (fun i _ q => absurd q (by omega)))
    | succ j ih =>
      intro i hi
      obtain ⟨k0, k1, k2, k3⟩ := cell I fr_r h i (by omega)
      obtain ⟨s1, s2, s3⟩ := hs i (by omega)
      have mi := mx_le (S := sS A) (m := i) (fun i' hi' => (hs i' (by omega)).2.2)
      have nx := ih (i + 1) (by omega)
      rw [mx] at nx
      refine b_X11_isSeen_4 ?_
      rw [h.1.2.2.2.2.1.1, pk_mul, nI_add, nI_add, nI_clamp (n := 4 * i + 2) (by omega), k2, pN_le (by omega) (by omega)]
      refine q_f (nI_ge (by omega) (by omega)) ⟨vp_in_nI (by omega) (by omega), fun q => ?_, fun q => ⟨vp_in_nI (by omega) (by omega), ?_⟩⟩
      · rw [Nat.max_eq_left (by omega)] at nx; exact nx
      · rw [Nat.max_eq_right (by omega)] at nx; exact nx
  exact e_X11_isSeen (firsts (sNS A) 0 (by omega))
end Spec
def sk (A : St) (c : Nat) : Bool := sok (sT A) (wHo (sW A) c (tu (tN (sT A)) (wo (sW A) c))) (sNS A) (sS A)
theorem s12 (ho : ok A) : ∀ i, i < sNS A → (sS A i).2.1 < 12 := fun i hi => by have := (ho.2.2.2.1.2 i hi).2.1; have := ho.1.1; omega
theorem op_backwards (ho : ok A) (x : Int32) : op2 267 213 [.int x] A 1 := by
  have hm := ho.1.2.1
  cases h1 : inR x 3 with
  | true =>
    obtain ⟨u, hu, rfl⟩ := inR_t (by omega) h1
    refine ⟨0, by decide, if u = 2 then bz (sok (sT A) (sW A) (sNS A) (sS A)) else if u = 1 then oI (ff (sk A) (tM (sT A)) 0) else nI (cn (sk A) (tM (sT A))), ?_, ?_⟩
    · intro L fz t I J Q hS hk
      have fin : ∀ I' v, cw A t J I I' → v = (if u = 2 then bz (sok (sT A) (sW A) (sNS A) (sS A)) else if u = 1 then oI (ff (sk A) (tM (sT A)) 0) else nI (cn (sk A) (tM (sT A)))) → Q (.inl (some (.int v))) (pm_hp L true t I' J) := fun I' v w hv => by
        rw [hv]; exact cw_e w hk
      refine e_X10_backwards (gWy (by omega) h1 (kb_X10_backwards_5 (q_ne (by omega) (by omega) (fun q => ?_) (fun q => ?_))))
      · have loop : ∀ (j i : Nat) (I' : Nat → Nat → Int32), i + j = tM (sT A) → cw A t J I I' → (u = 1 → ff (sk A) j i = ff (sk A) (tM (sT A)) 0) → t_X10_backwards_31 58 L true t Q (nI u) (nI (cn (sk A) i)) (nI i) I' J := by
          intro j
          induction j with
          | zero =>
            intro i I' hi h' ef
            obtain rfl : i = tM (sT A) := by omega
            refine b_X10_backwards_31 ?_
            rw [h'.1.1.2.2.1]
            refine q_t (nI_le (by omega) (by omega)) (q_ne (by omega) (by omega) (fun q1 => fin I' _ h' (by rw [if_neg q, if_neg q1])) (fun q1 => fin I' _ h' ?_))
            rw [if_neg q, if_pos q1, ← ef q1]; rfl
          | succ j ih =>
            intro i I' hi h' ef
            refine b_X10_backwards_31 ?_
            rw [h'.1.1.2.2.1]
            refine q_f (nI_ge (by omega) (by omega)) (cw_tryTurned ho h' (by omega) fun I2 w2 _ c2 => kb_X10_backwards_47 ?_)
            refine cw_notAsSeen ho w2 (Or.inr rfl) c2 (sm_wHo ho i) rfl fun I3 w3 _ => kb_X10_backwards_55 ?_
            rw [nas_0 (s12 ho), nI_add, nI_add]
            refine ⟨fun z => ?_, fun z => q_ne (by omega) (by omega) (fun q1 => ?_) (fun q1 => ?_)⟩
            · have z' : sk A i = false := by cases y : sk A i; rfl; exact absurd y z
              have := ih (i + 1) I3 (by omega) w3 (fun y => by rw [← ef y, ff, if_neg (by rw [z']; decide)])
              rw [cn, z'] at this; exact this
            · have z' : sk A i = true := z
              have := ih (i + 1) I3 (by omega) w3 (fun y => absurd y q1)
              rw [cn, z'] at this; exact this
            · have z' : sk A i = true := z
              refine fin I3 _ w3 ?_
              rw [if_neg q, if_pos q1, ← ef q1, ff, if_pos z']; rfl
        exact loop (tM (sT A)) 0 I (by omega) (cw_0 hS) (fun _ => rfl)
      · refine cw_notAsSeen ho (cw_0 hS) (Or.inl rfl) hS.2.1 ho.2.1 rfl fun I3 w3 _ => kb_X10_backwards_18 ?_
        rw [nas_0 (s12 ho)]
        refine ⟨fun z => fin I3 _ w3 ?_, fun z => fin I3 _ w3 ?_⟩
        · rw [if_pos q, show sok (sT A) (sW A) (sNS A) (sS A) = false by cases y : sok (sT A) (sW A) (sNS A) (sS A); rfl; exact absurd y z]; rfl
        · rw [if_pos q, z]; rfl
    · intro L fz t I J Q hS hk
      have hw := mw_0 ho hS
      refine e_X11_backwards (mWy hw (by omega) h1 (kb_X11_backwards_11 (q_t' nI_01 (mw_tries ho hw fun I1 w1 _ r1 => kb_X11_backwards_20 ?_))))
      refine q_ne (by omega) (by omega) (fun q => ?_) (fun q => ?_)
      · have loop : ∀ (j i : Nat) (I' : Nat → Nat → Int32), i + j = tM (sT A) → mw A I I' → t_X11_backwards_45 59 L fz t Q (nI u) (nI (cn (sk A) i)) (oI (ff (sk A) i 0)) (nI i) I' J := by
          intro j
          induction j with
          | zero =>
            intro i I' hi h'
            obtain rfl : i = tM (sT A) := by omega
            refine b_X11_backwards_45 ?_
            rw [h'.1.1.2.1]
            refine q_t (nI_le (by omega) (by omega)) (q_ne (by omega) (by omega) (fun q1 => ?_) (fun q1 => ?_))
            · exact mw_e h' hk ⟨_, fun _ => by rw [if_neg q, if_pos (by omega)], rfl⟩
            · exact mw_e h' hk ⟨_, fun _ => by rw [if_neg q, if_neg (by omega)], rfl⟩
          | succ j ih =>
            intro i I' hi h'
            refine b_X11_backwards_45 ?_
            rw [h'.1.1.2.1]
            refine q_f (nI_ge (by omega) (by omega)) (mw_triesTurned ho h' (by omega) fun I2 w2 _ c2 => kb_X11_backwards_60 ?_)
            refine mw_isSeen ho w2 c2 (sm_wHo ho i) rfl fun I3 w3 _ => kb_X11_backwards_64 ?_
            have nx := ih (i + 1) I3 (by omega) w3
            rw [nI_add, nI_add]
            refine q_b0' (fun z => ?_) (fun z => ?_)
            · have z' : sk A i = true := z
              rw [cn, z'] at nx
              cases hff : ff (sk A) i 0 with
              | none =>
                rw [ff_sn_t hff z'] at nx
                exact q_f' rfl nx
              | some k =>
                rw [ff_sn_s hff] at nx
                have hk4 := (ff_some hff).2.1
                exact q_t' (nI_ne_m1 (by omega)) nx
            · have z' : sk A i = false := z
              rw [ff_sn_f z', cn, z'] at nx; exact nx
        exact loop (tM (sT A)) 0 I1 (by omega) w1
      · refine mw_isSeen ho w1 r1 ho.2.1 rfl fun I3 w3 _ => kb_X11_backwards_29 (q_b0 (fun z => ?_) (fun z => ?_))
        · exact mw_e w3 hk ⟨_, fun _ => by rw [if_pos q, z]; rfl, rfl⟩
        · exact mw_e w3 hk ⟨_, fun _ => by rw [if_pos q, z]; rfl, rfl⟩
  | false =>
    refine ⟨1, by decide, 0, ?_, ?_⟩
    · intro L fz t I J Q hS hk
      exact e_X10_backwards (gWn (by omega) h1 (cS_r hS hk))
    · intro L fz t I J Q hS hk
      exact e_X11_backwards (mWn (mw_0 ho hS) (by omega) h1 (kb_X11_backwards_11 (q_f' rfl (mw_x ho (mw_0 ho hS) hk (pv_e (by omega))))))
end Ops
