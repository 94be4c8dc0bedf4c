section Ops
variable {A : St}
/-- holes by which, in card c, a thread is as it is now -/
def gS (A : St) (c : Nat) (h : Int32) (u : Nat) : Bool := aB (fun k => bt (clR (sT A) (wHo (sW A) c h) k) u == bt (clR (sT A) (sW A) k) u) (wp (sW A))
def gP (A : St) (c : Nat) (h : Int32) (u : Nat) : Bool := !nas (sT A) (wHo (sW A) c h) (sNS A) (sS A) u
theorem gS_loc (ho : ok A) (c : Nat) : loc (tN (sT A)) (gS A c) := fun h h' u hu hh => aB_congr fun k _ => by rw [clR_ho ho.1 hu hh k]
theorem gP_loc (ho : ok A) (c : Nat) : loc (tN (sT A)) (gP A c) := fun h h' u hu hh => by
  unfold gP nas
  rw [eB_congr fun i _ => ?_]
  by_cases q : (sS A i).2.1 = u
  · have e : so (sT A) (wHo (sW A) c h) (sS A i) = so (sT A) (wHo (sW A) c h') (sS A i) := by
      unfold so
      rw [q]
      show (bt (cl (sT A) (wag (wHo (sW A) c h) _) _) u == _) = (bt (cl (sT A) (wag (wHo (sW A) c h') _) _) u == _)
      rw [cl_ho ho.1 hu hh]
    rw [e]
  · rw [decide_eq_false q, Bool.false_and, Bool.false_and]
theorem okH (ho : ok A) {c h : Nat} (hh : h < 2 ^ tN (sT A)) : okW (sT A) (wHo (sW A) c (nI h)) := okW_ho ho.2.1 (sm_nI hh)
theorem okP (ho : ok A) {c i : Nat} : okW (sT A) (wHo (sW A) c (pt (tN (sT A)) i)) := okW_ho ho.2.1 (sm_pt (by have := ho.1.1; omega))
theorem gS_iff (ho : ok A) {c h : Nat} (hh : h < 2 ^ tN (sT A)) : gH (tN (sT A)) (gS A c) h = true ↔ ∀ k, k < wp (sW A) → clR (sT A) (wHo (sW A) c (nI h)) k = clR (sT A) (sW A) k := by
  refine aB_t.trans ⟨fun q k hk => ?_, fun q u hu => ?_⟩
  · refine sm_ext (n := tN (sT A)) (sm_cl ho.1 (okH ho hh) (k + 1) hk) (sm_cl ho.1 ho.2.1 (k + 1) hk) fun u hu => ?_
    have := aB_t.mp (q u hu) k hk
    simpa using this
  · exact aB_t.mpr fun k hk => by rw [q k hk]; simp
theorem gP_iff (ho : ok A) {c h : Nat} : gH (tN (sT A)) (gP A c) h = sok (sT A) (wHo (sW A) c (nI h)) (sNS A) (sS A) := by
  refine bool_eq (aB_t.trans ⟨fun q => aB_t.mpr fun i hi => ?_, fun q u hu => ?_⟩)
  · have hq := q (sS A i).2.1 (ho.2.2.2.1.2 i hi).2.1
    unfold gP at hq
    cases e : so (sT A) (wHo (sW A) c (nI h)) (sS A i) with
    | true => rfl
    | false =>
      have hn : nas (sT A) (wHo (sW A) c (nI h)) (sNS A) (sS A) (sS A i).2.1 = true := eB_t.mpr ⟨i, hi, by rw [e, decide_eq_true rfl]; rfl⟩
      rw [hn] at hq
      cases hq
  · unfold gP
    rw [show nas (sT A) (wHo (sW A) c (nI h)) (sNS A) (sS A) u = false from eB_f.mpr fun i hi => by rw [aB_t.mp q i hi]; simp]
    rfl
/-- all but what is wrong -/
theorem al_not {n : Nat} (hn : n ≤ 12) {x : Int32} {f : Nat → Bool} (h : ∀ u, u < n → bt x u = !f u) : al n &&& (x ^^^ (-1 : Int32)) = mk f n := by
  refine sm_ext (n := n) (sm_and (sm_al (by omega))) (sm_mk _ (by omega)) fun u hu => ?_
  rw [b_and, b_al n (by omega) u (by omega), decide_eq_true hu, Bool.true_and, b_not _ (by omega), h u hu, bt_mk (by omega) hu]
  cases f u <;> rfl
theorem op_same (ho : ok A) (x : Int32) : op2 265 208 [.int x] A 1 := by
  have hm := ho.1.2.1
  have hn := ho.1.1
  have h12 := ho.2.1.2.2.2
  cases h1 : inR x (tM (sT A)) with
  | true =>
    obtain ⟨c, hc, rfl⟩ := inR_t (by omega) h1
    refine ⟨0, by decide, nI (cn (gH (tN (sT A)) (gS A c)) (2 ^ tN (sT A))), ?_, ?_⟩
    · intro L fz t I J Q hS hk
      refine e_X10_same (gCy hS.1.2.2.1 h1 (kb_X10_same_5 (cw_weave0 ho (cw_0 hS) fun I1 w1 f1 p1 c1 => kb_X10_same_21 (e_X2_keepAside (kb_X10_same_28 ?_)))))
      have w2 : cw A t J I (pm_ur I1 5 (va_cpy (I1 4) (I1 5) 0 0 12)) := cw_fr (S := [5]) w1 (fr_ur List.mem_cons_self fr_r) (fun a ha => by simp at ha; exact ⟨qs_lo (by omega), by omega, by omega⟩)
      refine cw_copy ho w2 fun I3 w3 f3 c3 => kb_X10_same_39 ?_
      have a3 : ∀ k, k < wp (sW A) → I3 5 k = clR (sT A) (sW A) k := fun k hk' => by rw [f3 5 (by decide), pm_urs, cpy_0 (by omega)]; exact c1 k hk'
      rw [w3.1.1.2.1]
      refine S_begin (by omega) fun I4 f4 s4 p4 => kb_X10_same_53 ?_
      have w4 : cw A t J I I4 := cw_fr w3 f4 (fun a ha => by simp at ha; exact ⟨qs_lo (by omega), by omega, by omega⟩)
      have c4 : cW 27 (sW A) I4 := cW_fr c3 f4 (by decide) (by decide) (by decide) (by decide)
      have loop : ∀ (j i : Nat) (I' : Nat → Nat → Int32) (V : Wk), i + j = 8 → cw A t J I I' → cW 27 V I' → (∀ h, wHo V c h = wHo (sW A) c h) → (∀ k, k < wp (sW A) → I' 5 k = clR (sT A) (sW A) k) → I' 9 2 = al (tN (sT A)) → (∀ i, i < 8 → I' 10 i = pt (tN (sT A)) i) → (∀ k, k < i → I' 11 k = mk (gS A c (pt (tN (sT A)) k)) (tN (sT A))) → t_X10_same_55 58 L true t Q (nI c) (nI i) I' J := by
        intro j
        induction j with
        | zero =>
          intro i I' V hi h' hV eV a' s' p' g'
          obtain rfl : i = 8 := by omega
          exact b_X10_same_55 (q_t (nI_le (by omega) (by omega)) (S_countPassing (by omega) (gS_loc ho c) ⟨s', fun i hi => ⟨p' i hi, g' i hi⟩⟩ (kb_X10_same_134 (cw_e h' hk))))
        | succ j ih =>
          intro i I' V hi h' hV eV a' s' p' g'
          refine b_X10_same_55 (q_f (nI_ge (by omega) (by omega)) ?_)
          rw [nI_clamp (by omega), nI_clamp (by omega), p' i (by omega)]
          have hV2 : cW 27 (wHo (sW A) c (pt (tN (sT A)) i)) (pm_u I' 28 c (pt (tN (sT A)) i)) := by rw [← eV]; exact cW_ho hV
          refine ⟨vp_in_nI (by omega) (by omega), vp_in_nI (by omega) (by omega), cw_weaveT0 ho (cw_u h' (qs_lo (by omega)) (by omega) (by omega)) hV2 (okP ho) fun I5 w5 f5 c5 p5 r5 => kb_X10_same_95 ?_⟩
          have e5 : ∀ a, a = 5 ∨ a = 9 ∨ a = 10 ∨ a = 11 → I5 a = I' a := fun a ha => by rw [f5 a (by cases t <;> simp [pm_td] <;> omega), pm_ua (by omega)]
          refine S_unlikeAside (S := clR (sT A) (sW A)) p5 h12 r5 (fun k hk' => by rw [e5 5 (by omega)]; exact a' k hk') (kb_X10_same_117 ?_)
          rw [w5.1.1.2.1, nI_clamp (by omega), nI_add]
          refine ⟨vp_in_nI (by omega) (by omega), ih (i + 1) _ _ (by omega) (cw_u w5 (qs_lo (by omega)) (by omega) (by omega)) (cW_fr c5 (fr_u (S := [11]) (by simp) fr_r) (by decide) (by decide) (by decide) (by decide)) (fun h => ?_) (fun k hk' => ?_) ?_ (fun k hk' => ?_) (fun k hk' => ?_)⟩
          · show ((fun x => if x = c then h else (if x = c then pt (tN (sT A)) i else wo (sW A) x)), _) = ((fun x => if x = c then h else wo (sW A) x), _)
            congr 1
            funext x
            by_cases e : x = c
            · rw [if_pos e, if_pos e]
            · rw [if_neg e, if_neg e, if_neg e]
          · rw [pm_ua (by decide), e5 5 (by omega)]; exact a' k hk'
          · rw [pm_ua (by decide), e5 9 (by omega)]; exact s'
          · rw [pm_ua (by decide), e5 10 (by omega)]; exact p' k hk'
          · by_cases e : k = i
            · rw [e, pm_us]
              refine al_not (by omega) fun u hu => ?_
              rw [b_xo]
              unfold gS
              show eB _ (wp (sW A)) = _
              refine bool_eq (eB_t.trans ⟨?_, fun q => ?_⟩)
              · rintro ⟨k, hk', e⟩
                rw [ab_f (i := k) hk' (by
                  cases y1 : bt (clR (sT A) (wHo (sW A) c (pt (tN (sT A)) i)) k) u <;> cases y2 : bt (clR (sT A) (sW A) k) u <;> simp [y1, y2] at e ⊢)]
                rfl
              · have q' : aB (fun k => bt (clR (sT A) (wHo (sW A) c (pt (tN (sT A)) i)) k) u == bt (clR (sT A) (sW A) k) u) (wp (sW A)) = false := by simpa using q
                apply Classical.byContradiction
                intro z
                have : aB (fun k => bt (clR (sT A) (wHo (sW A) c (pt (tN (sT A)) i)) k) u == bt (clR (sT A) (sW A) k) u) (wp (sW A)) = true := aB_t.mpr fun k hk' => by
                  cases y : (bt (clR (sT A) (wHo (sW A) c (pt (tN (sT A)) i)) k) u == bt (clR (sT A) (sW A) k) u) with
                  | true => rfl
                  | false =>
                    exfalso
                    refine z ⟨k, hk', ?_⟩
                    cases y1 : bt (clR (sT A) (wHo (sW A) c (pt (tN (sT A)) i)) k) u <;> cases y2 : bt (clR (sT A) (sW A) k) u <;> simp [y1, y2] at y ⊢
                rw [this] at q'; cases q'
            · rw [pm_uk e, e5 11 (by omega)]; exact g' k (by omega)
      exact loop 8 0 I4 (sW A) (by omega) w4 c4 (fun _ => rfl) (fun k hk' => by rw [f4 5 (by decide)]; exact a3 k hk') s4 p4 (fun k h => absurd h (by omega))
    · intro L fz t I J Q hS hk
      have hw := mw_0 ho hS
      have h2 := two_12 (n := tN (sT A)) (by omega)
      refine e_X11_same (mCy hw h1 (kb_X11_same_10 (q_t' nI_01 (e_X11_laysNow (mw_weaves ho hw fun I1 w1 f1 p1 c1 => kb_X11_laysNow_5 ?_)))))
      refine S_copies (a1 := 107) (a2 := 108) (n0 := 12) (by omega) fun I2 f2 c2 => kb_X11_laysNow_17 (kb_X11_same_19 ?_)
      have w2 : mw A I I2 := mw_f ho w1 (mq_w f2 (by simp)) (by rw [f2 85 (by decide)]; exact w1.2.2)
      refine mw_tries ho w2 fun I3 w3 f3 r3 => kb_X11_same_23 ?_
      have loop : ∀ (j i : Nat) (I' : Nat → Nat → Int32) (V : Wk), i + j = 2 ^ tN (sT A) → mw A I I' → mR (I' 103) 34 (tM (sT A)) V → wp V = wp (sW A) → (∀ h, wHo V c h = wHo (sW A) c h) → (∀ k, k < wp (sW A) → I' 108 k = clR (sT A) (sW A) k) → t_X11_same_27 59 L fz t Q (nI c) (nI (cn (gH (tN (sT A)) (gS A c)) i)) (nI i) I' J := by
        intro j
        induction j with
        | zero =>
          intro i I' V hi h' hV hp eV a'
          obtain rfl : i = 2 ^ tN (sT A) := by omega
          refine b_X11_same_27 (S_all h'.1.1 (kb_X11_same_32 ?_))
          rw [al_nI _ (by omega)]
          exact q_t (nI_lt (by omega) (by omega)) (mw_e h' hk pv_0)
        | succ j ih =>
          intro i I' V hi h' hV hp eV a'
          refine b_X11_same_27 (S_all h'.1.1 (kb_X11_same_32 ?_))
          rw [al_nI _ (by omega), nI_add, nI_clamp (by omega)]
          refine q_f (nI_nlt (by omega) (by omega)) ⟨vp_in_nI (by omega) (by omega), ?_⟩
          have r4 : mR (pm_u I' 103 (36 + c) (nI i) 103) 34 (tM (sT A)) (wHo (sW A) c (nI i)) := by
            rw [← eV]; exact mR_ho (b := 34) hV hm (by omega) (by omega)
          refine mw_weavesT ho (mw_u ho h' (by omega)) r4 (okH ho (by omega)) rfl fun I5 w5 f5 _ r5 _ c5 => kb_X11_same_51 ?_
          have a5 : ∀ k, k < wp (sW A) → I5 108 k = clR (sT A) (sW A) k := fun k hk' => by rw [f5 108 (by decide), pm_ua (by decide)]; exact a' k hk'
          refine S_isLikeNow w5.1.2.1 h12 c5 a5 (kb_X11_same_56 ?_)
          have nx := ih (i + 1) I5 _ (by omega) w5 r5 rfl (fun h => by
            show ((fun x => if x = c then h else (if x = c then nI i else wo (sW A) x)), _) = ((fun x => if x = c then h else wo (sW A) x), _)
            congr 1
            funext x
            by_cases e : x = c
            · rw [if_pos e, if_pos e]
            · rw [if_neg e, if_neg e, if_neg e]) a5
          rw [cn] at nx
          rw [nI_add, nI_add, nI_add]
          have hg := gS_iff (c := c) (h := i) ho (by omega)
          refine q_b0 (fun q => ?_) (fun q => ?_)
          · rw [show gH (tN (sT A)) (gS A c) i = false by
              cases y : gH (tN (sT A)) (gS A c) i
              · rfl
              · exact absurd (hg.mp y) (of_decide_eq_false q)] at nx
            exact nx
          · rw [hg.mpr (of_decide_eq_true q)] at nx; exact nx
      exact loop (2 ^ tN (sT A)) 0 I3 (sW A) (by omega) w3 r3 rfl (fun _ => rfl) (fun k hk' => by rw [f3 108 (by decide), c2 k (by omega)]; exact c1 k hk')
  | false =>
    refine ⟨1, by decide, 0, ?_, ?_⟩
    · intro L fz t I J Q hS hk
      exact e_X10_same (gCn hS.1.2.2.1 h1 (cS_r hS hk))
    · intro L fz t I J Q hS hk
      exact e_X11_same (mCn (mw_0 ho hS) h1 (kb_X11_same_10 (q_f' rfl (mw_x ho (mw_0 ho hS) hk (pv_e (by omega))))))
theorem wHo2 (V : Wk) (c : Nat) (h h' : Int32) : wHo (wHo V c h') c h = wHo V c h := by
  show ((fun x => if x = c then h else (if x = c then h' else wo V x)), _) = ((fun x => if x = c then h else wo V x), _)
  congr 1
  funext x
  by_cases e : x = c
  · rw [if_pos e, if_pos e]
  · rw [if_neg e, if_neg e, if_neg e]
theorem op_punched (ho : ok A) (x y : Int32) : op2 268 214 [.int x, .int y] A 1 := by
  have hm := ho.1.2.1
  have hn := ho.1.1
  have h12 := ho.2.1.2.2.2
  cases h1 : inR x (tM (sT A)) with
  | true =>
    obtain ⟨c, hc, rfl⟩ := inR_t (by omega) h1
    cases h2 : inR y 2 with
    | true =>
      obtain ⟨u, hu, rfl⟩ := inR_t (by omega) h2
      refine ⟨0, by decide, if u = 0 then nI (cn (gH (tN (sT A)) (gP A c)) (2 ^ tN (sT A))) else oI (ff (gH (tN (sT A)) (gP A c)) (2 ^ tN (sT A)) 0), ?_, ?_⟩
      · intro L fz t I J Q hS hk
        have fin : ∀ I' v, cw A t J I I' → v = (if u = 0 then nI (cn (gH (tN (sT A)) (gP A c)) (2 ^ tN (sT A))) else oI (ff (gH (tN (sT A)) (gP A c)) (2 ^ tN (sT A)) 0)) → Q (.inl (some (.int v))) (pm_hp L true t I' J) := fun I' v w hv => by
          rw [hv]; exact cw_e w hk
        refine e_X10_punched (gCy hS.1.2.2.1 h1 (kb_X10_punched_5 (gWy (by omega) h2 (kb_X10_punched_10 (cw_copy ho (cw_0 hS) fun I3 w3 f3 c3 => kb_X10_punched_21 ?_)))))
        rw [w3.1.1.2.1]
        refine S_begin (by omega) fun I4 f4 s4 p4 => kb_X10_punched_35 ?_
        have w4 : cw A t J I I4 := cw_fr w3 f4 (fun a ha => by simp at ha; exact ⟨qs_lo (by omega), by omega, by omega⟩)
        have c4 : cW 27 (sW A) I4 := cW_fr c3 f4 (by decide) (by decide) (by decide) (by decide)
        have loop : ∀ (j i : Nat) (I' : Nat → Nat → Int32) (V : Wk), i + j = 8 → cw A t J I I' → cW 27 V I' → (∀ h, wHo V c h = wHo (sW A) c h) → I' 9 2 = al (tN (sT A)) → (∀ i, i < 8 → I' 10 i = pt (tN (sT A)) i) → (∀ k, k < i → I' 11 k = mk (gP A c (pt (tN (sT A)) k)) (tN (sT A))) → t_X10_punched_37 58 L true t Q (nI c) (nI u) (nI i) I' J := by
          intro j
          induction j with
          | zero =>
            intro i I' V hi h' hV eV s' p' g'
            obtain rfl : i = 8 := by omega
            refine b_X10_punched_37 (q_t (nI_le (by omega) (by omega)) (q_ne (by omega) (by omega) (fun q => ?_) (fun q => ?_)))
            · exact S_leastPassing (by omega) (gP_loc ho c) ⟨s', fun i hi => ⟨p' i hi, g' i hi⟩⟩ (kb_X10_punched_115 (fin I' _ h' (by rw [if_neg q])))
            · exact S_countPassing (by omega) (gP_loc ho c) ⟨s', fun i hi => ⟨p' i hi, g' i hi⟩⟩ (kb_X10_punched_105 (b_X10_punched_115 (fin I' _ h' (by rw [if_pos q]))))
          | succ j ih =>
            intro i I' V hi h' hV eV s' p' g'
            refine b_X10_punched_37 (q_f (nI_ge (by omega) (by omega)) ?_)
            rw [nI_clamp (by omega), nI_clamp (by omega), p' i (by omega)]
            have hV2 : cW 27 (wHo (sW A) c (pt (tN (sT A)) i)) (pm_u I' 28 c (pt (tN (sT A)) i)) := by rw [← eV]; exact cW_ho hV
            refine ⟨vp_in_nI (by omega) (by omega), vp_in_nI (by omega) (by omega), cw_notAsSeen ho (cw_u h' (qs_lo (by omega)) (by omega) (by omega)) (Or.inr rfl) hV2 (okP ho) rfl fun I5 w5 f5 => kb_X10_punched_84 ?_⟩
            have e5 : ∀ a, a = 9 ∨ a = 10 ∨ a = 11 → I5 a = I' a := fun a ha => by rw [f5 a (by cases t <;> simp [pm_td] <;> omega), pm_ua (by omega)]
            have c5 : cW 27 (wHo (sW A) c (pt (tN (sT A)) i)) I5 := cW_fr hV2 f5 (by cases t <;> simp [pm_td]) (by cases t <;> simp [pm_td]) (by cases t <;> simp [pm_td]) (by cases t <;> simp [pm_td])
            have e12 : (pm_u I' 28 c (pt (tN (sT A)) i)) (pm_td t) 12 = al (tN (sT A)) := by rw [pm_ua (by have := td_or t; omega)]; exact h'.1.1.2.1
            rw [show I' (pm_td t) 12 = al (tN (sT A)) from h'.1.1.2.1, nI_clamp (by omega), nI_add]
            refine ⟨vp_in_nI (by omega) (by omega), ih (i + 1) _ _ (by omega) (cw_u w5 (qs_lo (by omega)) (by omega) (by omega)) (cW_fr c5 (fr_u (S := [11]) (by simp) fr_r) (by decide) (by decide) (by decide) (by decide)) (fun h => wHo2 _ _ _ _) ?_ (fun k hk' => ?_) (fun k hk' => ?_)⟩
            · rw [pm_ua (by decide), e5 9 (by omega)]; exact s'
            · rw [pm_ua (by decide), e5 10 (by omega)]; exact p' k hk'
            · by_cases e : k = i
              · rw [e, pm_us]
                refine al_not (by omega) fun v hv => ?_
                rw [bt_mk (by omega) (by omega)]
                unfold gP
                simp
              · rw [pm_uk e, e5 11 (by omega)]; exact g' k (by omega)
        exact loop 8 0 I4 (sW A) (by omega) w4 c4 (fun _ => rfl) s4 p4 (fun k h => absurd h (by omega))
      · intro L fz t I J Q hS hk
        have hw := mw_0 ho hS
        have h2p := two_12 (n := tN (sT A)) (by omega)
        refine e_X11_punched (mCy hw h1 (kb_X11_punched_10 (q_f nI_01 (mWy hw (by omega) h2 (kb_X11_punched_19 (q_t' nI_01 ?_))))))
        have loop : ∀ (j i : Nat) (I' : Nat → Nat → Int32), i + j = 2 ^ tN (sT A) → mw A I I' → t_X11_punched_32 59 L fz t Q (nI c) (nI u) (nI (cn (gH (tN (sT A)) (gP A c)) i)) (oI (ff (gH (tN (sT A)) (gP A c)) i 0)) (nI i) I' J := by
          intro j
          induction j with
          | zero =>
            intro i I' hi h'
            obtain rfl : i = 2 ^ tN (sT A) := by omega
            refine b_X11_punched_32 (S_all h'.1.1 (kb_X11_punched_38 ?_))
            rw [al_nI _ (by omega)]
            refine q_t (nI_lt (by omega) (by omega)) (q_ne (by omega) (by omega) (fun q => ?_) (fun q => ?_))
            · exact mw_e h' hk ⟨_, fun _ => by rw [if_neg q], rfl⟩
            · exact mw_e h' hk ⟨_, fun _ => by rw [if_pos q], rfl⟩
          | succ j ih =>
            intro i I' hi h'
            refine b_X11_punched_32 (S_all h'.1.1 (kb_X11_punched_38 ?_))
            rw [al_nI _ (by omega)]
            refine q_f (nI_nlt (by omega) (by omega)) (mw_tries ho h' fun I3 w3 f3 r3 => kb_X11_punched_45 ?_)
            rw [nI_add, nI_clamp (by omega)]
            have r4 : mR (pm_u I3 103 (36 + c) (nI i) 103) 34 (tM (sT A)) (wHo (sW A) c (nI i)) := mR_ho (b := 34) r3 hm h12 (by omega)
            refine ⟨vp_in_nI (by omega) (by omega), mw_isSeen ho (mw_u ho w3 (by omega)) r4 (okH ho (by omega)) rfl fun I5 w5 f5 => kb_X11_punched_60 ?_⟩
            have nx := ih (i + 1) I5 (by omega) w5
            rw [← gP_iff ho, nI_add, nI_add]
            refine q_b0' (fun z => ?_) (fun z => ?_)
            · rw [cn, z] at nx
              cases hff : ff (gH (tN (sT A)) (gP A c)) i 0 with
              | none =>
                rw [ff_sn_t hff z] at nx
                exact q_f' rfl nx
              | some k =>
                rw [ff_sn_s hff] at nx
                have hk4 := (ff_some hff).2.1
                exact q_t' (nI_ne_m1 (by omega)) nx
            · rw [ff_sn_f z, cn, z] at nx; exact nx
        exact loop (2 ^ tN (sT A)) 0 _ (by omega) hw
    | false =>
      refine ⟨1, by decide, 0, ?_, ?_⟩
      · intro L fz t I J Q hS hk
        exact e_X10_punched (gCy hS.1.2.2.1 h1 (kb_X10_punched_5 (gWn (by omega) h2 (cS_r hS hk))))
      · intro L fz t I J Q hS hk
        have hw := mw_0 ho hS
        exact e_X11_punched (mCy hw h1 (kb_X11_punched_10 (q_f nI_01 (mWn hw (by omega) h2 (kb_X11_punched_19 (q_f' rfl (mw_x ho hw hk (pv_e (by omega)))))))))
  | false =>
    refine ⟨1, by decide, 0, ?_, ?_⟩
    · intro L fz t I J Q hS hk
      exact e_X10_punched (gCn hS.1.2.2.1 h1 (cS_r hS hk))
    · intro L fz t I J Q hS hk
      exact e_X11_punched (mCn (mw_0 ho hS) h1 (kb_X11_punched_10 (q_t rfl (mw_x ho (mw_0 ho hS) hk (pv_e (by omega))))))
end Ops
