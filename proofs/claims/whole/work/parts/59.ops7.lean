/-! when to cut -/
def ct (cost : Nat) : Nat → Nat → Nat
  | 0, _ => 0
  | k + 1, w => min (w + ct cost k (min (w + 1) 9)) (cost + ct cost k 1)
theorem ct_le (cost : Nat) : ∀ k w, w ≤ 9 → ct cost k w ≤ 9 * k
  | 0, _, _ => Nat.le_refl _
  | k + 1, w, h => by
    have := ct_le cost k (min (w + 1) 9) (by omega)
    rw [ct]; omega
def tcA (n wear cost what : Nat) : Int32 := if what = 0 then nI (ct cost n wear) else bz (decide (cost + ct cost (n - 1) 1 < wear + ct cost (n - 1) (min (wear + 1) 9)))
section Spec
variable {d L : Nat} {fz t : Bool} {Q : pm_R → pm_H → Prop} {I I0 : Nat → Nat → Int32} {J : Nat → Nat → Int64} {A : St}
theorem S_within1 {x : Int32} (hq : Q (.inl (some (.int (bz (inS x 1))))) (pm_hp L fz t I J)) : pm_Ev (d + 1) 119 [.int x, .int (nI 1), .int (nI 30)] (pm_hp L fz t I J) Q := by
  unfold inS at hq
  refine e_X11_within ⟨fun h => ?_, fun h => ⟨fun h1 => ?_, fun h1 => ?_⟩⟩
  · rw [decide_eq_false (fun q => q.1 h)] at hq; exact hq
  · rw [decide_eq_false (fun q => q.2 h1)] at hq; exact hq
  · rw [decide_eq_true ⟨h, h1⟩] at hq; exact hq
theorem cw_addSunday {cost k : Nat} (h : cw A t J I0 I) (hc : cost ≤ 50) (hk : k ≤ 30) (h22 : ∀ w, w ≤ 9 → I 22 w = nI (ct cost k w)) (hq : ∀ I', cw A t J I0 I' → (∀ w, w ≤ 9 → I' 22 w = nI (ct cost (k + 1) w)) → Q (.inl none) (pm_hp L fz t I' J)) : pm_Ev (d + 1) 108 [.ref 0, .int (nI cost)] (pm_hp L fz t I J) Q := by
  have l1 := ct_le cost k 1 (by omega)
  have loop : ∀ (j i : Nat) (I' : Nat → Nat → Int32), i + j = 10 → cw A t J I0 I' → (∀ w, w ≤ 9 → I' 22 w = nI (if w < i then ct cost (k + 1) w else ct cost k w)) → t_X10_addSundayToCosts_11 d L fz t Q (nI (cost + ct cost k 1)) (nI i) I' J := by
    intro j
    induction j with
    | zero =>
      intro i I' hi h' h2
      obtain rfl : i = 10 := by omega
      refine b_X10_addSundayToCosts_11 (q_t (nI_lt (by omega) (by omega)) (hq I' h' fun w hw => ?_))
      rw [h2 w hw, if_pos (by omega)]
    | succ j ih =>
      intro i I' hi h' h2
      have l2 := ct_le cost k (min (i + 1) 9) (by omega)
      refine b_X10_addSundayToCosts_11 (q_f (nI_nlt (by omega) (by omega)) ?_)
      have e2 := h2 (min (i + 1) 9) (by omega)
      rw [if_neg (by omega)] at e2
      rw [nI_add, min_c (by omega) (by omega), nI_clamp (by omega), nI_clamp (by omega), e2, nI_add, min_c (by omega) (by omega)]
      refine ⟨vp_in_nI (by omega) (by omega), vp_in_nI (by omega) (by omega), ih (i + 1) _ (by omega) (cw_u h' (qs_lo (by omega)) (by omega) (by omega)) fun w hw => ?_⟩
      by_cases e : w = i
      · rw [e, pm_us, if_pos (by omega)]; rfl
      · rw [pm_uk e, h2 w hw]
        by_cases q : w < i
        · rw [if_pos q, if_pos (by omega)]
        · rw [if_neg q, if_neg (by omega)]
  refine e_X10_addSundayToCosts ?_
  rw [h22 1 (by omega), nI_add]
  exact loop 10 0 I (by omega) h (fun w hw => by rw [if_neg (by omega)]; exact h22 w hw)
end Spec
section Ops
variable {A : St}
theorem op_toCut (ho : ok A) (x y z v : Int32) : op2 270 216 [.int x, .int y, .int z, .int v] A 1 := by
  cases h1 : inR v 2 with
  | true =>
    obtain ⟨u, hu, rfl⟩ := inR_t (by omega) h1
    cases hg : (inS x 1 && (inR y 10 && inR z 51)) with
    | true =>
      rw [Bool.and_eq_true, Bool.and_eq_true] at hg
      obtain ⟨g1, g2, g3⟩ := hg
      have g1' := g1
      have g2' := g2
      have g3' := g3
      obtain ⟨n, hn1, hn, rfl⟩ := inS_t (by omega) g1
      obtain ⟨w, hw, rfl⟩ := inR_t (by omega) g2
      obtain ⟨cost, hcost, rfl⟩ := inR_t (by omega) g3
      refine ⟨0, by decide, tcA n w cost u, ?_, ?_⟩
      · intro L fz t I J Q hS hk
        refine e_X10_toCut (gWy (by omega) h1 (kb_X10_toCut_6 ?_))
        refine q_f (nI_nlt (by omega) (by omega)) (q_f (nI_nlt (by omega) (by omega)) (q_f (nI_nlt (by omega) (by omega)) (q_f (nI_nlt (by omega) (by omega)) (q_f (nI_nlt (by omega) (by omega)) (q_t (nI_le (by omega) (by omega)) ?_)))))
        refine S_fill (a0 := 22) (n0 := 10) (by omega) fun I1 f1 c1 => kb_X10_toCut_56 ?_
        have w1 : cw A t J I I1 := cw_fr (cw_0 hS) f1 (fun a ha => by simp at ha; exact ⟨qs_lo (by omega), by omega, by omega⟩)
        have loop : ∀ (j i : Nat) (I' : Nat → Nat → Int32), i + 1 + j = n → cw A t J I I' → (∀ w, w ≤ 9 → I' 22 w = nI (ct cost i w)) → t_X10_toCut_59 58 L true t Q (nI n) (nI w) (nI cost) (nI u) (nI (i + 1)) I' J := by
          intro j
          induction j with
          | zero =>
            intro i I' hi h' h2
            obtain rfl : n = i + 1 := by omega
            have l1 := ct_le cost i 1 (by omega)
            have l2 := ct_le cost i (min (w + 1) 9) (by omega)
            refine b_X10_toCut_59 (q_t (nI_le (by omega) (by omega)) ?_)
            rw [nI_add, min_c (by omega) (by omega), nI_clamp (by omega), h2 1 (by omega), h2 (min (w + 1) 9) (by omega), nI_add, nI_add, min_c (by omega) (by omega)]
            have fin := cw_e (fz' := true) h' hk
            unfold tcA at fin
            refine ⟨vp_in_nI (by omega) (by omega), q_ne (by omega) (by omega) (fun q => q_le (by omega) (by omega) (fun q2 => ?_) (fun q2 => ?_)) (fun q => ?_)⟩
            · rw [if_neg q, show i + 1 - 1 = i by omega, decide_eq_false (by omega)] at fin; exact fin
            · rw [if_neg q, show i + 1 - 1 = i by omega, decide_eq_true (by omega)] at fin; exact fin
            · rw [if_pos q] at fin; exact fin
          | succ j ih =>
            intro i I' hi h' h2
            refine b_X10_toCut_59 (q_f (nI_ge (by omega) (by omega)) (cw_addSunday h' (by omega) (by omega) h2 fun I2 w2 c2 => kb_X10_toCut_70 ?_))
            rw [nI_add]
            exact ih (i + 1) I2 (by omega) w2 c2
        exact loop (n - 1) 0 I1 (by omega) w1 (fun w hw => c1 w (by omega))
      · intro L fz t I J Q hS hk
        have hw0 := mw_0 ho hS
        refine e_X11_toCut (mWy hw0 (by omega) h1 (kb_X11_toCut_12 (q_f nI_01 (S_within1 (kb_X11_toCut_23 ?_)))))
        rw [g1']
        refine q_f nI_01 (S_within (m := 9) (by omega) (kb_X11_toCut_33 ?_))
        rw [g2']
        refine q_f nI_01 (S_within (m := 50) (by omega) (kb_X11_toCut_43 ?_))
        rw [g3']
        refine q_f nI_01 (S_right1 hw0.2.2 (by omega) (kb_X11_toCut_55 (q_t' nI_01 ?_)))
        have u112 : ∀ I' k v, mw A I I' → mw A I (pm_u I' 112 k v) := fun I' k v h' => mw_f ho h' (mq_w (S := [112]) (fr_u (by simp) fr_r) (by simp)) (by rw [pm_ua (by omega)]; exact h'.2.2)
        -- rows
        have rows : ∀ (j k : Nat) (I' : Nat → Nat → Int32), k + j = n + 1 → 1 ≤ k → mw A I I' → (∀ k' w', k' < k → w' ≤ 9 → I' 112 (10 * k' + w') = nI (ct cost k' w')) → t_X11_toCut_90 59 L fz t Q (nI n) (nI w) (nI cost) (nI u) (bz (decide (n < k) && decide (cost + ct cost (n - 1) 1 < w + ct cost (n - 1) (min (w + 1) 9)))) (nI k) I' J := by
          intro j
          induction j with
          | zero =>
            intro k I' hk' hk1 h' hc
            obtain rfl : k = n + 1 := by omega
            refine b_X11_toCut_90 (q_t (nI_lt (by omega) (by omega)) ?_)
            rw [pk_mul, nI_add, nI_clamp (by omega), hc n w (by omega) (by omega), decide_eq_true (by omega : n < n + 1), Bool.true_and]
            refine q_ne (by omega) (by omega) (fun q => ?_) (fun q => ⟨vp_in_nI (by omega) (by omega), mw_e h' hk ⟨_, fun _ => by unfold tcA; rw [if_pos q], rfl⟩⟩)
            refine q_b0 (fun q2 => ?_) (fun q2 => ?_)
            · exact mw_e h' hk ⟨_, fun _ => by unfold tcA; rw [if_neg q, q2]; rfl, rfl⟩
            · exact mw_e h' hk ⟨_, fun _ => by unfold tcA; rw [if_neg q, q2]; rfl, rfl⟩
          | succ j ih =>
            intro k I' hk' hk1 h' hc
            refine b_X11_toCut_90 (q_f (nI_nlt (by omega) (by omega)) ?_)
            rw [decide_eq_false (by omega : ¬ n < k), Bool.false_and]
            have inner : ∀ (j' i : Nat) (I' : Nat → Nat → Int32), i + j' = 10 → mw A I I' → (∀ k' w', k' < k → w' ≤ 9 → I' 112 (10 * k' + w') = nI (ct cost k' w')) → (∀ w', w' < i → I' 112 (10 * k + w') = nI (ct cost k w')) → t_X11_toCut_99 59 L fz t Q (nI n) (nI w) (nI cost) (nI u) (bz ((decide (n = k) && decide (w < i)) && decide (cost + ct cost (n - 1) 1 < w + ct cost (n - 1) (min (w + 1) 9)))) (nI k) (nI i) I' J := by
              intro j'
              induction j' with
              | zero =>
                intro i I' hi h' hc hr
                obtain rfl : i = 10 := by omega
                refine b_X11_toCut_99 (q_t (nI_lt (by omega) (by omega)) ?_)
                rw [nI_add]
                have := ih (k + 1) I' (by omega) (by omega) h' (fun k' w' h1 h2 => by
                  by_cases e : k' = k
                  · rw [e]; exact hr w' (by omega)
                  · exact hc k' w' (by omega) h2)
                have e : (decide (n = k) && decide (w < 10)) = decide (n < k + 1) := by
                  rw [decide_eq_true (by omega : w < 10), Bool.and_true]
                  exact decide_eq_decide.mpr (by omega)
                rw [e]; exact this
              | succ j' ih' =>
                intro i I' hi h' hc hr
                have l1 := ct_le cost (k - 1) 1 (by omega)
                have l2 := ct_le cost (k - 1) (min (i + 1) 9) (by omega)
                have ek : k - 1 + 1 = k := by omega
                have hck : ct cost k i = min (i + ct cost (k - 1) (min (i + 1) 9)) (cost + ct cost (k - 1) 1) := by
                  have : ct cost (k - 1 + 1) i = min (i + ct cost (k - 1) (min (i + 1) 9)) (cost + ct cost (k - 1) 1) := rfl
                  rw [ek] at this; exact this
                refine b_X11_toCut_99 (q_f (nI_nlt (by omega) (by omega)) ?_)
                rw [nI_add]
                refine S_lesser (by omega) (by omega) (kb_X11_toCut_128 ?_)
                rw [Nat.min_comm 9 (i + 1), pk_sub (by omega), pk_mul, pk_mul, nI_add, nI_add, nI_add, nI_clamp (by omega), nI_clamp (by omega), hc (k - 1) (min (i + 1) 9) (by omega) (by omega), hc (k - 1) 1 (by omega) (by omega), nI_add, nI_add]
                refine ⟨vp_in_nI (by omega) (by omega), vp_in_nI (by omega) (by omega), S_lesser (by omega) (by omega) (kb_X11_toCut_170 ?_)⟩
                rw [nI_clamp (by omega), nI_add, ← hck]
                have nx := fun b (hb : b = ((decide (n = k) && decide (w < i + 1)) && decide (cost + ct cost (n - 1) 1 < w + ct cost (n - 1) (min (w + 1) 9)))) => (show t_X11_toCut_99 59 L fz t Q (nI n) (nI w) (nI cost) (nI u) (bz b) (nI k) (nI (i + 1)) (pm_u I' 112 (10 * k + i) (nI (ct cost k i))) J by
                  rw [hb]
                  refine ih' (i + 1) _ (by omega) (u112 I' _ _ h') (fun k' w' h1 h2 => ?_) (fun w' h1 => ?_)
                  · rw [pm_uk (by omega)]; exact hc k' w' h1 h2
                  · by_cases e : w' = i
                    · rw [e, pm_us]
                    · rw [pm_uk (by omega)]; exact hr w' (by omega))
                refine ⟨vp_in_nI (by omega) (by omega), q_ne (by omega) (by omega) (fun q => ?_) (fun q => q_ne (by omega) (by omega) (fun q2 => ?_) (fun q2 => q_le (by omega) (by omega) (fun q3 => ?_) (fun q3 => ?_)))⟩
                · refine nx _ ?_
                  rw [decide_eq_false (by omega : ¬ n = k)]; simp
                · refine nx _ ?_
                  rw [show decide (w < i) = decide (w < i + 1) from decide_eq_decide.mpr (by omega)]
                · refine nx false ?_
                  rw [show n - 1 = k - 1 by omega, ← q2, decide_eq_false (by omega : ¬ (cost + ct cost (k - 1) 1 < i + ct cost (k - 1) (min (i + 1) 9))), Bool.and_false]
                · refine nx true ?_
                  rw [show n - 1 = k - 1 by omega, ← q2, decide_eq_true (by omega : n = k), decide_eq_true (by omega : i < i + 1), decide_eq_true (by omega)]; rfl
            have := inner 10 0 I' (by omega) h' hc (fun w' h => absurd h (by omega))
            rw [decide_eq_false (by omega : ¬ w < 0), Bool.and_false, Bool.false_and] at this
            exact this
        have first : ∀ (j i : Nat) (I' : Nat → Nat → Int32), i + j = 10 → mw A I I' → (∀ w', w' < i → I' 112 w' = nI 0) → t_X11_toCut_66 59 L fz t Q (nI n) (nI w) (nI cost) (nI u) (nI 0) (nI i) I' J := by
          intro j
          induction j with
          | zero =>
            intro i I' hi h' hc
            obtain rfl : i = 10 := by omega
            refine b_X11_toCut_66 (q_t (nI_lt (by omega) (by omega)) ?_)
            have := rows n 1 I' (by omega) (by omega) h' (fun k' w' h1 h2 => by
              rw [show k' = 0 by omega, show 10 * 0 + w' = w' by omega]; exact hc w' (by omega))
            rw [decide_eq_false (by omega : ¬ n < 1), Bool.false_and] at this
            exact this
          | succ j ih =>
            intro i I' hi h' hc
            refine b_X11_toCut_66 (q_f (nI_nlt (by omega) (by omega)) ?_)
            rw [nI_clamp (by omega), nI_add]
            refine ⟨vp_in_nI (by omega) (by omega), ih (i + 1) _ (by omega) (u112 I' _ _ h') (fun w' h => ?_)⟩
            by_cases e : w' = i
            · rw [e, pm_us]
            · rw [pm_uk e]; exact hc w' (by omega)
        exact first 10 0 _ (by omega) hw0 (fun w' h => absurd h (by omega))
    | false =>
      refine ⟨2, by decide, 0, ?_, ?_⟩
      · intro L fz t I J Q hS hk
        refine e_X10_toCut (gWy (by omega) h1 (kb_X10_toCut_6 ?_))
        have E : Q (.inr 2) (pm_hp L true t I J) := cS_r hS hk
        refine ⟨fun _ => E, fun a => ⟨fun _ => E, fun b => ⟨fun _ => E, fun c => ⟨fun _ => E, fun e => ⟨fun _ => E, fun f => ⟨fun g => ?_, fun _ => E⟩⟩⟩⟩⟩⟩
        exfalso
        have g1 : inS x 1 = true := decide_eq_true ⟨a, b⟩
        have g2 : inR y 10 = true := inR_in c (fun q => e ((le_of_lt_S (m := 9) (by omega)).mp q))
        have g3 : inR z 51 = true := inR_in f (fun q => nlt_le.mpr g ((le_of_lt_S (m := 50) (by omega)).mp q))
        rw [g1, g2, g3] at hg; cases hg
      · intro L fz t I J Q hS hk
        have hw0 := mw_0 ho hS
        have bad : pm_Ev 59 118 [.ref 85, .int (nI 0), .int (nI 2)] (pm_hp L fz t (pm_u I 85 0 (nI 0)) J) (K_X11_toCut_55 59 fz t Q x y z (nI u)) := S_right0 hw0.2.2 (by omega) (kb_X11_toCut_55 (q_f' rfl (mw_x ho hw0 hk (pv_e (by omega)))))
        refine e_X11_toCut (mWy hw0 (by omega) h1 (kb_X11_toCut_12 (q_f nI_01 (S_within1 (kb_X11_toCut_23 (q_b0 (fun _ => bad) (fun q1 => ?_)))))))
        refine S_within (m := 9) (by omega) (kb_X11_toCut_33 (q_b0 (fun _ => bad) (fun q2 => ?_)))
        refine S_within (m := 50) (by omega) (kb_X11_toCut_43 (q_b0 (fun _ => bad) (fun q3 => ?_)))
        rw [q1, show inR y 10 = true from q2, show inR z 51 = true from q3] at hg; cases hg
  | false =>
    refine ⟨1, by decide, 0, ?_, ?_⟩
    · intro L fz t I J Q hS hk
      exact e_X10_toCut (gWn (by omega) h1 (cS_r hS hk))
    · intro L fz t I J Q hS hk
      exact e_X11_toCut (mWn (mw_0 ho hS) (by omega) h1 (kb_X11_toCut_12 (q_t rfl (mw_x ho (mw_0 ho hS) hk (pv_e (by omega))))))
/-! Sundays by a seed -/
def sd (x : Int32) : Int32 := (x * nI 1103515245) + nI 12345
def dz (x : Int32) : Nat := ((x >>> (nI 16 &&& 31)) &&& nI 32767).toBitVec.toNat
theorem b_32767 (i : Nat) : bt (nI 32767) i = decide (i < 15) := by
  rcases Nat.lt_or_ge i 32 with h | h
  · exact (by decide +kernel : ∀ i, i < 32 → bt (nI 32767) i = decide (i < 15)) i h
  · rw [b_big h, decide_eq_false (by omega)]
theorem dz_sm (x : Int32) : sm ((x >>> (nI 16 &&& 31)) &&& nI 32767) 15 := sm_and' fun i hi => by rw [b_32767, decide_eq_false (by omega)]
theorem dz_lt (x : Int32) : dz x < 32768 := by
  obtain ⟨m, hm, e⟩ := sm_of (dz_sm x) (by omega)
  unfold dz
  rw [e, pk_tn (by omega)]; exact hm
theorem dz_s (x : Int32) : (x >>> (nI 16 &&& 31)) &&& nI 32767 = nI (dz x) := by
  unfold dz
  apply Int32.toBitVec_inj.1
  show _ = BitVec.ofNat 32 _
  simp
theorem dz_u (x : Int32) : (x.toUInt32 >>> ((nI 16).toUInt32 &&& Int32.toUInt32 31)).toInt32 &&& nI 32767 = nI (dz x) := by
  rw [← dz_s]
  refine b_ext fun i hi => ?_
  rw [b_and, b_and, b_32767, b_ushr 16 (by omega), b_sshr 16 (by omega) x hi]
  by_cases q : i < 15
  · rw [if_pos (by omega)]
  · rw [decide_eq_false q, Bool.and_false, Bool.and_false]
def bef (T : Td) (s : Int32) (V : Wk) : Int32 × Wk :=
  if tM T = 0 then (s, V) else
    if dz (sd (sd s)) % 4 = 0 then (sd (sd (sd s)), wHo V (dz (sd s) % tM T) (wo V (dz (sd s) % tM T) ^^^ pw (dz (sd (sd (sd s))) % tN T)))
    else if dz (sd (sd s)) % 4 = 1 then (sd (sd s), wHo V (dz (sd s) % tM T) (tu (tN T) (wo V (dz (sd s) % tM T))))
    else if dz (sd (sd s)) % 4 = 2 then (sd (sd s), wWe V (dz (sd s) % tM T) 0)
    else (sd (sd s), V)
def dn (T : Td) (s : Int32) (W : Wk) : Nat → Int32 × Wk
  | 0 => (s, W)
  | i + 1 => ((bef T (dn T s W i).1 (dn T s W i).2).1, sun T (bef T (dn T s W i).1 (dn T s W i).2).2)
theorem bef_ok {T : Td} (oT : okT T) {s : Int32} {V : Wk} (h : okW T V) : okW T (bef T s V).2 ∧ wp (bef T s V).2 = wp V := by
  have hn := oT.1
  have hm := oT.2.1
  unfold bef
  split
  · exact ⟨h, rfl⟩
  · rename_i h0
    have hc : dz (sd s) % tM T < tM T := Nat.mod_lt _ (by omega)
    have hu : dz (sd (sd (sd s))) % tN T < tN T := Nat.mod_lt _ (by omega)
    split
    · exact ⟨okW_ho h (sm_xor (h.1 _ (by omega)) (sm_pw hu (by omega))), rfl⟩
    · split
      · exact ⟨okW_ho h (sm_tu (by omega) _), rfl⟩
      · split
        · exact ⟨okW_we h (by omega), rfl⟩
        · exact ⟨h, rfl⟩
theorem dn_ok {T : Td} (oT : okT T) {s : Int32} {W : Wk} (h : okW T W) : ∀ i, okW T (dn T s W i).2 ∧ wp (dn T s W i).2 = wp W
  | 0 => ⟨h, rfl⟩
  | i + 1 => by
    have ih := dn_ok oT (s := s) h i
    have hb := bef_ok oT (s := (dn T s W i).1) ih.1
    exact ⟨okW_sun hb.1, hb.2.trans ih.2⟩
def sW' (V : Wk) : Nat → Nat
  | 0 => 0
  | c + 1 => sW' V c + ww V c
def sU (R : Nat → Int32) : Nat → Nat
  | 0 => 0
  | k + 1 => sU R k + pc (R k)
def drA (T : Td) (V : Wk) (u : Nat) : Int32 := if u = 0 then wg V else if u = 1 then nI (sW' V (tM T)) else nI (sU (clR T V) (wp V))
section Spec
variable {d L : Nat} {fz t : Bool} {Q : pm_R → pm_H → Prop} {I I0 : Nat → Nat → Int32} {J : Nat → Nat → Int64} {V : Wk}
theorem S_drawOf {s : Int32} {n : Nat} (h0 : 0 < n) (hn : n < 2 ^ 31) (hq : Q (.inl (some (.int (nI (dz s % n))))) (pm_hp L fz t I J)) : pm_Ev (d + 1) 113 [.int s, .int (nI n)] (pm_hp L fz t I J) Q := by
  refine e_X10_drawOf (q_t (nI_le (by omega) (by omega)) ⟨nI_ne0 h0 hn, ?_⟩)
  have := dz_lt s
  rw [dz_u, pk_rem (by omega) h0 hn]
  exact hq
theorem S_stepped {s : Int32} (hq : Q (.inl (some (.int (sd s)))) (pm_hp L fz t I J)) : pm_Ev (d + 1) 112 [.int s] (pm_hp L fz t I J) Q := e_X10_stepped hq
theorem cw_befall {s : Int32} (ho : ok A) (h : cw A t J I0 I) (hV : cW 27 V I) (oV : okW (sT A) V) (hq : ∀ I', cw A t J I0 I' → cW 27 (bef (sT A) s V).2 I' → Q (.inl (some (.int (bef (sT A) s V).1))) (pm_hp L fz t I' J)) : pm_Ev (d + 2) 114 [.ref 0, .int s] (pm_hp L fz t I J) Q := by
  have hm := ho.1.2.1
  have hn := ho.1.1
  unfold bef at hq
  refine e_X10_befall ?_
  rw [h.1.1.2.2.1]
  refine q_le (by omega) (by omega) (fun h0 => ?_) (fun h0 => ?_)
  · rw [if_neg (by omega)] at hq
    have hc : dz (sd s) % tM (sT A) < tM (sT A) := Nat.mod_lt _ (by omega)
    have h4 : dz (sd (sd s)) % 4 < 4 := Nat.mod_lt _ (by omega)
    refine S_stepped (kb_X10_befall_17 ?_)
    rw [h.1.1.2.2.1]
    refine S_drawOf (by omega) (by omega) (kb_X10_befall_29 (S_stepped (kb_X10_befall_34 (S_drawOf (by omega) (by omega) (kb_X10_befall_40 ?_)))))
    refine q_ne (by omega) (by omega) (fun a => ?_) (fun a => ?_)
    · rw [if_neg a] at hq
      refine q_ne (by omega) (by omega) (fun b => ?_) (fun b => ?_)
      · rw [if_neg b] at hq
        refine q_ne (by omega) (by omega) (fun c => ?_) (fun c => ?_)
        · rw [if_neg c] at hq; exact hq I h hV
        · rw [if_pos c] at hq
          change vp_in (nI (dz (sd s) % tM (sT A))) 10 ∧ Q _ (pm_hp L fz t (pm_u I 29 (nI (dz (sd s) % tM (sT A))).toNatClampNeg (nI 0)) J)
          rw [nI_clamp (by omega)]
          exact ⟨vp_in_nI (by omega) (by omega), hq _ (cw_u h (qs_lo (by omega)) (by omega) (by omega)) (cW_we hV)⟩
      · rw [if_pos b] at hq
        change vp_in (nI (dz (sd s) % tM (sT A))) 10 ∧ pm_Ev _ 71 [.ref (pm_td t), .int (I 28 (nI (dz (sd s) % tM (sT A))).toNatClampNeg)] _ _
        rw [nI_clamp (by omega), hV.2.2.2.1 _ (by omega)]
        refine ⟨vp_in_nI (by omega) (by omega), S_turned (td_or t) h.1.1.1 (by omega) (kb_X10_befall_110 ?_)⟩
        change vp_in (nI (dz (sd s) % tM (sT A))) 10 ∧ Q _ (pm_hp L fz t (pm_u I 28 (nI (dz (sd s) % tM (sT A))).toNatClampNeg _) J)
        rw [nI_clamp (by omega)]
        exact ⟨vp_in_nI (by omega) (by omega), hq _ (cw_u h (qs_lo (by omega)) (by omega) (by omega)) (cW_ho hV)⟩
    · rw [if_pos a] at hq
      refine S_stepped (kb_X10_befall_51 ?_)
      change vp_in (nI (dz (sd s) % tM (sT A))) 10 ∧ _
      rw [h.1.1.1]
      refine ⟨vp_in_nI (by omega) (by omega), S_drawOf (by omega) (by omega) (kb_X10_befall_74 ?_)⟩
      change vp_in (nI (dz (sd s) % tM (sT A))) 10 ∧ Q _ (pm_hp L fz t (pm_u I 28 (nI (dz (sd s) % tM (sT A))).toNatClampNeg (I 28 (nI (dz (sd s) % tM (sT A))).toNatClampNeg ^^^ pw (dz (sd (sd (sd s))) % tN (sT A)))) J)
      rw [nI_clamp (by omega), hV.2.2.2.1 _ (by omega)]
      exact ⟨vp_in_nI (by omega) (by omega), hq _ (cw_u h (qs_lo (by omega)) (by omega) (by omega)) (cW_ho hV)⟩
  · rw [if_pos (by omega)] at hq
    exact hq I h hV
theorem mw_60 {v : Int32} (ho : ok A) (h : mw A I0 I) : mw A I0 (pm_u I 85 60 v) :=
  mw_f ho h ⟨fr_u (by decide) fr_r, fun j _ _ c => by rw [pm_uk c], fun k _ => by rw [pm_ua (by decide)]⟩ (by rw [pm_uk (by decide)]; exact h.2.2)
theorem S_draw {n : Nat} (h0 : 0 < n) (hn : n < 2 ^ 31) (hq : Q (.inl (some (.int (nI (dz (sd (I 85 60)) % n))))) (pm_hp L fz t (pm_u I 85 60 (sd (I 85 60))) J)) : pm_Ev (d + 1) 223 [.ref 85, .int (nI n)] (pm_hp L fz t I J) Q := by
  refine e_X11_draw ⟨nI_ne0 h0 hn, ?_⟩
  have := dz_lt (sd (I 85 60))
  change Q (.inl (some (.int (((sd (I 85 60) >>> (nI 16 &&& 31)) &&& nI 32767) - ((sd (I 85 60) >>> (nI 16 &&& 31)) &&& nI 32767) / nI n * nI n)))) _
  rw [dz_s, pk_rem (by omega) h0 hn]
  exact hq
theorem mw_happens (ho : ok A) (h : mw A I0 I) (hV : mR (I 103) 34 (tM (sT A)) V) (oV : okW (sT A) V) (h0 : 0 < tM (sT A)) (hq : ∀ I', mw A I0 I' → I' 85 60 = (bef (sT A) (I 85 60) V).1 → mR (I' 103) 34 (tM (sT A)) (bef (sT A) (I 85 60) V).2 → Q (.inl none) (pm_hp L fz t I' J)) : pm_Ev (d + 2) 224 [.ref 85] (pm_hp L fz t I J) Q := by
  have hm := ho.1.2.1
  have hn := ho.1.1
  have h12 := oV.2.2.2
  unfold bef at hq
  rw [if_neg (by omega)] at hq
  generalize hs : I 85 60 = s at hq
  have hc : dz (sd s) % tM (sT A) < tM (sT A) := Nat.mod_lt _ (by omega)
  have h4 : dz (sd (sd s)) % 4 < 4 := Nat.mod_lt _ (by omega)
  have w1 := mw_60 (v := sd s) ho h
  have w2 := mw_60 (v := sd (sd s)) ho w1
  have r2 : mR (pm_u (pm_u I 85 60 (sd s)) 85 60 (sd (sd s)) 103) 34 (tM (sT A)) V := by rw [pm_ua (by decide), pm_ua (by decide)]; exact hV
  refine e_X11_happens ?_
  rw [h.1.1.2.1]
  refine S_draw h0 (by omega) (kb_X11_happens_8 (S_draw (by omega) (by omega) (kb_X11_happens_14 ?_)))
  rw [hs, pm_us]
  refine q_ne (by omega) (by omega) (fun a => ?_) (fun a => ?_)
  · rw [if_neg a] at hq
    refine q_ne (by omega) (by omega) (fun b => ?_) (fun b => ?_)
    · rw [if_neg b] at hq
      refine q_ne (by omega) (by omega) (fun c => ?_) (fun c => ?_)
      · rw [if_neg c] at hq; exact hq _ w2 pm_us r2
      · rw [if_pos c] at hq
        rw [nI_add, nI_clamp (by omega)]
        refine ⟨vp_in_nI (by omega) (by omega), hq _ (mw_u ho w2 (by omega)) (by rw [pm_ua (by decide)]; exact pm_us) ?_⟩
        exact mR_we (b := 34) (v := 0) r2 hm h12 (by omega)
    · rw [if_pos b] at hq
      rw [nI_add, nI_clamp (by omega)]
      have hh := (r2.2.2.1 (dz (sd s) % tM (sT A)) hc).1
      refine ⟨vp_in_nI (by omega) (by omega), ?_⟩
      rw [hh]
      refine S_mturned w2.1.1.1 (by omega) (kb_X11_happens_66 ?_)
      rw [nI_clamp (by omega)]
      refine ⟨vp_in_nI (by omega) (by omega), hq _ (mw_u ho w2 (by omega)) (by rw [pm_ua (by decide)]; exact pm_us) ?_⟩
      exact mR_ho (b := 34) r2 hm h12 (by omega)
  · rw [if_pos a] at hq
    rw [nI_add, nI_clamp (by omega), w2.1.1.1]
    have hh := (r2.2.2.1 (dz (sd s) % tM (sT A)) hc).1
    refine ⟨vp_in_nI (by omega) (by omega), ?_⟩
    rw [hh]
    refine S_draw (by omega) (by omega) (kb_X11_happens_40 ?_)
    rw [pm_us, nI_clamp (by omega)]
    have w3 := mw_60 (v := sd (sd (sd s))) ho w2
    refine ⟨vp_in_nI (by omega) (by omega), hq _ (mw_u ho w3 (by omega)) (by rw [pm_ua (by decide)]; exact pm_us) ?_⟩
    have r3 : mR (pm_u (pm_u (pm_u I 85 60 (sd s)) 85 60 (sd (sd s))) 85 60 (sd (sd (sd s))) 103) 34 (tM (sT A)) V := by rw [pm_ua (by decide)]; exact r2
    exact mR_ho (b := 34) r3 hm h12 (by omega)
end Spec
end Ops
