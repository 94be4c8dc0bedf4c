/-! snarls -/
def cla (x : Int32) : Nat := if x < nI 0 then 0 else if nI 99 < x then 99 else x.toNatClampNeg
theorem cla_le (x : Int32) : cla x ≤ 99 := by
  unfold cla
  split
  · omega
  · split
    · omega
    · rename_i h0 h1
      obtain ⟨j, hj, rfl⟩ := nI_of h0
      rw [nI_ltI (by omega) hj] at h1
      rw [nI_clamp hj]; omega
theorem cla_mid {x : Int32} (h0 : ¬ x < nI 0) (h1 : ¬ nI 99 < x) : nI (cla x) = x := by
  unfold cla
  rw [if_neg h0, if_neg h1]
  obtain ⟨j, hj, rfl⟩ := nI_of h0
  rw [nI_clamp hj]
theorem cla_nI {n : Nat} (h : n ≤ 99) : cla (nI n) = n := by
  unfold cla
  rw [if_neg (nI_nlt (Nat.zero_le _) (by omega)), if_neg (nI_nlt (by omega) (by omega)), nI_clamp (by omega)]
theorem cla_c (r : Int32) : (if nI 0 < (if nI 99 < r then nI 99 else r) then (if nI 99 < r then nI 99 else r) else nI 0) = nI (cla r) := by
  by_cases h1 : nI 99 < r
  · rw [if_pos h1, if_pos (by decide)]
    unfold cla
    rw [if_neg (fun q => by
      rw [fa_lt] at *
      rw [nI_toInt (by omega)] at *
      omega), if_pos h1]
  · rw [if_neg h1]
    by_cases h0 : r < nI 0
    · rw [if_neg (fun q => by rw [fa_lt] at *; omega)]
      unfold cla
      rw [if_pos h0]
    · by_cases h2 : nI 0 < r
      · rw [if_pos h2, cla_mid h0 h1]
      · rw [if_neg h2]
        have e : r = nI 0 := by rw [fa_lt] at *; rw [fa_eq]; omega
        rw [e, cla_nI (by omega)]
def hvl (b : Nat) (al : Bool) (x y : Int32) : Nat → Int32 := fun v => if v = 0 then nI b else if v = 1 then bz al else if v = 2 then x else y
def snN (T : Td) (c d : Nat) (hc hd : Int32) : Nat := if tH T = [] then pc (hc &&& hd) * (decide (tW T c = tW T d)).toNat else cla (fw (tH T) (hvl (pc (hc &&& hd)) (decide (tW T c = tW T d)) (tW T c) (tW T d)))
theorem snN_le (T : Td) (c d : Nat) (hc hd : Int32) : snN T c d hc hd ≤ 99 := by
  unfold snN; split
  · have := pc_le (hc &&& hd)
    cases decide (tW T c = tW T d)
    · simp
    · simp only [Bool.toNat_true, Nat.mul_one]; omega
  · exact cla_le _
/-- two cards side by side -/
def sp (T : Td) (W : Wk) (c d : Nat) : Nat := snN T c d (eff T W c) (eff T W d)
theorem sp_le (T : Td) (W : Wk) (c d : Nat) : sp T W c d ≤ 99 := snN_le _ _ _ _ _
/-- a lace's snarl -/
def ls (T : Td) (W : Wk) (l : Nat → Nat) : Nat → Nat
  | 0 => 0
  | k + 1 => ls T W l k + sp T W (l k) (l (k + 1))
theorem ls_le (T : Td) (W : Wk) (l : Nat → Nat) : ∀ k, ls T W l k ≤ 99 * k
  | 0 => Nat.le_refl _
  | k + 1 => by have := ls_le T W l k; have := sp_le T W (l k) (l (k + 1)); rw [ls]; omega
theorem ls_congr {T : Td} {W : Wk} {l l' : Nat → Nat} : ∀ {k : Nat}, (∀ j, j ≤ k → l j = l' j) → ls T W l k = ls T W l' k
  | 0, _ => rfl
  | k + 1, h => by rw [ls, ls, ls_congr (k := k) (fun j hj => h j (by omega)), h k (by omega), h (k + 1) (by omega)]
section Spec
variable {d L : Nat} {fz t : Bool} {Q : pm_R → pm_H → Prop} {I : Nat → Nat → Int32} {J : Nat → Nat → Int64} {T : Td} {W : Wk} {a w : Nat} {R : Nat → Int32} {p : Nat}
theorem S_keptC {x : Int32} (hq : Q (.inl (some (.int (nI (cla x))))) (pm_hp L fz t I J)) : pm_Ev (d + 1) 120 [.int x, .int (nI 0), .int (nI 99)] (pm_hp L fz t I J) Q := by
  refine e_X11_kept ⟨fun h0 => ⟨fun h1 => ?_, fun h1 => ?_⟩, fun h0 => ?_⟩
  · rw [cla_mid (nlt_le.mpr h0) (nlt_le.mpr h1)] at hq; exact hq
  · unfold cla at hq; rw [if_neg (nlt_le.mpr h0), if_pos (nle_lt.mp h1)] at hq; exact hq
  · unfold cla at hq; rw [if_pos (nle_lt.mp h0)] at hq; exact hq
theorem S_between {c e : Nat} {hc he : Int32} (ha : a = 55 ∨ a = 70) (hT : cT a T I) (oT : okT T) (h1 : c < tM T) (h2 : e < tM T) (s1 : sm hc (tN T)) (_s2 : sm he (tN T))
    (hq : ∀ I', fr [13, a + 12 + 2] I I' → Q (.inl (some (.int (nI (snN T c e hc he))))) (pm_hp L fz t I' J)) : pm_Ev (d + 3) 59 [.ref 12, .ref a, .int (nI c), .int hc, .int (nI e), .int he] (pm_hp L fz t I J) Q := by
  have hm := oT.2.1
  have hF := hT.2.2.2.2.2.1
  refine e_X6_between ha (S_bitCount (sm_mono (sm_and s1) oT.1.2) (kb_X6_between_7 ha ?_))
  have key : ∀ b, decide (tW T c = tW T e) = b → pm_Ev (d + 2) 5 [.ref (a + 12)] (pm_hp L fz t I J) (K_X6_between_39 (d + 2) fz t Q a (nI c) (nI e) (nI (pc (hc &&& he))) (bz b)) := by
    intro b hb
    refine S_isTold (a0 := a + 12) (by omega) hF (kb_X6_between_39 ha ?_)
    refine q_b0' (fun h => ⟨vp_in_nI (by omega) (by omega), vp_in_nI (by omega) (by omega), ?_⟩) (fun h => ?_)
    · have hne : tH T ≠ [] := fun q => by rw [q] at h; cases h
      have hw : wf 4 (tH T) 0 := by
        rcases oT.2.2.2.2.1 with q | q
        · exact absurd q hne
        · exact q
      rw [nI_clamp (by omega), nI_clamp (by omega), hT.2.2.2.2.2.2.1 c h1, hT.2.2.2.2.2.2.1 e h2]
      have hf : fr [13, a + 12 + 2] I (pm_u (pm_u (pm_u (pm_u I 13 0 (nI (pc (hc &&& he)))) 13 1 (bz b)) 13 2 (tW T c)) 13 3 (tW T e)) := fr_u (by simp) (fr_u (by simp) (fr_u (by simp) (fr_u (by simp) fr_r)))
      have hF' : cF (a + 12) (tH T) (pm_u (pm_u (pm_u (pm_u I 13 0 (nI (pc (hc &&& he)))) 13 1 (bz b)) 13 2 (tW T c)) 13 3 (tW T e)) := cF_of (hf _ (by simp <;> omega)) (hf _ (by simp <;> omega)) hF
      refine S_worth (a0 := a + 12) (n0 := 4) (by omega) (by omega) hF' hw fun I2 g2 => kb_X6_between_101 ?_
      have ev : fw (tH T) (pm_u (pm_u (pm_u (pm_u I 13 0 (nI (pc (hc &&& he)))) 13 1 (bz b)) 13 2 (tW T c)) 13 3 (tW T e) 13) = fw (tH T) (hvl (pc (hc &&& he)) b (tW T c) (tW T e)) := by
        refine fw_congr (n0 := 4) (by omega) hw fun v hv _ => ?_
        match v, hv with
        | 0, _ => rw [pm_uk (by decide), pm_uk (by decide), pm_uk (by decide), pm_us]; rfl
        | 1, _ => rw [pm_uk (by decide), pm_uk (by decide), pm_us]; rfl
        | 2, _ => rw [pm_uk (by decide), pm_us]; rfl
        | 3, _ => rw [pm_us]; rfl
        | v + 4, hv => exact absurd hv (by omega)
      rw [ev, cla_c]
      have := hq I2 (fr_t hf (fr_m (fr_one g2) (by simp)))
      unfold snN at this
      rw [if_neg hne, hb] at this
      exact this
    · have he : tH T = [] := by cases q : tH T; rfl; rw [q] at h; cases h
      have := hq I fr_r
      unfold snN at this
      rw [if_pos he, hb] at this
      rw [show bz b = nI b.toNat from rfl, pk_mul]
      exact this
  rw [nI_clamp (by omega), nI_clamp (by omega), hT.2.2.2.2.2.2.1 c h1, hT.2.2.2.2.2.2.1 e h2]
  exact ⟨vp_in_nI (by omega) (by omega), vp_in_nI (by omega) (by omega), fun h => key false (decide_eq_false h), fun h => key true (decide_eq_true h)⟩
def cP (T : Td) (W : Wk) (I : Nat → Nat → Int32) : Prop := ∀ c e, c < tM T → e < tM T → I 14 (c * 10 + e) = nI (sp T W c e)
theorem S_tlearn (ha : a = 55 ∨ a = 70) (hw : w = 23 ∨ w = 27 ∨ w = 31) (hT : cT a T I) (hW : cW w W I) (oT : okT T) (oW : okW T W)
    (hq : ∀ I', fr [13, 14, a + 12 + 2] I I' → cP T W I' → Q (.inl none) (pm_hp L fz t I' J)) : pm_Ev (d + 4) 60 [.ref 12, .ref a, .ref w] (pm_hp L fz t I J) Q := by
  have hm := oT.2.1
  have kT : ∀ I', fr [13, 14, a + 12 + 2] I I' → cT a T I' := fun I' h => cT_fr hT h (by simp <;> omega) (by simp <;> omega) (by simp <;> omega) (by simp <;> omega) (by simp <;> omega) (by simp <;> omega) (by simp <;> omega) (by simp <;> omega) (by simp <;> omega) (by simp <;> omega)
  have kW : ∀ I', fr [13, 14, a + 12 + 2] I I' → cW w W I' := fun I' h => cW_fr hW h (by simp <;> omega) (by simp <;> omega) (by simp <;> omega) (by simp <;> omega)
  have loop : ∀ (j i : Nat) (I' : Nat → Nat → Int32), i + j = tM T → fr [13, 14, a + 12 + 2] I I' → (∀ c e, c < i → e < tM T → I' 14 (c * 10 + e) = nI (sp T W c e)) → t_X6_learn_2 (d + 3) L fz t Q a w (nI i) I' J := by
    intro j
    induction j with
    | zero =>
      intro i I' hi hf hk
      obtain rfl : i = tM T := by omega
      refine b_X6_learn_2 ha hw ?_
      rw [(kT I' hf).2.2.1]
      exact q_t (nI_le (by omega) (by omega)) (hq I' hf hk)
    | succ j ih =>
      intro i I' hi hf hk
      refine b_X6_learn_2 ha hw ?_
      rw [(kT I' hf).2.2.1]
      refine q_f (nI_ge (by omega) (by omega)) ?_
      have inner : ∀ (q e : Nat) (I2 : Nat → Nat → Int32), e + q = tM T → fr [13, 14, a + 12 + 2] I I2 → (∀ c e', (c < i ∧ e' < tM T) ∨ (c = i ∧ e' < e) → I2 14 (c * 10 + e') = nI (sp T W c e')) → t_X6_learn_13 (d + 3) L fz t Q a w (nI i) (nI e) I2 J := by
        intro q
        induction q with
        | zero =>
          intro e I2 he f2 k2
          obtain rfl : e = tM T := by omega
          refine b_X6_learn_13 ha hw ?_
          rw [(kT I2 f2).2.2.1, nI_add]
          refine q_t (nI_le (by omega) (by omega)) (ih (i + 1) I2 (by omega) f2 fun c e h1 h2 => k2 c e ?_)
          by_cases z : c = i
          · exact Or.inr ⟨z, h2⟩
          · exact Or.inl ⟨by omega, h2⟩
        | succ q ihq =>
          intro e I2 he f2 k2
          refine b_X6_learn_13 ha hw ?_
          rw [(kT I2 f2).2.2.1]
          refine q_f (nI_ge (by omega) (by omega)) ?_
          refine S_had ha hw (kT I2 f2) (kW I2 f2) oW (by omega) (kb_X6_learn_42 ha hw (S_had ha hw (kT I2 f2) (kW I2 f2) oW (by omega) (kb_X6_learn_51 ha hw ?_)))
          refine S_between ha (kT I2 f2) oT (by omega) (by omega) (sm_eff oT oW (by omega)) (sm_eff oT oW (by omega)) fun I3 f3 => kb_X6_learn_54 ha hw ?_
          rw [pk_mul, nI_add, nI_add, nI_clamp (by omega)]
          refine ⟨vp_in_nI (by omega) (by omega), ihq (e + 1) _ (by omega) (fr_u (by simp) (fr_t f2 (fr_m f3 (by simp)))) fun c e' h => ?_⟩
          by_cases z : c = i ∧ e' = e
          · rw [z.1, z.2, pm_us]; rfl
          · rw [pm_uk (by omega), f3 14 (by simp <;> omega)]
            exact k2 c e' (by omega)
      exact inner (tM T) 0 I' (by omega) hf fun c e h => hk c e (by omega) (by omega)
  exact e_X6_learn ha hw (loop (tM T) 0 I (by omega) fr_r (fun c e h => absurd h (by omega)))
theorem S_pairAt {i j : Nat} {V : Wk} (hw : w = 23 ∨ w = 27 ∨ w = 31) (hV : cW w V I) (oT : okT T) (oV : okW T V) (hP : cP T W I) (hi : i < wp V) (hj : j < wp V)
    (hq : Q (.inl (some (.int (nI (sp T W (wl V i) (wl V j)))))) (pm_hp L fz t I J)) : pm_Ev (d + 1) 61 [.ref 12, .ref w, .int (nI i), .int (nI j)] (pm_hp L fz t I J) Q := by
  have hm := oT.2.1
  have h12 := oV.2.2.2
  have b1 := oV.2.2.1 i hi
  have b2 := oV.2.2.1 j hj
  refine e_X6_pairAt hw ?_
  rw [nI_clamp (by omega), nI_clamp (by omega), hV.2.2.2.2.2 i hi, hV.2.2.2.2.2 j hj, pk_mul, nI_add, nI_clamp (by omega), hP _ _ b1 b2]
  exact ⟨vp_in_nI (by omega) (by omega), vp_in_nI (by omega) (by omega), vp_in_nI (by omega) (by omega), hq⟩
theorem S_sumOf {V : Wk} (hw : w = 23 ∨ w = 27 ∨ w = 31) (hV : cW w V I) (oT : okT T) (oV : okW T V) (hP : cP T W I)
    (hq : Q (.inl (some (.int (nI (ls T W (wl V) (wp V - 1)))))) (pm_hp L fz t I J)) : pm_Ev (d + 2) 62 [.ref 12, .ref w] (pm_hp L fz t I J) Q := by
  have h12 := oV.2.2.2
  have loop : ∀ (j i : Nat), i + j = wp V - 1 → t_X6_sumOf_4 (d + 1) L fz t Q w (nI (ls T W (wl V) i)) (nI i) I J := by
    intro j
    induction j with
    | zero =>
      intro i hi
      obtain rfl : i = wp V - 1 := by omega
      refine b_X6_sumOf_4 hw ?_
      rw [hV.1, nI_add]
      exact q_t (nI_le (by omega) (by omega)) hq
    | succ j ih =>
      intro i hi
      refine b_X6_sumOf_4 hw ?_
      rw [hV.1, nI_add]
      refine q_f (nI_ge (by omega) (by omega)) (S_pairAt (W := W) hw hV oT oV hP (by omega) (by omega) (kb_X6_sumOf_24 hw ?_))
      rw [nI_add, nI_add]
      exact ih (i + 1) (by omega)
  exact e_X6_sumOf hw (loop (wp V - 1) 0 (by omega))
/-! the reference's -/
theorem S_snarlWith {c e : Nat} {hc he : Int32} (hT : mT T I) (oT : okT T) (h1 : c < tM T) (h2 : e < tM T)
    (hq : ∀ I', fr [105, 106] I I' → Q (.inl (some (.int (nI (snN T c e hc he))))) (pm_hp L fz t I' J)) : pm_Ev (d + 3) 165 [.ref 85, .int (nI c), .int (nI e), .int hc, .int he] (pm_hp L fz t I J) Q := by
  have hm := oT.2.1
  refine e_X11_snarlWith (S_bits (kb_X11_snarlWith_7 ?_))
  rw [nI_clamp (by omega), nI_clamp (by omega), hT.2.2.2.2.2.1 c h1, hT.2.2.2.2.2.1 e h2]
  refine ⟨vp_in_nI (by omega) (by omega), vp_in_nI (by omega) (by omega), ?_⟩
  have key : ∀ b, decide (tW T c = tW T e) = b → ((¬ (I 85 6) = (-1 : Int32) → (vp_in (nI c) 10 ∧ (vp_in (nI e) 10 ∧ pm_Ev (d + 2) 163 [.ref 85, .int (I 85 6)] (pm_hp L fz t (pm_u (pm_u (pm_u (pm_u I 105 6 (nI (pc (hc &&& he)))) 105 7 (bz b)) 105 8 (tW T c)) 105 9 (tW T e)) J) (K_X11_snarlWith_103 (d + 2) fz t Q)))) ∧ ((I 85 6) = (-1 : Int32) → pm_Ev (d + 2) 120 [.int (nI (pc (hc &&& he)) * bz b), .int (nI 0), .int (nI 99)] (pm_hp L fz t I J) (K_X11_snarlWith_50 (d + 2) fz t Q))) := by
    intro b hb
    rcases hT.2.2.2.2.1 with ⟨hH, hp⟩ | ⟨hH, q, hp, hC, hl⟩
    · rw [hp]
      refine q_f' rfl (S_keptC (kb_X11_snarlWith_50 ?_))
      have := hq I fr_r
      unfold snN at this
      rw [if_pos hH, hb] at this
      have hle := pc_le (hc &&& he)
      rw [show bz b = nI b.toNat from rfl, pk_mul, cla_nI (by cases b <;> simp <;> omega)]
      exact this
    · have hw : wf 4 (tH T) 0 := by
        rcases oT.2.2.2.2.1 with z | z
        · exact absurd z hH
        · exact z
      rw [hp]
      refine q_t' (nI_ne_m1 (by omega)) ⟨vp_in_nI (by omega) (by omega), vp_in_nI (by omega) (by omega), ?_⟩
      have hf : fr [105, 106] I (pm_u (pm_u (pm_u (pm_u I 105 6 (nI (pc (hc &&& he)))) 105 7 (bz b)) 105 8 (tW T c)) 105 9 (tW T e)) := fr_u (by simp) (fr_u (by simp) (fr_u (by simp) (fr_u (by simp) fr_r)))
      refine S_reckons (o := 6) (n0 := 4) (codes := tH T) (by rw [hf 91 (by decide)]; exact hC) hl (by omega) (by omega) hw fun I2 g2 => ?_
      have ev : fw (tH T) (fun v => pm_u (pm_u (pm_u (pm_u I 105 6 (nI (pc (hc &&& he)))) 105 7 (bz b)) 105 8 (tW T c)) 105 9 (tW T e) 105 (v + 6)) = fw (tH T) (hvl (pc (hc &&& he)) b (tW T c) (tW T e)) := by
        refine fw_congr (n0 := 4) (by omega) hw fun v hv _ => ?_
        match v, hv with
        | 0, _ => rw [pm_uk (by decide), pm_uk (by decide), pm_uk (by decide), pm_us]; rfl
        | 1, _ => rw [pm_uk (by decide), pm_uk (by decide), pm_us]; rfl
        | 2, _ => rw [pm_uk (by decide), pm_us]; rfl
        | 3, _ => rw [pm_us]; rfl
        | v + 4, hv => exact absurd hv (by omega)
      rw [ev]
      refine kb_X11_snarlWith_103 (S_keptC (kb_X11_snarlWith_109 ?_))
      have := hq I2 (fr_t hf (fr_m (fr_one g2) (by simp)))
      unfold snN at this
      rw [if_neg hH, hb] at this
      exact this
  exact ⟨fun h => key false (decide_eq_false h), fun h => key true (decide_eq_true h)⟩
theorem S_snarlOf {c e : Nat} (hT : mT T I) (hW : mR (I 103) 0 (tM T) W) (oT : okT T) (oW : okW T W) (h1 : c < tM T) (h2 : e < tM T)
    (hq : ∀ I', fr [105, 106] I I' → Q (.inl (some (.int (nI (sp T W c e))))) (pm_hp L fz t I' J)) : pm_Ev (d + 4) 166 [.ref 85, .int (nI c), .int (nI e)] (pm_hp L fz t I J) Q := by
  refine e_X11_snarlOf (S_holesOf (b := 0) (Or.inl rfl) hT hW oT oW h1 (kb_X11_snarlOf_9 (S_holesOf (b := 0) (Or.inl rfl) hT hW oT oW h2 (kb_X11_snarlOf_15 (S_snarlWith hT oT h1 h2 fun I' f => kb_X11_snarlOf_18 (hq I' f))))))
theorem S_laceSnarl {V : Wk} (hT : mT T I) (hp : I 85 3 = nI (wp V)) (hV : mR (I 103) 0 (tM T) V) (oT : okT T) (oV : okW T V) (hsp : ∀ c e, sp T V c e = sp T W c e)
    (hq : ∀ I', fr [105, 106] I I' → Q (.inl (some (.int (nI (ls T W (wl V) (wp V - 1)))))) (pm_hp L fz t I' J)) : pm_Ev (d + 5) 176 [.ref 85] (pm_hp L fz t I J) Q := by
  have h12 := oV.2.2.2
  have hm := oT.2.1
  have loop : ∀ (j i : Nat) (I' : Nat → Nat → Int32), i + j = wp V - 1 → fr [105, 106] I I' → t_X11_laceSnarl_4 (d + 4) L fz t Q (nI (ls T W (wl V) i)) (nI (i + 1)) I' J := by
    intro j
    induction j with
    | zero =>
      intro i I' hi hf
      obtain rfl : i = wp V - 1 := by omega
      refine b_X11_laceSnarl_4 ?_
      rw [hf 85 (by decide), hp]
      exact q_t (nI_le (by omega) (by omega)) (hq I' hf)
    | succ j ih =>
      intro i I' hi hf
      have hT' : mT T I' := mT_fr hT hf (fun j _ => by rw [hf 85 (by decide)]) (by decide) (by decide) (by decide) (by decide) (by decide) (by decide)
      have e1 := hV.2.2.2 i (by omega)
      have e2 := hV.2.2.2 (i + 1) (by omega)
      refine b_X11_laceSnarl_4 ?_
      rw [hf 85 (by decide), hp, nI_add, pk_sub (by omega), nI_clamp (by omega), nI_clamp (by omega), hf 103 (by decide), show 22 + (i + 1) - 1 = 0 + 22 + i by omega, e1, show 22 + (i + 1) = 0 + 22 + (i + 1) by omega, e2]
      refine q_f (nI_ge (by omega) (by omega)) ⟨vp_in_nI (by omega) (by omega), vp_in_nI (by omega) (by omega), ?_⟩
      refine S_snarlOf (W := V) hT' (by rw [hf 103 (by decide)]; exact hV) oT oV (oV.2.2.1 i (by omega)) (oV.2.2.1 (i + 1) (by omega)) fun I2 f2 => kb_X11_laceSnarl_37 ?_
      rw [nI_add, nI_add, hsp]
      exact ih (i + 1) I2 (by omega) (fr_t hf f2)
  exact e_X11_laceSnarl (loop (wp V - 1) 0 I (by omega) fr_r)
end Spec
