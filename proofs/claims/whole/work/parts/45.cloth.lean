/-! cloth -/
def bes (n : Nat) (h : Int32) (t : Nat) : Nat := (decide (0 < t) && bt h (t - 1)).toNat + (decide (t + 1 < n) && bt h (t + 1)).toNat
def uv (h : Bool) (b : Nat) (a : Bool) (k t w : Nat) : Nat → Int32 := fun v => if v = 0 then bz h else if v = 1 then nI b else if v = 2 then bz a else if v = 3 then nI k else if v = 4 then nI t else nI w
def lift (T : Td) (h : Bool) (b : Nat) (a : Bool) (k t w : Nat) : Bool := !decide (fw (tU T) (uv h b a k t w) = nI 0)
def ups (T : Td) (h was : Int32) (k w : Nat) : Int32 := if tU T = [] then h else mk (fun t => lift T (bt h t) (bes (tN T) h t) (bt was t) k t w) (tN T)
/-- the rows of a cloth; row k is cl T W (k + 1) -/
def cl (T : Td) (W : Wk) : Nat → Int32
  | 0 => nI 0
  | k + 1 => ups T (eff T W (wl W k)) (cl T W k) k (ww W (wl W k))
theorem sm_ups {T : Td} (hT : okT T) {h : Int32} (hh : sm h (tN T)) (was : Int32) (k w : Nat) : sm (ups T h was k w) (tN T) := by
  unfold ups; split
  · exact hh
  · exact sm_mk _ (by have := hT.1; omega)
theorem sm_cl {T : Td} {W : Wk} (hT : okT T) (hW : okW T W) : ∀ k, k ≤ wp W → sm (cl T W k) (tN T)
  | 0, _ => sm_0 _
  | k + 1, hk => sm_ups hT (sm_eff hT hW (by have := hW.2.2.1 k (by omega); have := hT.2.1; omega)) _ _ _
theorem cl_congr {T : Td} {W W' : Wk} : ∀ {k : Nat}, (∀ j, j < k → wl W j = wl W' j ∧ ww W (wl W j) = ww W' (wl W j) ∧ eff T W (wl W j) = eff T W' (wl W j)) → cl T W k = cl T W' k
  | 0, _ => rfl
  | k + 1, h => by
    obtain ⟨h1, h2, h3⟩ := h k (by omega)
    rw [cl, cl, cl_congr (k := k) (fun j hj => h j (by omega)), ← h1, h2, h3]
/-- so many Sundays on, as far as cloth shows it -/
def wag (W : Wk) (s : Nat) : Wk := (wo W, (fun c => if lc W c = true then min (ww W c + s) 9 else ww W c), wl W, wp W, ws W, wg W)
theorem lc_t {W : Wk} {k : Nat} (hk : k < wp W) : lc W (wl W k) = true := eB_t.mpr ⟨k, hk, decide_eq_true rfl⟩
theorem ww_wag {W : Wk} {s k : Nat} (hk : k < wp W) : ww (wag W s) (wl W k) = min (ww W (wl W k) + s) 9 := by
  show (if lc W (wl W k) = true then min (ww W (wl W k) + s) 9 else ww W (wl W k)) = _
  rw [if_pos (lc_t hk)]
theorem okW_wag {T : Td} {W : Wk} (h : okW T W) (s : Nat) : okW T (wag W s) := ⟨h.1, fun c hc => by
  have := h.2.1 c hc
  show (if lc W c = true then min (ww W c + s) 9 else ww W c) ≤ 9
  split
  · exact Nat.min_le_right _ _
  · exact this, h.2.2.1, h.2.2.2⟩
theorem cl_wag0 {T : Td} {W : Wk} (h : okW T W) (hT : okT T) {k : Nat} (hk : k ≤ wp W) : cl T (wag W 0) k = cl T W k := cl_congr fun j hj => by
  have h1 := h.2.1 (wl W j) (by have := h.2.2.1 j (by omega); have := hT.2.1; omega)
  have h2 : ww (wag W 0) (wl W j) = ww W (wl W j) := by rw [ww_wag (by omega)]; omega
  refine ⟨rfl, h2, ?_⟩
  show (if ww (wag W 0) (wl W j) = 9 then _ else _) = _
  rw [h2]; rfl
section Spec
variable {d L : Nat} {fz t : Bool} {Q : pm_R → pm_H → Prop} {I : Nat → Nat → Int32} {J : Nat → Nat → Int64} {T : Td} {W : Wk} {a w : Nat}
/-! the reference weaves -/
theorem S_all (hT : mT T I) (hq : Q (.inl (some (.int (al (tN T))))) (pm_hp L fz t I J)) : pm_Ev (d + 1) 161 [.ref 85] (pm_hp L fz t I J) Q := by
  refine e_X11_all ?_
  rw [hT.1]; exact hq
theorem S_holesOf {b c : Nat} (hb : b = 0 ∨ b = 34) (hT : mT T I) (hW : mR (I 103) b (tM T) W) (oT : okT T) (oW : okW T W) (hc : c < tM T) (hq : Q (.inl (some (.int (eff T W c)))) (pm_hp L fz t I J)) : pm_Ev (d + 2) 164 [.ref 85, .int (nI b), .int (nI c)] (pm_hp L fz t I J) Q := by
  have hm := oT.2.1
  have h9 := oW.2.1 c (by omega)
  refine e_X11_holesOf ?_
  rw [nI_add, nI_add, nI_add, nI_add, nI_clamp (by omega), nI_clamp (by omega), (hW.2.2.1 c hc).1, (hW.2.2.1 c hc).2]
  refine ⟨vp_in_nI (by omega) (by omega), q_ne (by omega) (by omega) (fun h => ⟨vp_in_nI (by omega) (by omega), ?_⟩) (fun h => S_all hT (kb_X11_holesOf_20 ?_))⟩
  · unfold eff at hq; rw [if_neg h] at hq; exact hq
  · unfold eff at hq; rw [if_pos h] at hq; exact hq
theorem bz_add (a b : Bool) : bz a + bz b = nI (a.toNat + b.toNat) := nI_add _ _
theorem bz_addr (a : Bool) : bz a + nI 0 = nI a.toNat := nI_add _ _
theorem bz_addl (a : Bool) : nI 0 + bz a = nI a.toNat := by rw [show bz a = nI a.toNat from rfl, nI_add, Nat.zero_add]
theorem S_upsOf {b c k : Nat} {was : Int32} (hb : b = 0 ∨ b = 34) (hT : mT T I) (hW : mR (I 103) b (tM T) W) (oT : okT T) (oW : okW T W) (hc : c < tM T) (hk : k < 12)
    (hq : ∀ I', fr [105, 106] I I' → Q (.inl (some (.int (ups T (eff T W c) was k (ww W c))))) (pm_hp L fz t I' J)) : pm_Ev (d + 3) 167 [.ref 85, .int (nI b), .int (nI c), .int (nI k), .int was] (pm_hp L fz t I J) Q := by
  have hm := oT.2.1
  have hn := oT.1
  have h9 := oW.2.1 c (by omega)
  refine e_X11_upsOf (S_holesOf hb hT hW oT oW hc (kb_X11_upsOf_6 ?_))
  generalize eff T W c = h at hq ⊢
  have hF := hT.2.2.2.1
  rcases hF with ⟨hU, hp⟩ | ⟨hU, p, hp, hC, hl⟩
  · rw [hp]
    refine q_f' rfl (hq I fr_r |> fun z => ?_)
    unfold ups at z; rw [if_pos hU] at z; exact z
  · have hwf : wf 6 (tU T) 0 := by
      rcases oT.2.2.2.1 with q | q
      · exact absurd q hU
      · exact q
    have hu : ∀ was, ups T h was k (ww W c) = mk (fun t => lift T (bt h t) (bes (tN T) h t) (bt was t) k t (ww W c)) (tN T) := fun was => by unfold ups; rw [if_neg hU]
    rw [hu] at hq
    have hne : ¬ (nI p : Int32) = -1 := by
      intro e
      have := congrArg Int32.toInt e
      rw [nI_toInt (by omega)] at this
      rw [show (-1 : Int32).toInt = -1 from rfl] at this
      omega
    rw [hp, nI_add, nI_add, nI_clamp (by omega), (hW.2.2.1 c hc).2]
    refine q_t' hne ⟨vp_in_nI (by omega) (by omega), ?_⟩
    have loop : ∀ (j i : Nat) (I' : Nat → Nat → Int32), i + j = tN T → fr [105, 106] I I' → I' 105 3 = nI k → I' 105 5 = nI (ww W c) → t_X11_upsOf_49 (d + 2) L fz t Q was h (mk (fun t => lift T (bt h t) (bes (tN T) h t) (bt was t) k t (ww W c)) i) (nI i) I' J := by
      intro j
      induction j with
      | zero =>
        intro i I' hi hf h3 h5
        obtain rfl : i = tN T := by omega
        refine b_X11_upsOf_49 ?_
        rw [hf 85 (by decide), hT.1]
        exact q_t (nI_le (by omega) (by omega)) (hq I' hf)
      | succ j ih =>
        intro i I' hi hf h3 h5
        have hi' : i < tN T := by omega
        have step : ∀ (x : Int32), x = nI (bes (tN T) h i) → pm_Ev (d + 2) 163 [.ref 85, .int (nI p)] (pm_hp L fz t (pm_u (pm_u (pm_u (pm_u I' 105 0 (bz (bt h i))) 105 1 x) 105 2 (bz (bt was i))) 105 4 (nI i)) J) (K_X11_upsOf_151 (d + 2) fz t Q was h (nI i) (mk (fun t => lift T (bt h t) (bes (tN T) h t) (bt was t) k t (ww W c)) i)) := by
          intro x hx
          have hf' : fr [105, 106] I (pm_u (pm_u (pm_u (pm_u I' 105 0 (bz (bt h i))) 105 1 x) 105 2 (bz (bt was i))) 105 4 (nI i)) := fr_u (by decide) (fr_u (by decide) (fr_u (by decide) (fr_u (by decide) hf)))
          have v3 : pm_u (pm_u (pm_u (pm_u I' 105 0 (bz (bt h i))) 105 1 x) 105 2 (bz (bt was i))) 105 4 (nI i) 105 3 = nI k := by
            rw [pm_uk (by decide), pm_uk (by decide), pm_uk (by decide), pm_uk (by decide), h3]
          have v5 : pm_u (pm_u (pm_u (pm_u I' 105 0 (bz (bt h i))) 105 1 x) 105 2 (bz (bt was i))) 105 4 (nI i) 105 5 = nI (ww W c) := by
            rw [pm_uk (by decide), pm_uk (by decide), pm_uk (by decide), pm_uk (by decide), h5]
          have v4 : pm_u (pm_u (pm_u (pm_u I' 105 0 (bz (bt h i))) 105 1 x) 105 2 (bz (bt was i))) 105 4 (nI i) 105 4 = nI i := pm_us
          have v2 : pm_u (pm_u (pm_u (pm_u I' 105 0 (bz (bt h i))) 105 1 x) 105 2 (bz (bt was i))) 105 4 (nI i) 105 2 = bz (bt was i) := by
            rw [pm_uk (by decide), pm_us]
          have v1 : pm_u (pm_u (pm_u (pm_u I' 105 0 (bz (bt h i))) 105 1 x) 105 2 (bz (bt was i))) 105 4 (nI i) 105 1 = nI (bes (tN T) h i) := by
            rw [pm_uk (by decide), pm_uk (by decide), pm_us, hx]
          have v0 : pm_u (pm_u (pm_u (pm_u I' 105 0 (bz (bt h i))) 105 1 x) 105 2 (bz (bt was i))) 105 4 (nI i) 105 0 = bz (bt h i) := by
            rw [pm_uk (by decide), pm_uk (by decide), pm_uk (by decide), pm_us]
          generalize pm_u (pm_u (pm_u (pm_u I' 105 0 (bz (bt h i))) 105 1 x) 105 2 (bz (bt was i))) 105 4 (nI i) = I1 at hf' v0 v1 v2 v3 v4 v5 ⊢
          refine S_reckons (o := 0) (n0 := 6) (codes := tU T) (by rw [hf' 91 (by decide)]; exact hC) hl (by omega) (by omega) hwf fun I2 h2 => ?_
          have ev : fw (tU T) (fun v => I1 105 (v + 0)) = fw (tU T) (uv (bt h i) (bes (tN T) h i) (bt was i) k i (ww W c)) := by
            refine fw_congr (n0 := 6) (by omega) hwf fun v hv _ => ?_
            rw [Nat.add_zero]
            match v, hv with
            | 0, _ => exact v0
            | 1, _ => exact v1
            | 2, _ => exact v2
            | 3, _ => exact v3
            | 4, _ => exact v4
            | 5, _ => exact v5
            | v + 6, hv => exact absurd hv (by omega)
          rw [ev]
          refine kb_X11_upsOf_151 ?_
          have f2 : fr [105, 106] I I2 := fr_t hf' (fr_m (fr_one h2) (by decide))
          have e3 : I2 105 = I1 105 := h2 105 (by decide)
          rw [nI_add]
          refine ⟨fun hz => ?_, fun hz => ?_⟩
          · have hb : lift T (bt h i) (bes (tN T) h i) (bt was i) k i (ww W c) = false := by
              unfold lift; rw [decide_eq_true hz]; rfl
            rw [or_0, mk_Sf (f := fun t => lift T (bt h t) (bes (tN T) h t) (bt was t) k t (ww W c)) hb]
            exact ih (i + 1) I2 (by omega) f2 (by rw [e3]; exact v3) (by rw [e3]; exact v5)
          · have hb : lift T (bt h i) (bes (tN T) h i) (bt was i) k i (ww W c) = true := by
              unfold lift; rw [decide_eq_false hz]; rfl
            rw [mk_St (f := fun t => lift T (bt h t) (bes (tN T) h t) (bt was t) k t (ww W c)) hb]
            exact ih (i + 1) I2 (by omega) f2 (by rw [e3]; exact v3) (by rw [e3]; exact v5)
        refine b_X11_upsOf_49 ?_
        rw [hf 85 (by decide), hT.1, hp, b_bit h (by omega : i < 32), b_bit was (by omega : i < 32)]
        refine q_f (nI_ge (by omega) (by omega)) ?_
        refine q_le (by omega) (by omega) (fun q0 => ?_) (fun q0 => ?_)
        · rw [nI_add, b_bit h (by omega : i + 1 < 32)]
          refine q_le (by omega) (by omega) (fun q1 => step _ ?_) (fun q1 => step _ ?_)
          · rw [nI_add]; unfold bes; rw [decide_eq_false (by omega), decide_eq_false (by omega)]; rfl
          · rw [bz_addl]; unfold bes; rw [decide_eq_false (by omega), decide_eq_true (by omega)]; simp
        · rw [nI_add, pk_sub (by omega), b_bit h (by omega : i + 1 < 32), b_bit h (by omega : i - 1 < 32)]
          refine q_le (by omega) (by omega) (fun q1 => step _ ?_) (fun q1 => step _ ?_)
          · rw [bz_addr]; unfold bes; rw [decide_eq_true (by omega), decide_eq_false (by omega)]; simp
          · rw [bz_add]; unfold bes; rw [decide_eq_true (by omega), decide_eq_true (by omega)]; simp
    refine loop (tN T) 0 _ (by omega) (fr_u (by decide) (fr_u (by decide) fr_r)) ?_ ?_
    · rw [pm_uk (by decide), pm_us]
    · rw [pm_us]
/-- the reference's loop, with a place left out or none -/
theorem S_weavesBut {b : Nat} {but : Int32} {V : Wk} {g : Nat → Nat} (hb : b = 0 ∨ b = 34) (hT : mT T I) (hp : I 85 3 = nI (wp W)) (hW : mR (I 103) b (tM T) W) (oT : okT T) (oW : okW T W)
    (hV : wo V = wo W ∧ ww V = ww W) (hg : ∀ k, k ≤ wp W → g k ≤ k ∧ (k = 0 → g k = 0)) (hgs : ∀ k, k < wp W → if nI k = but then g (k + 1) = g k else g (k + 1) = g k + 1 ∧ wl V (g k) = wl W k)
    (hq : ∀ I', fr [85, 105, 106, 107] I I' → (∀ j, j ≠ 52 → I' 85 j = I 85 j) → I' 85 52 = nI (g (wp W)) → (∀ k, k < g (wp W) → I' 107 k = cl T V (k + 1)) → Q (.inl none) (pm_hp L fz t I' J)) : pm_Ev (d + 4) 168 [.ref 85, .int (nI b), .int but] (pm_hp L fz t I J) Q := by
  have hm := oT.2.1
  have h12 := oW.2.2.2
  have loop : ∀ (j i : Nat) (I' : Nat → Nat → Int32), i + j = wp W → fr [85, 105, 106, 107] I I' → (∀ j, j ≠ 52 → I' 85 j = I 85 j) → I' 85 52 = nI (g i) → (∀ k, k < g i → I' 107 k = cl T V (k + 1)) → t_X11_weavesBut_10 (d + 3) L fz t Q (nI b) but (cl T V (g i)) (nI i) I' J := by
    intro j
    induction j with
    | zero =>
      intro i I' hi hf h85 h52 hk
      obtain rfl : i = wp W := by omega
      refine b_X11_weavesBut_10 ?_
      rw [h85 3 (by decide), hp]
      exact q_t (nI_le (by omega) (by omega)) (hq I' hf h85 h52 hk)
    | succ j ih =>
      intro i I' hi hf h85 h52 hk
      have h10 := oW.2.2.1 i (by omega)
      have hgi := (hg i (by omega)).1
      have hgs' := hgs i (by omega)
      refine b_X11_weavesBut_10 ?_
      rw [h85 3 (by decide), hp, nI_add, nI_add, nI_clamp (by omega), hf 103 (by decide), hW.2.2.2 i (by omega), h52]
      refine q_f (nI_ge (by omega) (by omega)) ⟨fun hne => ⟨vp_in_nI (by omega) (by omega), ?_⟩, fun he => ?_⟩
      · rw [if_neg hne] at hgs'
        have hT' : mT T I' := by
          unfold mT
          rw [h85 1 (by decide), h85 2 (by decide), h85 4 (by decide), h85 5 (by decide), h85 6 (by decide), hf 86 (by decide), hf 87 (by decide), hf 88 (by decide), hf 89 (by decide), hf 90 (by decide), hf 91 (by decide)]
          exact hT
        refine S_upsOf (W := W) hb hT' (by rw [hf 103 (by decide)]; exact hW) oT oW h10 (by omega) fun I2 h2 => ?_
        refine kb_X11_weavesBut_50 ?_
        have e85 : I2 85 = I' 85 := h2 85 (by decide)
        rw [e85, h52, nI_clamp (by omega), nI_add, nI_add]
        refine ⟨vp_in_nI (by omega) (by omega), ?_⟩
        have ecl : ups T (eff T W (wl W i)) (cl T V (g i)) (g i) (ww W (wl W i)) = cl T V (g i + 1) := by
          rw [cl, hgs'.2]
          unfold eff
          rw [hV.1, hV.2]
        rw [ecl, ← hgs'.1]
        refine ih (i + 1) _ (by omega) (fr_u (by decide) (fr_u (by decide) (fr_t hf (fr_m h2 (by decide))))) (fun j hj => ?_) pm_us fun k hk' => ?_
        · rw [pm_uk hj, pm_ua (by decide), e85]; exact h85 j hj
        · rw [pm_ua (by decide)]
          by_cases e : k = g i
          · rw [e, pm_us, ← hgs'.1]
          · rw [pm_uk e, h2 107 (by decide)]; exact hk k (by omega)
      · rw [if_pos he] at hgs'
        rw [nI_add, ← hgs']
        refine ih (i + 1) I' (by omega) hf h85 (by rw [hgs']; exact h52) fun k hk' => hk k (by omega)
  have g0 : g 0 = 0 := (hg 0 (by omega)).2 rfl
  have h0 := loop (wp W) 0 (pm_u I 85 52 (nI 0)) (by omega) (fr_u (by decide) fr_r) (fun j hj => pm_uk hj) (by rw [pm_us, g0]) (fun k hk => absurd hk (by omega))
  rw [g0] at h0
  exact e_X11_weavesBut h0
theorem S_weaves {b : Nat} (hb : b = 0 ∨ b = 34) (hT : mT T I) (hp : I 85 3 = nI (wp W)) (hW : mR (I 103) b (tM T) W) (oT : okT T) (oW : okW T W)
    (hq : ∀ I', fr [85, 105, 106, 107] I I' → (∀ j, j ≠ 52 → I' 85 j = I 85 j) → I' 85 52 = nI (wp W) → (∀ k, k < wp W → I' 107 k = cl T W (k + 1)) → Q (.inl none) (pm_hp L fz t I' J)) : pm_Ev (d + 5) 169 [.ref 85, .int (nI b)] (pm_hp L fz t I J) Q := by
  refine e_X11_weaves (S_weavesBut (V := W) (W := W) (T := T) (g := fun k => k) hb hT hp hW oT oW ⟨rfl, rfl⟩ (fun k _ => ⟨Nat.le_refl _, fun h => h⟩) (fun k hk => ?_) fun I' h1 h2 h3 h4 => kb_X11_weaves_6 (hq I' h1 h2 h3 h4))
  have h12 := oW.2.2.2
  rw [if_neg]
  · exact ⟨rfl, rfl⟩
  · intro e
    have := congrArg Int32.toInt e
    rw [nI_toInt (by omega), show (-1 : Int32).toInt = -1 from rfl] at this
    omega
end Spec
