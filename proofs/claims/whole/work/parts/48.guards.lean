/-! what a call may ask for -/
def inR (x : Int32) (m : Nat) : Bool := decide (¬ x < nI 0 ∧ ¬ nI m ≤ x)
theorem inR_t {x : Int32} {m : Nat} (hm : m < 2 ^ 31) (h : inR x m = true) : ∃ c, c < m ∧ x = nI c := by
  obtain ⟨h0, h1⟩ := of_decide_eq_true h
  obtain ⟨j, hj, rfl⟩ := nI_of h0
  exact ⟨j, Nat.lt_of_not_le fun q => h1 (nI_le q hj), rfl⟩
theorem inR_nI {c m : Nat} (hm : m < 2 ^ 31) (h : c < m) : inR (nI c) m = true := decide_eq_true ⟨nI_pos (by omega), nI_ge h hm⟩
theorem inR_ge {x : Int32} {m : Nat} (h : nI m ≤ x) : inR x m = false := decide_eq_false fun q => q.2 h
theorem inR_neg {x : Int32} {m : Nat} (h : x < nI 0) : inR x m = false := decide_eq_false fun q => q.1 h
theorem inR_in {x : Int32} {m : Nat} (h : ¬ x < nI 0) (h1 : ¬ nI m ≤ x) : inR x m = true := decide_eq_true ⟨h, h1⟩
theorem le_of_lt_S {x : Int32} {m : Nat} (hm : m + 1 < 2 ^ 31) : nI (m + 1) ≤ x ↔ nI m < x := by
  rw [fa_le, fa_lt, nI_toInt hm, nI_toInt (by omega)]
  omega
theorem nle_lt {x y : Int32} : ¬ x ≤ y ↔ y < x := by rw [fa_le, fa_lt]; omega
theorem nlt_le {x y : Int32} : ¬ x < y ↔ y ≤ x := by rw [fa_le, fa_lt]; omega
/-- the reference's heap behind a check -/
def rt (b : Bool) (v : Nat) (I : Nat → Nat → Int32) : Nat → Nat → Int32 := if b = true then I else pm_u I 85 0 (nI v)
theorem rt_t {v : Nat} {I : Nat → Nat → Int32} {b : Bool} (h : b = true) : rt b v I = I := by rw [h]; rfl
theorem rt_f {v : Nat} {I : Nat → Nat → Int32} {b : Bool} (h : b = false) : rt b v I = pm_u I 85 0 (nI v) := by rw [h]; rfl
theorem bz01 (b : Bool) : bz b = nI 0 ∨ bz b = nI 1 := by cases b; exact Or.inl rfl; exact Or.inr rfl
section Spec
variable {d L : Nat} {fz t : Bool} {Q : pm_R → pm_H → Prop} {I : Nat → Nat → Int32} {J : Nat → Nat → Int64} {T : Td} {W : Wk} {a w : Nat} {R : Nat → Int32} {p : Nat}
theorem S_right {b : Bool} {v : Nat} (h0 : I 85 0 = nI 0) (hv : 0 < v ∧ v < 3) (hq : Q (.inl (some (.int (bz b)))) (pm_hp L fz t (rt b v I) J)) : pm_Ev (d + 1) 118 [.ref 85, .int (bz b), .int (nI v)] (pm_hp L fz t I J) Q := by
  refine e_X11_right ?_
  rw [h0]
  refine q_f' rfl (q_b0' (fun h => ?_) (fun h => q_t' (fun e => ?_) ?_))
  · rw [h] at hq; exact hq
  · rw [nI_eq (by omega) (by omega)] at e; omega
  · rw [h] at hq; exact hq
theorem S_within {x : Int32} {m : Nat} (hm : m + 1 < 2 ^ 31) (hq : Q (.inl (some (.int (bz (inR x (m + 1)))))) (pm_hp L fz t I J)) : pm_Ev (d + 1) 119 [.int x, .int (nI 0), .int (nI m)] (pm_hp L fz t I J) Q := by
  refine e_X11_within ⟨fun h => ?_, fun h => ⟨fun h1 => ?_, fun h1 => ?_⟩⟩
  · rw [inR_neg h] at hq; exact hq
  · rw [inR_ge ((le_of_lt_S hm).mpr h1)] at hq; exact hq
  · rw [inR_in h (fun q => h1 ((le_of_lt_S hm).mp q))] at hq; exact hq
theorem S_isIn {x : Int32} {m k : Nat} {e : Int32} (hk : (k = 180 ∧ e = I 85 2) ∨ (k = 181 ∧ e = I 85 3) ∨ (k = 182 ∧ e = I 85 4)) (he : e = nI m) (h0 : I 85 0 = nI 0) (hq : Q (.inl (some (.int (bz (inR x m))))) (pm_hp L fz t (rt (inR x m) 1 I) J)) : pm_Ev (d + 2) k [.ref 85, .int x] (pm_hp L fz t I J) Q := by
  have key : ∀ b, inR x m = b → Q (.inl (some (.int (bz b)))) (pm_hp L fz t (rt b 1 I) J) := fun b h => by rw [← h]; exact hq
  rcases hk with ⟨rfl, h2⟩ | ⟨rfl, h2⟩ | ⟨rfl, h2⟩
  · refine e_X11_isCard ?_
    rw [← h2, he]
    refine ⟨fun h => S_right (b := false) h0 (by omega) (kb_X11_isCard_22 ⟨bz01 _, key _ (inR_neg h)⟩), fun h => ⟨fun h1 => S_right (b := false) h0 (by omega) (kb_X11_isCard_22 ⟨bz01 _, key _ (inR_ge h1)⟩), fun h1 => S_right (b := true) h0 (by omega) (kb_X11_isCard_22 ⟨bz01 _, key _ (inR_in h h1)⟩)⟩⟩
  · refine e_X11_isPick ?_
    rw [← h2, he]
    refine ⟨fun h => S_right (b := false) h0 (by omega) (kb_X11_isPick_22 ⟨bz01 _, key _ (inR_neg h)⟩), fun h => ⟨fun h1 => S_right (b := false) h0 (by omega) (kb_X11_isPick_22 ⟨bz01 _, key _ (inR_ge h1)⟩), fun h1 => S_right (b := true) h0 (by omega) (kb_X11_isPick_22 ⟨bz01 _, key _ (inR_in h h1)⟩)⟩⟩
  · refine e_X11_isFigure ?_
    rw [← h2, he]
    refine ⟨fun h => S_right (b := false) h0 (by omega) (kb_X11_isFigure_22 ⟨bz01 _, key _ (inR_neg h)⟩), fun h => ⟨fun h1 => S_right (b := false) h0 (by omega) (kb_X11_isFigure_22 ⟨bz01 _, key _ (inR_ge h1)⟩), fun h1 => S_right (b := true) h0 (by omega) (kb_X11_isFigure_22 ⟨bz01 _, key _ (inR_in h h1)⟩)⟩⟩
theorem S_isWhat {x : Int32} {m : Nat} (hm : m + 1 < 2 ^ 31) (h0 : I 85 0 = nI 0) (hq : Q (.inl (some (.int (bz (inR x (m + 1)))))) (pm_hp L fz t (rt (inR x (m + 1)) 1 I) J)) : pm_Ev (d + 2) 183 [.ref 85, .int x, .int (nI m)] (pm_hp L fz t I J) Q :=
  e_X11_isWhat (S_within hm (kb_X11_isWhat_7 (S_right h0 (by omega) (kb_X11_isWhat_11 ⟨bz01 _, hq⟩))))
/-- within lo and 30 -/
def inS (x : Int32) (lo : Nat) : Bool := decide (¬ x < nI lo ∧ ¬ nI 30 < x)
theorem inS_t {x : Int32} {lo : Nat} (hl : lo ≤ 1) (h : inS x lo = true) : ∃ n, lo ≤ n ∧ n ≤ 30 ∧ x = nI n := by
  obtain ⟨h0, h1⟩ := of_decide_eq_true h
  have h2 : ¬ x < 0 := fun q => h0 (by
    rw [fa_lt] at *
    rw [nI_toInt (by omega)]
    have : (0 : Int32).toInt = 0 := rfl
    omega)
  obtain ⟨j, hj, rfl⟩ := nI_of h2
  rw [nI_ltI hj (by omega)] at h0
  rw [nI_ltI (by omega) hj] at h1
  exact ⟨j, by omega, by omega, rfl⟩
theorem S_isSundays {x : Int32} {lo v : Nat} (hv : 0 < v ∧ v < 3) (h0 : I 85 0 = nI 0) (hq : Q (.inl (some (.int (bz (inS x lo))))) (pm_hp L fz t (rt (inS x lo) v I) J)) : pm_Ev (d + 2) 195 [.ref 85, .int x, .int (nI lo), .int (nI v)] (pm_hp L fz t I J) Q := by
  refine e_X11_isSundays (e_X11_within ⟨fun h => ?_, fun h => ⟨fun h1 => ?_, fun h1 => ?_⟩⟩)
  · refine kb_X11_isSundays_8 (S_right (b := false) h0 hv (kb_X11_isSundays_12 ⟨bz01 _, ?_⟩))
    rw [show inS x lo = false from decide_eq_false fun q => q.1 h] at hq; exact hq
  · refine kb_X11_isSundays_8 (S_right (b := false) h0 hv (kb_X11_isSundays_12 ⟨bz01 _, ?_⟩))
    rw [show inS x lo = false from decide_eq_false fun q => q.2 h1] at hq; exact hq
  · refine kb_X11_isSundays_8 (S_right (b := true) h0 hv (kb_X11_isSundays_12 ⟨bz01 _, ?_⟩))
    rw [show inS x lo = true from decide_eq_true ⟨h, h1⟩] at hq; exact hq
/-! the class's own -/
theorem S_needCard {x : Int32} {m : Nat} (he : I (pm_td t) 13 = nI m) (hy : inR x m = true → Q (.inl none) (pm_hp L fz t I J)) (hn : inR x m = false → Q (.inr 1) (pm_hp L true t I J)) : pm_Ev (d + 1) 281 [.ref 0, .int x] (pm_hp L fz t I J) Q := by
  refine e_X10_needCard ?_
  rw [he]
  exact ⟨fun h => hn (inR_neg h), fun h => ⟨fun h1 => hy (inR_in h (nle_lt.mpr h1)), fun h1 => hn (inR_ge (nlt_le.mp h1))⟩⟩
theorem S_needFigure {x : Int32} {m : Nat} (he : I (pm_td t) 15 = nI m) (hy : inR x m = true → Q (.inl none) (pm_hp L fz t I J)) (hn : inR x m = false → Q (.inr 1) (pm_hp L true t I J)) : pm_Ev (d + 1) 283 [.ref 0, .int x] (pm_hp L fz t I J) Q := by
  refine e_X10_needFigure ?_
  rw [he]
  exact ⟨fun h => hn (inR_neg h), fun h => ⟨fun h1 => hy (inR_in h (nle_lt.mpr h1)), fun h1 => hn (inR_ge (nlt_le.mp h1))⟩⟩
theorem S_needWhat {x : Int32} {m : Nat} (hm : m + 1 < 2 ^ 31) (hy : inR x (m + 1) = true → Q (.inl none) (pm_hp L fz t I J)) (hn : inR x (m + 1) = false → Q (.inr 1) (pm_hp L true t I J)) : pm_Ev (d + 1) 284 [.int x, .int (nI m)] (pm_hp L fz t I J) Q := by
  refine e_X10_needWhat ?_
  exact ⟨fun h => hn (inR_neg h), fun h => ⟨fun h1 => hy (inR_in h (fun q => nle_lt.mpr ((le_of_lt_S hm).mp q) h1)), fun h1 => hn (inR_ge ((le_of_lt_S hm).mpr (nle_lt.mp h1)))⟩⟩
theorem S_cisPick {x : Int32} {m : Nat} (he : I 23 3 = nI m) (hq : Q (.inl (some (.int (bz (inR x m))))) (pm_hp L fz t I J)) : pm_Ev (d + 1) 95 [.ref 0, .int x] (pm_hp L fz t I J) Q := by
  refine e_X10_isPick ?_
  rw [he]
  refine ⟨fun h => ?_, fun h => ⟨fun h1 => ?_, fun h1 => ?_⟩⟩
  · rw [inR_neg h] at hq; exact hq
  · rw [inR_ge h1] at hq; exact hq
  · rw [inR_in h h1] at hq; exact hq
theorem S_isThread {x : Int32} {m : Nat} (he : I (pm_td t) 11 = nI m) (hq : Q (.inl (some (.int (bz (inR x m))))) (pm_hp L fz t I J)) : pm_Ev (d + 1) 96 [.ref 0, .int x] (pm_hp L fz t I J) Q := by
  refine e_X10_isThread ?_
  rw [he]
  refine ⟨fun h => ?_, fun h => ⟨fun h1 => ?_, fun h1 => ?_⟩⟩
  · rw [inR_neg h] at hq; exact hq
  · rw [inR_ge h1] at hq; exact hq
  · rw [inR_in h h1] at hq; exact hq
theorem S_needPick {x : Int32} {m : Nat} (he : I 23 3 = nI m) (hy : inR x m = true → Q (.inl none) (pm_hp L fz t I J)) (hn : inR x m = false → Q (.inr 1) (pm_hp L true t I J)) : pm_Ev (d + 2) 282 [.ref 0, .int x] (pm_hp L fz t I J) Q :=
  e_X10_needPick (S_cisPick he (kb_X10_needPick_5 (q_b0' (fun h => hy h) (fun h => hn h))))
/-! Sundays -/
def clR (T : Td) (W : Wk) : Nat → Int32 := fun k => cl T W (k + 1)
def sun (T : Td) (W : Wk) : Wk := (wo W, ww (wn W), wl W, wp W, ws W + nI 1, wg W + nI (pc (sta T (clR T W) (wp W))))
def sn (T : Td) (W : Wk) : Nat → Wk
  | 0 => W
  | n + 1 => sun T (sn T W n)
theorem okW_sun (h : okW T W) : okW T (sun T W) := ⟨h.1, fun c hc => by
  have := h.2.1 c hc
  show (if lc W c = true then min (ww W c + 1) 9 else ww W c) ≤ 9
  split
  · exact Nat.min_le_right _ _
  · exact this, h.2.2.1, h.2.2.2⟩
theorem sn_eq (h : okW T W) (hT : okT T) : ∀ n, wo (sn T W n) = wo W ∧ wl (sn T W n) = wl W ∧ wp (sn T W n) = wp W ∧ (∀ c, ww (sn T W n) c = ww (wag W n) c) ∧ okW T (sn T W n)
  | 0 => ⟨rfl, rfl, rfl, fun c => by
      show ww W c = if lc W c = true then min (ww W c + 0) 9 else ww W c
      split
      · rename_i hl
        obtain ⟨k, hk, e⟩ := eB_t.mp hl
        have hc := h.2.2.1 k hk
        have := h.2.1 c (by have := hT.2.1; have := of_decide_eq_true e; omega)
        omega
      · rfl, h⟩
  | n + 1 => by
    obtain ⟨h1, h2, h3, h4, h5⟩ := sn_eq h hT n
    refine ⟨h1, h2, h3, fun c => ?_, okW_sun h5⟩
    have el : lc (sn T W n) c = lc W c := by unfold lc; rw [h2, h3]
    show (if lc (sn T W n) c = true then min (ww (sn T W n) c + 1) 9 else ww (sn T W n) c) = if lc W c = true then min (ww W c + (n + 1)) 9 else ww W c
    rw [el, h4 c]
    show (if lc W c = true then min ((if lc W c = true then min (ww W c + n) 9 else ww W c) + 1) 9 else (if lc W c = true then min (ww W c + n) 9 else ww W c)) = _
    split
    · omega
    · rfl
theorem eff_congr {W W' : Wk} {c : Nat} (h1 : wo W = wo W') (h2 : ww W c = ww W' c) : eff T W c = eff T W' c := by unfold eff; rw [h1, h2]
theorem cl_sn (h : okW T W) (hT : okT T) (n k : Nat) : cl T (sn T W n) k = cl T (wag W n) k := by
  obtain ⟨h1, h2, h3, h4, h5⟩ := sn_eq h hT n
  exact cl_congr fun j _ => ⟨by rw [h2]; rfl, by rw [h4], eff_congr (by rw [h1]; rfl) (h4 _)⟩
theorem cl_wag_late {n m : Nat} (hn : 9 ≤ n) (hm : 9 ≤ m) {k : Nat} (hk : k ≤ wp W) : cl T (wag W n) k = cl T (wag W m) k := cl_congr fun j hj => by
  have e : ww (wag W n) (wl W j) = ww (wag W m) (wl W j) := by rw [ww_wag (by omega), ww_wag (by omega)]; omega
  exact ⟨rfl, e, eff_congr rfl e⟩
theorem mT_fr {S : List Nat} {I' : Nat → Nat → Int32} (h : mT T I) (hf : fr S I I') (h85 : ∀ j, j = 1 ∨ j = 2 ∨ j = 4 ∨ j = 5 ∨ j = 6 → I' 85 j = I 85 j) (h6 : 86 ∉ S) (h7 : 87 ∉ S) (h8 : 88 ∉ S) (h9 : 89 ∉ S) (h10 : 90 ∉ S) (h11 : 91 ∉ S) : mT T I' := by
  unfold mT
  rw [h85 1 (by omega), h85 2 (by omega), h85 4 (by omega), h85 5 (by omega), h85 6 (by omega), hf 86 h6, hf 87 h7, hf 88 h8, hf 89 h9, hf 90 h10, hf 91 h11]
  exact h
theorem td_or (t : Bool) : pm_td t = 55 ∨ pm_td t = 70 := by cases t; exact Or.inl rfl; exact Or.inr rfl
theorem S_passSunday (hw : w = 23 ∨ w = 27 ∨ w = 31) (hT : cT (pm_td t) T I) (hW : cW w W I) (oT : okT T) (oW : okW T W) (hM : cM T I)
    (hq : ∀ I', fr [3, 4, 6, 7, 8, pm_td t + 9 + 2, w, w + 2] I I' → cM T I' → cW w (sun T W) I' → Q (.inl none) (pm_hp L fz t I' J)) : pm_Ev (d + 6) 101 [.ref 0, .ref w] (pm_hp L fz t I J) Q := by
  have ht := td_or t
  refine e_X10_passSunday hw (S_weave (s := 0) ht hw hT hW oT oW hM (by omega) fun I1 f1 m1 p1 r1 => kb_X10_passSunday_13 hw ?_)
  have hT1 : cT (pm_td t) T I1 := cT_fr hT f1 (by simp <;> omega) (by simp <;> omega) (by simp <;> omega) (by simp <;> omega) (by simp <;> omega) (by simp <;> omega) (by simp <;> omega) (by simp <;> omega) (by simp <;> omega) (by simp <;> omega)
  have hW1 : cW w W I1 := cW_fr hW f1 (by simp <;> omega) (by simp <;> omega) (by simp <;> omega) (by simp <;> omega)
  have hR1 : ∀ k, k < wp W → I1 4 k = clR T W k := fun k hk => by rw [r1 k hk]; exact cl_wag0 oW oT (by omega)
  refine S_cstanding (R := clR T W) ht hT1 oT p1 hR1 oW.2.2.2 (kb_X10_passSunday_29 hw (S_bitCount (sm_sta oT _ _) (kb_X10_passSunday_32 hw ?_)))
  rw [hW1.2.2.1]
  have hW2 : cW w (wo W, ww W, wl W, wp W, ws W, wg W + nI (pc (sta T (clR T W) (wp W)))) (pm_u I1 w 5 (wg W + nI (pc (sta T (clR T W) (wp W))))) := by
    refine ⟨?_, ?_, pm_us, ?_, ?_, ?_⟩
    · rw [pm_uk (by omega)]; exact hW1.1
    · rw [pm_uk (by omega)]; exact hW1.2.1
    · rw [pm_ua (by omega)]; exact hW1.2.2.2.1
    · rw [pm_ua (by omega)]; exact hW1.2.2.2.2.1
    · rw [pm_ua (by omega)]; exact hW1.2.2.2.2.2
  refine S_wearOn hw hW2 (T := T) ⟨oW.1, oW.2.1, oW.2.2.1, oW.2.2.2⟩ oT fun I2 f2 w2 => kb_X10_passSunday_40 hw ?_
  refine hq _ (fr_u (by simp) (fr_t (fr_u (by simp) (fr_m f1 (by simp <;> omega))) (fr_m f2 (by simp)))) ?_ ?_
  · intro q v h1 h2
    rw [pm_ua (by omega), pm_ua (by omega), f2 8 (by simp <;> omega), f2 7 (by simp <;> omega), pm_ua (by omega), pm_ua (by omega)]
    exact m1 q v h1 h2
  · refine ⟨?_, ?_, ?_, ?_, ?_, ?_⟩
    · rw [pm_uk (by omega)]; exact w2.1
    · rw [pm_us, w2.2.1]; rfl
    · rw [pm_uk (by omega)]; exact w2.2.2.1
    · rw [pm_ua (by omega)]; exact w2.2.2.2.1
    · rw [pm_ua (by omega)]; exact w2.2.2.2.2.1
    · rw [pm_ua (by omega)]; exact w2.2.2.2.2.2
theorem S_mplacesOf {b c : Nat} (hb : b = 0 ∨ b = 34) (hp : I 85 3 = nI (wp W)) (hW : mR (I 103) b (tM T) W) (oT : okT T) (oW : okW T W) (hc : c < 10) (hq : Q (.inl (some (.int (pl W c)))) (pm_hp L fz t I J)) : pm_Ev (d + 1) 173 [.ref 85, .int (nI b), .int (nI c)] (pm_hp L fz t I J) Q := by
  have h12 := oW.2.2.2
  have hm := oT.2.1
  have loop : ∀ (j i : Nat), i + j = wp W → t_X11_placesOf_5 d L fz t Q (nI b) (nI c) (mk (fun k => decide (wl W k = c)) i) (nI i) I J := by
    intro j
    induction j with
    | zero =>
      intro i hi
      obtain rfl : i = wp W := by omega
      refine b_X11_placesOf_5 ?_
      rw [hp]
      exact q_t (nI_le (by omega) (by omega)) hq
    | succ j ih =>
      intro i hi
      have h10 := oW.2.2.1 i (by omega)
      refine b_X11_placesOf_5 ?_
      rw [hp, nI_add, nI_add, nI_clamp (by omega), hW.2.2.2 i (by omega), nI_add, or_0]
      refine q_f (nI_ge (by omega) (by omega)) ⟨vp_in_nI (by omega) (by omega), q_ne (by omega) (by omega) (fun h => ?_) (fun h => ?_)⟩
      · rw [mk_Sf (decide_eq_false h)]; exact ih (i + 1) (by omega)
      · rw [mk_St (decide_eq_true h)]; exact ih (i + 1) (by omega)
  exact e_X11_placesOf (loop (wp W) 0 (by omega))
theorem S_kept {x lo hi : Nat} (hx : x < 2 ^ 31) (hl : lo ≤ x) (hh : hi < 2 ^ 31) (hq : Q (.inl (some (.int (nI (min x hi))))) (pm_hp L fz t I J)) : pm_Ev (d + 1) 120 [.int (nI x), .int (nI lo), .int (nI hi)] (pm_hp L fz t I J) Q := by
  refine e_X11_kept (q_t (nI_le hl hx) (q_le hx hh (fun h => ?_) (fun h => ?_)))
  · rw [Nat.min_eq_left h] at hq; exact hq
  · rw [Nat.min_eq_right (by omega)] at hq; exact hq
theorem S_sundayGoes {b : Nat} (hb : b = 0 ∨ b = 34) (hT : mT T I) (hp : I 85 3 = nI (wp W)) (hW : mR (I 103) b (tM T) W) (oT : okT T) (oW : okW T W)
    (hq : ∀ I', fr [85, 103, 105, 106, 107] I I' → (∀ j, j ≠ 52 → I' 85 j = I 85 j) → (∀ k, k < b ∨ b + 34 ≤ k → I' 103 k = I 103 k) → mR (I' 103) b (tM T) (sun T W) → Q (.inl none) (pm_hp L fz t I' J)) : pm_Ev (d + 6) 174 [.ref 85, .int (nI b)] (pm_hp L fz t I J) Q := by
  have h12 := oW.2.2.2
  have hm := oT.2.1
  refine e_X11_sundayGoes (S_weaves hb hT hp hW oT oW fun I1 f1 e1 p1 r1 => kb_X11_sundayGoes_5 ?_)
  have hT1 : mT T I1 := mT_fr hT f1 (fun j hj => e1 j (by omega)) (by decide) (by decide) (by decide) (by decide) (by decide) (by decide)
  rw [nI_add]
  refine ⟨vp_in_nI (by omega) (by omega), S_mstanding (R := clR T W) hT1 oT p1 r1 h12 (kb_X11_sundayGoes_18 (S_bits (kb_X11_sundayGoes_21 ?_)))⟩
  rw [nI_clamp (by omega), f1 103 (by decide), hW.2.1]
  refine ⟨vp_in_nI (by omega) (by omega), ?_⟩
  have loop : ∀ (j i : Nat) (I' : Nat → Nat → Int32), i + j = tM T → fr [85, 103, 105, 106, 107] I I' → (∀ j, j ≠ 52 → I' 85 j = I 85 j) → (∀ k, k < b ∨ b + 34 ≤ k → I' 103 k = I 103 k) → mR (I' 103) b (tM T) (wo W, (fun c => if c < i then ww (wn W) c else ww W c), wl W, wp W, ws W, wg W + nI (pc (sta T (clR T W) (wp W)))) → t_X11_sundayGoes_25 (d + 5) L fz t Q (nI b) (nI i) I' J := by
    intro j
    induction j with
    | zero =>
      intro i I' hi hf h85 hk hr
      obtain rfl : i = tM T := by omega
      refine b_X11_sundayGoes_25 ?_
      rw [h85 2 (by decide), hT.2.1, nI_add, nI_clamp (by omega)]
      refine q_t (nI_le (by omega) (by omega)) ⟨vp_in_nI (by omega) (by omega), vp_in_nI (by omega) (by omega), hq _ (fr_u (by decide) hf) (fun j hj => by rw [pm_ua (by decide)]; exact h85 j hj) (fun k h => ?_) ?_⟩
      · rw [pm_uk (by omega)]; exact hk k h
      · refine ⟨?_, ?_, fun c hc => ⟨?_, ?_⟩, fun k h => ?_⟩
        · rw [Nat.add_zero, pm_us, hr.1]; rfl
        · rw [pm_uk (by omega), hr.2.1]; rfl
        · rw [pm_uk (by omega), (hr.2.2.1 c hc).1]; rfl
        · rw [pm_uk (by omega), (hr.2.2.1 c hc).2]
          show nI (if c < tM T then _ else _) = _
          rw [if_pos hc]; rfl
        · rw [pm_uk (by omega), hr.2.2.2 k h]; rfl
    | succ j ih =>
      intro i I' hi hf h85 hk hr
      have h9 := oW.2.1 i (by omega)
      have next : ∀ I'' : Nat → Nat → Int32, fr [85, 103, 105, 106, 107] I I'' → (∀ j, j ≠ 52 → I'' 85 j = I 85 j) → (∀ k, k ≠ b + 12 + i → I'' 103 k = I' 103 k) → I'' 103 (b + 12 + i) = nI (ww (wn W) i) → t_X11_sundayGoes_25 (d + 5) L fz t Q (nI b) (nI (i + 1)) I'' J := by
        intro I'' f2 g2 o2 v2
        refine ih (i + 1) I'' (by omega) f2 g2 (fun k h => by rw [o2 k (by omega)]; exact hk k h) ⟨?_, ?_, fun c hc => ⟨?_, ?_⟩, fun k h => ?_⟩
        · rw [o2 _ (by omega)]; exact hr.1
        · rw [o2 _ (by omega)]; exact hr.2.1
        · rw [o2 _ (by omega)]; exact (hr.2.2.1 c hc).1
        · show _ = nI (if c < i + 1 then ww (wn W) c else ww W c)
          by_cases e : c = i
          · rw [e, v2, if_pos (by omega)]
          · rw [o2 _ (by omega), (hr.2.2.1 c hc).2]
            show nI (if c < i then ww (wn W) c else ww W c) = _
            by_cases q : c < i
            · rw [if_pos q, if_pos (by omega)]
            · rw [if_neg q, if_neg (by omega)]
        · have h' : k < wp W := h
          rw [o2 _ (by omega)]; exact hr.2.2.2 k h
      have hri : I' 103 (b + 12 + i) = nI (ww W i) := by
        rw [(hr.2.2.1 i (by omega)).2]
        show nI (if i < i then ww (wn W) i else ww W i) = _
        rw [if_neg (by omega)]
      refine b_X11_sundayGoes_25 ?_
      rw [h85 2 (by decide), hT.2.1]
      refine q_f (nI_ge (by omega) (by omega)) ?_
      refine S_mplacesOf (W := (wo W, (fun c => if c < i then ww (wn W) c else ww W c), wl W, wp W, ws W, wg W + nI (pc (sta T (clR T W) (wp W))))) (T := T) hb (by rw [h85 3 (by decide)]; exact hp) hr oT ⟨oW.1, fun c hc => ?_, oW.2.2.1, oW.2.2.2⟩ (by omega) (kb_X11_sundayGoes_39 ?_)
      · show (if c < i then ww (wn W) c else ww W c) ≤ 9
        split
        · exact (okW_sun oW).2.1 c hc
        · exact oW.2.1 c hc
      · have hp0 : pl (wo W, (fun c => if c < i then ww (wn W) c else ww W c), wl W, wp W, ws W, wg W + nI (pc (sta T (clR T W) (wp W)))) i = nI 0 ↔ lc W i = false := pl_0 (W := W) h12 i
        rw [hp0, nI_add, nI_add, nI_add, nI_clamp (by omega), hri, nI_add]
        refine ⟨fun h => next I' hf h85 (fun _ _ => rfl) ?_, fun h => ⟨vp_in_nI (by omega) (by omega), S_kept (by omega) (by omega) (by omega) (kb_X11_sundayGoes_71 ?_)⟩⟩
        · rw [hri]
          show _ = nI (if lc W i = true then min (ww W i + 1) 9 else ww W i)
          rw [if_neg (by rw [h]; decide)]
        · rw [nI_clamp (by omega), nI_add]
          refine ⟨vp_in_nI (by omega) (by omega), next _ (fr_u (by decide) hf) (fun j hj => by rw [pm_ua (by decide)]; exact h85 j hj) (fun k hk => pm_uk hk) ?_⟩
          rw [pm_us]
          show _ = nI (if lc W i = true then min (ww W i + 1) 9 else ww W i)
          rw [if_pos (by cases q : lc W i; exact absurd q h; rfl)]
  refine loop (tM T) 0 _ (by omega) (fr_u (by decide) (fr_m f1 (by decide))) (fun j hj => by rw [pm_ua (by decide)]; exact e1 j hj) (fun k h => by rw [pm_uk (by omega), f1 103 (by decide)]) ⟨?_, ?_, fun c hc => ⟨?_, ?_⟩, fun k h => ?_⟩
  · rw [pm_uk (by omega), f1 103 (by decide)]; exact hW.1
  · rw [pm_us]; rfl
  · rw [pm_uk (by omega), f1 103 (by decide)]; exact (hW.2.2.1 c hc).1
  · rw [pm_uk (by omega), f1 103 (by decide), (hW.2.2.1 c hc).2]
    show _ = nI (if c < 0 then ww (wn W) c else ww W c)
    rw [if_neg (by omega)]
  · rw [pm_uk (by omega), f1 103 (by decide)]; exact hW.2.2.2 k h
end Spec
