theorem max_c {a b : Nat} (ha : a < 2 ^ 31) (hb : b < 2 ^ 31) : (if nI a < nI b then nI b else nI a) = nI (max a b) := by
  by_cases h : a < b
  · rw [if_pos (nI_lt h hb), Nat.max_eq_right (by omega)]
  · rw [if_neg (nI_nlt (by omega) ha), Nat.max_eq_left (by omega)]
theorem q_b1 {b : Bool} {A B : Prop} (f : b = false → A) (g : b = true → B) : (¬ bz b = nI 1 → A) ∧ (bz b = nI 1 → B) :=
  ⟨fun h => f (by cases b; rfl; exact absurd rfl h), fun h => g ((bz_1 b).mp h)⟩
/-- floats: the longest, the one that goes on -/
def fs (R : Nat → Int32) (u : Nat) : Nat → Nat × Nat
  | 0 => (0, 0)
  | p + 1 => if 0 < p ∧ bt (R p) u = bt (R (p - 1)) u then (max (fs R u p).1 ((fs R u p).2 + 1), (fs R u p).2 + 1) else (max (fs R u p).1 1, 1)
theorem fs_le (R : Nat → Int32) (u : Nat) : ∀ p, (fs R u p).1 ≤ p ∧ (fs R u p).2 ≤ p
  | 0 => ⟨Nat.le_refl _, Nat.le_refl _⟩
  | p + 1 => by
    have := fs_le R u p
    rw [fs]
    split
    · exact ⟨by dsimp only; omega, by dsimp only; omega⟩
    · exact ⟨by dsimp only; omega, by dsimp only; omega⟩
section Spec
variable {d L : Nat} {fz t : Bool} {Q : pm_R → pm_H → Prop} {I : Nat → Nat → Int32} {J : Nat → Nat → Int64} {R : Nat → Int32} {p : Nat}
theorem S_cfloatOf {u : Nat} (hp : I 3 1 = nI p) (h12 : p ≤ 12) (hu : u < 12) (hR : ∀ k, k < p → I 4 k = R k) (hq : Q (.inl (some (.int (nI (fs R u p).1)))) (pm_hp L fz t I J)) : pm_Ev (d + 1) 20 [.ref 3, .int (nI u)] (pm_hp L fz t I J) Q := by
  have loop : ∀ (j i : Nat), i + j = p → t_X2_floatOf_7 d L fz t Q (nI u) (nI (fs R u i).1) (nI (fs R u i).2) (nI i) I J := by
    intro j
    induction j with
    | zero =>
      intro i hi
      obtain rfl : i = p := by omega
      refine b_X2_floatOf_7 ?_
      rw [hp]
      exact q_t (nI_le (by omega) (by omega)) hq
    | succ j ih =>
      intro i hi
      have hle := fs_le R u i
      have nx := ih (i + 1) (by omega)
      rw [fs] at nx
      refine b_X2_floatOf_7 ?_
      rw [hp, nI_clamp (by omega), hR i (by omega), b_bit _ (by omega : u < 32), nI_add, nI_add, max_c (by omega) (by omega), max_c (by omega) (by omega)]
      refine q_f (nI_ge (by omega) (by omega)) (q_le (by omega) (by omega) (fun q => ?_) (fun q => ?_))
      · rw [if_neg (by omega)] at nx; exact nx
      · rw [pk_sub (by omega), nI_clamp (by omega), hR (i - 1) (by omega), b_bit _ (by omega : u < 32), bz_inj]
        refine ⟨vp_in_nI (by omega) (by omega), vp_in_nI (by omega) (by omega), fun z => ?_, fun z => ?_⟩
        · rw [if_neg (fun y => z y.2)] at nx; exact nx
        · rw [if_pos ⟨q, z⟩] at nx; exact nx
  exact e_X2_floatOf (loop p 0 (by omega))
theorem S_mfloatOf {u : Nat} (hp : I 85 3 = nI p) (h12 : p ≤ 12) (hu : u < 12) (hR : ∀ k, k < p → I 107 k = R k) (hq : Q (.inl (some (.int (nI (fs R u p).1)))) (pm_hp L fz t I J)) : pm_Ev (d + 1) 202 [.ref 85, .int (nI u)] (pm_hp L fz t I J) Q := by
  have loop : ∀ (j i : Nat), i + j = p → t_X11_floatOf_7 d L fz t Q (nI u) (nI (fs R u i).1) (nI (fs R u i).2) (nI i) I J := by
    intro j
    induction j with
    | zero =>
      intro i hi
      obtain rfl : i = p := by omega
      refine b_X11_floatOf_7 ?_
      rw [hp]
      exact q_t (nI_le (by omega) (by omega)) hq
    | succ j ih =>
      intro i hi
      have hle := fs_le R u i
      have nx := ih (i + 1) (by omega)
      rw [fs] at nx
      refine b_X11_floatOf_7 ?_
      rw [hp, nI_clamp (by omega), hR i (by omega), b_bit _ (by omega : u < 32), nI_add, nI_add]
      refine q_f (nI_ge (by omega) (by omega)) (q_le (by omega) (by omega) (fun q => ?_) (fun q => ?_))
      · rw [if_neg (by omega)] at nx
        refine q_le (by omega) (by omega) (fun y => ?_) (fun y => ?_)
        · rw [Nat.max_eq_left (by omega)] at nx; exact nx
        · rw [Nat.max_eq_right (by omega)] at nx; exact nx
      · rw [pk_sub (by omega), nI_clamp (by omega), hR (i - 1) (by omega), b_bit _ (by omega : u < 32), bz_inj]
        refine ⟨vp_in_nI (by omega) (by omega), vp_in_nI (by omega) (by omega), fun z => ?_, fun z => ?_⟩
        · rw [if_neg (fun y => z y.2)] at nx
          refine q_le (by omega) (by omega) (fun y => ?_) (fun y => ?_)
          · rw [Nat.max_eq_left (by omega)] at nx; exact nx
          · rw [Nat.max_eq_right (by omega)] at nx; exact nx
        · rw [if_pos ⟨q, z⟩] at nx
          refine q_le (by omega) (by omega) (fun y => ?_) (fun y => ?_)
          · rw [Nat.max_eq_left (by omega)] at nx; exact nx
          · rw [Nat.max_eq_right (by omega)] at nx; exact nx
  exact e_X11_floatOf (loop p 0 (by omega))
theorem S_lowestBit {x : Int32} (hq : Q (.inl (some (.int (oI (ff (bt x) 12 0))))) (pm_hp L fz t I J)) : pm_Ev (d + 1) 97 [.int x] (pm_hp L fz t I J) Q := by
  have loop : ∀ (j i : Nat), i + j = 12 → ff (bt x) j i = ff (bt x) 12 0 → t_X10_lowestBit_2 d L fz t Q x (nI i) I J := by
    intro j
    induction j with
    | zero =>
      intro i hi e
      obtain rfl : i = 12 := by omega
      refine b_X10_lowestBit_2 (q_t (nI_le (by omega) (by omega)) ?_)
      rw [← e] at hq; exact hq
    | succ j ih =>
      intro i hi e
      refine b_X10_lowestBit_2 (q_f (nI_ge (by omega) (by omega)) ?_)
      rw [b_bit x (by omega : i < 32), nI_add]
      refine q_b1 (fun q => ih (i + 1) (by omega) ?_) (fun q => ?_)
      · rw [← e, ff, if_neg (by rw [q]; decide)]
      · rw [← e, ff, if_pos q] at hq; exact hq
  exact e_X10_lowestBit (loop 12 0 (by omega) rfl)
theorem S_right1 (h0 : I 85 0 = nI 0) {v : Nat} (hv : 0 < v ∧ v < 3) (hq : Q (.inl (some (.int (nI 1)))) (pm_hp L fz t I J)) : pm_Ev (d + 1) 118 [.ref 85, .int (nI 1), .int (nI v)] (pm_hp L fz t I J) Q := S_right (b := true) h0 hv hq
theorem S_right0 (h0 : I 85 0 = nI 0) {v : Nat} (hv : 0 < v ∧ v < 3) (hq : Q (.inl (some (.int (nI 0)))) (pm_hp L fz t (pm_u I 85 0 (nI v)) J)) : pm_Ev (d + 1) 118 [.ref 85, .int (nI 0), .int (nI v)] (pm_hp L fz t I J) Q := S_right (b := false) h0 hv (by rw [rt_f rfl]; exact hq)
end Spec
theorem ff_mk {g : Nat → Bool} {n : Nat} (hn : n ≤ 12) : ff (bt (mk g n)) 12 0 = ff g n 0 := by
  cases h : ff g n 0 with
  | none =>
    have h0 := ff_none.mp h
    refine ff_none.mpr fun k h1 h2 => ?_
    rcases Nat.lt_or_ge k n with q | q
    · rw [bt_mk (by omega) q]; exact h0 k h1 (by omega)
    · exact bt_mk_ge (by omega) q
  | some i =>
    obtain ⟨h1, h2, h3, h4⟩ := ff_some h
    cases h' : ff (bt (mk g n)) 12 0 with
    | none =>
      have := ff_none.mp h' i h1 (by omega)
      rw [bt_mk (by omega) (by omega), h3] at this; cases this
    | some i' =>
      obtain ⟨g1, g2, g3, g4⟩ := ff_some h'
      rcases Nat.lt_trichotomy i i' with q | q | q
      · have := g4 i h1 q
        rw [bt_mk (by omega) (by omega), h3] at this; cases this
      · rw [q]
      · rw [bt_mk (by omega) (by omega), h4 i' g1 q] at g3; cases g3
theorem mk_ff0 {g : Nat → Bool} {n : Nat} (hn : n ≤ 12) : mk g n = nI 0 ↔ ff g n 0 = none := by
  rw [ff_none]
  refine (mk_eq0 (by omega)).trans ⟨fun h k _ q => h k (by omega), fun h k q => h k (by omega) (by omega)⟩
/-- the longest float's thread -/
def bl (R : Nat → Int32) (p : Nat) : Nat → Nat
  | 0 => 0
  | k + 1 => if (fs R (k + 1) p).1 ≤ (fs R (bl R p k) p).1 then bl R p k else k + 1
theorem bl_le (R : Nat → Int32) (p : Nat) : ∀ k, bl R p k ≤ k
  | 0 => Nat.le_refl _
  | k + 1 => by
    have := bl_le R p k
    rw [bl]; split <;> omega
/-- at how many places -/
def ctF (g : Nat → Nat → Bool) (n : Nat) : Nat → Nat
  | 0 => 0
  | k + 1 => ctF g n k + cn (g k) n
theorem ctF_le (g : Nat → Nat → Bool) (n : Nat) : ∀ k, ctF g n k ≤ n * k
  | 0 => Nat.zero_le _
  | k + 1 => by
    have := ctF_le g n k
    have := cn_le (g k) n
    rw [ctF, Nat.mul_succ]; omega
/-- gaps: most, first, in -/
def gs (r : Int32) : Nat → Nat × Int32 × Nat
  | 0 => (0, -1, 0)
  | u + 1 => if bt r u = true then ((gs r u).1, (gs r u).2.1, 0) else if (gs r u).2.2 + 1 ≤ (gs r u).1 then ((gs r u).1, (gs r u).2.1, (gs r u).2.2 + 1) else ((gs r u).2.2 + 1, (nI u - nI ((gs r u).2.2 + 1)) + nI 1, (gs r u).2.2 + 1)
theorem gs_le (r : Int32) : ∀ u, (gs r u).1 ≤ u ∧ (gs r u).2.2 ≤ u
  | 0 => ⟨Nat.le_refl _, Nat.le_refl _⟩
  | u + 1 => by
    have := gs_le r u
    rw [gs]
    split
    · exact ⟨by dsimp only; omega, by dsimp only; omega⟩
    · split
      · exact ⟨by dsimp only; omega, by dsimp only; omega⟩
      · exact ⟨by dsimp only; omega, by dsimp only; omega⟩
def mir (n : Nat) (R : Nat → Int32) (p u : Nat) : Bool := aB (fun k => decide (R k = if u = 0 then R (p - 1 - k) else tu n (R k))) p
theorem ab_f {f : Nat → Bool} {n i : Nat} (hi : i < n) (h : f i = false) : aB f n = false := by
  cases q : aB f n with
  | false => rfl
  | true => rw [aB_t.mp q i hi] at h; cases h
section Ops
variable {A : St}
theorem op_floats (ho : ok A) (x : Int32) : op2 261 203 [.int x] A 1 := by
  have h12 := ho.2.1.2.2.2
  have hn := ho.1.1
  by_cases h0 : x = -1
  · subst h0
    refine ⟨0, by decide, nI (bl (clR (sT A) (sW A)) (wp (sW A)) (tN (sT A) - 1)), ?_, ?_⟩
    · intro L fz t I J Q hS hk
      refine e_X10_floats (q_t rfl (cw_weave0 ho (cw_0 hS) fun I1 w1 _ p1 c1 => kb_X10_floats_40 (q_t rfl ?_)))
      have loop : ∀ (j i : Nat), i + 1 + j = tN (sT A) → t_X10_floats_58 58 L fz t Q (nI (bl (clR (sT A) (sW A)) (wp (sW A)) i)) (nI (i + 1)) I1 J := by
        intro j
        induction j with
        | zero =>
          intro i hi
          obtain rfl : i = tN (sT A) - 1 := by omega
          refine b_X10_floats_58 ?_
          rw [w1.1.1.1]
          exact q_t (nI_le (by omega) (by omega)) (cw_e w1 hk)
        | succ j ih =>
          intro i hi
          have hb := bl_le (clR (sT A) (sW A)) (wp (sW A)) i
          have nx := ih (i + 1) (by omega)
          rw [bl] at nx
          refine b_X10_floats_58 ?_
          rw [w1.1.1.1]
          refine q_f (nI_ge (by omega) (by omega)) (S_cfloatOf p1 h12 (by omega) c1 (kb_X10_floats_77 (S_cfloatOf p1 h12 (by omega) c1 (kb_X10_floats_85 ?_))))
          have l1 := fs_le (clR (sT A) (sW A)) (i + 1) (wp (sW A))
          have l2 := fs_le (clR (sT A) (sW A)) (bl (clR (sT A) (sW A)) (wp (sW A)) i) (wp (sW A))
          rw [nI_add]
          refine q_le (by omega) (by omega) (fun q => ?_) (fun q => ?_)
          · rw [if_pos q] at nx; exact nx
          · rw [if_neg (by omega)] at nx; exact nx
      exact loop (tN (sT A) - 1) 0 (by omega)
    · intro L fz t I J Q hS hk
      have hw := mw_0 ho hS
      refine e_X11_floats (q_f (by decide) (q_f ?_ (S_right1 hw.2.2 (by omega) (kb_X11_floats_28 (q_t' nI_01 (mw_weaves ho hw fun I1 w1 _ _ c1 => kb_X11_floats_38 (q_t rfl ?_)))))))
      · rw [hS.1.1, fa_le, nI_toInt (by omega), show (-1 : Int32).toInt = -1 from rfl]; omega
      have loop : ∀ (j i : Nat), i + 1 + j = tN (sT A) → t_X11_floats_53 59 L fz t Q (nI (bl (clR (sT A) (sW A)) (wp (sW A)) i)) (nI (i + 1)) I1 J := by
        intro j
        induction j with
        | zero =>
          intro i hi
          obtain rfl : i = tN (sT A) - 1 := by omega
          refine b_X11_floats_53 ?_
          rw [w1.1.1.1]
          exact q_t (nI_le (by omega) (by omega)) (mw_e w1 hk pv_0)
        | succ j ih =>
          intro i hi
          have hb := bl_le (clR (sT A) (sW A)) (wp (sW A)) i
          have nx := ih (i + 1) (by omega)
          rw [bl] at nx
          refine b_X11_floats_53 ?_
          rw [w1.1.1.1]
          refine q_f (nI_ge (by omega) (by omega)) (S_mfloatOf w1.1.2.1 h12 (by omega) c1 (kb_X11_floats_66 (S_mfloatOf w1.1.2.1 h12 (by omega) c1 (kb_X11_floats_71 ?_))))
          have l1 := fs_le (clR (sT A) (sW A)) (i + 1) (wp (sW A))
          have l2 := fs_le (clR (sT A) (sW A)) (bl (clR (sT A) (sW A)) (wp (sW A)) i) (wp (sW A))
          rw [nI_add]
          refine q_le (by omega) (by omega) (fun q => ?_) (fun q => ?_)
          · rw [if_pos q] at nx; exact nx
          · rw [if_neg (by omega)] at nx; exact nx
      exact loop (tN (sT A) - 1) 0 (by omega)
  · cases h1 : inR x (tN (sT A)) with
    | true =>
      obtain ⟨u, hu, rfl⟩ := inR_t (by omega) h1
      refine ⟨0, by decide, nI (fs (clR (sT A) (sW A)) u (wp (sW A))).1, ?_, ?_⟩
      · intro L fz t I J Q hS hk
        refine e_X10_floats (q_f h0 (S_isThread hS.1.1 (kb_X10_floats_10 ?_)))
        rw [h1]
        refine q_t' nI_01 (cw_weave0 ho (cw_0 hS) fun I1 w1 _ p1 c1 => kb_X10_floats_40 (q_f h0 ?_))
        exact S_cfloatOf p1 h12 (by omega) c1 (kb_X10_floats_53 (cw_e w1 hk))
      · intro L fz t I J Q hS hk
        have hw := mw_0 ho hS
        refine e_X11_floats (q_f ?_ (q_f ?_ (S_right1 hw.2.2 (by omega) (kb_X11_floats_28 (q_t' nI_01 (mw_weaves ho hw fun I1 w1 _ _ c1 => kb_X11_floats_38 (q_f h0 ?_)))))))
        · rw [fa_lt, nI_toInt (by omega), show (-1 : Int32).toInt = -1 from rfl]; omega
        · rw [hS.1.1]; exact nI_ge (by omega) (by omega)
        exact S_mfloatOf w1.1.2.1 h12 (by omega) c1 (kb_X11_floats_48 (mw_e w1 hk pv_0))
    | false =>
      refine ⟨1, by decide, 0, ?_, ?_⟩
      · intro L fz t I J Q hS hk
        refine e_X10_floats (q_f h0 (S_isThread hS.1.1 (kb_X10_floats_10 ?_)))
        rw [h1]
        exact q_f' rfl (cS_r hS hk)
      · intro L fz t I J Q hS hk
        have hw := mw_0 ho hS
        have bad : pm_Ev 59 118 [.ref 85, .int (nI 0), .int (nI 1)] (pm_hp L fz t (pm_u I 85 0 (nI 0)) J) (K_X11_floats_28 59 fz t Q x) := S_right0 hw.2.2 (by omega) (kb_X11_floats_28 (q_f' rfl (mw_x ho hw hk (pv_e (by omega)))))
        refine e_X11_floats ⟨fun _ => bad, fun q => ⟨fun _ => bad, fun q2 => ?_⟩⟩
        exfalso
        have : inR x (tN (sT A)) = true := by
          refine inR_in (fun z => ?_) (fun z => q2 (by rw [hS.1.1]; exact z))
          rw [fa_lt, show (-1 : Int32).toInt = -1 from rfl] at q
          rw [fa_lt, nI_toInt (by omega)] at z
          exact h0 ((fa_eq x (-1)).mpr (by rw [show (-1 : Int32).toInt = -1 from rfl]; omega))
        rw [this] at h1; cases h1
theorem op_stands (ho : ok A) (x y : Int32) : op2 262 204 [.int x, .int y] A 1 := by
  have h12 := ho.2.1.2.2.2
  have hn := ho.1.1
  have h5 := ho.1.2.2.1
  cases h1 : inR x (tG (sT A)) with
  | true =>
    obtain ⟨f, hf, rfl⟩ := inR_t (by omega) h1
    cases h2 : inR y 2 with
    | true =>
      obtain ⟨u, hu, rfl⟩ := inR_t (by omega) h2
      have hct : ∀ i, i ≤ 12 → ctF (stA (sT A) (clR (sT A) (sW A)) (wp (sW A)) f) (tN (sT A)) i ≤ 144 := fun i hi => Nat.le_trans (ctF_le _ _ i) (Nat.mul_le_mul (by omega : tN (sT A) ≤ 12) hi)
      refine ⟨0, by decide, if u = 0 then foI (fst (sT A) (clR (sT A) (sW A)) (wp (sW A)) f) else nI (ctF (stA (sT A) (clR (sT A) (sW A)) (wp (sW A)) f) (tN (sT A)) (wp (sW A))), ?_, ?_⟩
      · intro L fz t I J Q hS hk
        refine e_X10_stands (gFy hS.1.2.2.2.1 h1 (kb_X10_stands_5 (gWy (by omega) h2 (kb_X10_stands_10 ?_))))
        refine cw_weave0 ho (cw_0 hS) fun I1 w1 _ p1 c1 => kb_X10_stands_26 ?_
        have fin : ∀ v, v = (if u = 0 then foI (fst (sT A) (clR (sT A) (sW A)) (wp (sW A)) f) else nI (ctF (stA (sT A) (clR (sT A) (sW A)) (wp (sW A)) f) (tN (sT A)) (wp (sW A)))) → Q (.inl (some (.int v))) (pm_hp L true t I1 J) := fun v hv => by
          rw [hv]; exact cw_e w1 hk
        have loop : ∀ (j i : Nat), i + j = wp (sW A) → (u = 0 → fo (stA (sT A) (clR (sT A) (sW A)) (wp (sW A)) f) (tN (sT A)) j i = fst (sT A) (clR (sT A) (sW A)) (wp (sW A)) f) → t_X10_stands_31 58 L true t Q (nI f) (nI u) (nI (ctF (stA (sT A) (clR (sT A) (sW A)) (wp (sW A)) f) (tN (sT A)) i)) (nI i) I1 J := by
          intro j
          induction j with
          | zero =>
            intro i hi e
            obtain rfl : i = wp (sW A) := by omega
            refine b_X10_stands_31 ?_
            rw [p1]
            refine q_t (nI_le (by omega) (by omega)) (q_ne (by omega) (by omega) (fun q => fin _ ?_) (fun q => fin _ ?_))
            · rw [if_neg q]
            · rw [if_pos q, ← e q]; rfl
          | succ j ih =>
            intro i hi e
            have hc := hct i (by omega)
            refine b_X10_stands_31 ?_
            rw [p1]
            refine q_f (nI_ge (by omega) (by omega)) (S_startsAt (td_or t) w1.1.1 ho.1 p1 c1 h12 hf (by omega) (kb_X10_stands_57 ?_))
            have go : (u = 0 → fo (stA (sT A) (clR (sT A) (sW A)) (wp (sW A)) f) (tN (sT A)) j (i + 1) = fst (sT A) (clR (sT A) (sW A)) (wp (sW A)) f) → pm_Ev 58 236 [.int (mk (stA (sT A) (clR (sT A) (sW A)) (wp (sW A)) f i) (tN (sT A)))] (pm_hp L true t I1 J) (K_X10_stands_86 58 true t Q (nI f) (nI u) (nI i) (nI (ctF (stA (sT A) (clR (sT A) (sW A)) (wp (sW A)) f) (tN (sT A)) i))) := fun e' => by
              refine S_bitCount (sm_mono (sm_mk _ (by omega)) (by omega)) (kb_X10_stands_86 ?_)
              rw [pc_mk (by omega), nI_add, nI_add]
              exact ih (i + 1) (by omega) e'
            refine q_ne (by omega) (by omega) (fun q => go (fun z => absurd z q)) (fun q => ⟨fun z => go (fun _ => ?_), fun z => ?_⟩)
            · rw [← e q, fo, (mk_ff0 (by omega)).mp z]
            · refine S_lowestBit (kb_X10_stands_78 ?_)
              rw [ff_mk (by omega), pk_mul]
              rw [mk_ff0 (by omega)] at z
              cases hz : ff (stA (sT A) (clR (sT A) (sW A)) (wp (sW A)) f i) (tN (sT A)) 0 with
              | none => exact absurd hz z
              | some r =>
                show Q (.inl (some (.int (nI (100 * i) + nI r)))) _
                rw [nI_add]
                refine fin _ ?_
                rw [if_pos q, ← e q, fo, hz]; rfl
        exact loop (wp (sW A)) 0 (by omega) (fun _ => rfl)
      · intro L fz t I J Q hS hk
        have hw := mw_0 ho hS
        refine e_X11_stands (mFy hw h1 (kb_X11_stands_10 (q_f nI_01 (mWy hw (by omega) h2 (kb_X11_stands_19 (q_t' nI_01 ?_))))))
        refine mw_weaves ho hw fun I1 w1 _ p1 c1 => kb_X11_stands_29 ?_
        have fin : ∀ v, v = (if u = 0 then foI (fst (sT A) (clR (sT A) (sW A)) (wp (sW A)) f) else nI (ctF (stA (sT A) (clR (sT A) (sW A)) (wp (sW A)) f) (tN (sT A)) (wp (sW A)))) → Q (.inl (some (.int v))) (pm_hp L fz t I1 J) := fun v hv => by
          rw [hv]; exact mw_e w1 hk pv_0
        refine q_ne (by omega) (by omega) (fun q => ?_) (fun q => S_firstOf w1.1.1 ho.1 p1 c1 h12 hf (kb_X11_stands_38 (fin _ (by rw [if_pos q]))))
        have loop : ∀ (j i : Nat), i + j = wp (sW A) → t_X11_stands_44 59 L fz t Q (nI f) (nI (ctF (stA (sT A) (clR (sT A) (sW A)) (wp (sW A)) f) (tN (sT A)) i)) (nI i) I1 J := by
          intro j
          induction j with
          | zero =>
            intro i hi
            obtain rfl : i = wp (sW A) := by omega
            refine b_X11_stands_44 ?_
            rw [w1.1.2.1]
            exact q_t (nI_le (by omega) (by omega)) (fin _ (by rw [if_neg q]))
          | succ j ih =>
            intro i hi
            refine b_X11_stands_44 ?_
            rw [w1.1.2.1]
            refine q_f (nI_ge (by omega) (by omega)) ?_
            have inner : ∀ (j' i' : Nat), i' + j' = tN (sT A) → t_X11_stands_56 59 L fz t Q (nI f) (nI (ctF (stA (sT A) (clR (sT A) (sW A)) (wp (sW A)) f) (tN (sT A)) i + cn (stA (sT A) (clR (sT A) (sW A)) (wp (sW A)) f i) i')) (nI i) (nI i') I1 J := by
              intro j'
              induction j' with
              | zero =>
                intro i' hi'
                obtain rfl : i' = tN (sT A) := by omega
                refine b_X11_stands_56 ?_
                rw [w1.1.1.1, nI_add]
                exact q_t (nI_le (by omega) (by omega)) (ih (i + 1) (by omega))
              | succ j' ih' =>
                intro i' hi'
                refine b_X11_stands_56 ?_
                rw [w1.1.1.1]
                refine q_f (nI_ge (by omega) (by omega)) (S_standsAt w1.1.1 ho.1 p1 c1 h12 hf (by omega) (by omega) (kb_X11_stands_75 ?_))
                have nx := ih' (i' + 1) (by omega)
                rw [cn] at nx
                rw [nI_add, nI_add, nI_add]
                refine q_b0 (fun z => ?_) (fun z => ?_)
                · rw [z] at nx; exact nx
                · rw [z] at nx; exact nx
            exact inner (tN (sT A)) 0 (by omega)
        exact loop (wp (sW A)) 0 (by omega)
    | false =>
      refine ⟨1, by decide, 0, ?_, ?_⟩
      · intro L fz t I J Q hS hk
        exact e_X10_stands (gFy hS.1.2.2.2.1 h1 (kb_X10_stands_5 (gWn (by omega) h2 (cS_r hS hk))))
      · intro L fz t I J Q hS hk
        have hw := mw_0 ho hS
        exact e_X11_stands (mFy hw h1 (kb_X11_stands_10 (q_f nI_01 (mWn hw (by omega) h2 (kb_X11_stands_19 (q_f' rfl (mw_x ho hw hk (pv_e (by omega)))))))))
  | false =>
    refine ⟨1, by decide, 0, ?_, ?_⟩
    · intro L fz t I J Q hS hk
      exact e_X10_stands (gFn hS.1.2.2.2.1 h1 (cS_r hS hk))
    · intro L fz t I J Q hS hk
      exact e_X11_stands (mFn (mw_0 ho hS) h1 (kb_X11_stands_10 (q_t rfl (mw_x ho (mw_0 ho hS) hk (pv_e (by omega))))))
theorem op_gap (ho : ok A) (x y : Int32) : op2 274 226 [.int x, .int y] A 1 := by
  have h12 := ho.2.1.2.2.2
  have hn := ho.1.1
  cases h1 : inR x (wp (sW A)) with
  | true =>
    obtain ⟨k, hk', rfl⟩ := inR_t (by omega) h1
    cases h2 : inR y 2 with
    | true =>
      obtain ⟨u, hu, rfl⟩ := inR_t (by omega) h2
      refine ⟨0, by decide, if u = 0 then nI (gs (clR (sT A) (sW A) k) (tN (sT A))).1 else (gs (clR (sT A) (sW A) k) (tN (sT A))).2.1, ?_, ?_⟩
      · intro L fz t I J Q hS hk
        refine e_X10_gap (gPy hS.2.1.1 h1 (kb_X10_gap_5 (gWy (by omega) h2 (kb_X10_gap_10 ?_))))
        refine cw_weave0 ho (cw_0 hS) fun I1 w1 _ p1 c1 => kb_X10_gap_26 ⟨vp_in_nI (by omega) (by omega), ?_⟩
        rw [nI_clamp (by omega), c1 k hk']
        have loop : ∀ (j i : Nat), i + j = tN (sT A) → t_X10_gap_48 58 L true t Q (nI u) (clR (sT A) (sW A) k) (nI (gs (clR (sT A) (sW A) k) i).1) (gs (clR (sT A) (sW A) k) i).2.1 (nI (gs (clR (sT A) (sW A) k) i).2.2) (nI i) I1 J := by
          intro j
          induction j with
          | zero =>
            intro i hi
            obtain rfl : i = tN (sT A) := by omega
            refine b_X10_gap_48 ?_
            rw [w1.1.1.1]
            refine q_t (nI_le (by omega) (by omega)) (q_ne (by omega) (by omega) (fun q => ?_) (fun q => ?_))
            · have := cw_e (fz' := true) w1 hk
              rw [if_neg q] at this; exact this
            · have := cw_e (fz' := true) w1 hk
              rw [if_pos q] at this; exact this
          | succ j ih =>
            intro i hi
            have hle := gs_le (clR (sT A) (sW A) k) i
            have nx := ih (i + 1) (by omega)
            rw [gs] at nx
            refine b_X10_gap_48 ?_
            rw [w1.1.1.1, b_bit _ (by omega : i < 32), nI_add, nI_add]
            refine q_f (nI_ge (by omega) (by omega)) (q_b1 (fun q => q_le (by omega) (by omega) (fun z => ?_) (fun z => ?_)) (fun q => q_t (nI_le (by omega) (by omega)) ?_))
            · rw [if_neg (by rw [q]; decide), if_pos z] at nx; exact nx
            · rw [if_neg (by rw [q]; decide), if_neg (by omega)] at nx; exact nx
            · rw [if_pos q] at nx; exact nx
        exact loop (tN (sT A)) 0 (by omega)
      · intro L fz t I J Q hS hk
        have hw := mw_0 ho hS
        refine e_X11_gap (mPy hw h1 (kb_X11_gap_10 (q_f nI_01 (mWy hw (by omega) h2 (kb_X11_gap_19 (q_t' nI_01 ?_))))))
        refine mw_weaves ho hw fun I1 w1 _ p1 c1 => kb_X11_gap_29 ?_
        have loop : ∀ (j i : Nat), i + j = tN (sT A) → t_X11_gap_40 59 L fz t Q (nI k) (nI u) (gs (clR (sT A) (sW A) k) i).2.1 (nI (gs (clR (sT A) (sW A) k) i).1) (nI (gs (clR (sT A) (sW A) k) i).2.2) (nI i) I1 J := by
          intro j
          induction j with
          | zero =>
            intro i hi
            obtain rfl : i = tN (sT A) := by omega
            refine b_X11_gap_40 ?_
            rw [w1.1.1.1]
            refine q_t (nI_le (by omega) (by omega)) (q_ne (by omega) (by omega) (fun q => ?_) (fun q => ?_))
            · exact mw_e w1 hk ⟨_, fun _ => by rw [if_neg q], rfl⟩
            · exact mw_e w1 hk ⟨_, fun _ => by rw [if_pos q], rfl⟩
          | succ j ih =>
            intro i hi
            have hle := gs_le (clR (sT A) (sW A) k) i
            have nx := ih (i + 1) (by omega)
            rw [gs] at nx
            refine b_X11_gap_40 ?_
            rw [w1.1.1.1, nI_clamp (by omega), c1 k hk', b_bit _ (by omega : i < 32), nI_add, nI_add]
            refine q_f (nI_ge (by omega) (by omega)) ⟨vp_in_nI (by omega) (by omega), q_b0' (fun q => q_f (nI_nlt (by omega) (by omega)) ?_) (fun q => q_lt (by omega) (by omega) (fun z => ?_) (fun z => ?_))⟩
            · rw [if_pos q] at nx; exact nx
            · rw [if_neg (by rw [q]; decide), if_neg (by omega)] at nx; exact nx
            · rw [if_neg (by rw [q]; decide), if_pos z] at nx; exact nx
        exact loop (tN (sT A)) 0 (by omega)
    | false =>
      refine ⟨1, by decide, 0, ?_, ?_⟩
      · intro L fz t I J Q hS hk
        exact e_X10_gap (gPy hS.2.1.1 h1 (kb_X10_gap_5 (gWn (by omega) h2 (cS_r hS hk))))
      · intro L fz t I J Q hS hk
        have hw := mw_0 ho hS
        exact e_X11_gap (mPy hw h1 (kb_X11_gap_10 (q_f nI_01 (mWn hw (by omega) h2 (kb_X11_gap_19 (q_f' rfl (mw_x ho hw hk (pv_e (by omega)))))))))
  | false =>
    refine ⟨1, by decide, 0, ?_, ?_⟩
    · intro L fz t I J Q hS hk
      exact e_X10_gap (gPn hS.2.1.1 h1 (cS_r hS hk))
    · intro L fz t I J Q hS hk
      exact e_X11_gap (mPn (mw_0 ho hS) h1 (kb_X11_gap_10 (q_t rfl (mw_x ho (mw_0 ho hS) hk (pv_e (by omega))))))
theorem op_mirrored (ho : ok A) (y : Int32) : op2 280 232 [.int y] A 1 := by
  have h12 := ho.2.1.2.2.2
  have hn := ho.1.1
  cases h2 : inR y 2 with
  | true =>
    obtain ⟨u, hu, rfl⟩ := inR_t (by omega) h2
    refine ⟨0, by decide, bz (mir (tN (sT A)) (clR (sT A) (sW A)) (wp (sW A)) u), ?_, ?_⟩
    · intro L fz t I J Q hS hk
      refine e_X10_mirrored (gWy (by omega) h2 (kb_X10_mirrored_5 ?_))
      refine cw_weave0 ho (cw_0 hS) fun I1 w1 _ p1 c1 => kb_X10_mirrored_21 ?_
      have fin : ∀ v, mir (tN (sT A)) (clR (sT A) (sW A)) (wp (sW A)) u = v → Q (.inl (some (.int (bz v)))) (pm_hp L true t I1 J) := fun v hv => by
        rw [← hv]; exact cw_e w1 hk
      have loop : ∀ (j i : Nat), i + j = wp (sW A) → (∀ k, k < i → clR (sT A) (sW A) k = if u = 0 then clR (sT A) (sW A) (wp (sW A) - 1 - k) else tu (tN (sT A)) (clR (sT A) (sW A) k)) → t_X10_mirrored_23 58 L true t Q (nI u) (nI i) I1 J := by
        intro j
        induction j with
        | zero =>
          intro i hi e
          obtain rfl : i = wp (sW A) := by omega
          refine b_X10_mirrored_23 ?_
          rw [p1]
          exact q_t (nI_le (by omega) (by omega)) (fin true (aB_t.mpr fun k hk => decide_eq_true (e k hk)))
        | succ j ih =>
          intro i hi e
          refine b_X10_mirrored_23 ?_
          rw [p1, nI_clamp (by omega), c1 i (by omega), pk_sub (by omega), pk_sub (by omega), nI_clamp (by omega), c1 _ (by omega)]
          have last : ∀ v, v = (if u = 0 then clR (sT A) (sW A) (wp (sW A) - 1 - i) else tu (tN (sT A)) (clR (sT A) (sW A) i)) → t_X10_mirrored_78 58 L true t Q (nI u) (nI i) (clR (sT A) (sW A) i) v I1 J := fun v hv => by
            refine b_X10_mirrored_78 ?_
            rw [nI_add]
            refine ⟨fun z => ih (i + 1) (by omega) (fun k hk => ?_), fun z => fin false (ab_f (i := i) (by omega) (decide_eq_false (by rw [← hv]; exact z)))⟩
            by_cases q : k = i
            · rw [q, ← hv]; exact z
            · exact e k (by omega)
          refine q_f (nI_ge (by omega) (by omega)) ⟨vp_in_nI (by omega) (by omega), q_ne (by omega) (by omega) (fun q => ?_) (fun q => ⟨vp_in_nI (by omega) (by omega), last _ (by rw [if_pos q])⟩)⟩
          exact S_turned (td_or t) w1.1.1.1 (by omega) (last _ (by rw [if_neg q]))
      exact loop (wp (sW A)) 0 (by omega) (fun k h => absurd h (by omega))
    · intro L fz t I J Q hS hk
      have hw := mw_0 ho hS
      refine e_X11_mirrored (mWy hw (by omega) h2 (kb_X11_mirrored_11 (q_t' nI_01 ?_)))
      refine mw_weaves ho hw fun I1 w1 _ p1 c1 => kb_X11_mirrored_21 ?_
      have fin : ∀ v, mir (tN (sT A)) (clR (sT A) (sW A)) (wp (sW A)) u = v → Q (.inl (some (.int (bz v)))) (pm_hp L fz t I1 J) := fun v hv => by
        rw [← hv]; exact mw_e w1 hk pv_0
      have loop : ∀ (j i : Nat), i + j = wp (sW A) → (∀ k, k < i → clR (sT A) (sW A) k = if u = 0 then clR (sT A) (sW A) (wp (sW A) - 1 - k) else tu (tN (sT A)) (clR (sT A) (sW A) k)) → t_X11_mirrored_23 59 L fz t Q (nI u) (nI i) I1 J := by
        intro j
        induction j with
        | zero =>
          intro i hi e
          obtain rfl : i = wp (sW A) := by omega
          refine b_X11_mirrored_23 ?_
          rw [w1.1.2.1]
          exact q_t (nI_le (by omega) (by omega)) (fin true (aB_t.mpr fun k hk => decide_eq_true (e k hk)))
        | succ j ih =>
          intro i hi e
          refine b_X11_mirrored_23 ?_
          rw [w1.1.2.1, nI_clamp (by omega), c1 i (by omega), pk_sub (by omega), pk_sub (by omega), nI_clamp (by omega), c1 _ (by omega)]
          have last : ∀ v, v = (if u = 0 then clR (sT A) (sW A) (wp (sW A) - 1 - i) else tu (tN (sT A)) (clR (sT A) (sW A) i)) → t_X11_mirrored_67 59 L fz t Q (nI u) (nI i) (clR (sT A) (sW A) i) v I1 J := fun v hv => by
            refine b_X11_mirrored_67 ?_
            rw [nI_add]
            refine ⟨fun z => ih (i + 1) (by omega) (fun k hk => ?_), fun z => fin false (ab_f (i := i) (by omega) (decide_eq_false (by rw [← hv]; exact z)))⟩
            by_cases q : k = i
            · rw [q, ← hv]; exact z
            · exact e k (by omega)
          refine q_f (nI_ge (by omega) (by omega)) ⟨vp_in_nI (by omega) (by omega), q_ne (by omega) (by omega) (fun q => ⟨vp_in_nI (by omega) (by omega), ?_⟩) (fun q => ⟨vp_in_nI (by omega) (by omega), last _ (by rw [if_pos q])⟩)⟩
          exact S_mturned w1.1.1.1 (by omega) (last _ (by rw [if_neg q]))
      exact loop (wp (sW A)) 0 (by omega) (fun k h => absurd h (by omega))
  | false =>
    refine ⟨1, by decide, 0, ?_, ?_⟩
    · intro L fz t I J Q hS hk
      exact e_X10_mirrored (gWn (by omega) h2 (cS_r hS hk))
    · intro L fz t I J Q hS hk
      have hw := mw_0 ho hS
      exact e_X11_mirrored (mWn hw (by omega) h2 (kb_X11_mirrored_11 (q_f' rfl (mw_x ho hw hk (pv_e (by omega))))))
end Ops
