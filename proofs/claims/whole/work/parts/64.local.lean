/-! a thread hangs on the holes at it and next to it alone -/
def nr (n u v : Nat) : Prop := v < n ∧ (v + 1 = u ∨ v = u ∨ v = u + 1)
theorem bes_loc {n : Nat} {h h' : Int32} {u : Nat} (hu : u < n) (hh : ∀ v, nr n u v → bt h v = bt h' v) : bes n h u = bes n h' u := by
  unfold bes
  congr 2
  · by_cases q : 0 < u
    · rw [hh (u - 1) ⟨by omega, by omega⟩]
    · rw [decide_eq_false q, Bool.false_and, Bool.false_and]
  · by_cases q : u + 1 < n
    · rw [hh (u + 1) ⟨q, by omega⟩]
    · rw [decide_eq_false q, Bool.false_and, Bool.false_and]
theorem cl_loc {T : Td} {W W' : Wk} {u : Nat} (hT : okT T) (hl : wl W = wl W') (hw : ww W = ww W') (hu : u < tN T) (hh : ∀ c v, nr (tN T) u v → bt (wo W c) v = bt (wo W' c) v) : ∀ k, bt (cl T W k) u = bt (cl T W' k) u
  | 0 => rfl
  | k + 1 => by
    have ih := cl_loc hT hl hw hu hh k
    have e : ∀ c v, nr (tN T) u v → bt (eff T W c) v = bt (eff T W' c) v := fun c v hv => by
      unfold eff
      rw [hw]
      split
      · rfl
      · exact hh c v hv
    have hn := hT.1
    rw [cl, cl]
    unfold ups
    rw [← hl, ← hw]
    by_cases q : tU T = []
    · rw [if_pos q, if_pos q]; exact e _ u ⟨hu, by omega⟩
    · rw [if_neg q, if_neg q, bt_mk (by omega) hu, bt_mk (by omega) hu, e _ u ⟨hu, by omega⟩, bes_loc hu (e _), ih]
/-- one card punched otherwise -/
theorem cl_ho {T : Td} {W : Wk} {c u : Nat} {h h' : Int32} (hT : okT T) (hu : u < tN T) (hh : ∀ v, nr (tN T) u v → bt h v = bt h' v) (s k : Nat) : bt (cl T (wag (wHo W c h) s) k) u = bt (cl T (wag (wHo W c h') s) k) u :=
  cl_loc (W := wag (wHo W c h) s) (W' := wag (wHo W c h') s) hT rfl rfl hu (fun e v hv => by
    show bt (if e = c then h else wo W e) v = bt (if e = c then h' else wo W e) v
    split
    · exact hh v hv
    · rfl) k
theorem clR_ho {T : Td} {W : Wk} {c u : Nat} {h h' : Int32} (hT : okT T) (hu : u < tN T) (hh : ∀ v, nr (tN T) u v → bt h v = bt h' v) (k : Nat) : bt (clR T (wHo W c h) k) u = bt (clR T (wHo W c h') k) u :=
  cl_loc (W := wHo W c h) (W' := wHo W c h') hT rfl rfl hu (fun e v hv => by
    show bt (if e = c then h else wo W e) v = bt (if e = c then h' else wo W e) v
    split
    · exact hh v hv
    · rfl) (k + 1)
/-! the sieve -/
def pat (i : Nat) : Int32 := ((if i.testBit 0 then nI 585 else 0) ||| (if i.testBit 1 then nI 585 <<< (nI 1 &&& 31) else 0)) ||| (if i.testBit 2 then nI 585 <<< (nI 2 &&& 31) else 0)
theorem pat_bt : ∀ i, i < 8 → ∀ v, v < 12 → bt (pat i) v = i.testBit (v % 3) := by decide +kernel
def pt (n i : Nat) : Int32 := pat i &&& al n
theorem sm_pt {n i : Nat} (h : n < 32) : sm (pt n i) n := sm_and' (sm_al h)
theorem pt_bt {n i v : Nat} (hn : n ≤ 12) (hi : i < 8) (hv : v < n) : bt (pt n i) v = i.testBit (v % 3) := by
  unfold pt
  rw [b_and, b_al n (by omega) v (by omega), decide_eq_true hv, Bool.and_true, pat_bt i hi v (by omega)]
/-- a pattern that is as the holes are at a thread and next to it -/
def pk3 (a b c : Bool) (r : Nat) : Nat := (2 ^ ((r + 2) % 3)) * a.toNat + (2 ^ (r % 3)) * b.toNat + (2 ^ ((r + 1) % 3)) * c.toNat
theorem pk3_ok : ∀ (a b c : Bool), ∀ r, r < 3 → pk3 a b c r < 8 ∧ (pk3 a b c r).testBit ((r + 2) % 3) = a ∧ (pk3 a b c r).testBit r = b ∧ (pk3 a b c r).testBit ((r + 1) % 3) = c := by decide +kernel
theorem pat_ex {n u : Nat} (h : Int32) (hn : n ≤ 12) (hu : u < n) : ∃ i, i < 8 ∧ ∀ v, nr n u v → bt h v = bt (pt n i) v := by
  obtain ⟨h1, h2, h3, h4⟩ := pk3_ok (bt h (u - 1)) (bt h u) (bt h (u + 1)) (u % 3) (Nat.mod_lt _ (by omega))
  refine ⟨_, h1, fun v hv => ?_⟩
  obtain ⟨hv1, hv2⟩ := hv
  rw [pt_bt hn h1 hv1]
  rcases hv2 with e | e | e
  · rw [show v = u - 1 by omega, show (u - 1) % 3 = (u % 3 + 2) % 3 by omega, h2]
  · rw [e, h3]
  · rw [e, show (u + 1) % 3 = (u % 3 + 1) % 3 by omega, h4]
/-- good for a thread: G h u, by the holes next to it -/
def loc (n : Nat) (G : Int32 → Nat → Bool) : Prop := ∀ h h' u, u < n → (∀ v, nr n u v → bt h v = bt h' v) → G h u = G h' u
/-- the cells of the sieve -/
def cV (n : Nat) (G : Int32 → Nat → Bool) (I : Nat → Nat → Int32) : Prop := I 9 2 = al n ∧ ∀ i, i < 8 → I 10 i = pt n i ∧ I 11 i = mk (G (pt n i)) n
def fit (n : Nat) (G : Int32 → Nat → Bool) (h : Int32) : Nat → Int32
  | 0 => nI 0
  | i + 1 => fit n G h i ||| (mk (G (pt n i)) n &&& ((((h ^^^ pt n i) ||| ((h ^^^ pt n i) <<< (nI 1 &&& 31))) ||| ((h ^^^ pt n i) >>> (nI 1 &&& 31))) ^^^ (-1 : Int32)))
def mtc (h : Int32) (n i u : Nat) : Bool := aB (fun v => !(decide (v + 1 = u) || (decide (v = u) || decide (v = u + 1))) || (bt h v == bt (pt n i) v)) 12
theorem mtc_t {h : Int32} {n i u : Nat} : mtc h n i u = true ↔ ∀ v, v < 12 → (v + 1 = u ∨ v = u ∨ v = u + 1) → bt h v = bt (pt n i) v := by
  refine aB_t.trans ⟨fun q v hv hv2 => ?_, fun q v hv => ?_⟩
  · have := q v hv
    have e : (decide (v + 1 = u) || (decide (v = u) || decide (v = u + 1))) = true := by
      rcases hv2 with e | e | e
      · rw [decide_eq_true e]; rfl
      · rw [decide_eq_true e]; simp
      · rw [decide_eq_true e]; simp
    rw [e] at this
    simpa using this
  · by_cases e : v + 1 = u ∨ v = u ∨ v = u + 1
    · rw [q v hv e]; simp
    · have : (decide (v + 1 = u) || (decide (v = u) || decide (v = u + 1))) = false := by
        rw [decide_eq_false (fun z => e (Or.inl z)), decide_eq_false (fun z => e (Or.inr (Or.inl z))), decide_eq_false (fun z => e (Or.inr (Or.inr z)))]; rfl
      rw [this]; rfl
theorem fit_bt {n : Nat} {G : Int32 → Nat → Bool} {h : Int32} (hn : n ≤ 12) (hG : loc n G) (hh : sm h n) {u : Nat} (hu : u < n) : ∀ j, j ≤ 8 → bt (fit n G h j) u = (eB (fun i => mtc h n i u) j && G h u)
  | 0, _ => by rw [fit, b_n0]; rfl
  | j + 1, hj => by
    have sx : sm (h ^^^ pt n j) n := sm_xor hh (sm_pt (by omega))
    have x31 : bt (h ^^^ pt n j) 31 = false := sx 31 (by omega)
    rw [fit, b_or, fit_bt hn hG hh hu j (by omega), b_and, bt_mk (by omega) hu, b_not _ (by omega), b_or, b_or, b_shl 1 (by omega) _ (by omega), b_sshr 1 (by omega) _ (by omega), if_pos (by omega), eB]
    have hx : ∀ v, bt (h ^^^ pt n j) v = false ↔ bt h v = bt (pt n j) v := fun v => by rw [b_xor]; cases bt h v <;> cases bt (pt n j) v <;> simp
    by_cases q : ∀ v, v < 12 → (v + 1 = u ∨ v = u ∨ v = u + 1) → bt h v = bt (pt n j) v
    · rw [mtc_t.mpr q, hG (pt n j) h u hu (fun v hv => (q v (by have := hv.1; omega) hv.2).symm)]
      have e0 : bt (h ^^^ pt n j) u = false := (hx u).mpr (q u (by omega) (by omega))
      have e1 : (decide (1 ≤ u) && bt (h ^^^ pt n j) (u - 1)) = false := by
        by_cases z : 1 ≤ u
        · rw [(hx (u - 1)).mpr (q (u - 1) (by omega) (by omega)), Bool.and_false]
        · rw [decide_eq_false z, Bool.false_and]
      have e2 : bt (h ^^^ pt n j) (1 + u) = false := by
        by_cases z : u + 1 < 12
        · rw [Nat.add_comm]; exact (hx (u + 1)).mpr (q (u + 1) z (by omega))
        · exact sx _ (by omega)
      rw [e0, e1, e2]
      cases G h u <;> simp
    · rw [show mtc h n j u = false by cases y : mtc h n j u; rfl; exact absurd (mtc_t.mp y) q, Bool.or_false]
      have e : (bt (h ^^^ pt n j) u || (decide (1 ≤ u) && bt (h ^^^ pt n j) (u - 1)) || bt (h ^^^ pt n j) (1 + u)) = true := by
        cases y : (bt (h ^^^ pt n j) u || (decide (1 ≤ u) && bt (h ^^^ pt n j) (u - 1)) || bt (h ^^^ pt n j) (1 + u)) with
        | true => rfl
        | false =>
          exfalso
          rw [Bool.or_eq_false_iff, Bool.or_eq_false_iff] at y
          obtain ⟨⟨y1, y2⟩, y3⟩ := y
          refine q fun v hv hv2 => (hx v).mp ?_
          rcases hv2 with e | e | e
          · rw [decide_eq_true (by omega : 1 ≤ u), Bool.true_and, show u - 1 = v by omega] at y2; exact y2
          · rw [e]; exact y1
          · rw [e, Nat.add_comm]; exact y3
      rw [e]
      simp
theorem sm_fit {n : Nat} {G : Int32 → Nat → Bool} {h : Int32} (hn : n ≤ 12) : ∀ j, sm (fit n G h j) n
  | 0 => sm_0 n
  | j + 1 => sm_or (sm_fit hn j) (sm_and (sm_mk _ (by omega)))
theorem fit_all {n : Nat} {G : Int32 → Nat → Bool} {h : Int32} (hn : n ≤ 12) (hG : loc n G) (hh : sm h n) : fit n G h 8 = al n ↔ aB (G h) n = true := by
  have key : ∀ u, u < n → bt (fit n G h 8) u = G h u := fun u hu => by
    rw [fit_bt hn hG hh hu 8 (by omega)]
    obtain ⟨i, hi, hv⟩ := pat_ex (u := u) h hn hu
    have he : eB (fun i => mtc h n i u) 8 = true := eB_t.mpr ⟨i, hi, mtc_t.mpr fun v hv1 hv2 => ?_⟩
    · rw [he, Bool.true_and]
    by_cases q : v < n
    · exact hv v ⟨q, hv2⟩
    · rw [hh v (by omega), sm_pt (by omega) v (by omega)]
  constructor
  · intro e
    refine aB_t.mpr fun u hu => ?_
    rw [← key u hu, e, b_al n (by omega) u (by omega), decide_eq_true hu]
  · intro e
    refine sm_ext (sm_fit hn 8) (sm_al (by omega)) fun u hu => ?_
    rw [key u hu, aB_t.mp e u hu, b_al n (by omega) u (by omega), decide_eq_true hu]
def gH (n : Nat) (G : Int32 → Nat → Bool) (h : Nat) : Bool := aB (G (nI h)) n
section Spec
variable {d L : Nat} {fz t : Bool} {Q : pm_R → pm_H → Prop} {I I0 : Nat → Nat → Int32} {J : Nat → Nat → Int64} {n : Nat} {G : Int32 → Nat → Bool}
theorem S_passes {h : Nat} (hn : n ≤ 12) (hG : loc n G) (hV : cV n G I) (hh : h < 2 ^ n) (hq : Q (.inl (some (.int (bz (gH n G h))))) (pm_hp L fz t I J)) : pm_Ev (d + 1) 56 [.ref 9, .int (nI h)] (pm_hp L fz t I J) Q := by
  have loop : ∀ (j i : Nat), i + j = 8 → t_X5_passes_4 d L fz t Q (nI h) (fit n G (nI h) i) (nI i) I J := by
    intro j
    induction j with
    | zero =>
      intro i hi
      obtain rfl : i = 8 := by omega
      refine b_X5_passes_4 (q_t (nI_le (by omega) (by omega)) ?_)
      rw [hV.1, fit_all hn hG (sm_nI hh)]
      unfold gH at hq
      refine ⟨fun q => ?_, fun q => ?_⟩
      · rw [show aB (G (nI h)) n = false by cases y : aB (G (nI h)) n; rfl; exact absurd y q] at hq; exact hq
      · rw [q] at hq; exact hq
    | succ j ih =>
      intro i hi
      refine b_X5_passes_4 (q_f (nI_ge (by omega) (by omega)) ?_)
      rw [nI_clamp (by omega), (hV.2 i (by omega)).1, (hV.2 i (by omega)).2, nI_add]
      exact ⟨vp_in_nI (by omega) (by omega), vp_in_nI (by omega) (by omega), ih (i + 1) (by omega)⟩
  exact e_X5_passes (loop 8 0 (by omega))
theorem two_12 (hn : n ≤ 12) : 2 ^ n ≤ 4096 ∧ 0 < 2 ^ n := ⟨Nat.pow_le_pow_right (n := 2) (by omega) hn, Nat.two_pow_pos n⟩
theorem S_countPassing (hn : n ≤ 12) (hG : loc n G) (hV : cV n G I) (hq : Q (.inl (some (.int (nI (cn (gH n G) (2 ^ n)))))) (pm_hp L fz t I J)) : pm_Ev (d + 2) 57 [.ref 9] (pm_hp L fz t I J) Q := by
  have h2 := two_12 hn
  have loop : ∀ (j i : Nat), i + j = 2 ^ n → t_X5_countPassing_4 (d + 1) L fz t Q (nI (cn (gH n G) i)) (nI i) I J := by
    intro j
    induction j with
    | zero =>
      intro i hi
      obtain rfl : i = 2 ^ n := by omega
      refine b_X5_countPassing_4 ?_
      rw [hV.1, al_nI n (by omega)]
      exact q_t (nI_lt (by omega) (by omega)) hq
    | succ j ih =>
      intro i hi
      have nx := ih (i + 1) (by omega)
      rw [cn] at nx
      refine b_X5_countPassing_4 ?_
      rw [hV.1, al_nI n (by omega)]
      refine q_f (nI_nlt (by omega) (by omega)) (S_passes hn hG hV (by omega) (kb_X5_countPassing_17 ?_))
      rw [nI_add, nI_add]
      refine q_b0 (fun q => ?_) (fun q => ?_)
      · rw [q] at nx; exact nx
      · rw [q] at nx; exact nx
  exact e_X5_countPassing (loop (2 ^ n) 0 (by omega))
theorem S_leastPassing (hn : n ≤ 12) (hG : loc n G) (hV : cV n G I) (hq : Q (.inl (some (.int (oI (ff (gH n G) (2 ^ n) 0))))) (pm_hp L fz t I J)) : pm_Ev (d + 2) 58 [.ref 9] (pm_hp L fz t I J) Q := by
  have h2 := two_12 hn
  have loop : ∀ (j i : Nat), i + j = 2 ^ n → ff (gH n G) j i = ff (gH n G) (2 ^ n) 0 → t_X5_leastPassing_2 (d + 1) L fz t Q (nI i) I J := by
    intro j
    induction j with
    | zero =>
      intro i hi e
      obtain rfl : i = 2 ^ n := by omega
      refine b_X5_leastPassing_2 ?_
      rw [hV.1, al_nI n (by omega)]
      rw [← e] at hq
      exact q_t (nI_lt (by omega) (by omega)) hq
    | succ j ih =>
      intro i hi e
      refine b_X5_leastPassing_2 ?_
      rw [hV.1, al_nI n (by omega)]
      refine q_f (nI_nlt (by omega) (by omega)) (S_passes hn hG hV (by omega) (kb_X5_leastPassing_15 ?_))
      rw [nI_add]
      refine q_b0 (fun q => ih (i + 1) (by omega) ?_) (fun q => ?_)
      · rw [← e, ff, if_neg (by rw [q]; decide)]
      · rw [← e, ff, if_pos q] at hq; exact hq
  exact e_X5_leastPassing (loop (2 ^ n) 0 (by omega) rfl)
theorem S_begin (hn : n ≤ 12) (hq : ∀ I', fr [9, 10, 11] I I' → I' 9 2 = al n → (∀ i, i < 8 → I' 10 i = pt n i) → Q (.inl none) (pm_hp L fz t I' J)) : pm_Ev (d + 1) 55 [.ref 9, .int (al n)] (pm_hp L fz t I J) Q := by
  have loop : ∀ (j i : Nat) (I' : Nat → Nat → Int32), i + j = 8 → fr [9, 10, 11] I I' → I' 9 2 = al n → (∀ k, k < i → I' 10 k = pt n k) → t_X5_begin_7 d L fz t Q (nI i) I' J := by
    intro j
    induction j with
    | zero =>
      intro i I' hi hf h9 hp
      obtain rfl : i = 8 := by omega
      exact b_X5_begin_7 (q_t (nI_le (by omega) (by omega)) (hq I' hf h9 hp))
    | succ j ih =>
      intro i I' hi hf h9 hp
      refine b_X5_begin_7 (q_f (nI_ge (by omega) (by omega)) ?_)
      have last : ∀ x, x = pat i → t_X5_begin_18 d L fz t Q (nI i) x (nI 3) I' J := fun x hx => by
        refine b_X5_begin_18 (q_t (by decide) ?_)
        rw [nI_clamp (by omega), nI_add, h9, hx]
        refine ⟨vp_in_nI (by omega) (by omega), vp_in_nI (by omega) (by omega), ih (i + 1) _ (by omega) (fr_u (by simp) (fr_u (by simp) hf)) ?_ (fun k hk => ?_)⟩
        · rw [pm_ua (by decide), pm_ua (by decide)]; exact h9
        · rw [pm_ua (by decide)]
          by_cases e : k = i
          · rw [e, pm_us]; rfl
          · rw [pm_uk e]; exact hp k (by omega)
      have st : ∀ k x, k < 3 → t_X5_begin_18 d L fz t Q (nI i) (x ||| (if i.testBit k then nI 585 <<< (nI k &&& 31) else 0)) (nI (k + 1)) I' J → t_X5_begin_18 d L fz t Q (nI i) x (nI k) I' J := fun k x hk nx => by
        refine b_X5_begin_18 (q_f (nI_ge (by omega) (by omega)) ?_)
        rw [bit_nI i (by omega), nI_add]
        refine q_b1 (fun q => ?_) (fun q => ?_)
        · rw [q] at nx; exact nx
        · rw [q] at nx; exact nx
      refine st 0 _ (by omega) (st 1 _ (by omega) (st 2 _ (by omega) (last _ ?_)))
      unfold pat
      have e0 : (nI 0 : Int32) ||| (if i.testBit 0 then nI 585 <<< (nI 0 &&& 31) else 0) = (if i.testBit 0 then nI 585 else 0) := by cases i.testBit 0 <;> decide
      rw [e0]
  exact e_X5_begin (loop 8 0 _ (by omega) (fr_u (by simp) fr_r) pm_us (fun k h => absurd h (by omega)))
end Spec
