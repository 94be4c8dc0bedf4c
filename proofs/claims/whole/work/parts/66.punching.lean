theorem cn_sub {f g : Nat → Bool} : ∀ {n : Nat}, (∀ k, g k = true → f k = true) → cn g n ≤ cn f n
  | 0, _ => Nat.le_refl _
  | n + 1, h => by
    have := cn_sub (n := n) h
    rw [cn, cn]
    cases q : g n with
    | false => simp; omega
    | true => rw [h n q]; simp; omega
theorem cn_lt {f g : Nat → Bool} {j : Nat} : ∀ {n : Nat}, (∀ k, g k = true → f k = true) → j < n → f j = true → g j = false → cn g n < cn f n
  | 0, _, h, _, _ => absurd h (by omega)
  | n + 1, h, hj, h1, h2 => by
    rw [cn, cn]
    by_cases e : j = n
    · have := cn_sub (n := n) h
      rw [← e, h1, h2, e]; simp; omega
    · have := cn_lt (n := n) h (by omega) h1 h2
      cases q : g n with
      | false => simp; omega
      | true => rw [h n q]; simp; omega
/-- the first that is least, in less of them -/
theorem ab_cut {F : Nat → Nat} {f w : Nat → Bool} {n : Nat} (h : ∀ k, k < n → f k = true → w k = false → ∃ j, j < n ∧ f j = true ∧ w j = true ∧ F j < F k) : ab F (fun k => f k && w k) n = ab F f n := by
  cases q : ab F f n with
  | none =>
    cases q' : ab F (fun k => f k && w k) n with
    | none => rfl
    | some b =>
      obtain ⟨h1, h2, -, -⟩ := ab_some q'
      rw [ab_none q b h1] at h2; cases h2
  | some b =>
    obtain ⟨h1, h2, h3, h4⟩ := ab_some q
    have hw : w b = true := by
      cases y : w b with
      | true => rfl
      | false =>
        obtain ⟨j, hj, e1, e2, e3⟩ := h b h1 h2 y
        have := h3 j hj e1; omega
    cases q' : ab F (fun k => f k && w k) n with
    | none =>
      have := ab_none q' b h1
      rw [h2, hw] at this; cases this
    | some b' =>
      obtain ⟨g1, g2, g3, g4⟩ := ab_some q'
      have g2' : f b' = true := by cases y : f b'; rw [y] at g2; cases g2; rfl
      have a1 := h3 b' g1 g2'
      have a2 := g3 b h1 (by rw [h2, hw]; rfl)
      rcases Nat.lt_trichotomy b b' with z | z | z
      · have := g4 b z (by rw [h2, hw]; rfl); omega
      · rw [z]
      · have := h4 b' z g2'; omega
/-! within reach -/
def wnr (o : Int32) (w : Nat) : Bool := decide (o = nI 0) || decide (¬ ((o &&& (-o)) <<< (nI (w + 2) &&& 31)) ≤ o)
def wrN (m s : Nat) : Bool := decide (¬ ((nI m &&& (-(nI m))) <<< (nI s &&& 31)) ≤ nI m)
def wrC (a s x : Nat) : Bool := decide (2 ^ s ≤ x) || (decide (x = 0) || (decide (4096 ≤ 2 ^ a * x) || wrN (2 ^ a * x) s))
theorem wrC_all : ((List.range 12).all fun a => (List.range 7).all fun s => (List.range 64).all fun x => wrC a s x) = true := by decide +kernel
theorem wnr_in {o : Int32} {n a w : Nat} (hn : n ≤ 12) (ho : sm o n) (ha : a < 12) (hw : w ≤ 4) (hb : ∀ v, bt o v = true → a ≤ v ∧ v < a + (w + 2)) : wnr o w = true := by
  unfold wnr
  by_cases q : o = nI 0
  · rw [decide_eq_true q]; rfl
  · obtain ⟨m, hm, rfl⟩ := sm_of ho (by omega)
    have h2 := (two_12 hn).1
    have hbt : ∀ v, v < 32 → bt (nI m) v = m.testBit v := fun v hv => b_nI m hv
    have hx : m = 2 ^ a * (m / 2 ^ a) := by
      refine Nat.eq_of_testBit_eq fun i => ?_
      rw [Nat.testBit_two_pow_mul]
      by_cases z : a ≤ i
      · rw [decide_eq_true z, Bool.true_and, Nat.testBit_div_two_pow, show i - a + a = i by omega]
      · rw [decide_eq_false z, Bool.false_and]
        cases y : m.testBit i with
        | false => rfl
        | true => rw [← hbt i (by omega)] at y; have := hb i y; omega
    have hx2 : m / 2 ^ a < 2 ^ (w + 2) := by
      refine Nat.lt_pow_two_of_testBit _ fun i hi => ?_
      rw [Nat.testBit_div_two_pow]
      cases y : m.testBit (i + a) with
      | false => rfl
      | true =>
        exfalso
        by_cases z : i + a < 32
        · rw [← hbt _ z] at y; have := hb _ y; omega
        · have : m.testBit (i + a) = false := Nat.testBit_lt_two_pow (Nat.lt_of_lt_of_le (by omega : m < 2 ^ 12) (Nat.pow_le_pow_right (by omega) (by omega)))
          rw [this] at y; cases y
    have h6 : 2 ^ (w + 2) ≤ 64 := Nat.pow_le_pow_right (n := 2) (j := 6) (by omega) (by omega)
    have c1 := List.all_eq_true.mp wrC_all a (List.mem_range.mpr ha)
    have c2 := List.all_eq_true.mp c1 (w + 2) (List.mem_range.mpr (by omega))
    have c3 := List.all_eq_true.mp c2 (m / 2 ^ a) (List.mem_range.mpr (by omega))
    unfold wrC at c3
    rw [← hx, decide_eq_false (by omega), decide_eq_false (by intro z; rw [z, Nat.mul_zero] at hx; exact q (by rw [hx])), decide_eq_false (by omega)] at c3
    rw [show decide (¬ ((nI m &&& (-(nI m))) <<< (nI (w + 2) &&& 31)) ≤ nI m) = true from c3, Bool.or_true]
section Ops
variable {A : St}
def pF (A : St) (c h : Nat) : Nat := pc (nI h ^^^ wo (sW A) c)
def pP (A : St) (c f h : Nat) : Bool := anw (sT A) (clR (sT A) (wHo (sW A) c (nI h))) (wp (sW A)) f
def pW (A : St) (c f h : Nat) : Bool := wnr (nI h ^^^ wo (sW A) c) (tI (sT A) f)
theorem pReach (ho : ok A) {c f : Nat} (hc : c < 10) (hf : f < tG (sT A)) : ∀ h, h < 2 ^ tN (sT A) → pP A c f h = true → pW A c f h = false → ∃ j, j < 2 ^ tN (sT A) ∧ pP A c f j = true ∧ pW A c f j = true ∧ pF A c j < pF A c h := by
  intro h hh hP hW
  have hn := ho.1.1
  obtain ⟨w1, w4, e1, e3, -⟩ := ho.1.2.2.2.2.2 f hf
  have sown := ho.2.1.1 c hc
  have hs : ∃ k i, fst (sT A) (clR (sT A) (wHo (sW A) c (nI h))) (wp (sW A)) f = some (k, i) := by
    unfold pP anw at hP
    cases y : fst (sT A) (clR (sT A) (wHo (sW A) c (nI h))) (wp (sW A)) f with
    | none => rw [y] at hP; cases hP
    | some q => exact ⟨q.1, q.2, rfl⟩
  obtain ⟨k, i, hki⟩ := hs
  obtain ⟨-, k2, i2, hst⟩ := fo_some hki
  have hst' := hst
  unfold stA at hst'
  rw [Bool.and_eq_true, Bool.and_eq_true] at hst'
  have hiw : i + tI (sT A) f ≤ tN (sT A) := of_decide_eq_true hst'.2.1
  -- the holes in the window alone
  let x := mk (fun v => if i ≤ v + 1 ∧ v < i + tI (sT A) f + 1 then bt (nI h) v else bt (wo (sW A) c) v) (tN (sT A))
  have hxb : ∀ v, v < tN (sT A) → bt x v = if i ≤ v + 1 ∧ v < i + tI (sT A) f + 1 then bt (nI h) v else bt (wo (sW A) c) v := fun v hv => bt_mk (by omega) hv
  have sx : sm x (tN (sT A)) := sm_mk _ (by omega)
  obtain ⟨m, hm, em⟩ := sm_of sx (by omega)
  have hob : ∀ v, bt (nI m ^^^ wo (sW A) c) v = if v < tN (sT A) ∧ i ≤ v + 1 ∧ v < i + tI (sT A) f + 1 then bt (nI h ^^^ wo (sW A) c) v else false := fun v => by
    rw [b_xor, ← em]
    by_cases q : v < tN (sT A)
    · rw [hxb v q]
      by_cases z : i ≤ v + 1 ∧ v < i + tI (sT A) f + 1
      · rw [if_pos z, if_pos ⟨q, z⟩, b_xor]
      · rw [if_neg z, if_neg (fun y => z y.2)]; cases bt (wo (sW A) c) v <;> rfl
    · rw [sx v (by omega), sown v (by omega), if_neg (fun y => q y.1)]; rfl
  have smo : sm (nI m ^^^ wo (sW A) c) (tN (sT A)) := sm_xor (by rw [← em]; exact sx) sown
  have smh : sm (nI h ^^^ wo (sW A) c) (tN (sT A)) := sm_xor (sm_nI hh) sown
  have wm : wnr (nI m ^^^ wo (sW A) c) (tI (sT A) f) = true := by
    refine wnr_in (n := tN (sT A)) (a := i - 1) (by omega) smo (by omega) w4 fun v hv => ?_
    rw [hob v] at hv
    by_cases q : v < tN (sT A) ∧ i ≤ v + 1 ∧ v < i + tI (sT A) f + 1
    · omega
    · rw [if_neg q] at hv; cases hv
  refine ⟨m, hm, ?_, wm, ?_⟩
  · unfold pP anw
    cases y : fst (sT A) (clR (sT A) (wHo (sW A) c (nI m))) (wp (sW A)) f with
    | some q => rfl
    | none =>
      exfalso
      have := fo_none.mp y k (by omega) (by omega) i i2
      have e : stA (sT A) (clR (sT A) (wHo (sW A) c (nI m))) (wp (sW A)) f k i = stA (sT A) (clR (sT A) (wHo (sW A) c (nI h))) (wp (sW A)) f k i := by
        unfold stA
        congr 2
        refine aB_congr fun r _ => ?_
        unfold stR
        refine aB_congr fun j hj => ?_
        rw [clR_ho ho.1 (u := i + j) (h := nI m) (h' := nI h) (by omega) (fun v hv => ?_) (k + r)]
        obtain ⟨v1, v2⟩ := hv
        rw [← em, hxb v v1, if_pos (by omega)]
      rw [e, hst] at this; cases this
  · have hne : ∃ v, v < 12 ∧ bt (nI h ^^^ wo (sW A) c) v = true ∧ bt (nI m ^^^ wo (sW A) c) v = false := by
      apply Classical.byContradiction
      intro z
      have e : nI h ^^^ wo (sW A) c = nI m ^^^ wo (sW A) c := sm_ext smh smo fun v hv => by
        cases y1 : bt (nI h ^^^ wo (sW A) c) v with
        | true =>
          cases y2 : bt (nI m ^^^ wo (sW A) c) v with
          | true => rfl
          | false => exact absurd ⟨v, by omega, y1, y2⟩ z
        | false =>
          rw [hob v, y1]; split <;> rfl
      unfold pW at hW
      rw [e, wm] at hW; cases hW
    obtain ⟨v, v1, v2, v3⟩ := hne
    exact cn_lt (j := v) (fun u hu => by
      rw [hob u] at hu
      split at hu
      · exact hu
      · cases hu) v1 v2 v3
theorem pAb (ho : ok A) {c f : Nat} (hc : c < 10) (hf : f < tG (sT A)) : ab (pF A c) (fun h => pP A c f h && pW A c f h) (2 ^ tN (sT A)) = ab (pF A c) (pP A c f) (2 ^ tN (sT A)) := ab_cut (pReach ho hc hf)
def pA (A : St) (c u : Nat) (o : Option Nat) : Int32 := match o with
  | none => -1
  | some b => if u = 0 then nI (pF A c b) else nI b
def pX (A : St) (c : Nat) (o : Option Nat) (v : Int32) : Int32 := match o with
  | none => v
  | some b => nI (pF A c b)
theorem op_punching (ho : ok A) (x y z : Int32) : op2 264 207 [.int x, .int y, .int z] A 1 := by
  have hm := ho.1.2.1
  have hn := ho.1.1
  have h5 := ho.1.2.2.1
  have h12 := ho.2.1.2.2.2
  have h2p := two_12 (n := tN (sT A)) (by omega)
  cases h1 : inR x (tM (sT A)) with
  | true =>
    obtain ⟨c, hc, rfl⟩ := inR_t (by omega) h1
    cases h2 : inR y (tG (sT A)) with
    | true =>
      obtain ⟨f, hf, rfl⟩ := inR_t (by omega) h2
      cases h3 : inR z 2 with
      | true =>
        obtain ⟨u, hu, rfl⟩ := inR_t (by omega) h3
        obtain ⟨w1, w4, e1, e3, -⟩ := ho.1.2.2.2.2.2 f hf
        have sown := ho.2.1.1 c (by omega)
        have Fle : ∀ h, pF A c h ≤ 12 := fun h => pc_le _
        refine ⟨0, by decide, pA A c u (ab (pF A c) (pP A c f) (2 ^ tN (sT A))), ?_, ?_⟩
        · intro L fz t I J Q hS hk
          refine e_X10_punching (gCy hS.1.2.2.1 h1 (kb_X10_punching_5 (gFy hS.1.2.2.2.1 h2 (kb_X10_punching_10 (gWy (by omega) h3 (kb_X10_punching_15 ?_))))))
          rw [nI_clamp (by omega), hS.2.1.2.2.2.1 c (by omega)]
          refine ⟨vp_in_nI (by omega) (by omega), cw_copy ho (cw_0 hS) fun I3 w3 f3 c3 => kb_X10_punching_44 ?_⟩
          have loop : ∀ (j i : Nat) (I' : Nat → Nat → Int32) (V : Wk), i + j = 2 ^ tN (sT A) → cw A t J I I' → cW 27 V I' → (∀ h, wHo V c h = wHo (sW A) c h) → t_X10_punching_47 58 L true t Q (nI c) (nI f) (nI u) (wo (sW A) c) (pX A c (ab (pF A c) (fun h => pP A c f h && pW A c f h) i) (nI 13)) (oI (ab (pF A c) (fun h => pP A c f h && pW A c f h) i)) (nI i) I' J := by
            intro j
            induction j with
            | zero =>
              intro i I' V hi h' hV eV
              obtain rfl : i = 2 ^ tN (sT A) := by omega
              refine b_X10_punching_47 ?_
              rw [h'.1.1.2.1, al_nI _ (by omega), pAb ho (by omega) hf]
              have fin := cw_e (fz' := true) h' hk
              refine q_t (nI_lt (by omega) (by omega)) ?_
              cases q : ab (pF A c) (pP A c f) (2 ^ tN (sT A)) with
              | none =>
                rw [q] at fin
                exact q_ne (by omega) (by omega) (fun _ => fin) (fun _ => q_t rfl fin)
              | some b =>
                rw [q] at fin
                have hb := (ab_some q).1
                refine q_ne (by omega) (by omega) (fun y => ?_) (fun y => q_f (nI_ne_m1 (by omega)) ?_)
                · have : pA A c u (some b) = nI b := if_neg y
                  rw [this] at fin; exact fin
                · have : pA A c u (some b) = nI (pF A c b) := if_pos y
                  rw [this] at fin; exact fin
            | succ j ih =>
              intro i I' V hi h' hV eV
              have smi : sm (nI i ^^^ wo (sW A) c) 12 := sm_mono (sm_xor (sm_nI (by omega : i < 2 ^ tN (sT A))) sown) (by omega)
              refine b_X10_punching_47 ?_
              rw [h'.1.1.2.1, al_nI _ (by omega)]
              refine q_f (nI_nlt (by omega) (by omega)) (S_bitCount smi (kb_X10_punching_67 ?_))
              rw [show pc (nI i ^^^ wo (sW A) c) = pF A c i from rfl]
              have Fi := Fle i
              have skip : (∀ b, ab (pF A c) (fun h => pP A c f h && pW A c f h) i = some b → pF A c b ≤ pF A c i) ∧ (ab (pF A c) (fun h => pP A c f h && pW A c f h) i ≠ none) ∨ (pP A c f i && pW A c f i) = false → ab (pF A c) (fun h => pP A c f h && pW A c f h) (i + 1) = ab (pF A c) (fun h => pP A c f h && pW A c f h) i := fun q => by
                rw [ab]
                rcases q with ⟨q, q0⟩ | q
                · cases y : ab (pF A c) (fun h => pP A c f h && pW A c f h) i with
                  | none => exact absurd y q0
                  | some b =>
                    dsimp only
                    rw [if_pos (q b y)]
                    split <;> rfl
                · rw [if_neg (by rw [q]; decide)]
              rw [nI_add]
              have test : (∀ b, ab (pF A c) (fun h => pP A c f h && pW A c f h) i = some b → pF A c i < pF A c b) → pm_Ev 58 105 [.ref 0, .int (nI i ^^^ wo (sW A) c), .int (nI f)] (pm_hp L true t I' J) (K_X10_punching_86 58 true t Q (nI c) (nI f) (nI u) (wo (sW A) c) (pX A c (ab (pF A c) (fun h => pP A c f h && pW A c f h) i) (nI 13)) (oI (ab (pF A c) (fun h => pP A c f h && pW A c f h) i)) (nI i) (nI (pF A c i))) := fun hless => by
                have go : ∀ b : Bool, pW A c f i = b → K_X10_punching_86 58 true t Q (nI c) (nI f) (nI u) (wo (sW A) c) (pX A c (ab (pF A c) (fun h => pP A c f h && pW A c f h) i) (nI 13)) (oI (ab (pF A c) (fun h => pP A c f h && pW A c f h) i)) (nI i) (nI (pF A c i)) (.inl (some (.int (bz b)))) (pm_hp L true t I' J) := fun b hb => by
                  refine kb_X10_punching_86 ?_
                  rw [nI_add]
                  refine q_b0 (fun q => ?_) (fun q => ?_)
                  · have nx := ih (i + 1) I' V (by omega) h' hV eV
                    rw [skip (Or.inr (by rw [hb, q, Bool.and_false]))] at nx; exact nx
                  · rw [nI_clamp (by omega)]
                    have hV2 : cW 27 (wHo (sW A) c (nI i)) (pm_u I' 28 c (nI i)) := by rw [← eV]; exact cW_ho hV
                    refine ⟨vp_in_nI (by omega) (by omega), cw_weaveT0 ho (cw_u h' (qs_lo (by omega)) (by omega) (by omega)) hV2 (okH ho (by omega)) fun I5 w5 f5 c5 p5 r5 => kb_X10_punching_116 ?_⟩
                    refine S_isAnywhere (td_or t) w5.1.1 ho.1 p5 r5 h12 hf (kb_X10_punching_128 ?_)
                    have nx := ih (i + 1) I5 _ (by omega) w5 c5 (fun h => wHo2 _ _ _ _)
                    rw [nI_add]
                    refine q_b0 (fun q2 => ?_) (fun q2 => ?_)
                    · have q2' : pP A c f i = false := q2
                      rw [skip (Or.inr (by rw [q2', Bool.false_and]))] at nx; exact nx
                    · have q2' : pP A c f i = true := q2
                      have : ab (pF A c) (fun h => pP A c f h && pW A c f h) (i + 1) = some i := by
                        rw [ab, if_pos (by rw [q2', hb, q]; rfl)]
                        cases y : ab (pF A c) (fun h => pP A c f h && pW A c f h) i with
                        | none => rfl
                        | some b' =>
                          dsimp only
                          rw [if_neg (by have := hless b' y; omega)]
                      rw [this] at nx; exact nx
                refine e_X10_isWithinReach ⟨fun q => ?_, fun q => ?_⟩
                · exact go true (by unfold pW wnr; rw [decide_eq_true q]; rfl)
                · rw [nI_clamp (by omega), (h'.1.1.2.2.2.2.2.2.2.1 f hf).2.1, nI_add]
                  refine ⟨vp_in_nI (by omega) (by omega), fun q2 => ?_, fun q2 => ?_⟩
                  · exact go false (by unfold pW wnr; rw [decide_eq_false q, decide_eq_false (fun y => y q2)]; rfl)
                  · exact go true (by unfold pW wnr; rw [decide_eq_true q2, Bool.or_true])
              cases hab : ab (pF A c) (fun h => pP A c f h && pW A c f h) i with
              | none =>
                rw [hab] at test
                exact q_f (nI_ge (by omega) (by omega)) (test (fun b hb => by cases hb))
              | some b =>
                have Fb := Fle b
                rw [hab] at test
                refine q_le (by omega) (by omega) (fun q => ?_) (fun q => test (fun b' hb' => by cases hb'; exact q))
                have nx := ih (i + 1) I' V (by omega) h' hV eV
                rw [skip (Or.inl ⟨fun b' hb' => by rw [hab] at hb'; cases hb'; exact q, by rw [hab]; exact fun y => by cases y⟩), hab] at nx
                exact nx
          exact loop (2 ^ tN (sT A)) 0 I3 (sW A) (by omega) w3 c3 (fun _ => rfl)
        · intro L fz t I J Q hS hk
          have hw := mw_0 ho hS
          refine e_X11_punching (mCy hw h1 (kb_X11_punching_10 (q_f nI_01 (mFy hw h2 (kb_X11_punching_18 (q_f nI_01 (mWy hw (by omega) h3 (kb_X11_punching_27 (q_t' nI_01 (mw_tries ho hw fun I3 w3 f3 r3 => kb_X11_punching_42 ?_))))))))))
          have loop : ∀ (j i : Nat) (I' : Nat → Nat → Int32) (V : Wk), i + j = 2 ^ tN (sT A) → mw A I I' → mR (I' 103) 34 (tM (sT A)) V → wp V = wp (sW A) → (∀ h, wHo V c h = wHo (sW A) c h) → t_X11_punching_45 59 L fz t Q (nI c) (nI f) (nI u) (oI (ab (pF A c) (pP A c f) i)) (pX A c (ab (pF A c) (pP A c f) i) (nI 0)) (nI i) I' J := by
            intro j
            induction j with
            | zero =>
              intro i I' V hi h' hV hp eV
              obtain rfl : i = 2 ^ tN (sT A) := by omega
              refine b_X11_punching_45 (S_all h'.1.1 (kb_X11_punching_51 ?_))
              rw [al_nI _ (by omega)]
              refine q_t (nI_lt (by omega) (by omega)) ?_
              cases q : ab (pF A c) (pP A c f) (2 ^ tN (sT A)) with
              | none => exact q_f' rfl (mw_e h' hk ⟨_, fun _ => by rw [q]; rfl, rfl⟩)
              | some b =>
                have hb := (ab_some q).1
                refine q_t' (nI_ne_m1 (by omega)) (q_ne (by omega) (by omega) (fun y => ?_) (fun y => ?_))
                · exact mw_e h' hk ⟨_, fun _ => by rw [q]; exact (if_neg y).symm, rfl⟩
                · exact mw_e h' hk ⟨_, fun _ => by rw [q]; exact (if_pos y).symm, rfl⟩
            | succ j ih =>
              intro i I' V hi h' hV hp eV
              have Fi := Fle i
              have hown := (h'.1.2.2.1.2.2.1 c hc).1
              rw [Nat.zero_add] at hown
              refine b_X11_punching_45 (S_all h'.1.1 (kb_X11_punching_51 ?_))
              rw [al_nI _ (by omega), nI_add, nI_clamp (by omega), hown]
              refine q_f (nI_nlt (by omega) (by omega)) ⟨vp_in_nI (by omega) (by omega), S_bits (kb_X11_punching_68 ?_)⟩
              rw [show pc (nI i ^^^ wo (sW A) c) = pF A c i from rfl]
              rw [nI_add, nI_add, nI_clamp (by omega)]
              have r4 : mR (pm_u I' 103 (36 + c) (nI i) 103) 34 (tM (sT A)) (wHo (sW A) c (nI i)) := by
                rw [← eV]; exact mR_ho (b := 34) hV hm (by omega) (by omega)
              have test : (∀ b, ab (pF A c) (pP A c f) i = some b → pF A c i < pF A c b) → pm_Ev 59 169 [.ref 85, .int (nI 34)] (pm_hp L fz t (pm_u I' 103 (36 + c) (nI i)) J) (K_X11_punching_103 59 fz t Q (nI c) (nI f) (nI u) (oI (ab (pF A c) (pP A c f) i)) (pX A c (ab (pF A c) (pP A c f) i) (nI 0)) (nI i) (nI (pF A c i))) := fun hless => by
                refine mw_weavesT ho (mw_u ho h' (by omega)) r4 (okH ho (by omega)) rfl fun I5 w5 f5 _ r5 p5 c5 => kb_X11_punching_103 ?_
                refine S_firstOf w5.1.1 ho.1 p5 c5 h12 hf (kb_X11_punching_108 ?_)
                have nx := ih (i + 1) I5 _ (by omega) w5 r5 rfl (fun h => wHo2 _ _ _ _)
                have hm1 : foI (fst (sT A) (clR (sT A) (wHo (sW A) c (nI i))) (wp (sW A)) f) = -1 ↔ anw (sT A) (clR (sT A) (wHo (sW A) c (nI i))) (wp (sW A)) f = false := fst_m1 ho.1 h12
                rw [nI_add]
                refine ⟨fun q => ?_, fun q => ?_⟩
                · have q' : pP A c f i = true := by
                    cases y : pP A c f i
                    · exact absurd (hm1.mpr y) q
                    · rfl
                  have : ab (pF A c) (pP A c f) (i + 1) = some i := by
                    rw [ab, if_pos q']
                    cases y : ab (pF A c) (pP A c f) i with
                    | none => rfl
                    | some b' =>
                      dsimp only
                      rw [if_neg (by have := hless b' y; omega)]
                  rw [this] at nx; exact nx
                · have q' : pP A c f i = false := hm1.mp q
                  rw [ab, if_neg (by rw [q']; decide)] at nx; exact nx
              cases hab : ab (pF A c) (pP A c f) i with
              | none =>
                rw [hab] at test
                exact q_t rfl ⟨vp_in_nI (by omega) (by omega), test (fun b hb => by cases hb)⟩
              | some b =>
                have Fb := Fle b
                have hb := (ab_some hab).1
                rw [hab] at test
                refine q_f (nI_ne_m1 (by omega)) (q_lt (by omega) (by omega) (fun q => ⟨vp_in_nI (by omega) (by omega), test (fun b' hb' => by cases hb'; exact q)⟩) (fun q => ?_))
                have nx := ih (i + 1) I' V (by omega) h' hV hp eV
                have : ab (pF A c) (pP A c f) (i + 1) = some b := by
                  rw [ab, hab]
                  dsimp only
                  rw [if_pos q]
                  split <;> rfl
                rw [this] at nx; exact nx
          exact loop (2 ^ tN (sT A)) 0 I3 (sW A) (by omega) w3 r3 rfl (fun _ => rfl)
      | false =>
        refine ⟨1, by decide, 0, ?_, ?_⟩
        · intro L fz t I J Q hS hk
          exact e_X10_punching (gCy hS.1.2.2.1 h1 (kb_X10_punching_5 (gFy hS.1.2.2.2.1 h2 (kb_X10_punching_10 (gWn (by omega) h3 (cS_r hS hk))))))
        · intro L fz t I J Q hS hk
          have hw := mw_0 ho hS
          exact e_X11_punching (mCy hw h1 (kb_X11_punching_10 (q_f nI_01 (mFy hw h2 (kb_X11_punching_18 (q_f nI_01 (mWn hw (by omega) h3 (kb_X11_punching_27 (q_f' rfl (mw_x ho hw hk (pv_e (by omega))))))))))))
    | false =>
      refine ⟨1, by decide, 0, ?_, ?_⟩
      · intro L fz t I J Q hS hk
        exact e_X10_punching (gCy hS.1.2.2.1 h1 (kb_X10_punching_5 (gFn hS.1.2.2.2.1 h2 (cS_r hS hk))))
      · intro L fz t I J Q hS hk
        have hw := mw_0 ho hS
        exact e_X11_punching (mCy hw h1 (kb_X11_punching_10 (q_f nI_01 (mFn hw h2 (kb_X11_punching_18 (q_t rfl (mw_x ho hw hk (pv_e (by omega)))))))))
  | false =>
    refine ⟨1, by decide, 0, ?_, ?_⟩
    · intro L fz t I J Q hS hk
      exact e_X10_punching (gCn hS.1.2.2.1 h1 (cS_r hS hk))
    · intro L fz t I J Q hS hk
      exact e_X11_punching (mCn (mw_0 ho hS) h1 (kb_X11_punching_10 (q_t rfl (mw_x ho (mw_0 ho hS) hk (pv_e (by omega))))))
end Ops
