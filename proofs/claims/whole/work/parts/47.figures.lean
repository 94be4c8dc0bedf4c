/-! the first of some -/
def ff (f : Nat → Bool) : Nat → Nat → Option Nat
  | 0, _ => none
  | j + 1, i => if f i = true then some i else ff f j (i + 1)
theorem ff_none {f : Nat → Bool} : ∀ {j i : Nat}, ff f j i = none ↔ ∀ k, i ≤ k → k < i + j → f k = false
  | 0, i => ⟨fun _ k h1 h2 => absurd h2 (by omega), fun _ => rfl⟩
  | j + 1, i => by
    unfold ff
    cases h : f i with
    | true =>
      rw [if_pos rfl]
      exact ⟨fun q => (by cases q), fun q => by rw [q i (by omega) (by omega)] at h; cases h⟩
    | false =>
      rw [if_neg (by decide), ff_none]
      constructor
      · intro q k h1 h2
        by_cases e : k = i
        · rw [e]; exact h
        · exact q k (by omega) (by omega)
      · intro q k h1 h2; exact q k (by omega) (by omega)
theorem ff_some {f : Nat → Bool} : ∀ {j i k : Nat}, ff f j i = some k → i ≤ k ∧ k < i + j ∧ f k = true ∧ ∀ q, i ≤ q → q < k → f q = false
  | 0, i, k, h => by cases h
  | j + 1, i, k, h => by
    unfold ff at h
    cases hf : f i with
    | true =>
      rw [hf, if_pos rfl] at h
      cases h
      exact ⟨by omega, by omega, hf, fun q h1 h2 => absurd h2 (by omega)⟩
    | false =>
      rw [hf, if_neg (by decide)] at h
      obtain ⟨h1, h2, h3, h4⟩ := ff_some h
      refine ⟨by omega, by omega, h3, fun q q1 q2 => ?_⟩
      by_cases e : q = i
      · rw [e]; exact hf
      · exact h4 q (by omega) q2
theorem ff_congr {f g : Nat → Bool} : ∀ {j i : Nat}, (∀ k, i ≤ k → k < i + j → f k = g k) → ff f j i = ff g j i
  | 0, _, _ => rfl
  | j + 1, i, h => by rw [ff, ff, h i (by omega) (by omega), ff_congr (j := j) (fun k h1 h2 => h k (by omega) (by omega))]
def fo (g : Nat → Nat → Bool) (n : Nat) : Nat → Nat → Option (Nat × Nat)
  | 0, _ => none
  | j + 1, k => match ff (g k) n 0 with
    | some t => some (k, t)
    | none => fo g n j (k + 1)
theorem fo_none {g : Nat → Nat → Bool} {n : Nat} : ∀ {j k : Nat}, fo g n j k = none ↔ ∀ q, k ≤ q → q < k + j → ∀ t, t < n → g q t = false
  | 0, k => ⟨fun _ q h1 h2 => absurd h2 (by omega), fun _ => rfl⟩
  | j + 1, k => by
    unfold fo
    cases h : ff (g k) n 0 with
    | some t =>
      obtain ⟨h1, h2, h3, h4⟩ := ff_some h
      exact ⟨fun q => (by cases q), fun q => by rw [q k (by omega) (by omega) t (by omega)] at h3; cases h3⟩
    | none =>
      have h' := ff_none.mp h
      show fo g n j (k + 1) = none ↔ _
      rw [fo_none]
      constructor
      · intro q i h1 h2 t ht
        by_cases e : i = k
        · rw [e]; exact h' t (by omega) (by omega)
        · exact q i (by omega) (by omega) t ht
      · intro q i h1 h2; exact q i (by omega) (by omega)
theorem fo_some {g : Nat → Nat → Bool} {n : Nat} : ∀ {j k q t : Nat}, fo g n j k = some (q, t) → k ≤ q ∧ q < k + j ∧ t < n ∧ g q t = true
  | 0, _, _, _, h => by cases h
  | j + 1, k, q, t, h => by
    unfold fo at h
    cases hf : ff (g k) n 0 with
    | some u =>
      rw [hf] at h
      cases h
      obtain ⟨h1, h2, h3, h4⟩ := ff_some hf
      exact ⟨by omega, by omega, by omega, h3⟩
    | none =>
      rw [hf] at h
      obtain ⟨h1, h2, h3⟩ := fo_some (j := j) h
      exact ⟨by omega, by omega, h3⟩
def foI : Option (Nat × Nat) → Int32
  | none => -1
  | some (k, t) => nI (100 * k + t)
theorem nI_ne_m1 {p : Nat} (h : p < 2 ^ 31) : ¬ (nI p : Int32) = -1 := fun e => by
  have := congrArg Int32.toInt e
  rw [nI_toInt h, show (-1 : Int32).toInt = -1 from rfl] at this
  omega
theorem foI_m1 {g : Nat → Nat → Bool} {n j : Nat} (hn : n ≤ 12) (hj : j ≤ 12) : foI (fo g n j 0) = -1 ↔ (fo g n j 0).isSome = false := by
  cases h : fo g n j 0 with
  | none => exact ⟨fun _ => rfl, fun _ => rfl⟩
  | some q =>
    obtain ⟨k, t⟩ := q
    have := fo_some h
    exact ⟨fun e => absurd e (nI_ne_m1 (by omega)), fun e => by cases e⟩
theorem pc_mk {f : Nat → Bool} {n : Nat} (h : n ≤ 12) : pc (mk f n) = cn f n := by
  have e : ∀ m, m ≤ 12 → cn (bt (mk f n)) m = cn f (min m n) := by
    intro m
    induction m with
    | zero => intro _; rw [Nat.zero_min]; rfl
    | succ m ih =>
      intro hm
      rw [cn, ih (by omega)]
      by_cases q : m < n
      · rw [bt_mk (by omega) q, Nat.min_eq_left (by omega), Nat.min_eq_left (by omega), cn]
      · rw [bt_mk_ge (by omega) (by omega), Nat.min_eq_right (by omega), Nat.min_eq_right (by omega)]; rfl
  have := e 12 (by omega)
  rw [Nat.min_eq_right h] at this
  exact this
/-! figures -/
def stR (T : Td) (R : Nat → Int32) (f k t r : Nat) : Bool := aB (fun j => bt (R (k + r)) (t + j) == bt (tR T (3 * f + r)) j) (tI T f)
def stA (T : Td) (R : Nat → Int32) (p f k t : Nat) : Bool := decide (k + tE T f ≤ p) && (decide (t + tI T f ≤ tN T) && aB (stR T R f k t) (tE T f))
def fst (T : Td) (R : Nat → Int32) (p f : Nat) : Option (Nat × Nat) := fo (stA T R p f) (tN T) p 0
def anw (T : Td) (R : Nat → Int32) (p f : Nat) : Bool := (fst T R p f).isSome
def sta (T : Td) (R : Nat → Int32) (p : Nat) : Int32 := mk (anw T R p) (tG T)
theorem stR_congr {T : Td} {R R' : Nat → Int32} {f k t r : Nat} (h : R (k + r) = R' (k + r)) : stR T R f k t r = stR T R' f k t r := by unfold stR; rw [h]
theorem stA_congr {T : Td} {R R' : Nat → Int32} {p f k t : Nat} (h : ∀ k, k < p → R k = R' k) : stA T R p f k t = stA T R' p f k t := by
  unfold stA
  by_cases q : k + tE T f ≤ p
  · rw [decide_eq_true q, aB_congr fun r hr => stR_congr (h (k + r) (by omega))]
  · rw [decide_eq_false q, Bool.false_and, Bool.false_and]
theorem fo_congr {g g' : Nat → Nat → Bool} {n : Nat} : ∀ {j k : Nat}, (∀ q, k ≤ q → q < k + j → ∀ t, t < n → g q t = g' q t) → fo g n j k = fo g' n j k
  | 0, _, _ => rfl
  | j + 1, k, h => by
    rw [fo, fo, ff_congr (fun t _ ht => h k (by omega) (by omega) t (by omega)), fo_congr (j := j) (fun q h1 h2 => h q (by omega) (by omega))]
theorem fst_congr {T : Td} {R R' : Nat → Int32} {p f : Nat} (h : ∀ k, k < p → R k = R' k) : fst T R p f = fst T R' p f := fo_congr fun q _ _ t _ => stA_congr h
theorem sta_congr {T : Td} {R R' : Nat → Int32} {p : Nat} (h : ∀ k, k < p → R k = R' k) : sta T R p = sta T R' p := mk_congr fun f _ => by unfold anw; rw [fst_congr h]
theorem sm_sta {T : Td} (oT : okT T) (R : Nat → Int32) (p : Nat) : sm (sta T R p) 12 := sm_mono (sm_mk _ (by have := oT.2.2.1; omega)) (by have := oT.2.2.1; omega)
theorem fst_m1 {T : Td} (oT : okT T) {R : Nat → Int32} {p f : Nat} (h : p ≤ 12) : foI (fst T R p f) = -1 ↔ anw T R p f = false := foI_m1 (by have := oT.1; omega) h
theorem fit0 : ∀ l, l < 12 → (nI 2 <<< (nI l &&& 31)) - nI 1 = al (l + 1) := by decide +kernel
section Spec
variable {d L : Nat} {fz t : Bool} {Q : pm_R → pm_H → Prop} {I : Nat → Nat → Int32} {J : Nat → Nat → Int64} {T : Td} {W : Wk} {a w : Nat} {R : Nat → Int32} {p : Nat}
theorem S_startsAt {f k : Nat} (ha : a = 55 ∨ a = 70) (hT : cT a T I) (oT : okT T) (hp : I 3 1 = nI p) (hR : ∀ k, k < p → I 4 k = R k) (h12 : p ≤ 12) (hf : f < tG T) (hk : k < 12)
    (hq : Q (.inl (some (.int (mk (stA T R p f k) (tN T))))) (pm_hp L fz t I J)) : pm_Ev (d + 1) 21 [.ref 3, .ref a, .int (nI f), .int (nI k)] (pm_hp L fz t I J) Q := by
  obtain ⟨hn, hm, hg, hU, hH, hfig⟩ := oT
  obtain ⟨hw1, hw4, he1, he3, hrow⟩ := hfig f hf
  obtain ⟨-, hwi, hhe⟩ := hT.2.2.2.2.2.2.2.1 f hf
  refine e_X2_startsAt ha ?_
  rw [nI_clamp (by omega), hT.1, hwi, hhe, hp, nI_add]
  refine ⟨vp_in_nI (by omega) (by omega), vp_in_nI (by omega) (by omega), ?_⟩
  have zero : (∀ t, t < tN T → stA T R p f k t = false) → Q (.inl (some (.int (nI 0)))) (pm_hp L fz t I J) := fun h => by
    rw [(mk_eq0 (by omega)).mpr h] at hq; exact hq
  by_cases c1 : tN T < tI T f
  · refine q_t (pk_sneg (by omega) c1) (zero fun t _ => ?_)
    unfold stA; rw [decide_eq_false (by omega : ¬ t + tI T f ≤ tN T), Bool.false_and, Bool.and_false]
  · rw [pk_sub (by omega)]
    refine q_f (nI_nlt (by omega) (by omega)) (q_le (by omega) (by omega) (fun c2 => ?_) (fun c2 => zero fun t _ => ?_))
    · rw [fit0 _ (by omega)]
      have fin : ∀ x7, (∀ i, i < tN T → bt x7 i = false → stA T R p f k i = false) → x7 = nI 0 → Q (.inl (some (.int x7))) (pm_hp L fz t I J) := fun x7 h1 h2 => by
        rw [h2]; exact zero fun i hi => h1 i hi (by rw [h2]; exact b_n0 i)
      have loop : ∀ (j r : Nat), r + j = tE T f → t_X2_startsAt_54 d L fz t Q a (nI f) (nI k) (nI (tI T f)) (nI (tE T f)) (mk (fun t => decide (t + tI T f ≤ tN T) && aB (stR T R f k t) r) (tN T)) (nI r) I J := by
        intro j
        induction j with
        | zero =>
          intro r hr
          obtain rfl : r = tE T f := by omega
          refine b_X2_startsAt_54 ha (q_t (nI_le (by omega) (by omega)) ?_)
          have e : mk (fun t => decide (t + tI T f ≤ tN T) && aB (stR T R f k t) (tE T f)) (tN T) = mk (stA T R p f k) (tN T) := mk_congr fun i _ => by unfold stA; rw [decide_eq_true c2, Bool.true_and]
          rw [e]; exact hq
        | succ j ih =>
          intro r hr
          refine b_X2_startsAt_54 ha (q_f (nI_ge (by omega) (by omega)) ⟨fun h0 => fin _ (fun i hi h => ?_) h0, fun _ => ⟨?_, ?_⟩⟩)
          · rw [bt_mk (by omega) hi] at h
            unfold stA
            rw [decide_eq_true c2, Bool.true_and]
            cases q : (decide (i + tI T f ≤ tN T) && aB (stR T R f k i) (tE T f)) with
            | false => rfl
            | true =>
              rw [Bool.and_eq_true] at q
              rw [q.1, Bool.true_and] at h
              rw [aB_t.mpr fun r' hr' => aB_t.mp q.2 r' (by omega)] at h
              exact h
          · rw [pk_mul, nI_add]; exact vp_in_nI (by omega) (by omega)
          · rw [pk_mul, nI_add, nI_clamp (by omega), show f * 3 + r = 3 * f + r by omega, hT.2.2.2.2.2.2.2.2 f hf r (by omega)]
            have inner : ∀ (q c : Nat), c + q = tI T f → t_X2_startsAt_82 d L fz t Q a (nI f) (nI k) (nI (tI T f)) (nI (tE T f)) (mk (fun t => (decide (t + tI T f ≤ tN T) && aB (stR T R f k t) r) && aB (fun j => bt (R (k + r)) (t + j) == bt (tR T (3 * f + r)) j) c) (tN T)) (nI r) (tR T (3 * f + r)) (nI c) I J := by
              intro q
              induction q with
              | zero =>
                intro c hc
                obtain rfl : c = tI T f := by omega
                refine b_X2_startsAt_82 ha (q_t (nI_le (by omega) (by omega)) ?_)
                rw [nI_add]
                have e : mk (fun t => (decide (t + tI T f ≤ tN T) && aB (stR T R f k t) r) && aB (fun j => bt (R (k + r)) (t + j) == bt (tR T (3 * f + r)) j) (tI T f)) (tN T) = mk (fun t => decide (t + tI T f ≤ tN T) && aB (stR T R f k t) (r + 1)) (tN T) := mk_congr fun i _ => by rw [aB, Bool.and_assoc]; rfl
                rw [e]
                exact ih (r + 1) (by omega)
              | succ q ihq =>
                intro c hc
                refine b_X2_startsAt_82 ha (q_f (nI_ge (by omega) (by omega)) ⟨?_, ?_⟩)
                · rw [nI_add]; exact vp_in_nI (by omega) (by omega)
                · rw [nI_add, nI_clamp (by omega), hR (k + r) (by omega), b_bit _ (by omega : c < 32), nI_add]
                  have e : ∀ y : Int32, (∀ i, i < tN T → bt y i = (bt (R (k + r)) (i + c) == bt (tR T (3 * f + r)) c)) → mk (fun t => (decide (t + tI T f ≤ tN T) && aB (stR T R f k t) r) && aB (fun j => bt (R (k + r)) (t + j) == bt (tR T (3 * f + r)) j) c) (tN T) &&& y = mk (fun t => (decide (t + tI T f ≤ tN T) && aB (stR T R f k t) r) && aB (fun j => bt (R (k + r)) (t + j) == bt (tR T (3 * f + r)) j) (c + 1)) (tN T) := by
                    intro y hy
                    refine sm_ext (sm_and (sm_mk _ (by omega))) (sm_mk _ (by omega)) fun i hi => ?_
                    rw [b_and, bt_mk (by omega) hi, bt_mk (by omega) hi, hy i hi, aB, Bool.and_assoc]
                  refine ⟨fun h => ?_, fun h => ?_⟩
                  · have hb : bt (tR T (3 * f + r)) c = false := by
                      cases z : bt (tR T (3 * f + r)) c with
                      | false => rfl
                      | true => rw [z] at h; exact absurd rfl h
                    rw [e _ fun i hi => by
                      rw [b_not _ (by omega), b_sshr c (by omega) _ (by omega), if_pos (by omega), hb, Nat.add_comm c i]
                      cases bt (R (k + r)) (i + c) <;> rfl]
                    exact ihq (c + 1) (by omega)
                  · have hb : bt (tR T (3 * f + r)) c = true := (bz_1 _).mp h
                    rw [e _ fun i hi => by
                      rw [b_sshr c (by omega) _ (by omega), if_pos (by omega), hb, Nat.add_comm c i]
                      cases bt (R (k + r)) (i + c) <;> rfl]
                    exact ihq (c + 1) (by omega)
            have h0 := inner (tI T f) 0 (by omega)
            have e : mk (fun t => (decide (t + tI T f ≤ tN T) && aB (stR T R f k t) r) && aB (fun j => bt (R (k + r)) (t + j) == bt (tR T (3 * f + r)) j) 0) (tN T) = mk (fun t => decide (t + tI T f ≤ tN T) && aB (stR T R f k t) r) (tN T) := mk_congr fun i _ => by rw [aB, Bool.and_true]
            rw [e] at h0
            exact h0
      have h0 := loop (tE T f) 0 (by omega)
      have e : mk (fun t => decide (t + tI T f ≤ tN T) && aB (stR T R f k t) 0) (tN T) = al (tN T - tI T f + 1) := by
        refine b_ext fun i hi => ?_
        rw [b_mk _ _ (by omega) i hi, b_al _ (by omega) i hi, aB, Bool.and_true]
        by_cases z : i + tI T f ≤ tN T
        · rw [decide_eq_true z, decide_eq_true (by omega), decide_eq_true (by omega)]; rfl
        · rw [decide_eq_false z, Bool.and_false, decide_eq_false (by omega)]
      rw [e] at h0
      exact h0
    · unfold stA; rw [decide_eq_false (by omega : ¬ k + tE T f ≤ p), Bool.false_and]
theorem S_isAnywhere {f : Nat} (ha : a = 55 ∨ a = 70) (hT : cT a T I) (oT : okT T) (hp : I 3 1 = nI p) (hR : ∀ k, k < p → I 4 k = R k) (h12 : p ≤ 12) (hf : f < tG T)
    (hq : Q (.inl (some (.int (bz (anw T R p f))))) (pm_hp L fz t I J)) : pm_Ev (d + 2) 22 [.ref 3, .ref a, .int (nI f)] (pm_hp L fz t I J) Q := by
  have hn := oT.1
  have loop : ∀ (j k : Nat), k + j = p → Q (.inl (some (.int (bz (fo (stA T R p f) (tN T) j k).isSome)))) (pm_hp L fz t I J) → t_X2_isAnywhere_2 (d + 1) L fz t Q a (nI f) (nI k) I J := by
    intro j
    induction j with
    | zero =>
      intro k hk hq
      refine b_X2_isAnywhere_2 ha ?_
      rw [hp]
      exact q_t (nI_le (by omega) (by omega)) hq
    | succ j ih =>
      intro k hk hq
      refine b_X2_isAnywhere_2 ha ?_
      rw [hp]
      refine q_f (nI_ge (by omega) (by omega)) (S_startsAt ha hT oT hp hR h12 hf (by omega) (kb_X2_isAnywhere_17 ha ?_))
      rw [nI_add, show nI 0 = (0 : Int32) from rfl, mk_eq0 (by omega)]
      refine ⟨fun h => ih (k + 1) (by omega) ?_, fun h => ?_⟩
      · rw [fo, ff_none.mpr fun i _ hi => h i (by omega)] at hq
        exact hq
      · cases z : ff (stA T R p f k) (tN T) 0 with
        | none => exact absurd (fun i hi => ff_none.mp z i (by omega) (by omega)) h
        | some u => rw [fo, z] at hq; exact hq
  exact e_X2_isAnywhere ha (loop p 0 (by omega) hq)
theorem S_cstanding (ha : a = 55 ∨ a = 70) (hT : cT a T I) (oT : okT T) (hp : I 3 1 = nI p) (hR : ∀ k, k < p → I 4 k = R k) (h12 : p ≤ 12)
    (hq : Q (.inl (some (.int (sta T R p)))) (pm_hp L fz t I J)) : pm_Ev (d + 3) 23 [.ref 3, .ref a] (pm_hp L fz t I J) Q := by
  have hg := oT.2.2.1
  have loop : ∀ (j i : Nat), i + j = tG T → t_X2_standing_4 (d + 2) L fz t Q a (mk (anw T R p) i) (nI i) I J := by
    intro j
    induction j with
    | zero =>
      intro i hi
      obtain rfl : i = tG T := by omega
      refine b_X2_standing_4 ha ?_
      rw [hT.2.2.2.1]
      exact q_t (nI_le (by omega) (by omega)) hq
    | succ j ih =>
      intro i hi
      refine b_X2_standing_4 ha ?_
      rw [hT.2.2.2.1]
      refine q_f (nI_ge (by omega) (by omega)) (S_isAnywhere ha hT oT hp hR h12 (by omega) (kb_X2_standing_18 ha ?_))
      rw [nI_add]
      refine q_b0 (fun h => ?_) (fun h => ?_)
      · rw [mk_Sf h]; exact ih (i + 1) (by omega)
      · rw [mk_St h]; exact ih (i + 1) (by omega)
  exact e_X2_standing ha (loop (tG T) 0 (by omega))
theorem shr_and {x y : Int32} {u v : Nat} (hy : sm y v) (h : u + v ≤ 32) (hv : v < 32) (hu : u < 32) : ((x >>> (nI u &&& 31)) &&& ((nI 1 <<< (nI v &&& 31)) - nI 1)) = y ↔ aB (fun j => bt x (u + j) == bt y j) v = true := by
  rw [aB_t]
  have e : (nI 1 <<< (nI v &&& 31)) - nI 1 = al v := rfl
  rw [e]
  constructor
  · intro q i hi
    rw [← q, b_and, b_sshr u hu _ (by omega), if_pos (by omega), b_al v hv i (by omega), decide_eq_true hi, Bool.and_true]
    exact beq_self_eq_true _
  · intro q
    refine sm_ext (sm_and' (sm_al hv)) hy fun i hi => ?_
    rw [b_and, b_sshr u hu _ (by omega), if_pos (by omega), b_al v hv i (by omega), decide_eq_true hi, Bool.and_true]
    exact eq_of_beq (q i hi)
theorem S_standsAt {f k i : Nat} (hT : mT T I) (oT : okT T) (hp : I 85 52 = nI p) (hR : ∀ k, k < p → I 107 k = R k) (h12 : p ≤ 12) (hf : f < tG T) (hk : k < 12) (hi : i < tN T)
    (hq : Q (.inl (some (.int (bz (stA T R p f k i))))) (pm_hp L fz t I J)) : pm_Ev (d + 1) 170 [.ref 85, .int (nI f), .int (nI k), .int (nI i)] (pm_hp L fz t I J) Q := by
  obtain ⟨hn, hm, hg, hU, hH, hfig⟩ := oT
  obtain ⟨hw1, hw4, he1, he3, hrow⟩ := hfig f hf
  obtain ⟨-, hwi, hhe⟩ := hT.2.2.2.2.2.2.1 f hf
  refine e_X11_standsAt ?_
  rw [nI_clamp (by omega), hwi, hhe, hp, nI_add, nI_add, hT.1]
  refine ⟨vp_in_nI (by omega) (by omega), q_lt (by omega) (by omega) (fun c => ?_) (fun c => ⟨vp_in_nI (by omega) (by omega), q_le (by omega) (by omega) (fun c2 => ?_) (fun c2 => ?_)⟩)⟩
  · unfold stA at hq; rw [decide_eq_false (by omega : ¬ k + tE T f ≤ p), Bool.false_and] at hq; exact hq
  · have loop : ∀ (j r : Nat), r + j = tE T f → aB (stR T R f k i) r = true → t_X11_standsAt_35 d L fz t Q (nI f) (nI k) (nI i) (nI r) I J := by
      intro j
      induction j with
      | zero =>
        intro r hr hr2
        obtain rfl : r = tE T f := by omega
        refine b_X11_standsAt_35 ?_
        rw [nI_clamp (by omega), hhe]
        refine ⟨vp_in_nI (by omega) (by omega), q_t (nI_le (by omega) (by omega)) ?_⟩
        unfold stA at hq
        rw [decide_eq_true (by omega : k + tE T f ≤ p), decide_eq_true c2, hr2] at hq
        exact hq
      | succ j ih =>
        intro r hr hr2
        refine b_X11_standsAt_35 ?_
        rw [nI_clamp (by omega), hhe, hwi, nI_add, nI_add, pk_mul, nI_add, nI_clamp (by omega), nI_clamp (by omega), hR (k + r) (by omega), hT.2.2.2.2.2.2.2 f hf r (by omega), shr_and (hrow r (by omega)) (by omega) (by omega) (by omega)]
        refine ⟨vp_in_nI (by omega) (by omega), q_f (nI_ge (by omega) (by omega)) ⟨vp_in_nI (by omega) (by omega), vp_in_nI (by omega) (by omega), vp_in_nI (by omega) (by omega), fun h => ?_, fun h => ?_⟩⟩
        · refine ih (r + 1) (by omega) ?_
          rw [aB, hr2, Bool.true_and]; exact h
        · unfold stA at hq
          have z : aB (stR T R f k i) (tE T f) = false := by
            cases z : aB (stR T R f k i) (tE T f) with
            | false => rfl
            | true => exact absurd (aB_t.mp z r (by omega)) h
          rw [z, Bool.and_false, Bool.and_false] at hq
          exact hq
    exact loop (tE T f) 0 (by omega) rfl
  · unfold stA at hq; rw [decide_eq_false (by omega : ¬ i + tI T f ≤ tN T), Bool.false_and, Bool.and_false] at hq; exact hq
theorem S_firstOf {f : Nat} (hT : mT T I) (oT : okT T) (hp : I 85 52 = nI p) (hR : ∀ k, k < p → I 107 k = R k) (h12 : p ≤ 12) (hf : f < tG T)
    (hq : Q (.inl (some (.int (foI (fst T R p f))))) (pm_hp L fz t I J)) : pm_Ev (d + 2) 171 [.ref 85, .int (nI f)] (pm_hp L fz t I J) Q := by
  have hn := oT.1
  have loop : ∀ (j k : Nat), k + j = p → Q (.inl (some (.int (foI (fo (stA T R p f) (tN T) j k))))) (pm_hp L fz t I J) → t_X11_firstOf_2 (d + 1) L fz t Q (nI f) (nI k) I J := by
    intro j
    induction j with
    | zero =>
      intro k hk hq
      refine b_X11_firstOf_2 ?_
      rw [hp]
      exact q_t (nI_le (by omega) (by omega)) hq
    | succ j ih =>
      intro k hk hq
      refine b_X11_firstOf_2 ?_
      rw [hp]
      refine q_f (nI_ge (by omega) (by omega)) ?_
      have inner : ∀ (q i : Nat), i + q = tN T → (∀ u, ff (stA T R p f k) q i = some u → Q (.inl (some (.int (nI (100 * k + u))))) (pm_hp L fz t I J)) → (ff (stA T R p f k) q i = none → t_X11_firstOf_2 (d + 1) L fz t Q (nI f) (nI (k + 1)) I J) → t_X11_firstOf_12 (d + 1) L fz t Q (nI f) (nI k) (nI i) I J := by
        intro q
        induction q with
        | zero =>
          intro i hi _ h2
          refine b_X11_firstOf_12 ?_
          rw [hT.1, nI_add]
          exact q_t (nI_le (by omega) (by omega)) (h2 rfl)
        | succ q ihq =>
          intro i hi h1 h2
          refine b_X11_firstOf_12 ?_
          rw [hT.1]
          refine q_f (nI_ge (by omega) (by omega)) (S_standsAt hT oT hp hR h12 hf (by omega) (by omega) (kb_X11_firstOf_27 ?_))
          rw [nI_add, pk_mul, nI_add]
          refine q_b0 (fun h => ihq (i + 1) (by omega) (fun u hu => h1 u ?_) (fun hu => h2 ?_)) (fun h => h1 i ?_)
          · rw [ff, h, if_neg (by decide)]; exact hu
          · rw [ff, h, if_neg (by decide)]; exact hu
          · rw [ff, h, if_pos rfl]
      refine inner (tN T) 0 (by omega) (fun u hu => ?_) (fun hu => ih (k + 1) (by omega) ?_)
      · rw [fo, hu] at hq; exact hq
      · rw [fo, hu] at hq; exact hq
  exact e_X11_firstOf (loop p 0 (by omega) hq)
theorem S_mstanding (hT : mT T I) (oT : okT T) (hp : I 85 52 = nI p) (hR : ∀ k, k < p → I 107 k = R k) (h12 : p ≤ 12)
    (hq : Q (.inl (some (.int (sta T R p)))) (pm_hp L fz t I J)) : pm_Ev (d + 3) 172 [.ref 85] (pm_hp L fz t I J) Q := by
  have hg := oT.2.2.1
  have hn := oT.1
  have loop : ∀ (j i : Nat), i + j = tG T → t_X11_standing_4 (d + 2) L fz t Q (mk (anw T R p) i) (nI i) I J := by
    intro j
    induction j with
    | zero =>
      intro i hi
      obtain rfl : i = tG T := by omega
      refine b_X11_standing_4 ?_
      rw [hT.2.2.1]
      exact q_t (nI_le (by omega) (by omega)) hq
    | succ j ih =>
      intro i hi
      refine b_X11_standing_4 ?_
      rw [hT.2.2.1]
      refine q_f (nI_ge (by omega) (by omega)) (S_firstOf hT oT hp hR h12 (by omega) (kb_X11_standing_18 ?_))
      rw [nI_add, or_0, fst_m1 oT h12]
      refine ⟨fun h => ?_, fun h => ?_⟩
      · rw [mk_Sf (f := anw T R p) h]; exact ih (i + 1) (by omega)
      · rw [mk_St (f := anw T R p) (by cases z : anw T R p i; exact absurd z h; rfl)]; exact ih (i + 1) (by omega)
  exact e_X11_standing (loop (tG T) 0 (by omega))
end Spec
