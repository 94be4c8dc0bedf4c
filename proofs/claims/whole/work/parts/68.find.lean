/-! a coat is sought -/
/-- picks that c may wear now -/
def cn2 (E : Nat → Nat → Bool) (s c : Nat) : Nat → Bool := fun k => E c k && fe s k
/-- the wardrobe's cells -/
def wd (E : Nat → Nat → Bool) (m : Nat) (I : Nat → Nat → Int32) : Prop := I 16 3 = nI m ∧ ∀ c, c < m → I 17 c = mk (E c) 12
def wO (ow : Nat → Option Nat) (I : Nat → Nat → Int32) : Prop := ∀ k, k < 12 → I 19 k = oI (ow k)
def vO (E : Nat → Nat → Bool) (m s : Nat) (ow : Nat → Option Nat) : Prop := ∀ k o, k < 12 → ow k = some o → o < m ∧ cn2 E s o k = true
/-- a set that is closed: all owned, by such as wear it alone -/
def clo (E : Nat → Nat → Bool) (s : Nat) (ow : Nat → Option Nat) (D : Nat → Bool) : Prop := ∀ k, k < 12 → D k = true → ∃ o, ow k = some o ∧ ∀ r, r < 12 → cn2 E s o r = true → D r = true
def noF (E : Nat → Nat → Bool) (s c : Nat) (tr tr' : Nat → Bool) (ow ow' : Nat → Option Nat) : Prop := (∀ k, k < 12 → ow' k = ow k) ∧ (∀ k, k < 12 → cn2 E s c k = true → tr' k = true) ∧ ∀ k, k < 12 → tr' k = true → tr k = true ∨ ∃ o, ow k = some o ∧ ∀ r, r < 12 → cn2 E s o r = true → tr' r = true
def yesF (E : Nat → Nat → Bool) (m s c : Nat) (tr : Nat → Bool) (ow ow' : Nat → Option Nat) : Prop := (∀ k, k < 12 → tr k = true → ow' k = ow k) ∧ vO E m s ow' ∧ (∀ o, kO ow' o = kO ow o + (decide (o = c)).toNat) ∧ nO ow' = nO ow + 1 ∧ ∀ D, clo E s ow D → (∀ k, k < 12 → D k = true → ow' k = ow k) ∧ ∃ k, k < 12 ∧ cn2 E s c k = true ∧ D k = false
theorem and0 {x y : Int32} {k : Nat} (hk : k < 32) : (x &&& (nI 1 <<< (nI k &&& 31))) = nI 0 ↔ bt x k = false := by
  show (x &&& pw k) = nI 0 ↔ _
  constructor
  · intro h
    have := congrArg (fun z => bt z k) h
    rw [b_and, b_pw k hk k hk, decide_eq_true rfl, Bool.and_true, b_n0] at this
    exact this
  · intro h
    refine b_ext fun i hi => ?_
    rw [b_and, b_pw k hk i hi, b_n0]
    by_cases e : i = k
    · rw [e, h]; rfl
    · rw [decide_eq_false e, Bool.and_false]
theorem oI_none {o : Option Nat} (h : ∀ c, o = some c → c < 2 ^ 31) : oI o = -1 ↔ o = none := by
  cases o with
  | none => exact ⟨fun _ => rfl, fun _ => rfl⟩
  | some c => exact ⟨fun e => absurd e (nI_ne_m1 (h c rfl)), fun e => by cases e⟩
section Spec
variable {d L : Nat} {fz t : Bool} {Q : pm_R → pm_H → Prop} {J : Nat → Nat → Int64} {E : Nat → Nat → Bool} {m s : Nat}
theorem S_findCoat (hm : m ≤ 10) : ∀ (e dp c : Nat) (I : Nat → Nat → Int32) (tr : Nat → Bool) (ow : Nat → Option Nat) (Q : pm_R → pm_H → Prop), e + dp = 11 → c < m → wd E m I → I 16 4 = mk tr 12 → wO ow I → vO E m s ow → (∀ k, k < 12 → tr k = true → (ow k).isSome = true) → dp ≤ cn tr 12 → nO ow ≤ 10 →
    (∀ (b : Bool) I' tr' ow', fr [16, 19] I I' → wd E m I' → I' 16 4 = mk tr' 12 → wO ow' I' → (∀ k, k < 12 → tr k = true → tr' k = true) → (b = false → noF E s c tr tr' ow ow') → (b = true → yesF E m s c tr ow ow') → Q (.inl (some (.int (bz b)))) (pm_hp L fz t I' J)) →
    pm_Ev (d + e) 76 [.ref 16, .int (nI c), .int (mk (fe s) 12), .int (nI dp)] (pm_hp L fz t I J) Q := by
  intro e
  induction e with
  | zero =>
    intro dp c I tr ow Q he hc hW h4 hO hv ht hdp hn hq
    exfalso
    have : cn tr 12 ≤ nO ow := by
      unfold nO
      have : cn tr 12 = cn (fun k => tr k && decide (k < 12)) 12 := cn_congr fun k hk => by rw [decide_eq_true hk, Bool.and_true]
      rw [this]
      refine cn_sub fun k hk => ?_
      rw [Bool.and_eq_true] at hk
      exact ht k (of_decide_eq_true hk.2) hk.1
    omega
  | succ e ih =>
    intro dp c I tr ow Q he hc hW h4 hO hv ht hdp hn hq
    refine e_X8_findCoat (q_f (nI_nlt (by omega) (by omega)) (q_f (nI_nlt (by omega) (by omega)) ?_))
    rw [hW.1]
    refine q_t (nI_lt (by omega) (by omega)) ?_
    have loop : ∀ (j k : Nat) (I1 : Nat → Nat → Int32) (tk : Nat → Bool), k + j = 12 → fr [16, 19] I I1 → wd E m I1 → I1 16 4 = mk tk 12 → wO ow I1 → (∀ q, q < 12 → tr q = true → tk q = true) → (∀ q, q < k → cn2 E s c q = true → tk q = true) → (∀ q, q < 12 → tk q = true → tr q = true ∨ ∃ o, ow q = some o ∧ ∀ r, r < 12 → cn2 E s o r = true → tk r = true) → t_X8_findCoat_23 (d + e) L fz t Q (nI c) (mk (fe s) 12) (nI dp) (nI k) I1 J := by
      intro j
      induction j with
      | zero =>
        intro k I1 tk hk hf hW1 h41 hO1 l1 l2 l3
        obtain rfl : k = 12 := by omega
        exact b_X8_findCoat_23 (q_t (nI_le (by omega) (by omega)) (hq false I1 tk ow hf hW1 h41 hO1 l1 (fun _ => ⟨fun _ _ => rfl, fun q hq => l2 q hq, l3⟩) (fun h => by cases h)))
      | succ j ihj =>
        intro k I1 tk hk hf hW1 h41 hO1 l1 l2 l3
        refine b_X8_findCoat_23 (q_f (nI_ge (by omega) (by omega)) ⟨vp_in_nI (by omega) (by omega), ?_⟩)
        have hbit : bt ((I1 17 c &&& mk (fe s) 12) &&& (I1 16 4 ^^^ (-1 : Int32))) k = (cn2 E s c k && !tk k) := by
          rw [b_and, b_and, hW1.2 c hc, h41, b_not _ (by omega), bt_mk (by omega) (by omega), bt_mk (by omega) (by omega), bt_mk (by omega) (by omega)]
          rfl
        have tried_owned : ∀ q, q < 12 → tk q = true → (ow q).isSome = true := fun q hq hq2 => by
          rcases l3 q hq hq2 with z | ⟨o, z, -⟩
          · exact ht q hq z
          · rw [z]; rfl
        rw [nI_clamp (n := c) (by omega), nI_clamp (n := k) (by omega), and0 (y := 0) (by omega), hbit, nI_add]
        refine ⟨fun q => ?_, fun q => ⟨vp_in_nI (by omega) (by omega), ?_⟩⟩
        · refine ihj (k + 1) I1 tk (by omega) hf hW1 h41 hO1 l1 (fun r hr hcan => ?_) l3
          by_cases z : r = k
          · rw [z] at hcan ⊢
            rw [hcan] at q
            cases y : tk k with
            | true => rfl
            | false => rw [y] at q; cases q
          · exact l2 r (by omega) hcan
        · have q' : cn2 E s c k = true ∧ tk k = false := by
            cases y1 : cn2 E s c k with
            | false => rw [y1] at q; exact absurd rfl q
            | true =>
              cases y2 : tk k with
              | false => exact ⟨rfl, rfl⟩
              | true => rw [y1, y2] at q; exact absurd rfl q
          obtain ⟨hcan, htk⟩ := q'
          have hmk : I1 16 4 ||| (nI 1 <<< (nI k &&& 31)) = mk (fun r => tk r || decide (k = r)) 12 := by
            rw [h41]; exact or_mkS (by omega) (fun u _ => rfl)
          rw [hmk, hO1 k (by omega), oI_none (fun o ho => by have := (hv k o (by omega) ho).1; omega)]
          refine ⟨fun z => ⟨vp_in_nI (by omega) (by omega), ?_⟩, fun z => ⟨vp_in_nI (by omega) (by omega), ?_⟩⟩
          · -- a coat that nobody has
            refine hq true _ (fun r => tk r || decide (k = r)) (upO ow k c) (fr_u (by simp) (fr_u (by simp) hf)) ⟨?_, fun c' hc' => ?_⟩ ?_ (fun r hr => ?_) (fun r hr hr2 => by rw [l1 r hr hr2]; rfl) (fun h => by cases h) (fun _ => ⟨fun r hr hr2 => ?_, fun r o hr ho => ?_, fun o => ?_, ?_, fun D hD => ⟨fun r hr hr2 => ?_, k, by omega, hcan, ?_⟩⟩)
            · rw [pm_ua (by decide), pm_uk (by decide)]; exact hW1.1
            · rw [pm_ua (by decide), pm_ua (by decide)]; exact hW1.2 c' hc'
            · rw [pm_ua (by decide), pm_us]
            · by_cases y : r = k
              · rw [y, pm_us]
                show nI c = oI (if k = k then some c else ow k)
                rw [if_pos rfl]; rfl
              · rw [pm_uk y, pm_ua (by decide)]
                show I1 19 r = oI (if r = k then some c else ow r)
                rw [if_neg y]; exact hO1 r hr
            · show (if r = k then some c else ow r) = ow r
              rw [if_neg (fun y => by rw [y] at hr2; rw [l1 k (by omega) hr2] at htk; cases htk)]
            · by_cases y : r = k
              · have : some c = some o := by
                  have h' : (if r = k then some c else ow r) = some o := ho
                  rw [if_pos y] at h'; exact h'
                cases this
                exact ⟨hc, by rw [y]; exact hcan⟩
              · have h' : (if r = k then some c else ow r) = some o := ho
                rw [if_neg y] at h'; exact hv r o hr h'
            · have := kO_up (ow := ow) (k := k) (c := c) (by omega) o
              rw [z, decide_eq_false (by intro y; cases y)] at this
              exact this
            · unfold nO
              refine cn_flip (j := k) (by omega) ?_ ?_ (fun r hr => ?_)
              · show (if k = k then some c else ow k).isSome = true
                rw [if_pos rfl]; rfl
              · rw [z]; rfl
              · show (if r = k then some c else ow r).isSome = _
                rw [if_neg hr]
            · show (if r = k then some c else ow r) = ow r
              rw [if_neg (fun y => by
                obtain ⟨o, ho, -⟩ := hD r hr hr2
                rw [y, z] at ho; cases ho)]
            · cases y : D k with
              | false => rfl
              | true =>
                obtain ⟨o, ho, -⟩ := hD k (by omega) y
                rw [z] at ho; cases ho
          · -- another one has it
            obtain ⟨o1, ho1⟩ : ∃ o1, ow k = some o1 := by
              cases y : ow k with
              | none => exact absurd y z
              | some o1 => exact ⟨o1, rfl⟩
            rw [ho1]
            obtain ⟨hm1, hc1⟩ := hv k o1 (by omega) ho1
            have hcnt : cn (fun r => tk r || decide (k = r)) 12 = cn tk 12 + 1 := cn_flip (j := k) (by omega) (by simp) htk (fun r hr => by rw [decide_eq_false (fun y => hr y.symm), Bool.or_false])
            have hsub : cn tr 12 ≤ cn tk 12 := by
              have e1 : cn tr 12 = cn (fun k => tr k && decide (k < 12)) 12 := cn_congr fun k hk => by rw [decide_eq_true hk, Bool.and_true]
              rw [e1]
              refine cn_sub fun r hr => ?_
              rw [Bool.and_eq_true] at hr
              exact l1 r (of_decide_eq_true hr.2) hr.1
            show pm_Ev (d + e) 76 [.ref 16, .int (nI o1), .int (mk (fe s) 12), .int (nI dp + nI 1)] _ _
            rw [nI_add]
            refine ih (dp + 1) o1 (pm_u I1 16 4 (mk (fun r => tk r || decide (k = r)) 12)) (fun r => tk r || decide (k = r)) ow _ (by omega) hm1 ⟨by rw [pm_uk (by decide)]; exact hW1.1, fun c' hc' => by rw [pm_ua (by decide)]; exact hW1.2 c' hc'⟩ pm_us (fun r hr => by rw [pm_ua (by decide)]; exact hO1 r hr) hv (fun r hr hr2 => ?_) (by omega) hn ?_
            · rw [Bool.or_eq_true] at hr2
              rcases hr2 with y | y
              · exact tried_owned r hr y
              · rw [← of_decide_eq_true y, ho1]; rfl
            · intro b I2 t2 o2 f2 W2 h42 O2 m2 hno hyes
              refine kb_X8_findCoat_92 ?_
              have f2' : fr [16, 19] I I2 := fr_t (fr_u (by simp) hf) f2
              rw [nI_add]
              refine q_b0 (fun y => ?_) (fun y => ⟨vp_in_nI (by omega) (by omega), ?_⟩)
              · -- in vain
                obtain ⟨n1, n2, n3⟩ := hno y
                refine ihj (k + 1) I2 t2 (by omega) f2' W2 h42 (fun r hr => by rw [O2 r hr, n1 r hr]) (fun r hr hr2 => m2 r hr (by rw [l1 r hr hr2]; rfl)) (fun r hr hcan' => ?_) (fun r hr hr2 => ?_)
                · by_cases w : r = k
                  · rw [w]; exact m2 k (by omega) (by simp)
                  · exact m2 r (by omega) (by rw [l2 r (by omega) hcan']; rfl)
                · rcases n3 r hr hr2 with w | w
                  · rw [Bool.or_eq_true] at w
                    rcases w with w | w
                    · rcases l3 r hr w with v | ⟨o, v1, v2⟩
                      · exact Or.inl v
                      · exact Or.inr ⟨o, v1, fun r' hr' hc' => m2 r' hr' (by rw [v2 r' hr' hc']; rfl)⟩
                    · refine Or.inr ⟨o1, by rw [← of_decide_eq_true w]; exact ho1, n2⟩
                  · exact Or.inr w
              · -- it finds another
                obtain ⟨y1, y2, y3, y4, y5⟩ := hyes y
                have ek : o2 k = some o1 := by rw [y1 k (by omega) (by simp)]; exact ho1
                rw [nI_clamp (by omega)]
                refine hq true _ t2 (upO o2 k c) (fr_u (by simp) f2') ⟨by rw [pm_ua (by decide)]; exact W2.1, fun c' hc' => by rw [pm_ua (by decide)]; exact W2.2 c' hc'⟩ (by rw [pm_ua (by decide)]; exact h42) (fun r hr => ?_) (fun r hr hr2 => m2 r hr (by rw [l1 r hr hr2]; rfl)) (fun h => by cases h) (fun _ => ⟨fun r hr hr2 => ?_, fun r o hr ho => ?_, fun o => ?_, ?_, fun D hD => ?_⟩)
                · by_cases w : r = k
                  · rw [w, pm_us]
                    show nI c = oI (if k = k then some c else o2 k)
                    rw [if_pos rfl]; rfl
                  · rw [pm_uk w]
                    show I2 19 r = oI (if r = k then some c else o2 r)
                    rw [if_neg w]; exact O2 r hr
                · show (if r = k then some c else o2 r) = ow r
                  rw [if_neg (fun w => by rw [w] at hr2; rw [l1 k (by omega) hr2] at htk; cases htk)]
                  exact y1 r hr (by show (tk r || decide (k = r)) = true; rw [l1 r hr hr2]; rfl)
                · by_cases w : r = k
                  · have h' : (if r = k then some c else o2 r) = some o := ho
                    rw [if_pos w] at h'
                    cases h'
                    exact ⟨hc, by rw [w]; exact hcan⟩
                  · have h' : (if r = k then some c else o2 r) = some o := ho
                    rw [if_neg w] at h'; exact y2 r o hr h'
                · have a1 := kO_up (ow := o2) (k := k) (c := c) (by omega) o
                  have a2 := y3 o
                  have a3 : decide (o2 k = some o) = decide (o = o1) := decide_eq_decide.mpr (by rw [ek]; exact ⟨fun w => by cases w; rfl, fun w => by rw [w]⟩)
                  rw [a3] at a1
                  omega
                · have : nO (upO o2 k c) = nO o2 := by
                    unfold nO
                    refine cn_congr fun r _ => ?_
                    show (if r = k then some c else o2 r).isSome = _
                    by_cases w : r = k
                    · rw [if_pos w, w, ek]; rfl
                    · rw [if_neg w]
                  rw [this]; exact y4
                · obtain ⟨d1, r0, d2, d3, d4⟩ := y5 D hD
                  have hDk : D k = false := by
                    cases w : D k with
                    | false => rfl
                    | true =>
                      obtain ⟨o, v1, v2⟩ := hD k (by omega) w
                      rw [ho1] at v1
                      cases v1
                      rw [v2 r0 d2 d3] at d4; cases d4
                  refine ⟨fun r hr hr2 => ?_, k, by omega, hcan, hDk⟩
                  show (if r = k then some c else o2 r) = ow r
                  rw [if_neg (fun w => by rw [w, hDk] at hr2; cases hr2)]
                  exact d1 r hr hr2
    exact loop 12 0 I tr (by omega) fr_r hW h4 hO (fun _ _ h => h) (fun q h => absurd h (by omega)) (fun q _ h => Or.inl h)
end Spec
