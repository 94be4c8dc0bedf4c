/-! couples: the most, by a table over sets, and by a cover -/
def mxk (f : Nat → Bool) (F : Nat → Nat) (a : Nat) : Nat → Nat
  | 0 => a
  | k + 1 => if f k = true then max (mxk f F a k) (F k) else mxk f F a k
theorem mxk_ge {f : Nat → Bool} {F : Nat → Nat} {a : Nat} : ∀ {n : Nat}, a ≤ mxk f F a n ∧ ∀ k, k < n → f k = true → F k ≤ mxk f F a n
  | 0 => ⟨Nat.le_refl _, fun k h => absurd h (by omega)⟩
  | n + 1 => by
    obtain ⟨h1, h2⟩ := mxk_ge (f := f) (F := F) (a := a) (n := n)
    rw [mxk]
    split
    · refine ⟨by omega, fun k hk hf => ?_⟩
      by_cases e : k = n
      · rw [e]; omega
      · have := h2 k (by omega) hf; omega
    · rename_i hn
      refine ⟨h1, fun k hk hf => ?_⟩
      by_cases e : k = n
      · rw [e] at hf; exact absurd hf hn
      · exact h2 k (by omega) hf
theorem mxk_le {f : Nat → Bool} {F : Nat → Nat} {a b : Nat} : ∀ {n : Nat}, a ≤ b → (∀ k, k < n → f k = true → F k ≤ b) → mxk f F a n ≤ b
  | 0, h, _ => h
  | n + 1, h, hk => by
    have := mxk_le (n := n) h (fun k q hf => hk k (by omega) hf)
    rw [mxk]
    split
    · rename_i hf
      have := hk n (by omega) hf; omega
    · exact this
theorem mxk_eq {f : Nat → Bool} {F : Nat → Nat} {a : Nat} : ∀ {n : Nat}, mxk f F a n = a ∨ ∃ k, k < n ∧ f k = true ∧ mxk f F a n = F k
  | 0 => Or.inl rfl
  | n + 1 => by
    have ih := mxk_eq (f := f) (F := F) (a := a) (n := n)
    rw [mxk]
    by_cases hf : f n = true
    · rw [if_pos hf]
      by_cases q : F n ≤ mxk f F a n
      · rw [Nat.max_eq_left q]
        rcases ih with h | ⟨k, hk, h1, h2⟩
        · exact Or.inl h
        · exact Or.inr ⟨k, by omega, h1, h2⟩
      · rw [Nat.max_eq_right (by omega)]
        exact Or.inr ⟨n, by omega, hf, rfl⟩
    · rw [if_neg hf]
      rcases ih with h | ⟨k, hk, h1, h2⟩
      · exact Or.inl h
      · exact Or.inr ⟨k, by omega, h1, h2⟩
/-- a card's coats that are not taken -/
def cf (E : Nat → Nat → Bool) (s c : Nat) : Nat → Bool := fun k => fe s k && E c k
def mo' (E : Nat → Nat → Bool) (p : Nat) : Nat → Nat → Nat → Nat
  | 0, _, _ => 0
  | f + 1, c, s => mxk (cf E s c) (fun k => 1 + mo' E p f (c + 1) (s ||| 2 ^ k)) (mo' E p f (c + 1) s) p
def mv (E : Nat → Nat → Bool) (p m c s : Nat) : Nat := mo' E p (m - c) c s
theorem mv_step {E : Nat → Nat → Bool} {p m c s : Nat} (h : c < m) : mv E p m c s = mxk (cf E s c) (fun k => 1 + mv E p m (c + 1) (s ||| 2 ^ k)) (mv E p m (c + 1) s) p := by
  unfold mv
  rw [show m - c = m - (c + 1) + 1 by omega]
  rfl
theorem mv_end {E : Nat → Nat → Bool} {p m s : Nat} : mv E p m m s = 0 := by unfold mv; rw [Nat.sub_self]; rfl
theorem mo_le {E : Nat → Nat → Bool} {p : Nat} : ∀ (f c s : Nat), mo' E p f c s ≤ f
  | 0, _, _ => Nat.le_refl _
  | f + 1, c, s => mxk_le (by have := mo_le (E := E) (p := p) f (c + 1) s; omega) (fun k _ _ => by have := mo_le (E := E) (p := p) f (c + 1) (s ||| 2 ^ k); omega)
theorem mv_le {E : Nat → Nat → Bool} {p m c s : Nat} : mv E p m c s ≤ m - c := mo_le _ _ _
/-- how many from c on, below m -/
def cnr (f : Nat → Bool) (m c : Nat) : Nat := cn (fun i => f (c + i)) (m - c)
theorem cn_shift (f : Nat → Bool) : ∀ n, cn f (n + 1) = (f 0).toNat + cn (fun i => f (i + 1)) n
  | 0 => by simp [cn]
  | n + 1 => by rw [cn, cn_shift f n, cn]; omega
theorem cnr_step {f : Nat → Bool} {m c : Nat} (h : c < m) : cnr f m c = (f c).toNat + cnr f m (c + 1) := by
  unfold cnr
  rw [show m - c = m - (c + 1) + 1 by omega, cn_shift]
  simp only [Nat.add_zero]
  congr 1
  exact cn_congr fun i _ => by rw [show c + (i + 1) = c + 1 + i by omega]
theorem cnr_end {f : Nat → Bool} {m c : Nat} (h : m ≤ c) : cnr f m c = 0 := by unfold cnr; rw [show m - c = 0 by omega]; rfl
/-- a row of owners gives so many -/
theorem mv_low {E : Nat → Nat → Bool} {p m : Nat} {ow : Nat → Option Nat} : ∀ (j c s : Nat), c + j = m → (∀ k o, k < 12 → ow k = some o → c ≤ o → k < p ∧ fe s k = true ∧ E o k = true) → cnr (fun o => eB (fun k => decide (ow k = some o)) 12) m c ≤ mv E p m c s
  | 0, c, s, h, _ => by rw [cnr_end (by omega)]; exact Nat.zero_le _
  | j + 1, c, s, h, hv => by
    rw [cnr_step (by omega), mv_step (by omega)]
    obtain ⟨g1, g2⟩ := mxk_ge (f := cf E s c) (F := fun k => 1 + mv E p m (c + 1) (s ||| 2 ^ k)) (a := mv E p m (c + 1) s) (n := p)
    cases q : eB (fun k => decide (ow k = some c)) 12 with
    | false =>
      have := mv_low (E := E) (p := p) (m := m) j (c + 1) s (by omega) (fun k o hk ho hc => hv k o hk ho (by omega))
      simp only [Bool.toNat_false]; omega
    | true =>
      obtain ⟨k, hk, e⟩ := eB_t.mp q
      have e' := of_decide_eq_true e
      obtain ⟨a1, a2, a3⟩ := hv k c hk e' (Nat.le_refl _)
      have h1 := g2 k a1 (by unfold cf; rw [a2, a3]; rfl)
      have h2 := mv_low (E := E) (p := p) (m := m) j (c + 1) (s ||| 2 ^ k) (by omega) (fun k' o hk' ho hc => by
        obtain ⟨b1, b2, b3⟩ := hv k' o hk' ho (by omega)
        refine ⟨b1, ?_, b3⟩
        have hne : k ≠ k' := fun z => by rw [← z, e'] at ho; cases ho; omega
        unfold fe at b2 ⊢
        rw [tb_set, decide_eq_false hne, Bool.or_false]; exact b2)
      simp only [Bool.toNat_true]; omega
/-- a cover bounds it -/
theorem mv_high {E : Nat → Nat → Bool} {p m : Nat} (hp : p ≤ 12) {D : Nat → Bool} {X : Nat → Bool} : ∀ (j c s : Nat), c + j = m → (∀ o k, c ≤ o → o < m → X o = false → k < p → fe s k = true → E o k = true → D k = true) → mv E p m c s ≤ cnr X m c + cn (fun k => D k && fe s k) 12
  | 0, c, s, h, _ => by rw [show c = m by omega, mv_end]; exact Nat.zero_le _
  | j + 1, c, s, h, hv => by
    rw [cnr_step (by omega), mv_step (by omega)]
    refine mxk_le ?_ (fun k hk hf => ?_)
    · have := mv_high hp j (c + 1) s (by omega) (fun o k ho hm hX h1 h2 h3 => hv o k (by omega) hm hX h1 h2 h3)
      omega
    · unfold cf at hf
      rw [Bool.and_eq_true] at hf
      have h2 := mv_high hp j (c + 1) (s ||| 2 ^ k) (by omega) (fun o k' ho hm hX h1 h2 h3 => hv o k' (by omega) hm hX h1 (by
        unfold fe at h2 ⊢
        rw [tb_set] at h2
        cases y : s.testBit k' with
        | false => rfl
        | true => rw [y] at h2; cases h2) h3)
      have h3 : cn (fun k' => D k' && fe (s ||| 2 ^ k) k') 12 ≤ cn (fun k' => D k' && fe s k') 12 := cn_sub fun k' q => by
        rw [Bool.and_eq_true] at q ⊢
        refine ⟨q.1, ?_⟩
        have q2 := q.2
        unfold fe at q2 ⊢
        rw [tb_set] at q2
        cases y : s.testBit k' with
        | false => rfl
        | true => rw [y] at q2; cases q2
      cases hX : X c with
      | true => simp only [Bool.toNat_true]; omega
      | false =>
        have hD := hv c k (Nat.le_refl _) (by omega) hX hk hf.1 hf.2
        have h4 : cn (fun k' => D k' && fe (s ||| 2 ^ k) k') 12 < cn (fun k' => D k' && fe s k') 12 := cn_lt (j := k) (fun k' q => by
          rw [Bool.and_eq_true] at q ⊢
          refine ⟨q.1, ?_⟩
          have q2 := q.2
          unfold fe at q2 ⊢
          rw [tb_set] at q2
          cases y : s.testBit k' with
          | false => rfl
          | true => rw [y] at q2; cases q2) (by omega) (by rw [hD, hf.1]; rfl) (by
            unfold fe
            rw [tb_set, decide_eq_true rfl, Bool.or_true]; simp)
        simp only [Bool.toNat_false]; omega
/-! owners, counted -/
def kO (ow : Nat → Option Nat) (o : Nat) : Nat := cn (fun k => decide (ow k = some o)) 12
def upO (ow : Nat → Option Nat) (k : Nat) (c : Nat) : Nat → Option Nat := fun q => if q = k then some c else ow q
theorem cn_swap {f g : Nat → Bool} {p : Nat} : ∀ {n : Nat}, p < n → (∀ k, k ≠ p → f k = g k) → cn f n + (g p).toNat = cn g n + (f p).toNat
  | 0, h, _ => absurd h (by omega)
  | n + 1, h, he => by
    rw [cn, cn]
    by_cases e : p = n
    · rw [← e, cn_congr (f := f) (g := g) (n := p) (fun k hk => he k (by omega))]; omega
    · have := cn_swap (n := n) (by omega) he
      rw [he n (fun z => e z.symm)]; omega
theorem kO_up {ow : Nat → Option Nat} {k c : Nat} (hk : k < 12) (o : Nat) : kO (upO ow k c) o + (decide (ow k = some o)).toNat = kO ow o + (decide (o = c)).toNat := by
  have := cn_swap (f := fun q => decide (upO ow k c q = some o)) (g := fun q => decide (ow q = some o)) hk (fun q hq => by
    show decide ((if q = k then some c else ow q) = some o) = _
    rw [if_neg hq])
  have e : decide (upO ow k c k = some o) = decide (o = c) := by
    show decide ((if k = k then some c else ow k) = some o) = _
    rw [if_pos rfl]
    exact decide_eq_decide.mpr ⟨fun z => by cases z; rfl, fun z => by rw [z]⟩
  rw [e] at this
  exact this
def nO (ow : Nat → Option Nat) : Nat := cn (fun k => (ow k).isSome) 12
/-- owners of some picks, each once, are no fewer than these -/
theorem cn_own {ow : Nat → Option Nat} {D : Nat → Bool} {m : Nat} (hK : ∀ o, kO ow o ≤ 1) : ∀ n, n ≤ 12 → (∀ k, k < n → D k = true → ∃ o, o < m ∧ ow k = some o) → cn D n ≤ cn (fun o => eB (fun k => D k && decide (ow k = some o)) n) m
  | 0, _, _ => Nat.zero_le _
  | n + 1, hn, h => by
    have ih := cn_own hK n (by omega) (fun k hk hD => h k (by omega) hD)
    rw [cn]
    cases hD : D n with
    | false =>
      have : cn (fun o => eB (fun k => D k && decide (ow k = some o)) n) m ≤ cn (fun o => eB (fun k => D k && decide (ow k = some o)) (n + 1)) m := cn_sub fun o q => by rw [eB, q]; rfl
      simp only [Bool.toNat_false]; omega
    | true =>
      obtain ⟨o, ho, e⟩ := h n (by omega) hD
      have hnot : eB (fun k => D k && decide (ow k = some o)) n = false := eB_f.mpr fun k hk => by
        cases q : decide (ow k = some o) with
        | false => rw [Bool.and_false]
        | true =>
          exfalso
          have q' := of_decide_eq_true q
          -- o twice
          have h2 : 2 ≤ kO ow o := by
            have a1 := cn_flip (f := fun x => decide (ow x = some o)) (g := fun x => decide (ow x = some o) && !decide (x = n)) (j := n) (n := 12) (by omega) (decide_eq_true e) (by simp) (fun x hx => by simp [hx])
            have a2 := cn_flip (f := fun x => decide (ow x = some o) && !decide (x = n)) (g := fun x => (decide (ow x = some o) && !decide (x = n)) && !decide (x = k)) (j := k) (n := 12) (by omega) (by simp [q']; omega) (by simp) (fun x hx => by simp [hx])
            unfold kO
            omega
          have := hK o; omega
      have : cn (fun o => eB (fun k => D k && decide (ow k = some o)) n) m < cn (fun o => eB (fun k => D k && decide (ow k = some o)) (n + 1)) m := cn_lt (j := o) (fun o' q => by rw [eB, q]; rfl) ho (by rw [eB, hD, decide_eq_true e]; simp) hnot
      simp only [Bool.toNat_true]; omega
