/-! branches, frames -/
theorem q_t {P A B : Prop} (hp : P) (a : A) : (P → A) ∧ (¬ P → B) := ⟨fun _ => a, fun h => absurd hp h⟩
theorem q_f {P A B : Prop} (hp : ¬ P) (b : B) : (P → A) ∧ (¬ P → B) := ⟨fun h => absurd h hp, fun _ => b⟩
theorem q_t' {P A B : Prop} (hp : ¬ P) (a : A) : (¬ P → A) ∧ (P → B) := ⟨fun _ => a, fun h => absurd h hp⟩
theorem q_f' {P A B : Prop} (hp : P) (b : B) : (¬ P → A) ∧ (P → B) := ⟨fun h => absurd hp h, fun _ => b⟩
/-- a two-way branch over a number's order -/
theorem q_le {a b : Nat} {A B : Prop} (ha : a < 2 ^ 31) (hb : b < 2 ^ 31) (f : a ≤ b → A) (g : b < a → B) : (nI a ≤ nI b → A) ∧ (¬ nI a ≤ nI b → B) :=
  ⟨fun h => f ((nI_leI ha hb).mp h), fun h => g (Nat.lt_of_not_le fun q => h ((nI_leI ha hb).mpr q))⟩
theorem q_lt {a b : Nat} {A B : Prop} (ha : a < 2 ^ 31) (hb : b < 2 ^ 31) (f : a < b → A) (g : b ≤ a → B) : (nI a < nI b → A) ∧ (¬ nI a < nI b → B) :=
  ⟨fun h => f ((nI_ltI ha hb).mp h), fun h => g (Nat.le_of_not_lt fun q => h ((nI_ltI ha hb).mpr q))⟩
theorem q_eq {a b : Nat} {A B : Prop} (ha : a < 2 ^ 31) (hb : b < 2 ^ 31) (f : a = b → A) (g : ¬ a = b → B) : (nI a = nI b → A) ∧ (¬ nI a = nI b → B) :=
  ⟨fun h => f ((nI_eq ha hb).mp h), fun h => g (fun q => h ((nI_eq ha hb).mpr q))⟩
theorem q_ne {a b : Nat} {A B : Prop} (ha : a < 2 ^ 31) (hb : b < 2 ^ 31) (f : ¬ a = b → A) (g : a = b → B) : (¬ nI a = nI b → A) ∧ (nI a = nI b → B) :=
  ⟨fun h => f (fun q => h ((nI_eq ha hb).mpr q)), fun h => g ((nI_eq ha hb).mp h)⟩
/-- a branch over a truth value -/
theorem q_b0 {b : Bool} {A B : Prop} (f : b = false → A) (g : b = true → B) : (bz b = nI 0 → A) ∧ (¬ bz b = nI 0 → B) :=
  ⟨fun h => f ((bz_0 b).mp h), fun h => g (by cases b; exact absurd rfl h; rfl)⟩
theorem q_b0' {b : Bool} {A B : Prop} (f : b = true → A) (g : b = false → B) : (¬ bz b = nI 0 → A) ∧ (bz b = nI 0 → B) :=
  ⟨fun h => f (by cases b; exact absurd rfl h; rfl), fun h => g ((bz_0 b).mp h)⟩
def fr (S : List Nat) (I I' : Nat → Nat → Int32) : Prop := ∀ a, a ∉ S → I' a = I a
theorem fr_r {S : List Nat} {I : Nat → Nat → Int32} : fr S I I := fun _ _ => rfl
theorem fr_t {S : List Nat} {I I' I'' : Nat → Nat → Int32} (h : fr S I I') (h' : fr S I' I'') : fr S I I'' := fun a ha => (h' a ha).trans (h a ha)
theorem fr_m {S S' : List Nat} {I I' : Nat → Nat → Int32} (h : fr S I I') (hs : ∀ a, a ∈ S → a ∈ S') : fr S' I I' := fun a ha => h a fun q => ha (hs a q)
theorem fr_u {S : List Nat} {I I' : Nat → Nat → Int32} {a k : Nat} {v : Int32} (ha : a ∈ S) (h : fr S I I') : fr S I (pm_u I' a k v) := fun b hb => by
  have hn : b ≠ a := fun e => hb (by rw [e]; exact ha)
  rw [pm_ua hn]; exact h b hb
theorem fr_ur {S : List Nat} {I I' : Nat → Nat → Int32} {a : Nat} {g : Nat → Int32} (ha : a ∈ S) (h : fr S I I') : fr S I (pm_ur I' a g) := fun b hb => by
  have hn : b ≠ a := fun e => hb (by rw [e]; exact ha)
  rw [pm_ura hn]; exact h b hb
theorem fr_one {c : Nat} {I I' : Nat → Nat → Int32} (h : ∀ a, a ≠ c → I' a = I a) : fr [c] I I' := fun a ha => h a fun e => ha (by rw [e]; exact List.mem_cons_self)
/-! all and any below a number -/
def aB (f : Nat → Bool) : Nat → Bool
  | 0 => true
  | n + 1 => aB f n && f n
def eB (f : Nat → Bool) : Nat → Bool
  | 0 => false
  | n + 1 => eB f n || f n
theorem aB_t {f : Nat → Bool} : ∀ {n : Nat}, aB f n = true ↔ ∀ i, i < n → f i = true
  | 0 => ⟨fun _ i h => absurd h (by omega), fun _ => rfl⟩
  | n + 1 => by
    rw [aB, Bool.and_eq_true, aB_t]
    constructor
    · intro h i hi
      rcases Nat.lt_or_ge i n with q | q
      · exact h.1 i q
      · rw [show i = n by omega]; exact h.2
    · intro h; exact ⟨fun i hi => h i (by omega), h n (by omega)⟩
theorem eB_t {f : Nat → Bool} : ∀ {n : Nat}, eB f n = true ↔ ∃ i, i < n ∧ f i = true
  | 0 => ⟨fun h => (by cases h), fun ⟨i, h, _⟩ => absurd h (by omega)⟩
  | n + 1 => by
    rw [eB, Bool.or_eq_true, eB_t]
    constructor
    · rintro (⟨i, h1, h2⟩ | h)
      · exact ⟨i, by omega, h2⟩
      · exact ⟨n, by omega, h⟩
    · rintro ⟨i, h1, h2⟩
      rcases Nat.lt_or_ge i n with q | q
      · exact Or.inl ⟨i, q, h2⟩
      · exact Or.inr (by rw [show n = i by omega]; exact h2)
theorem eB_f {f : Nat → Bool} {n : Nat} : eB f n = false ↔ ∀ i, i < n → f i = false := by
  constructor
  · intro h i hi
    cases q : f i with
    | false => rfl
    | true => rw [eB_t.mpr ⟨i, hi, q⟩] at h; exact h
  · intro h
    cases q : eB f n with
    | false => rfl
    | true => obtain ⟨i, hi, e⟩ := eB_t.mp q; rw [h i hi] at e; cases e
theorem aB_congr {f g : Nat → Bool} : ∀ {n : Nat}, (∀ i, i < n → f i = g i) → aB f n = aB g n
  | 0, _ => rfl
  | n + 1, h => by rw [aB, aB, aB_congr (n := n) (fun i hi => h i (by omega)), h n (by omega)]
theorem eB_congr {f g : Nat → Bool} : ∀ {n : Nat}, (∀ i, i < n → f i = g i) → eB f n = eB g n
  | 0, _ => rfl
  | n + 1, h => by rw [eB, eB, eB_congr (n := n) (fun i hi => h i (by omega)), h n (by omega)]
theorem bool_eq {a b : Bool} (h : a = true ↔ b = true) : a = b := by
  cases a <;> cases b <;> simp_all
/-! more bits -/
theorem bz_shl (b : Bool) (k : Nat) : bz b <<< (nI k &&& 31) = if b then pw k else 0 := by
  cases b
  · show nI 0 <<< (nI k &&& 31) = 0
    apply Int32.toBitVec_inj.1
    rw [Int32.toBitVec_shiftLeft]
    show (0#32 <<< _) = 0#32
    simp
  · rfl
theorem or_0 (x : Int32) : x ||| nI 0 = x := b_ext fun i _ => by rw [b_or, b_n0, Bool.or_false]
theorem or_00 (x : Int32) : x ||| 0 = x := or_0 x
theorem mk_S (f : Nat → Bool) (n : Nat) : mk f n ||| (if f n then pw n else 0) = mk f (n + 1) := rfl
theorem mk_St {f : Nat → Bool} {n : Nat} (h : f n = true) : mk f n ||| (nI 1 <<< (nI n &&& 31)) = mk f (n + 1) := by rw [← mk_S, if_pos h]; rfl
theorem mk_Sf {f : Nat → Bool} {n : Nat} (h : f n = false) : mk f n = mk f (n + 1) := by rw [← mk_S, h]; exact (or_00 _).symm
theorem bt_mk {f : Nat → Bool} {n i : Nat} (hn : n ≤ 32) (hi : i < n) : bt (mk f n) i = f i := by
  rw [b_mk f n hn i (by omega), decide_eq_true hi, Bool.true_and]
theorem bt_mk_ge {f : Nat → Bool} {n i : Nat} (hn : n ≤ 32) (hi : n ≤ i) : bt (mk f n) i = false := sm_mk f hn i hi
theorem al_mk {n : Nat} (h : n < 32) : al n = mk (fun _ => true) n := (mk_true h).symm
theorem nI_01 : ¬ nI 1 = nI 0 := by decide
/-- a row turned -/
def tu (n : Nat) (x : Int32) : Int32 := mk (fun i => bt x (n - 1 - i)) n
theorem sm_tu {n : Nat} (h : n ≤ 32) (x : Int32) : sm (tu n x) n := sm_mk _ h
/-! how many bits are set -/
def pcE (x0 : Int32) : Int32 :=
  let a := x0 - ((x0.toUInt32 >>> ((nI 1).toUInt32 &&& Int32.toUInt32 31)).toInt32 &&& nI 1431655765)
  let b := (a &&& nI 858993459) + ((a.toUInt32 >>> ((nI 2).toUInt32 &&& Int32.toUInt32 31)).toInt32 &&& nI 858993459)
  let c := (b + (b.toUInt32 >>> ((nI 4).toUInt32 &&& Int32.toUInt32 31)).toInt32) &&& nI 252645135
  let e := c + (c.toUInt32 >>> ((nI 8).toUInt32 &&& Int32.toUInt32 31)).toInt32
  (e + (e.toUInt32 >>> ((nI 16).toUInt32 &&& Int32.toUInt32 31)).toInt32) &&& nI 63
def pcB (m : Nat) : Bool := decide (pcE (nI m) = nI (cn (fun i => bt (nI m) i) 12))
theorem pcB_all : (List.range 4096).all pcB = true := by decide +kernel
/-- the number of bits below 12 -/
def pc (x : Int32) : Nat := cn (bt x) 12
theorem pcE_pc {x : Int32} (h : sm x 12) : pcE x = nI (pc x) := by
  obtain ⟨m, hm, rfl⟩ := sm_of h (by omega)
  have := List.all_eq_true.mp pcB_all m (List.mem_range.mpr hm)
  exact of_decide_eq_true this
theorem pc_le (x : Int32) : pc x ≤ 12 := cn_le _ _
section Spec
variable {d L : Nat} {fz t : Bool} {Q : pm_R → pm_H → Prop} {I : Nat → Nat → Int32} {J : Nat → Nat → Int64}
theorem S_bitCount {x : Int32} (h : sm x 12) (hq : Q (.inl (some (.int (nI (pc x))))) (pm_hp L fz t I J)) : pm_Ev (d + 1) 236 [.int x] (pm_hp L fz t I J) Q := by
  refine e_J6_bitCount_0f7a4 ?_
  rw [← pcE_pc h] at hq
  exact hq
theorem S_bits {x : Int32} (hq : Q (.inl (some (.int (nI (pc x))))) (pm_hp L fz t I J)) : pm_Ev (d + 1) 123 [.int x] (pm_hp L fz t I J) Q := by
  have loop : ∀ (j i : Nat), i + j = 12 → t_X11_bits_4 d L fz t Q x (nI (cn (bt x) i)) (nI i) I J := by
    intro j
    induction j with
    | zero =>
      intro i hi
      obtain rfl : i = 12 := by omega
      exact b_X11_bits_4 (q_t (nI_le (by omega) (by omega)) hq)
    | succ j ih =>
      intro i hi
      refine b_X11_bits_4 (q_f (nI_ge (by omega) (by omega)) ?_)
      rw [b_bit x (by omega : i < 32), nI_add]
      have e : nI (cn (bt x) i) + bz (bt x i) = nI (cn (bt x) (i + 1)) := nI_add _ _
      rw [e]
      exact ih (i + 1) (by omega)
  exact e_X11_bits (loop 12 0 rfl)
theorem S_turned {a0 n : Nat} {x : Int32} (ha0 : a0 = 55 ∨ a0 = 70) (hn : I a0 11 = nI n) (h12 : n ≤ 12) (hq : Q (.inl (some (.int (tu n x)))) (pm_hp L fz t I J)) : pm_Ev (d + 1) 71 [.ref a0, .int x] (pm_hp L fz t I J) Q := by
  have loop : ∀ (j i : Nat), i + j = n → t_X7_turned_4 d L fz t Q a0 x (mk (fun k => bt x (i - 1 - k)) i) (nI i) I J := by
    intro j
    induction j with
    | zero =>
      intro i hi
      obtain rfl : i = n := by omega
      refine b_X7_turned_4 ha0 ?_
      rw [hn]
      exact q_t (nI_le (by omega) (by omega)) hq
    | succ j ih =>
      intro i hi
      refine b_X7_turned_4 ha0 ?_
      rw [hn]
      refine q_f (nI_ge (by omega) (by omega)) ?_
      rw [b_bit x (by omega : i < 32), nI_add]
      have e : (mk (fun k => bt x (i - 1 - k)) i <<< (nI 1 &&& 31)) ||| bz (bt x i) = mk (fun k => bt x (i + 1 - 1 - k)) (i + 1) := by
        apply b_ext
        intro q hq
        rw [b_or, b_shl 1 (by omega) _ hq, b_mk _ (i + 1) (by omega) q hq]
        rcases Nat.eq_zero_or_pos q with h0 | h0
        · subst h0
          rw [decide_eq_false (by omega : ¬ 1 ≤ 0), Bool.false_and, Bool.false_or, decide_eq_true (by omega), Bool.true_and]
          show bt (bz (bt x i)) 0 = bt x (i + 1 - 1 - 0)
          rw [show i + 1 - 1 - 0 = i by omega]
          cases bt x i <;> rfl
        · have e1 : bt (bz (bt x i)) q = false := by
            cases bt x i
            · exact b_n0 q
            · rw [bz_t, b_n1, decide_eq_false (by omega)]
          rw [e1, Bool.or_false, decide_eq_true (by omega : 1 ≤ q), Bool.true_and, b_mk _ i (by omega) (q - 1) (by omega)]
          rcases Nat.lt_or_ge q (i + 1) with h1 | h1
          · rw [decide_eq_true h1, decide_eq_true (by omega : q - 1 < i), Bool.true_and, Bool.true_and, show i - 1 - (q - 1) = i + 1 - 1 - q by omega]
          · rw [decide_eq_false (by omega : ¬ q < i + 1), decide_eq_false (by omega : ¬ q - 1 < i), Bool.false_and, Bool.false_and]
      rw [e]
      exact ih (i + 1) (by omega)
  exact e_X7_turned ha0 (loop n 0 (by omega))
theorem S_mturned {n : Nat} {x : Int32} (hn : I 85 1 = nI n) (h12 : n ≤ 12) (hq : Q (.inl (some (.int (tu n x)))) (pm_hp L fz t I J)) : pm_Ev (d + 1) 190 [.ref 85, .int x] (pm_hp L fz t I J) Q := by
  have loop : ∀ (j i : Nat), i + j = n → t_X11_turned_4 d L fz t Q x (mk (fun k => decide (n - i ≤ k) && bt x (n - 1 - k)) n) (nI i) I J := by
    intro j
    induction j with
    | zero =>
      intro i hi
      obtain rfl : i = n := by omega
      refine b_X11_turned_4 ?_
      rw [hn]
      refine q_t (nI_le (by omega) (by omega)) ?_
      have e : mk (fun k => decide (i - i ≤ k) && bt x (i - 1 - k)) i = tu i x := mk_congr fun k _ => by rw [decide_eq_true (by omega), Bool.true_and]
      rw [e]; exact hq
    | succ j ih =>
      intro i hi
      refine b_X11_turned_4 ?_
      rw [hn]
      refine q_f (nI_ge (by omega) (by omega)) ?_
      rw [b_bit x (by omega : i < 32), nI_add, pk_sub (by omega), pk_sub (by omega), bz_shl]
      have e : (mk (fun k => decide (n - i ≤ k) && bt x (n - 1 - k)) n ||| (if bt x i then pw (n - 1 - i) else 0)) = mk (fun k => decide (n - (i + 1) ≤ k) && bt x (n - 1 - k)) n := by
        apply b_ext
        intro q hq
        rw [b_or, b_mk _ n (by omega) q hq, b_mk _ n (by omega) q hq]
        have e1 : bt (if bt x i then pw (n - 1 - i) else 0) q = (bt x i && decide (q = n - 1 - i)) := by
          cases bt x i
          · exact b_0 q
          · exact b_pw _ (by omega) q hq
        rw [e1]
        by_cases h1 : q = n - 1 - i
        · rw [decide_eq_true h1, decide_eq_true (by omega : q < n), decide_eq_false (by omega : ¬ n - i ≤ q), decide_eq_true (by omega : n - (i + 1) ≤ q), show n - 1 - q = i by omega]
          simp
        · rw [decide_eq_false h1, Bool.and_false, Bool.or_false]
          by_cases h2 : n - i ≤ q
          · rw [decide_eq_true h2, decide_eq_true (by omega : n - (i + 1) ≤ q)]
          · rw [decide_eq_false h2, decide_eq_false (by omega : ¬ n - (i + 1) ≤ q)]
      rw [e]
      exact ih (i + 1) (by omega)
  have h0 := loop n 0 (by omega)
  have e0 : mk (fun k => decide (n - 0 ≤ k) && bt x (n - 1 - k)) n = nI 0 := (mk_eq0 (by omega)).mpr fun k hk => by rw [decide_eq_false (by omega), Bool.false_and]
  rw [e0] at h0
  exact e_X11_turned h0
theorem S_fill {a0 n0 : Nat} {x : Int32} (harr : (a0 = 8 ∧ n0 = 120) ∨ (a0 = 63 ∧ n0 = 15) ∨ (a0 = 78 ∧ n0 = 15) ∨ (a0 = 62 ∧ n0 = 5) ∨ (a0 = 77 ∧ n0 = 5) ∨ (a0 = 22 ∧ n0 = 10) ∨ (a0 = 18 ∧ n0 = 10) ∨ (a0 = 19 ∧ n0 = 12))
    (hq : ∀ I', fr [a0] I I' → (∀ k, k < n0 → I' a0 k = x) → Q (.inl none) (pm_hp L fz t I' J)) : pm_Ev (d + 1) 237 [.ref a0, .int x] (pm_hp L fz t I J) Q := by
  have hn : n0 ≤ 120 := by omega
  have loop : ∀ (j i : Nat) (I' : Nat → Nat → Int32), i + j = n0 → fr [a0] I I' → (∀ k, k < i → I' a0 k = x) → t_J7_fill_53178_5 d L fz t Q a0 x (nI i) (nI n0) I' J := by
    intro j
    induction j with
    | zero =>
      intro i I' hi hf hk
      obtain rfl : i = n0 := by omega
      exact b_J7_fill_53178_5 harr (q_t (nI_le (by omega) (by omega)) (hq I' hf hk))
    | succ j ih =>
      intro i I' hi hf hk
      refine b_J7_fill_53178_5 harr (q_f (nI_ge (by omega) (by omega)) ⟨vp_in_nI (by omega) (by omega), ?_⟩)
      rw [nI_clamp (by omega), nI_add]
      refine ih (i + 1) _ (by omega) (fr_u List.mem_cons_self hf) fun k h => ?_
      by_cases e : k = i
      · rw [e, pm_us]
      · rw [pm_uk e]; exact hk k (by omega)
  exact e_J7_fill_53178 harr (loop n0 0 I (by omega) fr_r (fun k h => absurd h (by omega)))
theorem S_copies {a1 a2 n0 : Nat} (harr : (a1 = 94 ∧ a2 = 86 ∧ n0 = 10) ∨ (a1 = 95 ∧ a2 = 87 ∧ n0 = 5) ∨ (a1 = 96 ∧ a2 = 88 ∧ n0 = 5) ∨ (a1 = 97 ∧ a2 = 89 ∧ n0 = 5) ∨ (a1 = 98 ∧ a2 = 90 ∧ n0 = 15) ∨ (a1 = 100 ∧ a2 = 91 ∧ n0 = 1400) ∨ (a1 = 107 ∧ a2 = 108 ∧ n0 = 12) ∨ (a1 = 104 ∧ a2 = 115 ∧ n0 = 1360) ∨ (a1 = 110 ∧ a2 = 116 ∧ n0 = 32) ∨ (a1 = 115 ∧ a2 = 104 ∧ n0 = 1360) ∨ (a1 = 116 ∧ a2 = 110 ∧ n0 = 32))
    (hq : ∀ I', fr [a2] I I' → (∀ k, k < n0 → I' a2 k = I a1 k) → Q (.inl none) (pm_hp L fz t I' J)) : pm_Ev (d + 1) 122 [.ref 85, .ref a1, .ref a2] (pm_hp L fz t I J) Q := by
  have hn : n0 ≤ 1400 ∧ a1 ≠ a2 := by omega
  have loop : ∀ (j i : Nat) (I' : Nat → Nat → Int32), i + j = n0 → fr [a2] I I' → (∀ k, k < i → I' a2 k = I a1 k) → t_X11_copies_2 d L fz t Q a1 a2 (nI i) I' J := by
    intro j
    induction j with
    | zero =>
      intro i I' hi hf hk
      obtain rfl : i = n0 := by omega
      exact b_X11_copies_2 harr (q_t (nI_le (by omega) (by omega)) (hq I' hf hk))
    | succ j ih =>
      intro i I' hi hf hk
      refine b_X11_copies_2 harr (q_f (nI_ge (by omega) (by omega)) ⟨vp_in_nI (by omega) (by omega), vp_in_nI (by omega) (by omega), ?_⟩)
      rw [nI_clamp (by omega), nI_add, hf a1 (by simp [hn.2])]
      refine ih (i + 1) _ (by omega) (fr_u List.mem_cons_self hf) fun k h => ?_
      by_cases e : k = i
      · rw [e, pm_us]
      · rw [pm_uk e]; exact hk k (by omega)
  exact e_X11_copies harr (loop n0 0 I (by omega) fr_r (fun k h => absurd h (by omega)))
end Spec
