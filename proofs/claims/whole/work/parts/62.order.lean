/-! the least of some; the first that is least -/
def mn (F : Nat → Nat) (f : Nat → Bool) (a : Nat) : Nat → Nat
  | 0 => a
  | n + 1 => if f n = true then min (mn F f a n) (F n) else mn F f a n
theorem mn_min (F : Nat → Nat) (f : Nat → Bool) (a c : Nat) : ∀ n, mn F f (min a c) n = min c (mn F f a n)
  | 0 => by show min a c = min c a; omega
  | n + 1 => by
    rw [mn, mn, mn_min F f a c n]
    split <;> omega
theorem mn_le {F : Nat → Nat} {f : Nat → Bool} {a : Nat} : ∀ {n j : Nat}, j < n → f j = true → mn F f a n ≤ F j
  | 0, _, h, _ => absurd h (by omega)
  | n + 1, j, h, hf => by
    rw [mn]
    by_cases e : j = n
    · rw [e] at hf; rw [if_pos hf, e]; omega
    · have := mn_le (F := F) (a := a) (n := n) (j := j) (by omega) hf
      split <;> omega
theorem mn_le_a {F : Nat → Nat} {f : Nat → Bool} {a : Nat} : ∀ {n : Nat}, mn F f a n ≤ a
  | 0 => Nat.le_refl _
  | n + 1 => by
    have := mn_le_a (F := F) (f := f) (a := a) (n := n)
    rw [mn]; split <;> omega
theorem mn_start {F : Nat → Nat} {f : Nat → Bool} {a b n j : Nat} (hj : j < n) (hf : f j = true) (ha : F j ≤ a) (hb : F j ≤ b) : mn F f a n = mn F f b n := by
  have h1 := mn_min F f a b n
  have h2 := mn_min F f b a n
  have l1 := mn_le (F := F) (a := a) hj hf
  have l2 := mn_le (F := F) (a := b) hj hf
  rw [Nat.min_comm b a] at h2
  omega
theorem mn_congr {F G : Nat → Nat} {f : Nat → Bool} {a : Nat} : ∀ {n : Nat}, (∀ j, j < n → f j = true → F j = G j) → mn F f a n = mn G f a n
  | 0, _ => rfl
  | n + 1, h => by
    rw [mn, mn, mn_congr (n := n) (fun j hj hf => h j (by omega) hf)]
    by_cases e : f n = true
    · rw [if_pos e, if_pos e, h n (by omega) e]
    · rw [if_neg e, if_neg e]
def ab (F : Nat → Nat) (f : Nat → Bool) : Nat → Option Nat
  | 0 => none
  | k + 1 => if f k = true then (match ab F f k with
    | none => some k
    | some b => if F b ≤ F k then some b else some k) else ab F f k
theorem ab_none {F : Nat → Nat} {f : Nat → Bool} : ∀ {n : Nat}, ab F f n = none → ∀ k, k < n → f k = false
  | 0, _, k, h => absurd h (by omega)
  | n + 1, h, k, hk => by
    rw [ab] at h
    by_cases e : f n = true
    · rw [if_pos e] at h
      cases q : ab F f n with
      | none => rw [q] at h; cases h
      | some b =>
        rw [q] at h
        dsimp only at h
        split at h <;> cases h
    · rw [if_neg e] at h
      by_cases z : k = n
      · rw [z]; cases y : f n; rfl; exact absurd y e
      · exact ab_none h k (by omega)
theorem ab_some {F : Nat → Nat} {f : Nat → Bool} : ∀ {n b : Nat}, ab F f n = some b → b < n ∧ f b = true ∧ (∀ k, k < n → f k = true → F b ≤ F k) ∧ ∀ k, k < b → f k = true → F b < F k
  | 0, b, h => by cases h
  | n + 1, b, h => by
    rw [ab] at h
    by_cases e : f n = true
    · rw [if_pos e] at h
      cases q : ab F f n with
      | none =>
        rw [q] at h
        dsimp only at h
        cases h
        have hn := ab_none q
        refine ⟨by omega, e, fun k hk hf => ?_, fun k hk hf => by rw [hn k hk] at hf; cases hf⟩
        by_cases z : k = n
        · rw [z]; exact Nat.le_refl _
        · rw [hn k (by omega)] at hf; cases hf
      | some c =>
        obtain ⟨h1, h2, h3, h4⟩ := ab_some q
        rw [q] at h
        dsimp only at h
        split at h
        · rename_i hle
          cases h
          refine ⟨by omega, h2, fun k hk hf => ?_, h4⟩
          by_cases z : k = n
          · rw [z]; exact hle
          · exact h3 k (by omega) hf
        · rename_i hle
          cases h
          refine ⟨by omega, e, fun k hk hf => ?_, fun k hk hf => by have := h3 k hk hf; omega⟩
          by_cases z : k = n
          · rw [z]; exact Nat.le_refl _
          · have := h3 k (by omega) hf; omega
    · rw [if_neg e] at h
      obtain ⟨h1, h2, h3, h4⟩ := ab_some h
      refine ⟨by omega, h2, fun k hk hf => ?_, h4⟩
      by_cases z : k = n
      · rw [z] at hf; exact absurd hf e
      · exact h3 k (by omega) hf
theorem mn_ab {F : Nat → Nat} {f : Nat → Bool} {n b a : Nat} (h : ab F f n = some b) (ha : F b ≤ a) : mn F f a n = F b := by
  obtain ⟨h1, h2, h3, h4⟩ := ab_some h
  have l1 := mn_le (F := F) (a := a) h1 h2
  have : ∀ m, m ≤ n → F b ≤ mn F f a m := by
    intro m
    induction m with
    | zero => intro _; exact ha
    | succ m ih =>
      intro hm
      have := ih (by omega)
      rw [mn]
      by_cases e : f m = true
      · have := h3 m (by omega) e
        rw [if_pos e]; omega
      · rw [if_neg e]; omega
  have := this n (Nat.le_refl _)
  omega
theorem ff_is {f : Nat → Bool} {n b : Nat} (hb : b < n) (hf : f b = true) (hn : ∀ k, k < b → f k = false) : ff f n 0 = some b := by
  cases h : ff f n 0 with
  | none => rw [ff_none.mp h b (by omega) (by omega)] at hf; cases hf
  | some c =>
    obtain ⟨h1, h2, h3, h4⟩ := ff_some h
    rcases Nat.lt_trichotomy c b with q | q | q
    · rw [hn c q] at h3; cases h3
    · rw [q]
    · rw [h4 b (by omega) q] at hf; cases hf
/-! sets of places -/
theorem cn_flip {f g : Nat → Bool} {j : Nat} : ∀ {n : Nat}, j < n → f j = true → g j = false → (∀ k, k ≠ j → f k = g k) → cn f n = cn g n + 1
  | 0, h, _, _, _ => absurd h (by omega)
  | n + 1, h, h1, h2, h3 => by
    rw [cn, cn]
    by_cases e : j = n
    · rw [← e, h1, h2, cn_congr (f := f) (g := g) (n := j) (fun k hk => h3 k (by omega))]; rfl
    · rw [cn_flip (n := n) (by omega) h1 h2 h3, h3 n (by omega)]; omega
theorem cn_pos {f : Nat → Bool} : ∀ {n : Nat}, 0 < cn f n → ∃ j, j < n ∧ f j = true
  | 0, h => absurd h (by simp [cn])
  | n + 1, h => by
    cases q : f n with
    | true => exact ⟨n, by omega, q⟩
    | false =>
      rw [cn, q] at h
      obtain ⟨j, hj, hf⟩ := cn_pos (n := n) h
      exact ⟨j, by omega, hf⟩
theorem cn_0 {f : Nat → Bool} {n : Nat} (h : cn f n = 0) : ∀ k, k < n → f k = false := fun k hk => by
  induction n with
  | zero => omega
  | succ n ih =>
    rw [cn] at h
    by_cases e : k = n
    · rw [e]; cases q : f n
      · rfl
      · rw [q] at h; simp at h
    · exact ih (by omega) (by omega)
theorem tb_set (s j k : Nat) : (s ||| 2 ^ j).testBit k = (s.testBit k || decide (j = k)) := by rw [Nat.testBit_or, Nat.testBit_two_pow]
def fe (s : Nat) : Nat → Bool := fun j => !s.testBit j
def rk (p s : Nat) : Nat := cn (fe s) p
theorem rk_set {p s j : Nat} (hj : j < p) (hf : fe s j = true) : rk p s = rk p (s ||| 2 ^ j) + 1 := by
  refine cn_flip hj hf ?_ (fun k hk => ?_)
  · unfold fe; rw [tb_set, decide_eq_true rfl, Bool.or_true]; rfl
  · unfold fe; rw [tb_set, decide_eq_false (fun e => hk e.symm), Bool.or_false]
theorem set_lt {p s j : Nat} (hs : s < 2 ^ p) (hj : j < p) : s ||| 2 ^ j < 2 ^ p := Nat.or_lt_two_pow hs (Nat.pow_lt_pow_right (by omega) hj)
theorem set_gt {s j : Nat} (hf : fe s j = true) : s < s ||| 2 ^ j := by
  have h : s ≤ s ||| 2 ^ j := Nat.left_le_or
  rcases Nat.lt_or_eq_of_le h with q | q
  · exact q
  · have e : s.testBit j = true := by rw [q, tb_set, decide_eq_true rfl, Bool.or_true]
    unfold fe at hf; rw [e] at hf; cases hf
theorem rk_0 {p s : Nat} (hs : s < 2 ^ p) : rk p s = 0 ↔ s = 2 ^ p - 1 := by
  constructor
  · intro h
    have := cn_0 h
    refine Nat.eq_of_testBit_eq fun i => ?_
    rw [Nat.testBit_two_pow_sub_one]
    by_cases q : i < p
    · have := this i q
      unfold fe at this
      rw [decide_eq_true q]; simpa using this
    · rw [decide_eq_false q]
      exact Nat.testBit_lt_two_pow (Nat.lt_of_lt_of_le hs (Nat.pow_le_pow_right (by omega) (by omega)))
  · intro h
    cases hr : rk p s with
    | zero => rfl
    | succ r =>
      obtain ⟨j, hj, hf⟩ := cn_pos (f := fe s) (n := p) (by show 0 < rk p s; omega)
      unfold fe at hf
      rw [h, Nat.testBit_two_pow_sub_one, decide_eq_true hj] at hf
      cases hf
def lr (g : Nat → Nat → Nat) (p : Nat) : Nat → Nat → Nat → Nat
  | 0, _, _ => 0
  | f + 1, s, l => mn (fun j => g l j + lr g p f (s ||| 2 ^ j) j) (fe s) 99999 p
def lv (g : Nat → Nat → Nat) (p s l : Nat) : Nat := lr g p (rk p s) s l
theorem lv_step {g : Nat → Nat → Nat} {p s l : Nat} (h : 0 < rk p s) : lv g p s l = mn (fun j => g l j + lv g p (s ||| 2 ^ j) j) (fe s) 99999 p := by
  have e : lv g p s l = lr g p (rk p s - 1 + 1) s l := by unfold lv; rw [show rk p s - 1 + 1 = rk p s by omega]
  rw [e, lr]
  refine mn_congr fun j hj hf => ?_
  unfold lv
  have := rk_set hj hf
  rw [show rk p s - 1 = rk p (s ||| 2 ^ j) by omega]
theorem lv_le {g : Nat → Nat → Nat} (hg : ∀ i j, g i j ≤ 99) {p : Nat} : ∀ (f s l : Nat), rk p s = f → lv g p s l ≤ 99 * f
  | 0, s, l, h => by unfold lv; rw [h]; exact Nat.le_refl _
  | f + 1, s, l, h => by
    rw [lv_step (by omega)]
    obtain ⟨j, hj, hf⟩ := cn_pos (f := fe s) (n := p) (by show 0 < rk p s; omega)
    have h1 := mn_le (F := fun j => g l j + lv g p (s ||| 2 ^ j) j) (a := 99999) hj hf
    have h2 := rk_set hj hf
    have h3 := lv_le (p := p) hg f (s ||| 2 ^ j) j (by omega)
    have h4 := hg l j
    omega
theorem rk_le (p s : Nat) : rk p s ≤ p := cn_le _ _
/-- what a step costs -/
def og (g : Nat → Nat → Nat) (o : Option Nat) (j : Nat) : Nat := match o with
  | none => 0
  | some l => g l j
def oF (g : Nat → Nat → Nat) (p s : Nat) (o : Option Nat) : Nat → Nat := fun j => og g o j + lv g p (s ||| 2 ^ j) j
theorem oF_le {g : Nat → Nat → Nat} (hg : ∀ i j, g i j ≤ 99) {p s : Nat} (hp : p ≤ 9) (o : Option Nat) (j : Nat) : oF g p s o j ≤ 990 := by
  have := lv_le hg (rk p (s ||| 2 ^ j)) (s ||| 2 ^ j) j rfl
  have := rk_le p (s ||| 2 ^ j)
  have : og g o j ≤ 99 := by cases o; exact Nat.zero_le _; exact hg _ j
  unfold oF; omega
/-- the walk -/
def wkO (g : Nat → Nat → Nat) (p : Nat) : Nat → Nat × Option Nat
  | 0 => (0, none)
  | k + 1 => match ab (oF g p (wkO g p k).1 (wkO g p k).2) (fe (wkO g p k).1) p with
    | none => wkO g p k
    | some b => ((wkO g p k).1 ||| 2 ^ b, some b)
theorem wkO_ok {g : Nat → Nat → Nat} {p : Nat} : ∀ {k : Nat}, k ≤ p → (wkO g p k).1 < 2 ^ p ∧ rk p (wkO g p k).1 + k = p ∧ (∀ l, (wkO g p k).2 = some l → l < p) ∧ (0 < k → ∃ l, (wkO g p k).2 = some l)
  | 0, _ => ⟨Nat.two_pow_pos p, by
      show rk p 0 + 0 = p
      have : ∀ n, cn (fe 0) n = n := fun n => by
        induction n with
        | zero => rfl
        | succ n ih => rw [cn, ih]; simp [fe]
      exact this p, (fun l h => by cases h), fun h => absurd h (by omega)⟩
  | k + 1, hk => by
    obtain ⟨h1, h2, h3, h4⟩ := wkO_ok (g := g) (p := p) (k := k) (by omega)
    rw [wkO]
    cases q : ab (oF g p (wkO g p k).1 (wkO g p k).2) (fe (wkO g p k).1) p with
    | none =>
      obtain ⟨j, hj, hf⟩ := cn_pos (f := fe (wkO g p k).1) (n := p) (by show 0 < rk p _; omega)
      rw [ab_none q j hj] at hf; cases hf
    | some b =>
      obtain ⟨g1, g2, -, -⟩ := ab_some q
      have := rk_set g1 g2
      exact ⟨set_lt h1 g1, by dsimp only; omega, fun l hl => by cases hl; exact g1, fun _ => ⟨b, rfl⟩⟩
theorem pw_nI : ∀ k, k < 31 → nI 1 <<< (nI k &&& 31) = nI (2 ^ k) := by decide +kernel
theorem set_nI (s : Nat) {k : Nat} (h : k < 31) : nI s ||| (nI 1 <<< (nI k &&& 31)) = nI (s ||| 2 ^ k) := by rw [pw_nI k h, fa_or]
theorem bit_nI (s : Nat) {k : Nat} (h : k < 32) : (nI s >>> (nI k &&& 31)) &&& nI 1 = bz (s.testBit k) := by rw [b_bit _ h, b_nI s h]
theorem p512 {p s : Nat} (hp : p ≤ 9) (hs : s < 2 ^ p) : s < 512 := Nat.lt_of_lt_of_le hs (Nat.pow_le_pow_right (by omega) hp)
section Ops
variable {A : St}
def gO (A : St) (i j : Nat) : Nat := sp (sT A) (sW A) (wl (sW A) i) (wl (sW A) j)
theorem gO_le (A : St) : ∀ i j, gO A i j ≤ 99 := fun _ _ => sp_le _ _ _ _
/-- the table's rows of this set's successors stand -/
def cR (A : St) (c s : Nat) (I : Nat → Nat → Int32) : Prop := ∀ j, j < wp (sW A) → fe s j = true → I c ((s ||| 2 ^ j) * 9 + j) = nI (lv (gO A) (wp (sW A)) (s ||| 2 ^ j) j)
def oOK (A : St) (o : Option Nat) : Prop := ∀ l, o = some l → l < wp (sW A)
section Spec
variable {d L : Nat} {fz t : Bool} {Q : pm_R → pm_H → Prop} {I I0 : Nat → Nat → Int32} {J : Nat → Nat → Int64}
theorem cw_stepTo {s j : Nat} {o : Option Nat} (ho : ok A) (h : cw A t J I0 I) (hP : cP (sT A) (sW A) I) (h9 : wp (sW A) ≤ 9) (hs : s < 2 ^ wp (sW A)) (hR : cR A 15 s I) (oo : oOK A o) (hj : j < wp (sW A)) (hf : fe s j = true) (hq : Q (.inl (some (.int (nI (oF (gO A) (wp (sW A)) s o j))))) (pm_hp L fz t I J)) : pm_Ev (d + 2) 67 [.ref 12, .ref 23, .int (nI s), .int (oI o), .int (nI j)] (pm_hp L fz t I J) Q := by
  have h5 := p512 h9 (set_lt hs hj)
  have last : ∀ r : Nat, r = og (gO A) o j → t_X6_stepTo_17 (d + 1) L fz t Q (nI s) (nI j) (nI r) I J := fun r hr => by
    refine b_X6_stepTo_17 ?_
    rw [set_nI s (by omega), pk_mul, nI_add, nI_clamp (by omega), hR j hj hf, nI_add, hr]
    exact ⟨vp_in_nI (by omega) (by omega), hq⟩
  cases o with
  | none => exact e_X6_stepTo (Or.inl rfl) (q_f' rfl (last 0 rfl))
  | some l =>
    have hl := oo l rfl
    exact e_X6_stepTo (Or.inl rfl) (q_t' (nI_ne_m1 (by omega)) (S_pairAt (Or.inl rfl) h.1.2.1 ho.1 ho.2.1 hP hl hj (last _ rfl)))
theorem cw_leastBehind {s : Nat} {o : Option Nat} (ho : ok A) (h : cw A t J I0 I) (hP : cP (sT A) (sW A) I) (h9 : wp (sW A) ≤ 9) (hs : s < 2 ^ wp (sW A)) (hR : cR A 15 s I) (oo : oOK A o) (hq : Q (.inl (some (.int (nI (mn (oF (gO A) (wp (sW A)) s o) (fe s) 1000000 (wp (sW A))))))) (pm_hp L fz t I J)) : pm_Ev (d + 3) 66 [.ref 12, .ref 23, .int (nI s), .int (oI o)] (pm_hp L fz t I J) Q := by
  have loop : ∀ (j i : Nat), i + j = wp (sW A) → t_X6_leastBehind_7 (d + 2) L fz t Q 23 (nI s) (oI o) (nI (mn (oF (gO A) (wp (sW A)) s o) (fe s) 1000000 i)) (nI i) I J := by
    intro j
    induction j with
    | zero =>
      intro i hi
      obtain rfl : i = wp (sW A) := by omega
      refine b_X6_leastBehind_7 (Or.inl rfl) ?_
      rw [h.1.2.1.1]
      exact q_t (nI_le (by omega) (by omega)) hq
    | succ j ih =>
      intro i hi
      have nx := ih (i + 1) (by omega)
      have l1 := mn_le_a (F := oF (gO A) (wp (sW A)) s o) (f := fe s) (a := 1000000) (n := i)
      have l2 := oF_le (gO_le A) (s := s) h9 o i
      rw [mn] at nx
      refine b_X6_leastBehind_7 (Or.inl rfl) ?_
      rw [h.1.2.1.1, bit_nI s (by omega), nI_add]
      refine q_f (nI_ge (by omega) (by omega)) (q_b0' (fun q => ?_) (fun q => ?_))
      · rw [if_neg (by unfold fe; rw [q]; decide)] at nx; exact nx
      · have hf : fe s i = true := by unfold fe; rw [q]; rfl
        refine cw_stepTo ho h hP h9 hs hR oo (by omega) hf (kb_X6_leastBehind_36 (Or.inl rfl) ?_)
        rw [min_c (by omega) (by omega), nI_add]
        rw [if_pos hf] at nx; exact nx
  exact e_X6_leastBehind (Or.inl rfl) (loop (wp (sW A)) 0 (by omega))
/-- from some set on the table stands -/
def cRs (A : St) (c s : Nat) (al : Bool) (I : Nat → Nat → Int32) : Prop := ∀ s' l, s ≤ s' → s' < 2 ^ wp (sW A) → l < wp (sW A) → (al = true ∨ s'.testBit l = true) → I c (s' * 9 + l) = nI (lv (gO A) (wp (sW A)) s' l)
theorem cR_of {c s : Nat} {b : Bool} (h : cRs A c (s + 1) b I) (hs : s < 2 ^ wp (sW A)) : cR A c s I := fun j hj hf => h (s ||| 2 ^ j) j (set_gt hf) (set_lt hs hj) hj (Or.inr (by rw [tb_set, decide_eq_true rfl, Bool.or_true]))
theorem cw_walkTo {i : Nat} (ho : ok A) (h : cw A t J I0 I) (hP : cP (sT A) (sW A) I) (h9 : wp (sW A) ≤ 9) (hR : cRs A 15 1 false I) (hi : i < wp (sW A)) (hq : Q (.inl (some (.int (oI (wkO (gO A) (wp (sW A)) (i + 1)).2)))) (pm_hp L fz t I J)) : pm_Ev (d + 3) 68 [.ref 12, .ref 23, .int (nI i)] (pm_hp L fz t I J) Q := by
  have loop : ∀ (j k : Nat), k + j = i + 1 → t_X6_walkTo_8 (d + 2) L fz t Q 23 (nI i) (nI (wkO (gO A) (wp (sW A)) k).1) (oI (wkO (gO A) (wp (sW A)) k).2) (nI k) I J := by
    intro j
    induction j with
    | zero =>
      intro k hk
      obtain rfl : k = i + 1 := by omega
      exact b_X6_walkTo_8 (Or.inl rfl) (q_t (nI_lt (by omega) (by omega)) hq)
    | succ j ih =>
      intro k hk
      obtain ⟨w1, w2, w3, w4⟩ := wkO_ok (g := gO A) (p := wp (sW A)) (k := k) (by omega)
      have nx := ih (k + 1) (by omega)
      rw [wkO] at nx
      refine b_X6_walkTo_8 (Or.inl rfl) (q_f (nI_nlt (by omega) (by omega)) ?_)
      rw [h.1.2.1.1]
      refine q_f (nI_ge (by omega) (by omega)) ?_
      generalize (wkO (gO A) (wp (sW A)) k).1 = s at *
      generalize (wkO (gO A) (wp (sW A)) k).2 = o at *
      have hR' : cR A 15 s I := fun j hj hf => hR (s ||| 2 ^ j) j (by have := set_gt hf; omega) (set_lt w1 hj) hj (Or.inr (by rw [tb_set, decide_eq_true rfl, Bool.or_true]))
      have h5 := p512 h9 w1
      have inner : ∀ (j' x : Nat), x + j' = wp (sW A) → t_X6_walkTo_29 (d + 2) L fz t Q 23 (nI i) (nI s) (oI o) (nI k) (oI (ab (oF (gO A) (wp (sW A)) s o) (fe s) x)) (nI x) I J := by
        intro j'
        induction j' with
        | zero =>
          intro x hx
          obtain rfl : x = wp (sW A) := by omega
          refine b_X6_walkTo_29 (Or.inl rfl) ?_
          rw [h.1.2.1.1]
          refine q_t (nI_le (by omega) (by omega)) ?_
          cases q : ab (oF (gO A) (wp (sW A)) s o) (fe s) (wp (sW A)) with
          | none =>
            exfalso
            obtain ⟨j, hj, hf⟩ := cn_pos (f := fe s) (n := wp (sW A)) (by show 0 < rk _ _; omega)
            rw [ab_none q j hj] at hf; cases hf
          | some b =>
            have hb := (ab_some q).1
            rw [q] at nx
            refine q_t' (nI_ne_m1 (by omega)) ?_
            show t_X6_walkTo_8 _ _ _ _ _ _ _ (nI s ||| (nI 1 <<< (nI b &&& 31))) (nI b) (nI k + nI 1) _ _
            rw [set_nI s (by omega), nI_add]; exact nx
        | succ j' ih' =>
          intro x hx
          have nx2 := ih' (x + 1) (by omega)
          rw [ab] at nx2
          refine b_X6_walkTo_29 (Or.inl rfl) ?_
          rw [h.1.2.1.1, bit_nI s (by omega), nI_add, nI_add]
          refine q_f (nI_ge (by omega) (by omega)) (q_b0' (fun q => ?_) (fun q => ?_))
          · rw [if_neg (by unfold fe; rw [q]; decide)] at nx2; exact nx2
          · have hf : fe s x = true := by unfold fe; rw [q]; rfl
            rw [if_pos hf] at nx2
            cases z : ab (oF (gO A) (wp (sW A)) s o) (fe s) x with
            | none =>
              rw [z] at nx2
              exact q_t rfl nx2
            | some b =>
              obtain ⟨b1, b2, -, -⟩ := ab_some z
              rw [z] at nx2
              dsimp only at nx2
              have l1 := oF_le (gO_le A) (s := s) h9 o x
              have l2 := oF_le (gO_le A) (s := s) h9 o b
              refine q_f (nI_ne_m1 (by omega)) (cw_stepTo ho h hP h9 w1 hR' w3 (by omega) hf (kb_X6_walkTo_75 (Or.inl rfl) (cw_stepTo ho h hP h9 w1 hR' w3 (by omega) b2 (kb_X6_walkTo_85 (Or.inl rfl) ?_))))
              rw [nI_add]
              refine q_le (by omega) (by omega) (fun y => ?_) (fun y => ?_)
              · rw [if_pos y] at nx2; exact nx2
              · rw [if_neg (by omega)] at nx2; exact nx2
      exact inner (wp (sW A)) 0 (by omega)
  exact e_X6_walkTo (Or.inl rfl) (loop (i + 1) 0 (by omega))
end Spec
end Ops
