/-! bytes and tokens -/
def bL (c : Nat) : Bool := decide (97 ≤ c ∧ c ≤ 122)
def bD (c : Nat) : Bool := decide (48 ≤ c ∧ c ≤ 57)
def bW (c : Nat) : Bool := decide (c = 32 ∨ c = 10)
def scn (P : Nat → Bool) (g : Nat → Nat) : Nat → Nat → Nat
  | 0, i => i
  | f + 1, i => if P (g i) then scn P g f (i + 1) else i
def sc (P : Nat → Bool) (g : Nat → Nat) (N i : Nat) : Nat := scn P g (N - i) i
theorem scn_p (P : Nat → Bool) (g : Nat → Nat) : ∀ f i, i ≤ scn P g f i ∧ scn P g f i ≤ i + f ∧ (∀ j, i ≤ j → j < scn P g f i → P (g j) = true) ∧ (scn P g f i < i + f → P (g (scn P g f i)) = false)
  | 0, i => ⟨Nat.le_refl _, Nat.le_refl _, fun j h1 h2 => absurd h2 (by unfold scn; omega), fun h => absurd h (by unfold scn; omega)⟩
  | f + 1, i => by
    unfold scn
    cases e : P (g i) with
    | true =>
      rw [if_pos rfl]
      obtain ⟨h1, h2, h3, h4⟩ := scn_p P g f (i + 1)
      refine ⟨by omega, by omega, fun j g1 g2 => ?_, fun q => h4 (by omega)⟩
      by_cases ej : j = i
      · rw [ej]; exact e
      · exact h3 j (by omega) g2
    | false =>
      rw [if_neg (by simp)]
      exact ⟨Nat.le_refl _, by omega, fun j h1 h2 => absurd h2 (by omega), fun _ => e⟩
section
variable {P : Nat → Bool} {g : Nat → Nat} {N i : Nat}
theorem sc_ge (h : N ≤ i) : sc P g N i = i := by unfold sc; rw [show N - i = 0 by omega]; rfl
theorem sc_t (h : i < N) (hp : P (g i) = true) : sc P g N i = sc P g N (i + 1) := by
  unfold sc; rw [show N - i = (N - (i + 1)) + 1 by omega]; exact if_pos hp
theorem sc_f (hp : P (g i) = false) : sc P g N i = i := by
  unfold sc
  cases N - i with
  | zero => rfl
  | succ f => exact if_neg (by rw [hp]; simp)
theorem sc_le : i ≤ sc P g N i := (scn_p P g _ _).1
theorem sc_N (h : i ≤ N) : sc P g N i ≤ N := by have := (scn_p P g (N - i) i).2.1; unfold sc; omega
theorem sc_in {j : Nat} (h1 : i ≤ j) (h2 : j < sc P g N i) : P (g j) = true := (scn_p P g _ _).2.2.1 j h1 h2
theorem sc_out (h : i ≤ N) (h2 : sc P g N i < N) : P (g (sc P g N i)) = false := (scn_p P g (N - i) i).2.2.2 (by unfold sc at h2; omega)
end
def wds : List (List Nat) := [[104, 111, 108, 101], [98, 101, 115, 105, 100, 101], [97, 104, 101, 97, 100], [112, 105, 99, 107], [116, 104, 114, 101, 97, 100], [119, 101, 97, 114], [104, 111, 108, 101, 115], [97, 108, 105, 107, 101], [102, 105, 114, 115, 116], [115, 101, 99, 111, 110, 100], [116, 104, 114, 101, 97, 100, 115], [99, 97, 114, 100], [108, 97, 99, 101], [102, 105, 103, 117, 114, 101], [117, 112], [104, 97, 114, 109], [97, 110, 100], [111, 114], [110, 111, 116]]
def wrd (g : Nat → Nat) (s n : Nat) : List Nat := (List.range n).map (fun i => g (s + i))
def dv (g : Nat → Nat) (s : Nat) : Nat → Nat
  | 0 => 0
  | k + 1 => dv g s k * 10 + (g (s + k) - 48)
def tst (g : Nat → Nat) (N p : Nat) : Nat := sc bW g N p
def tnx (g : Nat → Nat) (N p : Nat) : Nat := if N ≤ tst g N p then tst g N p else if bL (g (tst g N p)) then sc bL g N (tst g N p) else if bD (g (tst g N p)) then sc bD g N (tst g N p) else tst g N p + 1
def tK (g : Nat → Nat) (N p : Nat) : Tk := if N ≤ tst g N p then kE else if bL (g (tst g N p)) then kW (wds.idxOf (wrd g (tst g N p) (tnx g N p - tst g N p))) else if bD (g (tst g N p)) then (if tnx g N p - tst g N p ≤ 4 then kN (dv g (tst g N p) (tnx g N p - tst g N p)) else kB) else kS (g (tst g N p))
section
variable {g : Nat → Nat} {N p : Nat}
theorem tst_N (h : p ≤ N) : tst g N p ≤ N := sc_N h
theorem tst_le : p ≤ tst g N p := sc_le
theorem tk_cases (h : p ≤ N) : (tst g N p = N ∧ tK g N p = kE ∧ tnx g N p = N) ∨
    (tst g N p < N ∧ bL (g (tst g N p)) = true ∧ bD (g (tst g N p)) = false ∧ tnx g N p = sc bL g N (tst g N p) ∧ tK g N p = kW (wds.idxOf (wrd g (tst g N p) (tnx g N p - tst g N p)))) ∨
    (tst g N p < N ∧ bL (g (tst g N p)) = false ∧ bD (g (tst g N p)) = true ∧ tnx g N p = sc bD g N (tst g N p) ∧ tK g N p = (if tnx g N p - tst g N p ≤ 4 then kN (dv g (tst g N p) (tnx g N p - tst g N p)) else kB)) ∨
    (tst g N p < N ∧ bL (g (tst g N p)) = false ∧ bD (g (tst g N p)) = false ∧ tnx g N p = tst g N p + 1 ∧ tK g N p = kS (g (tst g N p))) := by
  have hs := tst_N (g := g) h
  by_cases h1 : N ≤ tst g N p
  · exact Or.inl ⟨by omega, if_pos h1, (if_pos h1).trans (by omega)⟩
  · cases h2 : bL (g (tst g N p)) with
    | true =>
      refine Or.inr (Or.inl ⟨by omega, rfl, ?_, (if_neg h1).trans (if_pos h2), (if_neg h1).trans (if_pos h2)⟩)
      unfold bL at h2; unfold bD; simp at h2 ⊢; omega
    | false =>
      cases h3 : bD (g (tst g N p)) with
      | true => exact Or.inr (Or.inr (Or.inl ⟨by omega, rfl, rfl, (if_neg h1).trans ((if_neg (by rw [h2]; simp)).trans (if_pos h3)), (if_neg h1).trans ((if_neg (by rw [h2]; simp)).trans (if_pos h3))⟩))
      | false => exact Or.inr (Or.inr (Or.inr ⟨by omega, rfl, rfl, (if_neg h1).trans ((if_neg (by rw [h2]; simp)).trans (if_neg (by rw [h3]; simp))), (if_neg h1).trans ((if_neg (by rw [h2]; simp)).trans (if_neg (by rw [h3]; simp)))⟩))
theorem tnx_N (h : p ≤ N) : tnx g N p ≤ N := by
  have hs := tst_N (g := g) h
  rcases tk_cases (g := g) h with ⟨_, _, e⟩ | ⟨_, _, _, e, _⟩ | ⟨_, _, _, e, _⟩ | ⟨_, _, _, e, _⟩ <;> rw [e]
  · exact Nat.le_refl _
  · exact sc_N hs
  · exact sc_N hs
  · omega
theorem tnx_lt (h : p ≤ N) (hk : tK g N p ≠ kE) : tst g N p < tnx g N p := by
  rcases tk_cases (g := g) h with ⟨_, e, _⟩ | ⟨h1, h2, _, e, _⟩ | ⟨h1, _, h2, e, _⟩ | ⟨_, _, _, e, _⟩
  · exact absurd e hk
  · rw [e, sc_t h1 h2]; exact sc_le
  · rw [e, sc_t h1 h2]; exact sc_le
  · omega
theorem dv_lt (s : Nat) : ∀ k, (∀ i, i < k → bD (g (s + i)) = true) → dv g s k < 10 ^ k
  | 0, _ => by unfold dv; omega
  | k + 1, h => by
    have h1 := dv_lt s k (fun i hi => h i (by omega))
    have h2 := h k (by omega)
    unfold bD at h2; simp at h2
    unfold dv
    rw [Nat.pow_succ]
    omega
theorem tk_num {v : Nat} (h : p ≤ N) (hk : tK g N p = kN v) : v < 10000 := by
  rcases tk_cases (g := g) h with ⟨_, e, _⟩ | ⟨h1, h2, _, e, e'⟩ | ⟨h1, _, h2, e, e'⟩ | ⟨_, _, _, e, e'⟩
  · rw [e] at hk; cases hk
  · rw [e'] at hk; cases hk
  · rw [e'] at hk
    split at hk
    · rename_i h4
      cases hk
      refine Nat.lt_of_lt_of_le (dv_lt _ _ (fun i hi => sc_in (N := N) (i := tst g N p) (by omega) (by omega))) ?_
      exact Nat.pow_le_pow_right (by omega) h4
    · cases hk
  · rw [e'] at hk; cases hk
end
/-! the class's bytes -/
theorem sby_lo : ∀ x, x < 128 → sby x = nI x := by decide +kernel
theorem sby_hi : ∀ x, x < 256 → 128 ≤ x → sby x < nI 0 := by decide +kernel
theorem sby_eq {x c : Nat} (hx : x < 256) (hc : c < 128) : sby x = nI c ↔ x = c := by
  by_cases h : x < 128
  · rw [sby_lo x h]; exact nI_eq (by omega) (by omega)
  · constructor
    · intro q
      have := sby_hi x hx (by omega)
      rw [q, nI_ltI (by omega) (by omega)] at this
      omega
    · intro q; omega
theorem sby_lt {x c : Nat} (hx : x < 256) (hc : c < 128) : sby x < nI c ↔ x < c ∨ 128 ≤ x := by
  by_cases h : x < 128
  · rw [sby_lo x h, nI_ltI (by omega) (by omega)]; omega
  · exact ⟨fun _ => Or.inr (by omega), fun _ => fa_trans (sby_hi x hx (by omega)) ((nI_leI (by omega) (by omega)).mpr (by omega))⟩
theorem sby_gt {x c : Nat} (hx : x < 256) (hc : c < 128) : nI c < sby x ↔ c < x ∧ x < 128 := by
  by_cases h : x < 128
  · rw [sby_lo x h, nI_ltI (by omega) (by omega)]; omega
  · constructor
    · intro q
      exact absurd (fa_trans q (fa_of_lt (sby_hi x hx (by omega))).1) (by rw [nI_ltI (by omega) (by omega)]; omega)
    · intro q; omega
theorem nI_subn {a b : Nat} (h : b ≤ a) : nI a - nI b = nI (a - b) := by
  have e : nI a = nI (a - b) + nI b := by rw [nI_add]; congr 1; omega
  rw [e]
  exact Int32.add_sub_cancel _ _
theorem nI_mul (a b : Nat) : nI a * nI b = nI (a * b) := (Int32.ofNat_mul a b).symm
