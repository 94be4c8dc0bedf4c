/-! the lines of a chapel's text -/
abbrev Dr := Option Nat × List (Nat × Nat × Nat) × List Nat × List (Nat × Nat × List Nat) × List Nat × List Nat
def dT (D : Dr) : Option Nat := D.1
def dC (D : Dr) : List (Nat × Nat × Nat) := D.2.1
def dL (D : Dr) : List Nat := D.2.2.1
def dG (D : Dr) : List (Nat × Nat × List Nat) := D.2.2.2.1
def dU (D : Dr) : List Nat := D.2.2.2.2.1
def dH (D : Dr) : List Nat := D.2.2.2.2.2
/-- what a line comes to: the next place and the draft, or a fault and its place -/
abbrev Lr := (Dr × Nat) ⊕ (Nat × Nat)
/-- numbers of a lace, or rows of a figure, one behind the other -/
def laced (K : Nat → Tk) (nx : Nat → Nat) (many : Nat) : Nat → List Nat → Nat → (List Nat × Nat) ⊕ (Nat × Nat)
  | 0, l, p => .inl (l, p)
  | f + 1, l, p => if (K p).1 = 2 ∨ (K p).1 = 5 then (if (K p).1 = 5 ∨ 12 ≤ l.length then .inr (2, p) else if many ≤ (K p).2 then .inr (3, p) else laced K nx many f (l ++ [(K p).2]) (nx p)) else if l = [] then .inr (1, p) else .inl (l, p)
/-- a number from lo to hi -/
def num1 (K : Nat → Tk) (lo hi p : Nat) : Nat ⊕ (Nat × Nat) := if (K p).1 = 2 then (if lo ≤ (K p).2 ∧ (K p).2 ≤ hi then .inl (K p).2 else .inr (2, p)) else if (K p).1 = 5 then .inr (2, p) else .inr (1, p)
theorem num1_ok {K : Nat → Tk} {lo hi p v : Nat} (h : K p = kN v) (h1 : lo ≤ v) (h2 : v ≤ hi) : num1 K lo hi p = .inl v := by
  unfold num1
  rw [h]
  exact (if_pos rfl).trans (if_pos ⟨h1, h2⟩)
theorem num1_bad {K : Nat → Tk} {lo hi p y : Nat} (h : nbad lo hi (K p) y) : num1 K lo hi p = .inr (y, p) := by
  unfold num1
  rcases h with ⟨h1, h2, rfl⟩ | ⟨h1, rfl⟩ | ⟨v, h1, h2, rfl⟩
  · rw [if_neg h1, if_neg h2]
  · rw [h1]; rfl
  · rw [h1]; exact (if_pos rfl).trans (if_neg h2)
