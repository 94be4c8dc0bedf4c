/-! two readers of formulas over tokens: by descent (Dv, the class) and with a stack of waiting acts (Ys, the reference); what descent finds, the stack finds -/
abbrev Tk := Nat × Nat
def kN (v : Nat) : Tk := (2, v)
def kB : Tk := (5, 0)
def kW (k : Nat) : Tk := (1, k)
def kS (c : Nat) : Tk := (3, c)
def kE : Tk := (0, 0)
abbrev Rs := (List Nat × Nat) ⊕ (Nat × Nat)
abbrev rok (e : List Nat) (p : Nat) : Rs := .inl (e, p)
abbrev rbad (y q : Nat) : Rs := .inr (y, q)
def dk (k : Tk) : Nat := if k.1 = 2 ∨ k.1 = 5 ∨ k.1 = 1 ∨ k = kS 40 then 2 else 1
def opOf (m : Nat) (k : Tk) : Option Nat := if m = 1 then (if k = kS 42 then some 7 else if k = kS 47 then some 8 else none) else if m = 2 then (if k = kS 43 then some 5 else if k = kS 45 then some 6 else none) else if m = 5 then (if k = kW 16 then some 2 else none) else (if k = kW 17 then some 1 else none)
def cmp (k : Tk) : Option Nat := if k = kS 60 then some 3 else if k = kS 61 then some 4 else none
def isCh (m : Nat) : Prop := m = 1 ∨ m = 2 ∨ m = 5 ∨ m = 6
def it (nx : Nat → Nat) : Nat → Nat → Nat
  | 0, p => p
  | k + 1, p => it nx k (nx p)
/-- reading by descent: the way m (0 part, 1 product, 2 sum, 3 test, 4 not, 5 and, 6 or), within w; with a: on, a read already -/
def DvC (K : Nat → Tk) (nx : Nat → Nat) (lo n0 : Nat) (P : Nat → Nat → Option (List Nat) → Nat → Rs → Prop) : Prop :=
  (∀ w p v, K p = kN v → P 0 w none p (rok [32 + v] (nx p))) ∧
  (∀ w p, K p = kB → P 0 w none p (rbad 2 p)) ∧
  (∀ w p j, K p = kW j → lo ≤ j → j < lo + n0 → P 0 w none p (rok [16 + (j - lo)] (nx p))) ∧
  (∀ w p j, K p = kW j → ¬ (lo ≤ j ∧ j < lo + n0) → P 0 w none p (rbad 3 p)) ∧
  (∀ w p e p', K p = kS 40 → w < 6 → P 6 (w + 1) none (nx p) (rok e p') → K p' = kS 41 → P 0 w none p (rok e (nx p'))) ∧
  (∀ w p e p', K p = kS 40 → w < 6 → P 6 (w + 1) none (nx p) (rok e p') → K p' ≠ kS 41 → P 0 w none p (rbad 1 p')) ∧
  (∀ w p y q, K p = kS 40 → w < 6 → P 6 (w + 1) none (nx p) (rbad y q) → P 0 w none p (rbad y q)) ∧
  (∀ w p, K p = kE ∨ (∃ c, K p = kS c ∧ c ≠ 40) → P 0 w none p (rbad 1 p)) ∧
  (∀ p, P 6 6 none p (rbad (dk (K p)) p)) ∧
  (∀ m w p e p' r, isCh m → w < 6 → P (m - 1) w none p (rok e p') → P m w (some e) p' r → P m w none p r) ∧
  (∀ m w p y q, isCh m → w < 6 → P (m - 1) w none p (rbad y q) → P m w none p (rbad y q)) ∧
  (∀ m w p e, isCh m → opOf m (K p) = none → P m w (some e) p (rok e p)) ∧
  (∀ m w p e c e' p' r, isCh m → opOf m (K p) = some c → w < 6 → P (m - 1) w none (nx p) (rok e' p') → P m w (some (e ++ e' ++ [c])) p' r → P m w (some e) p r) ∧
  (∀ m w p e c y q, isCh m → opOf m (K p) = some c → w < 6 → P (m - 1) w none (nx p) (rbad y q) → P m w (some e) p (rbad y q)) ∧
  (∀ w p e p', P 2 w none p (rok e p') → cmp (K p') = none → P 3 w none p (rok e p')) ∧
  (∀ w p e p' c e' q, P 2 w none p (rok e p') → cmp (K p') = some c → P 2 w none (nx p') (rok e' q) → P 3 w none p (rok (e ++ e' ++ [c]) q)) ∧
  (∀ w p e p' c y q, P 2 w none p (rok e p') → cmp (K p') = some c → P 2 w none (nx p') (rbad y q) → P 3 w none p (rbad y q)) ∧
  (∀ w p y q, P 2 w none p (rbad y q) → P 3 w none p (rbad y q)) ∧
  (∀ w p k e q, (∀ i, i < k → K (it nx i p) = kW 18) → k ≤ 6 → K (it nx k p) ≠ kW 18 → P 3 w none (it nx k p) (rok e q) → P 4 w none p (rok (e ++ List.replicate k 0) q)) ∧
  (∀ w p k y q, (∀ i, i < k → K (it nx i p) = kW 18) → k ≤ 6 → K (it nx k p) ≠ kW 18 → P 3 w none (it nx k p) (rbad y q) → P 4 w none p (rbad y q)) ∧
  (∀ w p, (∀ i, i < 7 → K (it nx i p) = kW 18) → P 4 w none p (rbad 2 (it nx 6 p)))
def Dv (K : Nat → Tk) (nx : Nat → Nat) (lo n0 : Nat) (x0 : Nat) (x1 : Nat) (x2 : Option (List Nat)) (x3 : Nat) (x4 : Rs) : Prop := ∀ P, DvC K nx lo n0 P → P x0 x1 x2 x3 x4
theorem Dv_num {K : Nat → Tk} {nx : Nat → Nat} {lo n0 : Nat} {w p v} (h0 : K p = kN v) : Dv K nx lo n0 0 w none p (rok [32 + v] (nx p)) := fun P hP => hP.1 _ _ _ h0
theorem Dv_big {K : Nat → Tk} {nx : Nat → Nat} {lo n0 : Nat} {w p} (h0 : K p = kB) : Dv K nx lo n0 0 w none p (rbad 2 p) := fun P hP => hP.2.1 _ _ h0
theorem Dv_val {K : Nat → Tk} {nx : Nat → Nat} {lo n0 : Nat} {w p j} (h0 : K p = kW j) (h1 : lo ≤ j) (h2 : j < lo + n0) : Dv K nx lo n0 0 w none p (rok [16 + (j - lo)] (nx p)) := fun P hP => hP.2.2.1 _ _ _ h0 h1 h2
theorem Dv_unk {K : Nat → Tk} {nx : Nat → Nat} {lo n0 : Nat} {w p j} (h0 : K p = kW j) (h1 : ¬ (lo ≤ j ∧ j < lo + n0)) : Dv K nx lo n0 0 w none p (rbad 3 p) := fun P hP => hP.2.2.2.1 _ _ _ h0 h1
theorem Dv_par {K : Nat → Tk} {nx : Nat → Nat} {lo n0 : Nat} {w p e p'} (h0 : K p = kS 40) (h1 : w < 6) (h2 : Dv K nx lo n0 6 (w + 1) none (nx p) (rok e p')) (h3 : K p' = kS 41) : Dv K nx lo n0 0 w none p (rok e (nx p')) := fun P hP => hP.2.2.2.2.1 _ _ _ _ h0 h1 (h2 P hP) h3
theorem Dv_parx {K : Nat → Tk} {nx : Nat → Nat} {lo n0 : Nat} {w p e p'} (h0 : K p = kS 40) (h1 : w < 6) (h2 : Dv K nx lo n0 6 (w + 1) none (nx p) (rok e p')) (h3 : K p' ≠ kS 41) : Dv K nx lo n0 0 w none p (rbad 1 p') := fun P hP => hP.2.2.2.2.2.1 _ _ _ _ h0 h1 (h2 P hP) h3
theorem Dv_parb {K : Nat → Tk} {nx : Nat → Nat} {lo n0 : Nat} {w p y q} (h0 : K p = kS 40) (h1 : w < 6) (h2 : Dv K nx lo n0 6 (w + 1) none (nx p) (rbad y q)) : Dv K nx lo n0 0 w none p (rbad y q) := fun P hP => hP.2.2.2.2.2.2.1 _ _ _ _ h0 h1 (h2 P hP)
theorem Dv_unf {K : Nat → Tk} {nx : Nat → Nat} {lo n0 : Nat} {w p} (h0 : K p = kE ∨ (∃ c, K p = kS c ∧ c ≠ 40)) : Dv K nx lo n0 0 w none p (rbad 1 p) := fun P hP => hP.2.2.2.2.2.2.2.1 _ _ h0
theorem Dv_deep {K : Nat → Tk} {nx : Nat → Nat} {lo n0 : Nat} {p} : Dv K nx lo n0 6 6 none p (rbad (dk (K p)) p) := fun P hP => hP.2.2.2.2.2.2.2.2.1 _ 
theorem Dv_st {K : Nat → Tk} {nx : Nat → Nat} {lo n0 : Nat} {m w p e p' r} (h0 : isCh m) (h1 : w < 6) (h2 : Dv K nx lo n0 (m - 1) w none p (rok e p')) (h3 : Dv K nx lo n0 m w (some e) p' r) : Dv K nx lo n0 m w none p r := fun P hP => hP.2.2.2.2.2.2.2.2.2.1 _ _ _ _ _ _ h0 h1 (h2 P hP) (h3 P hP)
theorem Dv_stb {K : Nat → Tk} {nx : Nat → Nat} {lo n0 : Nat} {m w p y q} (h0 : isCh m) (h1 : w < 6) (h2 : Dv K nx lo n0 (m - 1) w none p (rbad y q)) : Dv K nx lo n0 m w none p (rbad y q) := fun P hP => hP.2.2.2.2.2.2.2.2.2.2.1 _ _ _ _ _ h0 h1 (h2 P hP)
theorem Dv_fin {K : Nat → Tk} {nx : Nat → Nat} {lo n0 : Nat} {m w p e} (h0 : isCh m) (h1 : opOf m (K p) = none) : Dv K nx lo n0 m w (some e) p (rok e p) := fun P hP => hP.2.2.2.2.2.2.2.2.2.2.2.1 _ _ _ _ h0 h1
theorem Dv_op {K : Nat → Tk} {nx : Nat → Nat} {lo n0 : Nat} {m w p e c e' p' r} (h0 : isCh m) (h1 : opOf m (K p) = some c) (h2 : w < 6) (h3 : Dv K nx lo n0 (m - 1) w none (nx p) (rok e' p')) (h4 : Dv K nx lo n0 m w (some (e ++ e' ++ [c])) p' r) : Dv K nx lo n0 m w (some e) p r := fun P hP => hP.2.2.2.2.2.2.2.2.2.2.2.2.1 _ _ _ _ _ _ _ _ h0 h1 h2 (h3 P hP) (h4 P hP)
theorem Dv_opb {K : Nat → Tk} {nx : Nat → Nat} {lo n0 : Nat} {m w p e c y q} (h0 : isCh m) (h1 : opOf m (K p) = some c) (h2 : w < 6) (h3 : Dv K nx lo n0 (m - 1) w none (nx p) (rbad y q)) : Dv K nx lo n0 m w (some e) p (rbad y q) := fun P hP => hP.2.2.2.2.2.2.2.2.2.2.2.2.2.1 _ _ _ _ _ _ _ h0 h1 h2 (h3 P hP)
theorem Dv_t0 {K : Nat → Tk} {nx : Nat → Nat} {lo n0 : Nat} {w p e p'} (h0 : Dv K nx lo n0 2 w none p (rok e p')) (h1 : cmp (K p') = none) : Dv K nx lo n0 3 w none p (rok e p') := fun P hP => hP.2.2.2.2.2.2.2.2.2.2.2.2.2.2.1 _ _ _ _ (h0 P hP) h1
theorem Dv_t1 {K : Nat → Tk} {nx : Nat → Nat} {lo n0 : Nat} {w p e p' c e' q} (h0 : Dv K nx lo n0 2 w none p (rok e p')) (h1 : cmp (K p') = some c) (h2 : Dv K nx lo n0 2 w none (nx p') (rok e' q)) : Dv K nx lo n0 3 w none p (rok (e ++ e' ++ [c]) q) := fun P hP => hP.2.2.2.2.2.2.2.2.2.2.2.2.2.2.2.1 _ _ _ _ _ _ _ (h0 P hP) h1 (h2 P hP)
theorem Dv_t2 {K : Nat → Tk} {nx : Nat → Nat} {lo n0 : Nat} {w p e p' c y q} (h0 : Dv K nx lo n0 2 w none p (rok e p')) (h1 : cmp (K p') = some c) (h2 : Dv K nx lo n0 2 w none (nx p') (rbad y q)) : Dv K nx lo n0 3 w none p (rbad y q) := fun P hP => hP.2.2.2.2.2.2.2.2.2.2.2.2.2.2.2.2.1 _ _ _ _ _ _ _ (h0 P hP) h1 (h2 P hP)
theorem Dv_tb {K : Nat → Tk} {nx : Nat → Nat} {lo n0 : Nat} {w p y q} (h0 : Dv K nx lo n0 2 w none p (rbad y q)) : Dv K nx lo n0 3 w none p (rbad y q) := fun P hP => hP.2.2.2.2.2.2.2.2.2.2.2.2.2.2.2.2.2.1 _ _ _ _ (h0 P hP)
theorem Dv_no {K : Nat → Tk} {nx : Nat → Nat} {lo n0 : Nat} {w p k e q} (h0 : (∀ i, i < k → K (it nx i p) = kW 18)) (h1 : k ≤ 6) (h2 : K (it nx k p) ≠ kW 18) (h3 : Dv K nx lo n0 3 w none (it nx k p) (rok e q)) : Dv K nx lo n0 4 w none p (rok (e ++ List.replicate k 0) q) := fun P hP => hP.2.2.2.2.2.2.2.2.2.2.2.2.2.2.2.2.2.2.1 _ _ _ _ _ h0 h1 h2 (h3 P hP)
theorem Dv_nob {K : Nat → Tk} {nx : Nat → Nat} {lo n0 : Nat} {w p k y q} (h0 : (∀ i, i < k → K (it nx i p) = kW 18)) (h1 : k ≤ 6) (h2 : K (it nx k p) ≠ kW 18) (h3 : Dv K nx lo n0 3 w none (it nx k p) (rbad y q)) : Dv K nx lo n0 4 w none p (rbad y q) := fun P hP => hP.2.2.2.2.2.2.2.2.2.2.2.2.2.2.2.2.2.2.2.1 _ _ _ _ _ h0 h1 h2 (h3 P hP)
theorem Dv_nom {K : Nat → Tk} {nx : Nat → Nat} {lo n0 : Nat} {w p} (h0 : (∀ i, i < 7 → K (it nx i p) = kW 18)) : Dv K nx lo n0 4 w none p (rbad 2 (it nx 6 p)) := fun P hP => hP.2.2.2.2.2.2.2.2.2.2.2.2.2.2.2.2.2.2.2.2 _ _ h0
def stg (a : Nat) : Nat := if a = 5 then 1 else if a = 4 then 2 else if a = 3 then 3 else if a = 6 ∨ a = 7 then 4 else if a = 8 ∨ a = 9 then 5 else 6
def low (l : Nat) (W : List Nat) : Prop := ∀ a, W.head? = some a → 14 ≤ a ∨ stg a < l
/-- reading with waiting acts: at an operand (whether 'not' may stand, how many stood), or behind one (none) -/
def YsC (K : Nat → Tk) (nx : Nat → Nat) (lo n0 : Nat) (P : Option (Bool × Nat) → Nat → List Nat → List Nat → List Bool → Rs → Prop) : Prop :=
  (∀ k p W C D o, K p = kW 18 → k < 6 → P (some (true, k + 1)) (nx p) (3 :: W) C D o → P (some (true, k)) p W C D o) ∧
  (∀ p W C D, K p = kW 18 → P (some (true, 6)) p W C D (rbad 2 p)) ∧
  (∀ b k p W C D o, K p = kS 40 → D.length < 6 → P (some (true, 0)) (nx p) (14 :: W) C (false :: D) o → P (some (b, k)) p W C D o) ∧
  (∀ b k p W C D, K p = kS 40 → ¬ D.length < 6 → P (some (b, k)) p W C D (rbad (dk (K (nx p))) (nx p))) ∧
  (∀ b k p W C D o v, K p = kN v → P none (nx p) W (C ++ [1, v]) D o → P (some (b, k)) p W C D o) ∧
  (∀ b k p W C D o j, K p = kW j → lo ≤ j → j < lo + n0 → ¬ (b = true ∧ j = 18) → P none (nx p) W (C ++ [2, j]) D o → P (some (b, k)) p W C D o) ∧
  (∀ b k p W C D, K p = kB → P (some (b, k)) p W C D (rbad 2 p)) ∧
  (∀ b k p W C D j, K p = kW j → ¬ (lo ≤ j ∧ j < lo + n0) → ¬ (b = true ∧ j = 18) → P (some (b, k)) p W C D (rbad 3 p)) ∧
  (∀ b k p W C D, K p = kE ∨ (∃ c, K p = kS c ∧ c ≠ 40) → P (some (b, k)) p W C D (rbad 1 p)) ∧
  (∀ m c p Z W C D o, (m = 1 ∨ m = 2) → opOf m (K p) = some c → (∀ z, z ∈ Z → z < 14 ∧ 7 - m ≤ stg z) → low (7 - m) W → P (some (false, 0)) (nx p) (mop c :: W) (C ++ Z) D o → P none p (Z ++ W) C D o) ∧
  (∀ m c p Z W C b D o, (m = 5 ∨ m = 6) → opOf m (K p) = some c → (∀ z, z ∈ Z → z < 14 ∧ 7 - m ≤ stg z) → low (7 - m) W → P (some (true, 0)) (nx p) (mop c :: W) (C ++ Z) (false :: D) o → P none p (Z ++ W) C (b :: D) o) ∧
  (∀ c p Z W C D o, cmp (K p) = some c → (∀ z, z ∈ Z → z < 14 ∧ 4 ≤ stg z) → low 4 W → P (some (false, 0)) (nx p) (mop c :: W) (C ++ Z) (true :: D) o → P none p (Z ++ W) C (false :: D) o) ∧
  (∀ p Z W C b D o, K p = kS 41 → (∀ z, z ∈ Z → z < 14) → P none (nx p) W (C ++ Z) D o → P none p (Z ++ 14 :: W) C (b :: D) o) ∧
  (∀ p W C b D, (∀ m, opOf m (K p) = none) → (cmp (K p) ≠ none → b = true) → K p ≠ kS 41 → 1 ≤ D.length → P none p W C (b :: D) (rbad 1 p)) ∧
  (∀ p W C b, (∀ m, opOf m (K p) = none) → (cmp (K p) ≠ none → b = true) → (∀ z, z ∈ W → z < 14) → P none p W C [b] (rok (C ++ W) p))
def Ys (K : Nat → Tk) (nx : Nat → Nat) (lo n0 : Nat) (x0 : Option (Bool × Nat)) (x1 : Nat) (x2 : List Nat) (x3 : List Nat) (x4 : List Bool) (x5 : Rs) : Prop := ∀ P, YsC K nx lo n0 P → P x0 x1 x2 x3 x4 x5
theorem Ys_onot {K : Nat → Tk} {nx : Nat → Nat} {lo n0 : Nat} {k p W C D o} (h0 : K p = kW 18) (h1 : k < 6) (h2 : Ys K nx lo n0 (some (true, k + 1)) (nx p) (3 :: W) C D o) : Ys K nx lo n0 (some (true, k)) p W C D o := fun P hP => hP.1 _ _ _ _ _ _ h0 h1 (h2 P hP)
theorem Ys_omax {K : Nat → Tk} {nx : Nat → Nat} {lo n0 : Nat} {p W C D} (h0 : K p = kW 18) : Ys K nx lo n0 (some (true, 6)) p W C D (rbad 2 p) := fun P hP => hP.2.1 _ _ _ _ h0
theorem Ys_opar {K : Nat → Tk} {nx : Nat → Nat} {lo n0 : Nat} {b k p W C D o} (h0 : K p = kS 40) (h1 : D.length < 6) (h2 : Ys K nx lo n0 (some (true, 0)) (nx p) (14 :: W) C (false :: D) o) : Ys K nx lo n0 (some (b, k)) p W C D o := fun P hP => hP.2.2.1 _ _ _ _ _ _ _ h0 h1 (h2 P hP)
theorem Ys_odeep {K : Nat → Tk} {nx : Nat → Nat} {lo n0 : Nat} {b k p W C D} (h0 : K p = kS 40) (h1 : ¬ D.length < 6) : Ys K nx lo n0 (some (b, k)) p W C D (rbad (dk (K (nx p))) (nx p)) := fun P hP => hP.2.2.2.1 _ _ _ _ _ _ h0 h1
theorem Ys_onum {K : Nat → Tk} {nx : Nat → Nat} {lo n0 : Nat} {b k p W C D o v} (h0 : K p = kN v) (h1 : Ys K nx lo n0 none (nx p) W (C ++ [1, v]) D o) : Ys K nx lo n0 (some (b, k)) p W C D o := fun P hP => hP.2.2.2.2.1 _ _ _ _ _ _ _ _ h0 (h1 P hP)
theorem Ys_oval {K : Nat → Tk} {nx : Nat → Nat} {lo n0 : Nat} {b k p W C D o j} (h0 : K p = kW j) (h1 : lo ≤ j) (h2 : j < lo + n0) (h3 : ¬ (b = true ∧ j = 18)) (h4 : Ys K nx lo n0 none (nx p) W (C ++ [2, j]) D o) : Ys K nx lo n0 (some (b, k)) p W C D o := fun P hP => hP.2.2.2.2.2.1 _ _ _ _ _ _ _ _ h0 h1 h2 h3 (h4 P hP)
theorem Ys_obig {K : Nat → Tk} {nx : Nat → Nat} {lo n0 : Nat} {b k p W C D} (h0 : K p = kB) : Ys K nx lo n0 (some (b, k)) p W C D (rbad 2 p) := fun P hP => hP.2.2.2.2.2.2.1 _ _ _ _ _ _ h0
theorem Ys_ounk {K : Nat → Tk} {nx : Nat → Nat} {lo n0 : Nat} {b k p W C D j} (h0 : K p = kW j) (h1 : ¬ (lo ≤ j ∧ j < lo + n0)) (h2 : ¬ (b = true ∧ j = 18)) : Ys K nx lo n0 (some (b, k)) p W C D (rbad 3 p) := fun P hP => hP.2.2.2.2.2.2.2.1 _ _ _ _ _ _ _ h0 h1 h2
theorem Ys_ounf {K : Nat → Tk} {nx : Nat → Nat} {lo n0 : Nat} {b k p W C D} (h0 : K p = kE ∨ (∃ c, K p = kS c ∧ c ≠ 40)) : Ys K nx lo n0 (some (b, k)) p W C D (rbad 1 p) := fun P hP => hP.2.2.2.2.2.2.2.2.1 _ _ _ _ _ _ h0
theorem Ys_ear {K : Nat → Tk} {nx : Nat → Nat} {lo n0 : Nat} {m c p Z W C D o} (h0 : (m = 1 ∨ m = 2)) (h1 : opOf m (K p) = some c) (h2 : (∀ z, z ∈ Z → z < 14 ∧ 7 - m ≤ stg z)) (h3 : low (7 - m) W) (h4 : Ys K nx lo n0 (some (false, 0)) (nx p) (mop c :: W) (C ++ Z) D o) : Ys K nx lo n0 none p (Z ++ W) C D o := fun P hP => hP.2.2.2.2.2.2.2.2.2.1 _ _ _ _ _ _ _ _ h0 h1 h2 h3 (h4 P hP)
theorem Ys_eand {K : Nat → Tk} {nx : Nat → Nat} {lo n0 : Nat} {m c p Z W C b D o} (h0 : (m = 5 ∨ m = 6)) (h1 : opOf m (K p) = some c) (h2 : (∀ z, z ∈ Z → z < 14 ∧ 7 - m ≤ stg z)) (h3 : low (7 - m) W) (h4 : Ys K nx lo n0 (some (true, 0)) (nx p) (mop c :: W) (C ++ Z) (false :: D) o) : Ys K nx lo n0 none p (Z ++ W) C (b :: D) o := fun P hP => hP.2.2.2.2.2.2.2.2.2.2.1 _ _ _ _ _ _ _ _ _ h0 h1 h2 h3 (h4 P hP)
theorem Ys_ecmp {K : Nat → Tk} {nx : Nat → Nat} {lo n0 : Nat} {c p Z W C D o} (h0 : cmp (K p) = some c) (h1 : (∀ z, z ∈ Z → z < 14 ∧ 4 ≤ stg z)) (h2 : low 4 W) (h3 : Ys K nx lo n0 (some (false, 0)) (nx p) (mop c :: W) (C ++ Z) (true :: D) o) : Ys K nx lo n0 none p (Z ++ W) C (false :: D) o := fun P hP => hP.2.2.2.2.2.2.2.2.2.2.2.1 _ _ _ _ _ _ _ h0 h1 h2 (h3 P hP)
theorem Ys_eclose {K : Nat → Tk} {nx : Nat → Nat} {lo n0 : Nat} {p Z W C b D o} (h0 : K p = kS 41) (h1 : (∀ z, z ∈ Z → z < 14)) (h2 : Ys K nx lo n0 none (nx p) W (C ++ Z) D o) : Ys K nx lo n0 none p (Z ++ 14 :: W) C (b :: D) o := fun P hP => hP.2.2.2.2.2.2.2.2.2.2.2.2.1 _ _ _ _ _ _ _ h0 h1 (h2 P hP)
theorem Ys_ebad {K : Nat → Tk} {nx : Nat → Nat} {lo n0 : Nat} {p W C b D} (h0 : (∀ m, opOf m (K p) = none)) (h1 : (cmp (K p) ≠ none → b = true)) (h2 : K p ≠ kS 41) (h3 : 1 ≤ D.length) : Ys K nx lo n0 none p W C (b :: D) (rbad 1 p) := fun P hP => hP.2.2.2.2.2.2.2.2.2.2.2.2.2.1 _ _ _ _ _ h0 h1 h2 h3
theorem Ys_eend {K : Nat → Tk} {nx : Nat → Nat} {lo n0 : Nat} {p W C b} (h0 : (∀ m, opOf m (K p) = none)) (h1 : (cmp (K p) ≠ none → b = true)) (h2 : (∀ z, z ∈ W → z < 14)) : Ys K nx lo n0 none p W C [b] (rok (C ++ W) p) := fun P hP => hP.2.2.2.2.2.2.2.2.2.2.2.2.2.2 _ _ _ _ h0 h1 h2
def ec (o c : Nat) : List Nat := if 32 ≤ c then [1, c - 32] else if 16 ≤ c then [2, c - 16 + o] else [mop c]
def es (o : Nat) (e : List Nat) : List Nat := e.flatMap (ec o)
theorem es_app (o : Nat) (a b : List Nat) : es o (a ++ b) = es o a ++ es o b := List.flatMap_append
theorem enc_es (o : Nat) : ∀ e, enc o e = es o e ++ [0]
  | [] => rfl
  | c :: e => by
    unfold enc
    rw [enc_es o e, show es o (c :: e) = ec o c ++ es o e from rfl]
    unfold ec
    split
    · rfl
    · split <;> rfl
theorem stg_le (a : Nat) : stg a ≤ 6 := by unfold stg; repeat' (first | omega | split)
theorem op_c {m c : Nat} {k : Tk} (hm : isCh m) (h : opOf m k = some c) : c < 16 ∧ mop c < 14 ∧ stg (mop c) = 7 - m := by
  unfold opOf at h
  rcases hm with rfl | rfl | rfl | rfl <;> repeat' split at h
  all_goals first | (cases h; exact ⟨by decide, by decide, by decide⟩) | omega | (simp at h)
theorem cmp_c {c : Nat} {k : Tk} (h : cmp k = some c) : c < 16 ∧ mop c < 14 ∧ stg (mop c) = 4 := by
  unfold cmp at h
  repeat' split at h
  all_goals first | (cases h; exact ⟨by decide, by decide, by decide⟩) | (simp at h)
theorem ec_op {o c : Nat} (h : c < 16) : ec o c = [mop c] := by unfold ec; rw [if_neg (by omega), if_neg (by omega)]
theorem low_cons {l a : Nat} {W : List Nat} (h : 14 ≤ a ∨ stg a < l) : low l (a :: W) := fun b hb => by cases hb; exact h
theorem low_up {l l' : Nat} {W : List Nat} (h : low l W) (hl : l ≤ l') : low l' W := fun b hb => (h b hb).imp id (fun q => by omega)

def xf (m : Nat) (k : Tk) (b : Bool) : Prop := (1 ≤ m → opOf 1 k = none) ∧ (2 ≤ m → opOf 2 k = none) ∧ (3 ≤ m → cmp k ≠ none → b = true) ∧ (5 ≤ m → opOf 5 k = none) ∧ (6 ≤ m → opOf 6 k = none)
theorem xf_next {m : Nat} {k : Tk} {b : Bool} (hm : isCh m) (h : xf (m - 1) k b) (ho : opOf m k = none) : xf m k b := by
  obtain ⟨h1, h2, h3, h5, h6⟩ := h
  rcases hm with rfl | rfl | rfl | rfl
  · exact ⟨fun _ => ho, fun q => absurd q (by omega), fun q => absurd q (by omega), fun q => absurd q (by omega), fun q => absurd q (by omega)⟩
  · exact ⟨fun _ => h1 (by omega), fun _ => ho, fun q => absurd q (by omega), fun q => absurd q (by omega), fun q => absurd q (by omega)⟩
  · exact ⟨fun _ => h1 (by omega), fun _ => h2 (by omega), fun _ => h3 (by omega), fun _ => ho, fun q => absurd q (by omega)⟩
  · exact ⟨fun _ => h1 (by omega), fun _ => h2 (by omega), fun _ => h3 (by omega), fun _ => h5 (by omega), fun _ => ho⟩
theorem xf_6 {k : Tk} {b : Bool} (h : xf 6 k b) : (∀ m, opOf m k = none) ∧ (cmp k ≠ none → b = true) := by
  obtain ⟨h1, h2, h3, h5, h6⟩ := h
  refine ⟨fun m => ?_, h3 (by omega)⟩
  by_cases e1 : m = 1
  · rw [e1]; exact h1 (by omega)
  · by_cases e2 : m = 2
    · rw [e2]; exact h2 (by omega)
    · by_cases e5 : m = 5
      · rw [e5]; exact h5 (by omega)
      · have := h6 (by omega)
        unfold opOf at this ⊢
        rw [if_neg e1, if_neg e2, if_neg e5]
        exact this
/-- what an entry comes to -/
def yR (K : Nat → Tk) (nx : Nat → Nat) (lo n0 m : Nat) (En : Rs → Prop) (W C : List Nat) (b0 : Bool) (D : List Bool) (r : Rs) : Prop := match r with
  | .inl (e, p') => ∃ Z C' tb, (∀ z, z ∈ Z → z < 14 ∧ 7 - m ≤ stg z) ∧ es lo e = C' ++ Z ∧ xf m (K p') tb ∧ (m < 3 → tb = b0) ∧ ∀ o, Ys K nx lo n0 none p' (Z ++ W) (C ++ C') (tb :: D) o → En o
  | .inr (y, q) => En (rbad y q)
def yM (K : Nat → Tk) (nx : Nat → Nat) (lo n0 m w : Nat) (a : Option (List Nat)) (p : Nat) (r : Rs) : Prop := match a with
  | none => (w = 6 → m = 6 → r = rbad (dk (K p)) p) ∧ (w < 6 → ∀ b k W C b0 D, D.length = w → low (7 - m) W → (4 ≤ m → b = true ∧ k = 0) → (m < 4 → b = true → K p ≠ kW 18) → (3 ≤ m → b0 = false) → yR K nx lo n0 m (Ys K nx lo n0 (some (b, k)) p W C (b0 :: D)) W C b0 D r)
  | some e => ∀ Z C0 W C b0 D, D.length = w → low (7 - m) W → (∀ z, z ∈ Z → z < 14 ∧ 7 - m ≤ stg z) → es lo e = C0 ++ Z → xf (m - 1) (K p) b0 → yR K nx lo n0 m (Ys K nx lo n0 none p (Z ++ W) (C ++ C0) (b0 :: D)) W C b0 D r
theorem yR_to {K : Nat → Tk} {nx : Nat → Nat} {lo n0 m : Nat} {En En' : Rs → Prop} {W C : List Nat} {b0 : Bool} {D : List Bool} {r : Rs} (h : yR K nx lo n0 m En W C b0 D r) (he : ∀ o, En o → En' o) : yR K nx lo n0 m En' W C b0 D r := by
  rcases r with ⟨e, p'⟩ | ⟨y, q⟩
  · obtain ⟨Z, C', tb, h1, h2, h3, h4, h5⟩ := h
    exact ⟨Z, C', tb, h1, h2, h3, h4, fun o ho => he o (h5 o ho)⟩
  · exact he _ h
