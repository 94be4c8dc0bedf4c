/-! the lines of a chapel's text -/
def fu {α : Type} (f : Nat → α) (k : Nat) (v : α) : Nat → α := fun x => if x = k then v else f x
theorem fu_s {α : Type} {f : Nat → α} {k : Nat} {v : α} : fu f k v k = v := if_pos rfl
theorem fu_o {α : Type} {f : Nat → α} {k x : Nat} {v : α} (h : x ≠ k) : fu f k v x = f x := if_neg h
/-- what is drafted: whether threads are told, what is told, the work -/
abbrev Dr := Bool × Td × Wk
def dB (D : Dr) : Bool := D.1
def dT (D : Dr) : Td := D.2.1
def dW (D : Dr) : Wk := D.2.2
/-- what a line comes to: the draft and the next place, or a fault and its place -/
abbrev Lr := (Dr × Nat) ⊕ (Nat × Nat)
def uT (D : Dr) (v : Nat) : Dr := (true, (v, (dT D).2), dW D)
def uC (D : Dr) (h w e : Nat) : Dr := (dB D, (tN (dT D), tM (dT D) + 1, tG (dT D), tU (dT D), tH (dT D), fu (tW (dT D)) (tM (dT D)) (nI w), tF (dT D), tI (dT D), tE (dT D), tR (dT D)), (fu (wo (dW D)) (tM (dT D)) (nI h), fu (ww (dW D)) (tM (dT D)) e, wl (dW D), wp (dW D), ws (dW D), wg (dW D)))
def uW (D : Dr) (W : Wk) : Dr := (dB D, dT D, W)
def uL (W : Wk) (v : Nat) : Wk := (wo W, ww W, fu (wl W) (wp W) v, wp W + 1, ws W, wg W)
def uG (D : Dr) (a w n : Nat) (R : Nat → Int32) : Dr := (dB D, (tN (dT D), tM (dT D), tG (dT D) + 1, tU (dT D), tH (dT D), tW (dT D), fu (tF (dT D)) (tG (dT D)) (nI a), fu (tI (dT D)) (tG (dT D)) w, fu (tE (dT D)) (tG (dT D)) n, R), dW D)
def uU (D : Dr) (e : List Nat) : Dr := (dB D, (tN (dT D), tM (dT D), tG (dT D), e, (dT D).2.2.2.2), dW D)
def uH (D : Dr) (e : List Nat) : Dr := (dB D, (tN (dT D), tM (dT D), tG (dT D), tU (dT D), e, (dT D).2.2.2.2.2), dW D)
def isn (k : Tk) : Prop := k.1 = 2 ∨ k.1 = 5
/-- a number from lo to hi, and what comes of it -/
def Nm (K : Nat → Tk) (lo hi p : Nat) (k : Nat → Lr → Prop) (r : Lr) : Prop := (∃ v, K p = kN v ∧ lo ≤ v ∧ v ≤ hi ∧ k v r) ∨ (∃ y, nbad lo hi (K p) y ∧ r = .inr (y, p))
/-- rows of a figure, one behind the other -/
def Rw (K : Nat → Tk) (nx : Nat → Nat) (f w : Nat) (k : Nat → Nat → (Nat → Int32) → Lr → Prop) : Nat → Nat → Nat → (Nat → Int32) → Lr → Prop
  | 0, n, p, R, r => k n p R r
  | m + 1, n, p, R, r => (¬ isn (K p) ∧ n ≠ 0 ∧ k n p R r) ∨ ((isn (K p) ∨ n = 0) ∧ Nm K 0 (2 ^ w - 1) p (fun v r => Rw K nx f w k m (n + 1) (nx p) (fu R (3 * f + n) (nI v)) r) r)
/-- cards of a lace, one behind the other -/
def Lc (K : Nat → Tk) (nx : Nat → Nat) (many : Nat) (k : Wk → Nat → Lr → Prop) : Nat → Nat → Wk → Lr → Prop
  | 0, _, _, _ => False
  | f + 1, p, W, r => (¬ isn (K p) ∧ r = .inr (1, p)) ∨ (isn (K p) ∧ (K p = kB ∨ 12 ≤ wp W) ∧ r = .inr (2, p)) ∨ (∃ v, K p = kN v ∧ wp W < 12 ∧ many ≤ v ∧ r = .inr (3, p)) ∨ (∃ v, K p = kN v ∧ wp W < 12 ∧ v < many ∧ ((¬ isn (K (nx p)) ∧ k (uL W v) (nx p) r) ∨ (isn (K (nx p)) ∧ Lc K nx many k f (nx p) (uL W v) r)))
def fR (u : List Nat → Dr) (r : Rs) : Lr := match r with
  | .inl (e, p) => .inl (u e, p)
  | .inr x => .inr x
def Bth (K : Nat → Tk) (nx : Nat → Nat) (p : Nat) (D : Dr) (r : Lr) : Prop := (dB D = true ∧ r = .inr (5, p)) ∨ (dB D = false ∧ Nm K 2 12 (nx p) (fun v r => r = .inl (uT D v, nx (nx p))) r)
def Bca (K : Nat → Tk) (nx : Nat → Nat) (p : Nat) (D : Dr) (r : Lr) : Prop := (tM (dT D) = 10 ∧ r = .inr (2, p)) ∨ (tM (dT D) < 10 ∧ Nm K 0 4095 (nx p) (fun h => Nm K 0 9 (nx (nx p)) (fun w => Nm K 0 9 (nx (nx (nx p))) (fun e r => r = .inl (uC D h w e, nx (nx (nx (nx p))))))) r)
def Bla (K : Nat → Tk) (nx : Nat → Nat) (p : Nat) (D : Dr) (r : Lr) : Prop := (0 < wp (dW D) ∧ r = .inr (5, p)) ∨ (wp (dW D) = 0 ∧ Lc K nx (tM (dT D)) (fun W p r => r = .inl (uW D W, p)) 13 (nx p) (dW D) r)
def Bfi (K : Nat → Tk) (nx : Nat → Nat) (p : Nat) (D : Dr) (r : Lr) : Prop := (tG (dT D) = 5 ∧ r = .inr (2, p)) ∨ (tG (dT D) < 5 ∧ Nm K 0 9 (nx p) (fun a => Nm K 1 4 (nx (nx p)) (fun w => Rw K nx (tG (dT D)) w (fun n p R r => r = .inl (uG D a w n R, p)) 3 0 (nx (nx (nx p))) (tR (dT D)))) r)
def Bup (K : Nat → Tk) (nx : Nat → Nat) (p : Nat) (D : Dr) (r : Lr) : Prop := (tU (dT D) ≠ [] ∧ r = .inr (5, p)) ∨ (tU (dT D) = [] ∧ ∃ r1, Dv K nx 0 6 6 0 none (nx p) r1 ∧ r = fR (uU D) r1)
def Bha (K : Nat → Tk) (nx : Nat → Nat) (p : Nat) (D : Dr) (r : Lr) : Prop := (tH (dT D) ≠ [] ∧ r = .inr (5, p)) ∨ (tH (dT D) = [] ∧ ∃ r1, Dv K nx 6 4 6 0 none (nx p) r1 ∧ r = fR (uH D) r1)
/-- a line without its end -/
def Bo (K : Nat → Tk) (nx : Nat → Nat) (p : Nat) (D : Dr) (r : Lr) : Prop := (K p = kW 10 ∧ Bth K nx p D r) ∨ (K p = kW 11 ∧ Bca K nx p D r) ∨ (K p = kW 12 ∧ Bla K nx p D r) ∨ (K p = kW 13 ∧ Bfi K nx p D r) ∨ (K p = kW 14 ∧ Bup K nx p D r) ∨ (K p = kW 15 ∧ Bha K nx p D r) ∨ ((∀ j, 10 ≤ j → j ≤ 15 → K p ≠ kW j) ∧ r = .inr (1, p))
/-- the sign behind a line -/
def Le (K : Nat → Tk) (nx : Nat → Nat) (r1 r : Lr) : Prop := match r1 with
  | .inr x => r = .inr x
  | .inl (D, p) => (K p = kS 59 ∧ r = .inl (D, nx p)) ∨ (K p ≠ kS 59 ∧ r = .inr (1, p))
def Ln (K : Nat → Tk) (nx : Nat → Nat) (p : Nat) (D : Dr) (r : Lr) : Prop := ∃ r1, Bo K nx p D r1 ∧ Le K nx r1 r
/-- lines until the end -/
def Rd (K : Nat → Tk) (nx : Nat → Nat) : Nat → Nat → Dr → Lr → Prop
  | 0, _, _, _ => False
  | f + 1, p, D, r => (K p = kE ∧ r = .inl (D, p)) ∨ (K p ≠ kE ∧ ((∃ x, Ln K nx p D (.inr x) ∧ r = .inr x) ∨ (∃ D' p', Ln K nx p D (.inl (D', p')) ∧ Rd K nx f p' D' r)))
/-- what holds of every draft -/
def okD (D : Dr) : Prop := okT (dT D) ∧ (∀ c, c < 10 → ww (dW D) c ≤ 9) ∧ (∀ k, k < wp (dW D) → wl (dW D) k < tM (dT D)) ∧ wp (dW D) ≤ 12 ∧ (∀ x, 3 * tG (dT D) ≤ x → tR (dT D) x = nI 0) ∧ (dB D = false → tN (dT D) = 8) ∧ ws (dW D) = nI 0 ∧ wg (dW D) = nI 0
theorem okD_T {D : Dr} (h : okD D) {v : Nat} (h1 : 2 ≤ v) (h2 : v ≤ 12) : okD (uT D v) := by
  obtain ⟨⟨_, o1⟩, o2, o3, o4, o5, o6, o7⟩ := h
  exact ⟨⟨⟨h1, h2⟩, o1⟩, o2, o3, o4, o5, fun q => (by cases q), o7⟩
theorem okD_C {D : Dr} (h : okD D) {a w e : Nat} (h1 : tM (dT D) < 10) (h2 : e ≤ 9) : okD (uC D a w e) := by
  obtain ⟨⟨a1, a2, a3⟩, o2, o3, o4, o5, o6, o7⟩ := h
  refine ⟨⟨a1, h1, a3⟩, fun c hc => ?_, fun k hk => ?_, o4, o5, o6, o7⟩
  · show fu (ww (dW D)) (tM (dT D)) e c ≤ 9
    by_cases q : c = tM (dT D)
    · rw [q, fu_s]; exact h2
    · rw [fu_o q]; exact o2 c hc
  · exact Nat.lt_succ_of_lt (o3 k hk)
theorem okD_W {D : Dr} (h : okD D) {W : Wk} (h1 : ww W = ww (dW D)) (h2 : ∀ k, k < wp W → wl W k < tM (dT D)) (h3 : wp W ≤ 12) (h4 : ws W = ws (dW D) ∧ wg W = wg (dW D)) : okD (uW D W) := by
  obtain ⟨o1, o2, _, _, o5, o6, o7⟩ := h
  refine ⟨o1, ?_, h2, h3, o5, o6, ?_⟩
  · show ∀ c, c < 10 → ww W c ≤ 9
    rw [h1]; exact o2
  · show ws W = nI 0 ∧ wg W = nI 0
    rw [h4.1, h4.2]; exact o7
theorem okD_U {D : Dr} (h : okD D) {e : List Nat} (h1 : wf 6 e 0) : okD (uU D e) := by
  obtain ⟨⟨a1, a2, a3, _, a5⟩, o⟩ := h
  exact ⟨⟨a1, a2, a3, Or.inr h1, a5⟩, o⟩
theorem okD_H {D : Dr} (h : okD D) {e : List Nat} (h1 : wf 4 e 0) : okD (uH D e) := by
  obtain ⟨⟨a1, a2, a3, a4, _, a5⟩, o⟩ := h
  exact ⟨⟨a1, a2, a3, a4, Or.inr h1, a5⟩, o⟩
theorem okD_G {D : Dr} (h : okD D) {a w n : Nat} {R : Nat → Int32} (hG : tG (dT D) < 5) (hw : 1 ≤ w ∧ w ≤ 4) (hn : 1 ≤ n ∧ n ≤ 3) (h1 : ∀ x, x < 3 * tG (dT D) → R x = tR (dT D) x) (h2 : ∀ r, r < 3 → sm (R (3 * tG (dT D) + r)) w) (h3 : ∀ x, 3 * tG (dT D) + 3 ≤ x → R x = nI 0) : okD (uG D a w n R) := by
  obtain ⟨⟨a1, a2, a3, a4, a5, a6⟩, o2, o3, o4, o5, o6, o7⟩ := h
  refine ⟨⟨a1, a2, hG, a4, a5, fun f hf => ?_⟩, o2, o3, o4, fun x hx => h3 x ?_, o6, o7⟩
  · show 1 ≤ fu (tI (dT D)) (tG (dT D)) w f ∧ fu (tI (dT D)) (tG (dT D)) w f ≤ 4 ∧ 1 ≤ fu (tE (dT D)) (tG (dT D)) n f ∧ fu (tE (dT D)) (tG (dT D)) n f ≤ 3 ∧ ∀ r, r < 3 → sm (R (3 * f + r)) (fu (tI (dT D)) (tG (dT D)) w f)
    have hf' : f < tG (dT D) + 1 := hf
    by_cases q : f = tG (dT D)
    · rw [q, fu_s, fu_s]; exact ⟨hw.1, hw.2, hn.1, hn.2, h2⟩
    · have q2 : f < tG (dT D) := by omega
      rw [fu_o q, fu_o q]
      obtain ⟨b1, b2, b3, b4, b5⟩ := a6 f q2
      exact ⟨b1, b2, b3, b4, fun r hr => by rw [h1 _ (by omega)]; exact b5 r hr⟩
  · have hx' : 3 * (tG (dT D) + 1) ≤ x := hx
    omega
section Lines
variable {g : Nat → Nat} {N : Nat}
theorem isn_nE {k : Tk} (h : isn k) : k ≠ kE := fun q => by rw [q] at h; rcases h with h | h <;> cases h
theorem kN_nE {k : Tk} {v : Nat} (h : k = kN v) : k ≠ kE := fun q => by rw [h] at q; cases q
theorem kW_nE {k : Tk} {v : Nat} (h : k = kW v) : k ≠ kE := fun q => by rw [h] at q; cases q
theorem kS_nE {k : Tk} {v : Nat} (h : k = kS v) : k ≠ kE := fun q => by rw [h] at q; cases q
theorem Dv_ok {lo n0 p p' : Nat} {e : List Nat} (hn : n0 ≤ 16) (hp : p ≤ N) (h : Dv (tK g N) (tnx g N) lo n0 6 0 none p (.inl (e, p'))) : p' ≤ N ∧ p ≤ p' ∧ wf n0 e 0 ∧ e ≠ [] := by
  have := Dv_F hn nx_lt nx_le tk_v h e p' rfl hp
  obtain ⟨h1, h2, h3, -⟩ := this
  have h4 : wf n0 e 0 := by
    have := h3 (by omega) trivial 0 [] (by decide) rfl
    rw [List.append_nil] at this; exact this
  refine ⟨h1, by simp at h2; omega, h4, fun q => ?_⟩
  rw [q] at h4
  exact absurd h4 (by show ¬ 0 = 1; omega)
theorem Lc_ok {D' : Dr} {p' many : Nat} {D : Dr} : ∀ (f p : Nat) (W : Wk), p ≤ N → wp W ≤ 12 → (∀ k, k < wp W → wl W k < many) → Lc (tK g N) (tnx g N) many (fun W p r => r = .inl (uW D W, p)) f p W (.inl (D', p')) → ∃ W', D' = uW D W' ∧ ww W' = ww W ∧ (∀ k, k < wp W' → wl W' k < many) ∧ wp W' ≤ 12 ∧ (ws W' = ws W ∧ wg W' = wg W) ∧ p < p' ∧ p' ≤ N
  | 0, _, _, _, _, _, h => absurd h id
  | f + 1, p, W, hp, h12, hl, h => by
    rcases h with ⟨_, h⟩ | ⟨_, _, h⟩ | ⟨_, _, _, _, h⟩ | ⟨v, hk, hw, hv, h⟩
    · cases h
    · cases h
    · cases h
    · have hlt := nx_lt p (kN_nE hk)
      have hle := nx_le (g := g) p hp
      have hl' : ∀ k, k < wp (uL W v) → wl (uL W v) k < many := fun k hk => by
        show fu (wl W) (wp W) v k < many
        have hk' : k < wp W + 1 := hk
        by_cases q : k = wp W
        · rw [q, fu_s]; exact hv
        · rw [fu_o q]; exact hl k (by omega)
      rcases h with ⟨_, h⟩ | ⟨_, h⟩
      · cases h
        exact ⟨uL W v, rfl, rfl, hl', hw, ⟨rfl, rfl⟩, hlt, hle⟩
      · obtain ⟨W', e1, e2, e3, e4, e5, e6, e7⟩ := Lc_ok f (tnx g N p) (uL W v) hle hw hl' h
        exact ⟨W', e1, e2, e3, e4, e5, by omega, e7⟩
theorem Rw_ok {D' : Dr} {p' f w a : Nat} {D : Dr} (hw : w ≤ 4) : ∀ (m n p : Nat) (R : Nat → Int32), n + m = 3 → p ≤ N → (∀ r, r < 3 → sm (R (3 * f + r)) w) → Rw (tK g N) (tnx g N) f w (fun n p R r => r = .inl (uG D a w n R, p)) m n p R (.inl (D', p')) → ∃ n' R', D' = uG D a w n' R' ∧ (1 ≤ n' ∧ n' ≤ 3) ∧ (∀ x, x < 3 * f → R' x = R x) ∧ (∀ r, r < 3 → sm (R' (3 * f + r)) w) ∧ (∀ x, 3 * f + 3 ≤ x → R' x = R x) ∧ p ≤ p' ∧ p' ≤ N
  | 0, n, p, R, hm, hp, hs, h => by
    cases h
    exact ⟨n, R, rfl, by omega, fun _ _ => rfl, hs, fun _ _ => rfl, Nat.le_refl _, hp⟩
  | m + 1, n, p, R, hm, hp, hs, h => by
    rcases h with ⟨_, hn, h⟩ | ⟨_, ⟨v, hk, _, hv, h⟩ | ⟨y, _, h⟩⟩
    · cases h
      exact ⟨n, R, rfl, by omega, fun _ _ => rfl, hs, fun _ _ => rfl, Nat.le_refl _, hp⟩
    · have hlt := nx_lt p (kN_nE hk)
      have hle := nx_le (g := g) p hp
      have h2 : 0 < 2 ^ w := Nat.pow_pos (by omega)
      obtain ⟨n', R', e1, e2, e3, e4, e5, e6, e7⟩ := Rw_ok hw m (n + 1) (tnx g N p) (fu R (3 * f + n) (nI v)) (by omega) hle (fun r hr => by
        by_cases q : r = n
        · rw [q, fu_s]; exact sm_nI (by omega)
        · rw [fu_o (by omega)]; exact hs r hr) h
      exact ⟨n', R', e1, e2, fun x hx => (e3 x hx).trans (fu_o (by omega)), e4, fun x hx => (e5 x hx).trans (fu_o (by omega)), by omega, e7⟩
    · cases h
theorem Bo_ok {D D' : Dr} {p p' : Nat} (hp : p ≤ N) (ho : okD D) (h : Bo (tK g N) (tnx g N) p D (.inl (D', p'))) : okD D' ∧ p < p' ∧ p' ≤ N := by
  have hle := nx_le (g := g) p hp
  have l2 := nx_le (g := g) _ hle
  have l3 := nx_le (g := g) _ l2
  have l4 := nx_le (g := g) _ l3
  rcases h with ⟨hk, h⟩ | ⟨hk, h⟩ | ⟨hk, h⟩ | ⟨hk, h⟩ | ⟨hk, h⟩ | ⟨hk, h⟩ | ⟨_, h⟩
  · have hlt := nx_lt p (kW_nE hk)
    rcases h with ⟨_, h⟩ | ⟨_, ⟨v, k1, v1, v2, h⟩ | ⟨_, _, h⟩⟩
    · cases h
    · cases h
      have := nx_lt _ (kN_nE k1)
      exact ⟨okD_T ho v1 v2, by omega, l2⟩
    · cases h
  · have hlt := nx_lt p (kW_nE hk)
    rcases h with ⟨_, h⟩ | ⟨hm, ⟨v, k1, _, _, ⟨v', k2, _, _, ⟨v'', k3, _, hv, h⟩ | ⟨_, _, h⟩⟩ | ⟨_, _, h⟩⟩ | ⟨_, _, h⟩⟩
    · cases h
    · cases h
      have := nx_lt _ (kN_nE k1)
      have := nx_lt _ (kN_nE k2)
      have := nx_lt _ (kN_nE k3)
      exact ⟨okD_C ho hm hv, by omega, l4⟩
    · cases h
    · cases h
    · cases h
  · have hlt := nx_lt p (kW_nE hk)
    rcases h with ⟨_, h⟩ | ⟨h0, h⟩
    · cases h
    · obtain ⟨W', e1, e2, e3, e4, e5, e6, e7⟩ := Lc_ok 13 _ (dW D) hle (by omega) (fun k hk => absurd hk (by omega)) h
      rw [e1]
      exact ⟨okD_W ho e2 e3 e4 e5, by omega, e7⟩
  · have hlt := nx_lt p (kW_nE hk)
    rcases h with ⟨_, h⟩ | ⟨hg5, ⟨v, k1, _, _, ⟨w, k2, w1, w2, h⟩ | ⟨_, _, h⟩⟩ | ⟨_, _, h⟩⟩
    · cases h
    · have := nx_lt _ (kN_nE k1)
      have := nx_lt _ (kN_nE k2)
      have hz := ho.2.2.2.2.1
      obtain ⟨n', R', e1, e2, e3, e4, e5, e6, e7⟩ := Rw_ok w2 3 0 _ (tR (dT D)) rfl l3 (fun r _ => by rw [hz _ (by omega)]; exact sm_0 w) h
      rw [e1]
      exact ⟨okD_G ho hg5 ⟨w1, w2⟩ e2 e3 e4 (fun x hx => (e5 x hx).trans (hz x (by omega))), by omega, e7⟩
    · cases h
    · cases h
  · have hlt := nx_lt p (kW_nE hk)
    rcases h with ⟨_, h⟩ | ⟨_, ⟨e, q⟩ | x, hd, h⟩
    · cases h
    · cases h
      have := Dv_ok (by omega) hle hd
      exact ⟨okD_U ho this.2.2.1, by omega, this.1⟩
    · cases h
  · have hlt := nx_lt p (kW_nE hk)
    rcases h with ⟨_, h⟩ | ⟨_, ⟨e, q⟩ | x, hd, h⟩
    · cases h
    · cases h
      have := Dv_ok (by omega) hle hd
      exact ⟨okD_H ho this.2.2.1, by omega, this.1⟩
    · cases h
  · cases h
theorem Ln_ok {D D' : Dr} {p p' : Nat} (hp : p ≤ N) (ho : okD D) (h : Ln (tK g N) (tnx g N) p D (.inl (D', p'))) : okD D' ∧ p < p' ∧ p' ≤ N := by
  obtain ⟨r1, h1, h2⟩ := h
  rcases r1 with ⟨D1, p1⟩ | x
  · obtain ⟨o1, o2, o3⟩ := Bo_ok hp ho h1
    rcases h2 with ⟨hk, h2⟩ | ⟨_, h2⟩
    · cases h2
      have := nx_lt p1 (kS_nE hk)
      exact ⟨o1, by omega, nx_le p1 o3⟩
    · cases h2
  · cases h2
end Lines
