/-! what a reading by descent leaves: codes that leave one number, no more of them than bytes -/
def hb (m w : Nat) : Nat := 26 - 5 * w + (if m ≤ 3 then m else m - 1)
def wfk (n0 h : Nat) (e : List Nat) : Prop := ∀ k rest, k + h ≤ 64 → wf n0 rest (k + 1) → wf n0 (e ++ rest) k
theorem wfk_up {n0 h h' : Nat} {e : List Nat} (q : wfk n0 h e) (hh : h ≤ h') : wfk n0 h' e := fun k rest hk hr => q k rest (by omega) hr
theorem wfk_op {n0 h h' H c : Nat} {e e' : List Nat} (q : wfk n0 h e) (q' : wfk n0 h' e') (hc : 1 ≤ c ∧ c ≤ 8) (h1 : h ≤ H) (h2 : h' + 1 ≤ H) : wfk n0 H (e ++ e' ++ [c]) := by
  intro k rest hk hr
  rw [List.append_assoc, List.append_assoc]
  refine q k _ (by omega) (q' (k + 1) _ (by omega) (Or.inr (Or.inr ⟨hc.1, hc.2, by omega, ?_⟩)))
  rw [show k + 1 + 1 - 1 = k + 1 by omega]
  exact hr
theorem wf_nots {n0 : Nat} : ∀ (k : Nat) {rest : List Nat} {j : Nat}, 1 ≤ j → wf n0 rest j → wf n0 (List.replicate k 0 ++ rest) j
  | 0, _, _, _, h => h
  | k + 1, _, _, hj, h => Or.inr (Or.inl ⟨rfl, hj, wf_nots k hj h⟩)
theorem op_18 {m c : Nat} {k : Tk} (hm : isCh m) (h : opOf m k = some c) : (1 ≤ c ∧ c ≤ 8) ∧ k ≠ kE := by
  unfold opOf at h
  rcases hm with rfl | rfl | rfl | rfl <;> repeat' split at h
  all_goals first | (cases h; exact ⟨⟨by decide, by decide⟩, fun q => by rename_i e; rw [e] at q; cases q⟩) | omega | (simp at h)
theorem cmp_18 {c : Nat} {k : Tk} (h : cmp k = some c) : (1 ≤ c ∧ c ≤ 8) ∧ k ≠ kE := by
  unfold cmp at h
  repeat' split at h
  all_goals first | (cases h; exact ⟨⟨by decide, by decide⟩, fun q => by rename_i e; rw [e] at q; cases q⟩) | (simp at h)
section
variable {K : Nat → Tk} {nx : Nat → Nat} {lo n0 N : Nat}
def dF (n0 N m w : Nat) (a : Option (List Nat)) (p : Nat) (r : Rs) : Prop := ∀ e p', r = rok e p' → p ≤ N → p' ≤ N ∧ e.length + p ≤ p' + (match a with | none => 0 | some e0 => e0.length) ∧ (w < 6 → (match a with | none => True | some e0 => wfk n0 (hb m w) e0) → wfk n0 (hb m w) e) ∧ (m = 6 → a = none → w < 6)
theorem it_F {N : Nat} (h1 : ∀ p, K p ≠ kE → p < nx p) (h2 : ∀ p, p ≤ N → nx p ≤ N) : ∀ k p, p ≤ N → (∀ i, i < k → K (it nx i p) = kW 18) → it nx k p ≤ N ∧ p + k ≤ it nx k p
  | 0, p, hp, _ => ⟨hp, Nat.le_refl _⟩
  | k + 1, p, hp, h => by
    have q := it_F h1 h2 k (nx p) (h2 p hp) (fun i hi => h (i + 1) (by omega))
    have := h1 p (fun e => by have := h 0 (by omega); rw [show it nx 0 p = p from rfl, e] at this; cases this)
    exact ⟨q.1, by have := q.2; show p + (k + 1) ≤ it nx k (nx p); omega⟩
set_option maxHeartbeats 1000000 in
theorem Dv_F (hn : n0 ≤ 16) (h1 : ∀ p, K p ≠ kE → p < nx p) (h2 : ∀ p, p ≤ N → nx p ≤ N) (hv : ∀ p v, K p = kN v → v < 10000) {m w : Nat} {a : Option (List Nat)} {p : Nat} {r : Rs} (h : Dv K nx lo n0 m w a p r) : dF n0 N m w a p r := by
  refine h (dF n0 N) ⟨?_, ?_, ?_, ?_, ?_, ?_, ?_, ?_, ?_, ?_, ?_, ?_, ?_, ?_, ?_, ?_, ?_, ?_, ?_, ?_, ?_⟩
  · intro w p v hk e p' he hp
    cases he
    have := h1 p (by rw [hk]; intro q; cases q)
    exact ⟨h2 p hp, by simp; omega, fun hw _ k rest hh hr => Or.inl ⟨by omega, Or.inr ⟨by omega, by have := hv p v hk; omega⟩, by unfold hb at hh; omega, hr⟩, fun q => absurd q (by omega)⟩
  · intro w p hk e p' he; cases he
  · intro w p j hk g1 g2 e p' he hp
    cases he
    have := h1 p (by rw [hk]; intro q; cases q)
    exact ⟨h2 p hp, by simp; omega, fun hw _ k rest hh hr => Or.inl ⟨by omega, Or.inl (by omega), by unfold hb at hh; omega, hr⟩, fun q => absurd q (by omega)⟩
  · intro w p j hk g1 e p' he; cases he
  · intro w p e p' hk hw ih hk' e1 p1 he hp
    cases he
    have g1 := h1 p (by rw [hk]; intro q; cases q)
    obtain ⟨g2, g3, g4, g6⟩ := ih e p' rfl (h2 p hp)
    have g5 := h1 p' (by rw [hk']; intro q; cases q)
    refine ⟨h2 _ g2, by simp at g3 ⊢; omega, fun _ _ => ?_, fun q => absurd q (by omega)⟩
    by_cases h5 : w + 1 < 6
    · exact wfk_up (g4 h5 trivial) (by unfold hb; simp; omega)
    · exact absurd (g6 rfl rfl) h5
  · intro w p e p' hk hw ih hk' e1 p1 he; cases he
  · intro w p y q hk hw ih e1 p1 he; cases he
  · intro w p hk e1 p1 he; cases he
  · intro p e1 p1 he; cases he
  · intro m w p e p' r hm hw ih1 ih2 e1 p1 he hp
    obtain ⟨g1, g2, g3, -⟩ := ih1 e p' rfl hp
    obtain ⟨k1, k2, k3, -⟩ := ih2 e1 p1 he g1
    have hm1 : 1 ≤ m := by rcases hm with rfl | rfl | rfl | rfl <;> omega
    exact ⟨k1, by simp at g2 k2 ⊢; omega, fun _ _ => k3 hw (wfk_up (g3 hw trivial) (by rcases hm with rfl | rfl | rfl | rfl <;> unfold hb <;> simp)), fun _ _ => hw⟩
  · intro m w p y q hm hw ih e1 p1 he; cases he
  · intro m w p e hm ho e1 p1 he hp
    cases he
    exact ⟨hp, by simp; omega, fun _ q => q, fun _ q => by cases q⟩
  · intro m w p e c e' p' r hm ho hw ih1 ih2 e1 p1 he hp
    have hc := op_18 hm ho
    have g0 := h1 p hc.2
    obtain ⟨g1, g2, g3, -⟩ := ih1 e' p' rfl (h2 p hp)
    obtain ⟨k1, k2, k3, -⟩ := ih2 e1 p1 he g1
    refine ⟨k1, by simp at g2 k2 ⊢; omega, fun _ q => k3 hw (wfk_op q (g3 hw trivial) hc.1 (Nat.le_refl _) ?_), fun _ q => by cases q⟩
    rcases hm with rfl | rfl | rfl | rfl <;> unfold hb <;> simp
  · intro m w p e c y q hm ho hw ih1 e1 p1 he; cases he
  · intro w p e p' ih hc e1 p1 he hp
    cases he
    obtain ⟨g1, g2, g3, -⟩ := ih e p' rfl hp
    exact ⟨g1, g2, fun hw _ => wfk_up (g3 hw trivial) (by unfold hb; simp), fun q => absurd q (by omega)⟩
  · intro w p e p' c e' q ih hc ih2 e1 p1 he hp
    cases he
    have cc := cmp_18 hc
    obtain ⟨g1, g2, g3, -⟩ := ih e p' rfl hp
    obtain ⟨k1, k2, k3, -⟩ := ih2 e' q rfl (h2 _ g1)
    have g0 := h1 p' cc.2
    exact ⟨k1, by simp at g2 k2 ⊢; omega, fun hw _ => wfk_op (g3 hw trivial) (k3 hw trivial) cc.1 (by unfold hb; simp) (by unfold hb; simp), fun q => absurd q (by omega)⟩
  · intro w p e p' c y q ih hc ih2 e1 p1 he; cases he
  · intro w p y q ih e1 p1 he; cases he
  · intro w p k e q hno hk hne ih e1 p1 he hp
    cases he
    have hi := it_F h1 h2 k p hp hno
    obtain ⟨g1, g2, g3, -⟩ := ih e q rfl hi.1
    refine ⟨g1, by simp at g2 ⊢; omega, fun hw _ j rest hh hr => ?_, fun q => absurd q (by omega)⟩
    rw [List.append_assoc]
    exact g3 hw trivial j _ (by unfold hb at hh ⊢; simp at hh ⊢; omega) (wf_nots k (by omega) hr)
  · intro w p k y q hno hk hne ih e1 p1 he; cases he
  · intro w p hno e1 p1 he; cases he
end
