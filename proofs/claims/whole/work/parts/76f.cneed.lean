/-! the class: faults, needed signs, numbers, codes -/
def cG (g : Nat → Nat) (N p : Nat) (I : Nat → Nat → Int32) : Prop := cTk g N p I ∧ I 1 8 = nI 0
def cBd (g : Nat → Nat) (N y q : Nat) (I : Nat → Nat → Int32) : Prop := I 1 8 = nI y ∧ (0 < y ∧ y < 8) ∧ I 1 9 = nI (tst g N q)
def fF (I I' : Nat → Nat → Int32) : Prop := (∀ a, a ≠ 1 → I' a = I a) ∧ ∀ k, k < 3 → I' 1 k = I 1 k
theorem fF_a {I I' : Nat → Nat → Int32} (h : aF I I') : fF I I' := ⟨h.1, fun k hk => h.2 k (Or.inl hk)⟩
theorem fF_t {I I' I'' : Nat → Nat → Int32} (h : fF I I') (h' : fF I' I'') : fF I I'' := ⟨fun a ha => (h'.1 a ha).trans (h.1 a ha), fun k hk => (h'.2 k hk).trans (h.2 k hk)⟩
theorem fF_r {I : Nat → Nat → Int32} : fF I I := ⟨fun _ _ => rfl, fun _ _ => rfl⟩
theorem bd_ne {g : Nat → Nat} {N y q : Nat} {I : Nat → Nat → Int32} (h : cBd g N y q I) : ¬ I 1 8 = nI 0 := by
  rw [h.1, nI_eq (by have := h.2.1; omega) (by omega)]; have := h.2.1; omega
section Spec
variable {d L : Nat} {fz t : Bool} {Q : pm_R → pm_H → Prop} {I : Nat → Nat → Int32} {J : Nat → Nat → Int64} {g : Nat → Nat} {N p : Nat}
theorem S_fail (h : cG g N p I) {y : Nat} (hy : 0 < y ∧ y < 8) (hq : ∀ I', cBd g N y p I' → fF I I' → Q (.inl none) (pm_hp L fz t I' J)) : pm_Ev (d + 1) 27 [.ref 1, .int (nI y)] (pm_hp L fz t I J) Q := by
  refine e_X3_fail (q_f' h.2 (hq _ ⟨?_, hy, ?_⟩ ⟨fun a ha => ?_, fun k hk => ?_⟩))
  · rw [pm_uk (by omega), pm_us]
  · rw [pm_us]; exact h.1.2.1
  · rw [pm_ua ha, pm_ua ha]
  · rw [pm_uk (by omega), pm_uk (by omega)]
theorem S_failB {q y : Nat} (h : cBd g N y q I) {x : Int32} (hq : Q (.inl none) (pm_hp L fz t I J)) : pm_Ev (d + 1) 27 [.ref 1, .int x] (pm_hp L fz t I J) Q :=
  e_X3_fail (q_t' (bd_ne h) hq)
theorem S_adv (hg : ∀ i, g i < 256) (hN : N ≤ 700) (hp : p ≤ N) (h : cG g N p I) (hq : ∀ I', cG g N (tnx g N p) I' → aF I I' → Q (.inl none) (pm_hp L fz t I' J)) : pm_Ev (d + 3) 28 [.ref 1] (pm_hp L fz t I J) Q :=
  S_advance hg hN h.1.1 (tnx_N hp) h.1.2.2.1 fun I' h1 h2 => hq I' ⟨h1, (h2.2 8 (by omega)).trans h.2⟩ h2
theorem S_needSign (hg : ∀ i, g i < 256) (hN : N ≤ 700) (hp : p ≤ N) (h : cG g N p I) {c : Nat} (hc : c < 128) (hq : ∀ I', tK g N p = kS c → cG g N (tnx g N p) I' → aF I I' → Q (.inl none) (pm_hp L fz t I' J)) (hb : ∀ I', ¬ tK g N p = kS c → cBd g N 1 p I' → fF I I' → Q (.inl none) (pm_hp L fz t I' J)) : pm_Ev (d + 4) 35 [.ref 1, .int (nI c)] (pm_hp L fz t I J) Q := by
  refine e_X3_needSign (q_t h.2 (S_isSign (d := d + 2) hg hN hp h.1 hc (kb_X3_needSign_13 (q_b0 (fun e => ?_) (fun e => ?_)))))
  · exact S_fail (d := d + 2) h (by omega) fun I' h1 h2 => kb_X3_needSign_28 (hb I' (of_decide_eq_false e) h1 h2)
  · exact S_adv hg hN hp h fun I' h1 h2 => kb_X3_needSign_20 (b_X3_needSign_28 (hq I' (of_decide_eq_true e) h1 h2))
theorem S_needSignB {q y : Nat} (h : cBd g N y q I) {x : Int32} (hq : Q (.inl none) (pm_hp L fz t I J)) : pm_Ev (d + 1) 35 [.ref 1, .int x] (pm_hp L fz t I J) Q :=
  e_X3_needSign (q_f (bd_ne h) hq)
theorem tk_25 (hp : p ≤ N) (h : (tK g N p).1 = 2 ∨ (tK g N p).1 = 5) : ((∃ v, tK g N p = kN v ∧ v < 10000) ∧ tnx g N p - tst g N p ≤ 4) ∨ (tK g N p = kB ∧ 4 < tnx g N p - tst g N p) := by
  rcases tk_cases (g := g) hp with ⟨_, e, _⟩ | ⟨_, _, _, _, e⟩ | ⟨_, _, _, _, e⟩ | ⟨_, _, _, _, e⟩
  · rw [e] at h; rcases h with h | h <;> cases h
  · rw [e] at h; rcases h with h | h <;> cases h
  · split at e
    · exact Or.inl ⟨⟨_, e, tk_num hp e⟩, by assumption⟩
    · exact Or.inr ⟨e, by omega⟩
  · rw [e] at h; rcases h with h | h <;> cases h
/-- what is wrong with a number -/
def nbad (lo hi : Nat) (k : Tk) (y : Nat) : Prop := (k.1 ≠ 2 ∧ k.1 ≠ 5 ∧ y = 1) ∨ (k = kB ∧ y = 2) ∨ (∃ v, k = kN v ∧ ¬ (lo ≤ v ∧ v ≤ hi) ∧ y = 2)
theorem S_readNumber (hg : ∀ i, g i < 256) (hN : N ≤ 700) (hp : p ≤ N) (h : cG g N p I) {lo hi : Nat} (hl : lo < 10000 ∧ hi < 10000) (hq : ∀ I' v, tK g N p = kN v → lo ≤ v → v ≤ hi → cG g N (tnx g N p) I' → aF I I' → Q (.inl (some (.int (nI v)))) (pm_hp L fz t I' J)) (hb : ∀ I' y, nbad lo hi (tK g N p) y → cBd g N y p I' → fF I I' → Q (.inl (some (.int (nI lo)))) (pm_hp L fz t I' J)) : pm_Ev (d + 4) 36 [.ref 1, .int (nI lo), .int (nI hi)] (pm_hp L fz t I J) Q := by
  refine e_X3_readNumber (q_t h.2 ?_)
  obtain ⟨-, -, -, h5, h6, h7⟩ := h.1
  have hnN := tnx_N (g := g) hp
  rw [h5]
  by_cases hk : (tK g N p).1 = 2 ∨ (tK g N p).1 = 5
  · rw [show kd (tK g N p) = 2 from by unfold kd; split <;> omega]
    refine q_t rfl ?_
    rw [h7 hk]
    rcases tk_25 hp hk with ⟨⟨v, e, hv⟩, h4⟩ | ⟨e, h4⟩
    · refine q_f (fun q => by rw [nI_ltI (by omega) (by omega)] at q; omega) ?_
      rw [h6 v e]
      refine q_lt (by omega) (by omega) (fun c => ?_) (fun c => q_le (by omega) (by omega) (fun c2 => ?_) (fun c2 => ?_))
      · exact S_fail (d := d + 2) h (by omega) fun I' a b => kb_X3_readNumber_53 (hb I' 2 (Or.inr (Or.inr ⟨v, e, by omega, rfl⟩)) a b)
      · exact S_adv hg hN hp h fun I' a b => kb_X3_readNumber_60 (hq I' v e c c2 a b)
      · exact S_fail (d := d + 2) h (by omega) fun I' a b => kb_X3_readNumber_53 (hb I' 2 (Or.inr (Or.inr ⟨v, e, by omega, rfl⟩)) a b)
    · exact q_t (nI_lt (by omega) (by omega)) (S_fail (d := d + 2) h (by omega) fun I' a b => kb_X3_readNumber_53 (hb I' 2 (Or.inr (Or.inl ⟨e, rfl⟩)) a b))
  · refine q_f (fun q => hk ?_) (S_fail (d := d + 2) h (by omega) fun I' a b => kb_X3_readNumber_27 (hb I' 1 (Or.inl ⟨fun q => hk (Or.inl q), fun q => hk (Or.inr q), rfl⟩) a b))
    rw [nI_eq (Nat.lt_trans (kd_lt hp) (by omega)) (by omega)] at q
    unfold kd at q
    split at q
    · exact Or.inr (by assumption)
    · exact Or.inl q
theorem S_readNumberB {q y : Nat} (h : cBd g N y q I) {x x' : Int32} (hq : Q (.inl (some (.int x))) (pm_hp L fz t I J)) : pm_Ev (d + 1) 36 [.ref 1, .int x, .int x'] (pm_hp L fz t I J) Q :=
  e_X3_readNumber (q_f (bd_ne h) hq)
end Spec
def fc (a : Nat) : Prop := a = 64 ∨ a = 67 ∨ a = 79 ∨ a = 82
def rF (a : Nat) (I I' : Nat → Nat → Int32) : Prop := (∀ b, b ≠ 1 → b ≠ a → b ≠ a + 1 → I' b = I b) ∧ ∀ k, k < 3 → I' 1 k = I 1 k
theorem rF_f {a : Nat} {I I' : Nat → Nat → Int32} (h : fF I I') : rF a I I' := ⟨fun b h1 _ _ => h.1 b h1, h.2⟩
theorem rF_t {a : Nat} {I I' I'' : Nat → Nat → Int32} (h : rF a I I') (h' : rF a I' I'') : rF a I I'' := ⟨fun b h1 h2 h3 => (h'.1 b h1 h2 h3).trans (h.1 b h1 h2 h3), fun k hk => (h'.2 k hk).trans (h.2 k hk)⟩
/-- codes l stand there and the token at p is the next one; or a fault stands -/
def yG (g : Nat → Nat) (N a p : Nat) (l : List Nat) (I : Nat → Nat → Int32) : Prop := cG g N p I ∧ cF a l I
def yB (g : Nat → Nat) (N a y q : Nat) (I : Nat → Nat → Int32) : Prop := cBd g N y q I ∧ ∃ x, x ≤ 700 ∧ I a 2 = nI x
def af (g : Nat → Nat) (N a : Nat) (l : List Nat) (r : Rs) (I I' : Nat → Nat → Int32) : Prop := rF a I I' ∧ match r with
  | .inl (e, p') => yG g N a p' (l ++ e) I'
  | .inr (y, q) => yB g N a y q I'
theorem cF_a {a : Nat} {l : List Nat} {I I' : Nat → Nat → Int32} (ha : fc a) (hf : ∀ b, b ≠ 1 → I' b = I b) (h : cF a l I) : cF a l I' := by
  unfold fc at ha
  exact cF_of (hf a (by omega)) (hf (a + 1) (by omega)) h
section Spec
variable {d L : Nat} {fz t : Bool} {Q : pm_R → pm_H → Prop} {I : Nat → Nat → Int32} {J : Nat → Nat → Int64} {g : Nat → Nat} {N p a : Nat} {l : List Nat}
theorem fB (ha : fc a) {y q : Nat} {I I' : Nat → Nat → Int32} (hf : fF I I') (h : cF a l I) (hb : cBd g N y q I') : yB g N a y q I' := ⟨hb, l.length, h.1, by rw [hf.1 a (by unfold fc at ha; omega)]; exact h.2.1⟩
theorem yG_a (ha : fc a) {p' : Nat} {I I' : Nat → Nat → Int32} (hf : aF I I') (h : cF a l I) (hb : cG g N p' I') : yG g N a p' l I' := ⟨hb, cF_a ha hf.1 h⟩
theorem S_emit (ha : fc a) (h : yG g N a p l I) {c : Nat} (hc : c < 16 ∨ 32 ≤ c) (hl : l.length < 700) (hq : ∀ I', rF a I I' → yG g N a p (l ++ [c]) I' → Q (.inl none) (pm_hp L fz t I' J)) : pm_Ev (d + 1) 7 [.ref a, .int (nI c)] (pm_hp L fz t I J) Q := by
  refine e_X1_emit ha ?_
  have ha1 : a ≠ 1 ∧ a + 1 ≠ 1 ∧ 2 ≤ a := by unfold fc at ha; omega
  obtain ⟨hG, h1, h2, h3, h4⟩ := h
  rw [h2]
  refine q_f (nI_ge (by omega) (by omega)) ⟨vp_in_nI (by omega) (by omega), ?_⟩
  rw [nI_clamp (by omega), nI_add]
  have e1 : ∀ b, b ≠ a → b ≠ a + 1 → pm_u (pm_u I (a + 1) l.length (nI c)) a 2 (nI (l.length + 1)) b = I b := fun b q1 q2 => by rw [pm_ua q1, pm_ua q2]
  refine hq _ ⟨fun b _ q2 q3 => e1 b q2 q3, fun k _ => by rw [e1 1 (by omega) (by omega)]⟩ ⟨⟨?_, by rw [e1 1 (by omega) (by omega)]; exact hG.2⟩, by simp; omega, by rw [pm_us]; simp, fun v hv => ?_, fun i hi => ?_⟩
  · obtain ⟨⟨k1, k2⟩, k3⟩ := hG.1
    refine ⟨⟨?_, fun i hi => ?_⟩, ?_⟩
    · rw [e1 1 (by omega) (by omega)]; exact k1
    · rw [e1 2 (by unfold fc at ha; omega) (by unfold fc at ha; omega)]; exact k2 i hi
    · rw [e1 1 (by omega) (by omega)]; exact k3
  · rw [pm_uk (by omega), pm_ua (by omega), h3 v hv]
    refine bool_eq ?_
    simp only [List.contains_iff_mem, List.mem_append, List.mem_singleton]
    exact ⟨Or.inl, fun q => q.elim id (fun q => by omega)⟩
  · rw [pm_ua (by omega)]
    simp at hi
    by_cases ei : i = l.length
    · rw [ei, pm_us, List.getD_eq_getElem?_getD, List.getElem?_append_right (Nat.le_refl _)]; simp
    · rw [pm_uk ei, h4 i (by omega), List.getD_eq_getElem?_getD, List.getD_eq_getElem?_getD, List.getElem?_append_left (by omega)]
theorem S_emitB (ha : fc a) {y q : Nat} (h : yB g N a y q I) {x : Int32} (hq : ∀ I', rF a I I' → yB g N a y q I' → Q (.inl none) (pm_hp L fz t I' J)) : pm_Ev (d + 1) 7 [.ref a, .int x] (pm_hp L fz t I J) Q := by
  have ha1 : a ≠ 1 ∧ a + 1 ≠ 1 ∧ 2 ≤ a := by unfold fc at ha; omega
  obtain ⟨hB, n, hn, h2⟩ := h
  refine e_X1_emit ha ?_
  rw [h2]
  refine q_le (by omega) (by omega) (fun e => hq _ ⟨fun _ _ _ _ => rfl, fun _ _ => rfl⟩ ⟨hB, n, hn, h2⟩) (fun e => ⟨vp_in_nI (by omega) (by omega), ?_⟩)
  rw [nI_clamp (by omega), nI_add]
  have e1 : ∀ b, b ≠ a → b ≠ a + 1 → pm_u (pm_u I (a + 1) n x) a 2 (nI (n + 1)) b = I b := fun b q1 q2 => by rw [pm_ua q1, pm_ua q2]
  refine hq _ ⟨fun b _ q2 q3 => e1 b q2 q3, fun k _ => by rw [e1 1 (by omega) (by omega)]⟩ ⟨?_, n + 1, by omega, pm_us⟩
  unfold cBd
  rw [e1 1 (by omega) (by omega)]; exact hB
end Spec
