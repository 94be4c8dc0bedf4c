/-! the reference's waiting acts, in its cells -/
def mG (g : Nat → Nat) (N p : Nat) (I : Nat → Nat → Int32) (J : Nat → Nat → Int64) : Prop := mTk g N p I J ∧ I 85 15 = nI 0
def mBd (g : Nat → Nat) (N y q : Nat) (I : Nat → Nat → Int32) : Prop := I 85 15 = nI y ∧ (0 < y ∧ y < 8) ∧ I 85 16 = nI (tst g N q)
theorem mbd_ne {g : Nat → Nat} {N y q : Nat} {I : Nat → Nat → Int32} (h : mBd g N y q I) : ¬ I 85 15 = nI 0 := by
  rw [h.1, nI_eq (by have := h.2.1; omega) (by omega)]; have := h.2.1; omega
/-- only cells 85 (from 15 on: fault, token, top, values, waiting, depth), 100, 101, 102 -/
def wF (I I' : Nat → Nat → Int32) : Prop := (∀ a, a ≠ 85 → a ≠ 100 → a ≠ 101 → a ≠ 102 → I' a = I a) ∧ ∀ k, (k < 15 ∨ k = 17 ∨ k = 18 ∨ (25 ≤ k ∧ k < 32) ∨ 37 ≤ k ∨ ((k = 15 ∨ k = 16) ∧ I' 85 15 = nI 0)) → I' 85 k = I 85 k
theorem wF_r {I : Nat → Nat → Int32} : wF I I := ⟨fun _ _ _ _ _ => rfl, fun _ _ => rfl⟩
theorem wF_t {I I' I'' : Nat → Nat → Int32} (h : wF I I') (h' : wF I' I'') : wF I I'' := ⟨fun a h1 h2 h3 h4 => (h'.1 a h1 h2 h3 h4).trans (h.1 a h1 h2 h3 h4), fun k hk => (h'.2 k hk).trans (h.2 k (by
  rcases hk with q | q | q | q | q | ⟨q, z⟩
  · exact Or.inl q
  · exact Or.inr (Or.inl q)
  · exact Or.inr (Or.inr (Or.inl q))
  · exact Or.inr (Or.inr (Or.inr (Or.inl q)))
  · exact Or.inr (Or.inr (Or.inr (Or.inr (Or.inl q))))
  · exact Or.inr (Or.inr (Or.inr (Or.inr (Or.inr ⟨q, (h'.2 15 (Or.inr (Or.inr (Or.inr (Or.inr (Or.inr ⟨Or.inl rfl, z⟩)))))).symm.trans z⟩))))))⟩
theorem wF_g {I I' : Nat → Nat → Int32} (h : gF I I') : wF I I' := ⟨fun a h1 _ _ _ => h.1 a h1, fun k hk => h.2 k (by omega)⟩
theorem wF_u {I I' : Nat → Nat → Int32} {k : Nat} {v : Int32} (h : wF I I') (hk : (19 ≤ k ∧ k < 25) ∨ (32 ≤ k ∧ k < 37)) : wF I (pm_u I' 85 k v) := ⟨fun a h1 h2 h3 h4 => (pm_ua h1).trans (h.1 a h1 h2 h3 h4), fun j hj => by
  have e : pm_u I' 85 k v 85 15 = I' 85 15 := pm_uk (by omega)
  rw [e] at hj
  exact (pm_uk (by omega)).trans (h.2 j hj)⟩
theorem wF_x {I : Nat → Nat → Int32} {y : Nat} {v : Int32} (hy : 0 < y ∧ y < 8) : wF I (pm_u (pm_u I 85 15 (nI y)) 85 16 v) := ⟨fun a h1 _ _ _ => (pm_ua h1).trans (pm_ua h1), fun j hj => by
  have e : pm_u (pm_u I 85 15 (nI y)) 85 16 v 85 15 = nI y := by rw [pm_uk (by omega), pm_us]
  rw [e] at hj
  have n : ¬ nI y = nI 0 := fun q => by rw [nI_eq (by omega) (by omega)] at q; omega
  have : j ≠ 15 ∧ j ≠ 16 := by
    rcases hj with q | q | q | q | q | ⟨_, z⟩
    · omega
    · omega
    · omega
    · omega
    · omega
    · exact absurd z n
  rw [pm_uk this.2, pm_uk this.1]⟩
theorem wF_c {I I' : Nat → Nat → Int32} {c k : Nat} {v : Int32} (h : wF I I') (hc : c = 100 ∨ c = 101 ∨ c = 102) : wF I (pm_u I' c k v) := ⟨fun a h1 h2 h3 h4 => (pm_ua (by omega)).trans (h.1 a h1 h2 h3 h4), fun j hj => by
  have e : pm_u I' c k v 85 = I' 85 := pm_ua (by omega)
  rw [e] at hj ⊢
  exact h.2 j hj⟩
/-- codes C from b on, waiting acts W (the last one first), whether tested at each depth D (the deepest first), the values' words -/
def yW (lo n0 b : Nat) (W C : List Nat) (D : List Bool) (I : Nat → Nat → Int32) : Prop := (I 85 33 = nI lo ∧ I 85 34 = nI (lo + n0 - 1)) ∧ (I 85 32 = nI (b + C.length) ∧ mC (I 100) b C) ∧ (I 85 35 = nI W.length ∧ mC (I 101) 0 W.reverse) ∧ (I 85 36 = nI D.length ∧ ∀ i, i < D.length → I 102 (i + 1) = bz (D.reverse.getD i false))
def yI (g : Nat → Nat) (N lo n0 b p : Nat) (W C : List Nat) (D : List Bool) (I : Nat → Nat → Int32) (J : Nat → Nat → Int64) : Prop := mG g N p I J ∧ yW lo n0 b W C D I ∧ (b + C.length + W.length + 2 ≤ 2 * p ∧ W.length ≤ p ∧ p ≤ N ∧ D.length ≤ 6 ∧ (∀ z, z ∈ W → z < 100))
theorem yW_g {lo n0 b : Nat} {W C : List Nat} {D : List Bool} {I I' : Nat → Nat → Int32} (h : gF I I') (q : yW lo n0 b W C D I) : yW lo n0 b W C D I' := by
  unfold yW at *
  rw [h.2 33 (by omega), h.2 34 (by omega), h.2 32 (by omega), h.2 35 (by omega), h.2 36 (by omega), h.1 100 (by omega), h.1 101 (by omega), h.1 102 (by omega)]
  exact q
theorem mC_snoc {f : Nat → Int32} {p x : Nat} {l : List Nat} : mC f p (l ++ [x]) ↔ mC f p l ∧ f (p + l.length) = nI x := by
  constructor
  · intro h
    refine ⟨fun i hi => ?_, ?_⟩
    · have := h i (by simp; omega)
      rw [this, List.getD_eq_getElem?_getD, List.getD_eq_getElem?_getD, List.getElem?_append_left hi]
    · have := h l.length (by simp)
      rw [this, List.getD_eq_getElem?_getD, List.getElem?_append_right (Nat.le_refl _)]
      simp
  · intro h i hi
    simp at hi
    by_cases e : i = l.length
    · rw [e, h.2, List.getD_eq_getElem?_getD, List.getElem?_append_right (Nat.le_refl _)]; simp
    · rw [h.1 i (by omega), List.getD_eq_getElem?_getD, List.getD_eq_getElem?_getD, List.getElem?_append_left (by omega)]
theorem mC_u {f : Nat → Nat → Int32} {c p k : Nat} {v : Int32} {l : List Nat} (h : mC (f c) p l) (hk : p + l.length ≤ k) : mC (pm_u f c k v c) p l := fun i hi => by rw [pm_uk (by omega)]; exact h i hi
section Spec
variable {d L : Nat} {fz t : Bool} {Q : pm_R → pm_H → Prop} {I : Nat → Nat → Int32} {J : Nat → Nat → Int64} {g : Nat → Nat} {N p lo n0 b : Nat} {W C : List Nat} {D : List Bool}
theorem S_good (h : I 85 15 = nI 0) (hq : Q (.inl (some (.int (nI 1)))) (pm_hp L fz t I J)) : pm_Ev (d + 1) 134 [.ref 85] (pm_hp L fz t I J) Q := e_X11_isGood (q_f' h hq)
theorem S_goodB {y q : Nat} (h : mBd g N y q I) (hq : Q (.inl (some (.int (nI 0)))) (pm_hp L fz t I J)) : pm_Ev (d + 1) 134 [.ref 85] (pm_hp L fz t I J) Q := e_X11_isGood (q_t' (mbd_ne h) hq)
theorem S_wrong (h : mG g N p I J) {y : Nat} (hy : 0 < y ∧ y < 8) (hq : mBd g N y p (pm_u (pm_u I 85 15 (nI y)) 85 16 (I 85 21)) → wF I (pm_u (pm_u I 85 15 (nI y)) 85 16 (I 85 21)) → Q (.inl none) (pm_hp L fz t (pm_u (pm_u I 85 15 (nI y)) 85 16 (I 85 21)) J)) : pm_Ev (d + 1) 133 [.ref 85, .int (nI y)] (pm_hp L fz t I J) Q :=
  e_X11_wrong (q_t h.2 (hq ⟨by rw [pm_uk (by omega), pm_us], hy, by rw [pm_us]; exact h.1.2.2.2.1⟩ (wF_x hy)))
theorem S_wrongB {y q : Nat} (h : mBd g N y q I) {x : Int32} (hq : Q (.inl none) (pm_hp L fz t I J)) : pm_Ev (d + 1) 133 [.ref 85, .int x] (pm_hp L fz t I J) Q := e_X11_wrong (q_f (mbd_ne h) hq)
theorem srt_3 {c : Nat} (hc : c ∈ ss) (hp : p ≤ N) (h : mTk g N p I J) (hg : ∀ i, g i < 256) : (I 85 20 = nI 3 ∧ I 85 24 = nI c) ↔ tK g N p = kS c := by
  obtain ⟨-, -, h20, -, -, -, h24, -⟩ := h
  constructor
  · rintro ⟨q1, q2⟩
    rcases tk_cases (g := g) hp with ⟨_, e, _⟩ | ⟨_, _, _, _, e⟩ | ⟨_, _, _, _, e⟩ | ⟨_, _, _, _, e⟩
    · rw [h20, e] at q1; exact absurd q1 (by decide)
    · rw [h20, e] at q1; exact absurd q1 (show ¬ nI 1 = nI 3 by decide)
    · rw [h20, e] at q1
      split at q1
      · exact absurd q1 (show ¬ nI 2 = nI 3 by decide)
      · exact absurd q1 (show ¬ nI 2 = nI 3 by decide)
    · rw [h24 _ e] at q2
      have hc' : c < 256 := by unfold ss at hc; simp at hc; omega
      have := hg (tst g N p)
      rw [nI_eq (by omega) (by omega)] at q2
      rw [e, q2]
  · intro q
    refine ⟨?_, h24 c q⟩
    rw [h20, q]
    exact congrArg nI (if_pos hc)
theorem S_mSign (hg : ∀ i, g i < 256) (hp : p ≤ N) (h : mTk g N p I J) {c : Nat} (hc : c ∈ ss) (hq : Q (.inl (some (.int (bz (decide (tK g N p = kS c)))))) (pm_hp L fz t I J)) : pm_Ev (d + 1) 135 [.ref 85, .int (nI c)] (pm_hp L fz t I J) Q := by
  have key := srt_3 hc hp h hg
  refine e_X11_isSign ?_
  by_cases k : tK g N p = kS c
  · rw [show decide (tK g N p = kS c) = true from decide_eq_true k] at hq
    exact q_f' (key.mpr k).1 (q_f' (key.mpr k).2 hq)
  · rw [show decide (tK g N p = kS c) = false from decide_eq_false k] at hq
    refine ⟨fun _ => hq, fun q1 => ⟨fun _ => hq, fun q2 => absurd (key.mp ⟨q1, q2⟩) k⟩⟩
theorem S_puts {x : Nat} (h32 : I 85 32 = nI (b + C.length)) (hb : b + C.length < 1400) (hq : Q (.inl none) (pm_hp L fz t (pm_u (pm_u I 100 (b + C.length) (nI x)) 85 32 (nI (b + C.length + 1))) J)) : pm_Ev (d + 1) 139 [.ref 85, .int (nI x)] (pm_hp L fz t I J) Q := by
  refine e_X11_puts ?_
  rw [h32]
  refine ⟨vp_in_nI (by omega) (by omega), ?_⟩
  rw [nI_clamp (by omega), nI_add]; exact hq
theorem S_waits {x : Nat} (h35 : I 85 35 = nI W.length) (hb : W.length < 950) (hq : Q (.inl none) (pm_hp L fz t (pm_u (pm_u I 101 W.length (nI x)) 85 35 (nI (W.length + 1))) J)) : pm_Ev (d + 1) 143 [.ref 85, .int (nI x)] (pm_hp L fz t I J) Q := by
  refine e_X11_waitsFor ?_
  rw [h35]
  refine ⟨vp_in_nI (by omega) (by omega), ?_⟩
  rw [nI_clamp (by omega), nI_add]; exact hq
theorem S_strength {a : Nat} (ha : a < 100) (hq : Q (.inl (some (.int (nI (stg a))))) (pm_hp L fz t I J)) : pm_Ev (d + 1) 141 [.int (nI a)] (pm_hp L fz t I J) Q := by
  unfold stg at hq
  refine e_X11_strength (q_ne (by omega) (by omega) (fun n5 => ?_) (fun n5 => by rw [if_pos n5] at hq; exact hq))
  rw [if_neg n5] at hq
  refine q_ne (by omega) (by omega) (fun n4 => ?_) (fun n4 => by rw [if_pos n4] at hq; exact hq)
  rw [if_neg n4] at hq
  refine q_ne (by omega) (by omega) (fun n3 => ?_) (fun n3 => by rw [if_pos n3] at hq; exact hq)
  rw [if_neg n3] at hq
  refine q_eq (by omega) (by omega) (fun n6 => by rw [if_pos (Or.inl n6)] at hq; exact hq) (fun n6 => q_ne (by omega) (by omega) (fun n7 => ?_) (fun n7 => by rw [if_pos (Or.inr n7)] at hq; exact hq))
  rw [if_neg (by omega)] at hq
  refine q_eq (by omega) (by omega) (fun n8 => by rw [if_pos (Or.inl n8)] at hq; exact hq) (fun n8 => q_ne (by omega) (by omega) (fun n9 => ?_) (fun n9 => by rw [if_pos (Or.inr n9)] at hq; exact hq))
  rw [if_neg (by omega)] at hq; exact hq
theorem S_isOpen {a : Nat} (ha : a < 100) (hq : Q (.inl (some (.int (bz (decide (14 ≤ a)))))) (pm_hp L fz t I J)) : pm_Ev (d + 1) 140 [.int (nI a)] (pm_hp L fz t I J) Q := by
  refine e_X11_isOpen (q_lt (by omega) (by omega) (fun e => ?_) (fun e => ?_))
  · rw [show decide (14 ≤ a) = false from decide_eq_false (by omega)] at hq; exact hq
  · rw [show decide (14 ≤ a) = true from decide_eq_true e] at hq; exact hq
/-- what waits and is strong enough is put down -/
theorem S_drops {l : Nat} (hl : l < 10) : ∀ (Z W C : List Nat) (I : Nat → Nat → Int32), (∀ z, z ∈ Z → z < 14 ∧ l ≤ stg z) → low l W → (∀ z, z ∈ W → z < 100) → b + C.length + Z.length < 1400 → Z.length + W.length < 950 → yW lo n0 b (Z ++ W) C D I → (∀ I', yW lo n0 b W (C ++ Z) D I' → (∀ a, a ≠ 85 → a ≠ 100 → I' a = I a) → (∀ k, k ≠ 32 → k ≠ 35 → I' 85 k = I 85 k) → Q (.inl none) (pm_hp L fz t I' J)) → t_X11_drops_0 (d + 1) L fz t Q (nI l) I J := by
  intro Z
  induction Z with
  | nil =>
    intro W C I hZ hlow hW hb hw h hq
    refine b_X11_drops_0 ?_
    obtain ⟨h1, h2, ⟨h35, h101⟩, h4⟩ := h
    have hfin : Q (.inl none) (pm_hp L fz t I J) := hq I ⟨h1, by rw [List.append_nil]; exact h2, ⟨h35, h101⟩, h4⟩ (fun _ _ _ => rfl) (fun _ _ _ => rfl)
    simp only [List.nil_append] at h35 h101
    rw [h35]
    cases W with
    | nil => exact q_t (by decide) hfin
    | cons a W =>
      have ha := hW a List.mem_cons_self
      simp only [List.length_cons] at hw ⊢
      refine q_f (fun q => by rw [nI_leI (by omega) (by omega)] at q; omega) ?_
      have e1 : nI (W.length + 1) - nI 1 = nI W.length := by rw [nI_subn (by omega)]; rfl
      have e2 : I 101 W.length = nI a := by
        rw [List.reverse_cons] at h101
        have := (mC_snoc.mp h101).2
        rw [List.length_reverse, Nat.zero_add] at this
        exact this
      rw [e1, nI_clamp (by omega), e2]
      refine ⟨vp_in_nI (by omega) (by omega), S_isOpen (d := d) ha (kb_X11_drops_21 (q_b0' (fun _ => hfin) (fun o => ?_)))⟩
      rw [h35, List.length_cons, e1, nI_clamp (by omega), e2]
      refine ⟨vp_in_nI (by omega) (by omega), S_strength (d := d) ha (kb_X11_drops_38 (q_t ?_ hfin))⟩
      have hs := hlow a rfl
      have ho := of_decide_eq_false o
      exact nI_lt (by omega) (by omega)
  | cons z Z ih =>
    intro W C I hZ hlow hW hb hw h hq
    refine b_X11_drops_0 ?_
    obtain ⟨h1, ⟨h32, h100⟩, ⟨h35, h101⟩, h4⟩ := h
    have hz := hZ z List.mem_cons_self
    simp only [List.cons_append, List.length_cons] at h35 hb hw
    have e1 : nI ((Z ++ W).length + 1) - nI 1 = nI (Z ++ W).length := by rw [nI_subn (by omega)]; rfl
    have hlen : (Z ++ W).length < 950 := by rw [List.length_append]; omega
    rw [List.cons_append, List.reverse_cons] at h101
    have h101' := mC_snoc.mp h101
    have e2 : I 101 (Z ++ W).length = nI z := by
      have := h101'.2
      rw [List.length_reverse, Nat.zero_add] at this
      exact this
    have hsz := stg_le z
    rw [h35]
    refine q_f (fun q => by rw [nI_leI (by omega) (by omega)] at q; omega) ?_
    rw [e1, nI_clamp (by omega), e2]
    refine ⟨vp_in_nI (by omega) (by omega), S_isOpen (d := d) (by omega) (kb_X11_drops_21 ?_)⟩
    rw [show decide (14 ≤ z) = false from decide_eq_false (by omega), h35, e1, nI_clamp (by omega), e2]
    refine q_f' rfl ⟨vp_in_nI (by omega) (by omega), S_strength (d := d) (by omega) (kb_X11_drops_38 ?_)⟩
    rw [h35, e1, nI_clamp (by omega), e2]
    refine q_f (fun q => by rw [nI_ltI (by omega) (by omega)] at q; omega) ⟨vp_in_nI (by omega) (by omega), S_puts (d := d) (b := b) (C := C) ?_ (by omega) (kb_X11_drops_65 ?_)⟩
    · rw [pm_uk (by omega)]; exact h32
    · refine ih W (C ++ [z]) _ (fun x hx => hZ x (List.mem_cons_of_mem _ hx)) hlow hW (by simp; omega) (by omega) ⟨?_, ⟨?_, ?_⟩, ⟨?_, ?_⟩, ?_⟩ (fun I' k1 k2 k3 => hq I' (by simpa using k1) (fun a q1 q2 => ?_) (fun k q1 q2 => ?_))
      · rw [pm_uk (by omega), pm_ua (by omega), pm_uk (by omega), pm_uk (by omega), pm_ua (by omega), pm_uk (by omega)]; exact h1
      · rw [pm_us]; congr 1; simp; omega
      · rw [pm_ua (by omega)]
        refine mC_snoc.mpr ⟨mC_u ?_ (Nat.le_refl _), pm_us⟩
        rw [pm_ua (by omega)]; exact h100
      · rw [pm_uk (by omega), pm_ua (by omega), pm_us]
      · rw [pm_ua (by omega), pm_ua (by omega), pm_ua (by omega)]; exact h101'.1
      · rw [pm_uk (by omega), pm_ua (by omega), pm_uk (by omega), pm_ua (by omega), pm_ua (by omega), pm_ua (by omega)]; exact h4
      · rw [k2 a q1 q2, pm_ua q1, pm_ua q2, pm_ua q1]
      · rw [k3 k q1 q2, pm_uk q1, pm_ua (by omega), pm_uk q2]
end Spec
