/-! the reference's formula -/
def mop (c : Nat) : Nat := if c = 0 then 3 else if c = 1 then 5 else if c = 2 then 4 else c + 3
def enc (o : Nat) : List Nat → List Nat
  | [] => [0]
  | c :: cs => if 32 ≤ c then 1 :: (c - 32) :: enc o cs else if 16 ≤ c then 2 :: (c - 16 + o) :: enc o cs else mop c :: enc o cs
/-- these numbers lie in the row from p on -/
def mC (f : Nat → Int32) (p : Nat) (l : List Nat) : Prop := ∀ i, i < l.length → f (p + i) = nI (l.getD i 0)
theorem mC_cons {f : Nat → Int32} {p x : Nat} {l : List Nat} : mC f p (x :: l) ↔ f p = nI x ∧ mC f (p + 1) l := by
  constructor
  · intro h
    refine ⟨h 0 (by simp), fun i hi => ?_⟩
    have := h (i + 1) (by simp; omega)
    rw [show p + 1 + i = p + (i + 1) by omega, this]
    rfl
  · intro h i hi
    cases i with
    | zero => exact h.1
    | succ i =>
      have := h.2 i (by simp at hi; omega)
      rw [show p + (i + 1) = p + 1 + i by omega, this]
      rfl
section Spec
variable {d L : Nat} {fz t : Bool} {Q : pm_R → pm_H → Prop} {I : Nat → Nat → Int32} {J : Nat → Nat → Int64}
theorem S_works {c : Nat} {a b : Int32} (h1 : 1 ≤ c) (h8 : c ≤ 8) (hq : Q (.inl (some (.int (jn c a b)))) (pm_hp L fz t I J)) : pm_Ev (d + 1) 162 [.int (nI (mop c)), .int a, .int b] (pm_hp L fz t I J) Q := by
  refine e_X11_works ?_
  have hm : mop c < 2 ^ 31 := by unfold mop; split <;> (try split) <;> (try split) <;> omega
  rw [nI_toInt hm]
  have hmc : mop c = if c = 1 then 5 else if c = 2 then 4 else c + 3 := by unfold mop; rw [if_neg (by omega)]
  rw [hmc]
  refine ⟨fun h => ?_, fun h => ?_, fun h => ?_, fun h => ?_, fun h => ?_, fun h => ?_, fun h => ?_, fun h => ?_⟩
  · have : c = 8 := by split at h <;> try split at h
                       all_goals omega
    subst this
    refine ⟨fun h => ⟨h, ?_⟩, fun h => ?_⟩ <;> simpa [jn, h] using hq
  · have : c = 2 := by split at h <;> try split at h
                       all_goals omega
    subst this
    refine ⟨fun h => ?_, fun h => ⟨fun h' => ?_, fun h' => ?_⟩⟩
    · simpa [jn, h] using hq
    · simpa [jn, h, h'] using hq
    · simpa [jn, h, h'] using hq
  · have : c = 1 := by split at h <;> try split at h
                       all_goals omega
    subst this
    refine ⟨fun h => ?_, fun h => ⟨fun h' => ?_, fun h' => ?_⟩⟩
    · simpa [jn, h] using hq
    · simpa [jn, h, h'] using hq
    · simpa [jn, h, h'] using hq
  · have : c = 3 := by split at h <;> try split at h
                       all_goals omega
    subst this
    refine ⟨fun h => ?_, fun h => ?_⟩
    · simpa only [jn, if_pos h, if_true, if_false, show ¬ (3 : Nat) = 1 by omega, show ¬ (3 : Nat) = 2 by omega] using hq
    · simpa only [jn, if_neg h, if_true, if_false, show ¬ (3 : Nat) = 1 by omega, show ¬ (3 : Nat) = 2 by omega] using hq
  · have : c = 4 := by split at h <;> try split at h
                       all_goals omega
    subst this
    refine ⟨fun h => ?_, fun h => ?_⟩ <;> simpa [jn, h] using hq
  · have : c = 5 := by split at h <;> try split at h
                       all_goals omega
    subst this
    simpa [jn] using hq
  · have : c = 6 := by split at h <;> try split at h
                       all_goals omega
    subst this
    simpa [jn] using hq
  · have : c = 7 := by split at h <;> try split at h
                       all_goals omega
    subst this
    simpa [jn] using hq
theorem S_reckons {p o n0 : Nat} {codes : List Nat} (hC : mC (I 91) p (enc o codes)) (hp : p + (enc o codes).length ≤ 1400) (hn0 : n0 ≤ 6) (ho : n0 + o ≤ 10) (hw : wf n0 codes 0)
    (hq : ∀ I', (∀ a, a ≠ 106 → I' a = I a) → Q (.inl (some (.int (fw codes (fun v => I 105 (v + o)))))) (pm_hp L fz t I' J)) : pm_Ev (d + 2) 163 [.ref 85, .int (nI p)] (pm_hp L fz t I J) Q := by
  have loop : ∀ (cs : List Nat) (p k : Nat) (I' : Nat → Nat → Int32), mC (I 91) p (enc o cs) → p + (enc o cs).length ≤ 1400 → wf n0 cs k → k ≤ 64 → (∀ a, a ≠ 106 → I' a = I a) → (∀ I'', (∀ a, a ≠ 106 → I'' a = I a) → Q (.inl (some (.int (ew (fun v => I 105 (v + o)) cs (I' 106) k)))) (pm_hp L fz t I'' J)) → t_X11_reckons_4 (d + 1) L fz t Q (nI k) (nI p) I' J := by
    intro cs
    induction cs with
    | nil =>
      intro p k I' hC hp hw hk64 hI hq
      simp only [enc, List.length_cons, List.length_nil, mC_cons] at hC hp
      refine b_X11_reckons_4 ?_
      rw [nI_clamp (by omega : p < 2 ^ 31), hI 91 (by omega), hC.1]
      refine ⟨(vpi (by omega)).mpr (by omega), fun _ => hq I' hI, fun h => absurd rfl h⟩
    | cons c cs ih =>
      intro p k I' hC hp hw hk64 hI hq
      have hup : ∀ (j : Nat) (x : Int32) (a : Nat), a ≠ 106 → pm_u I' 106 j x a = I a := fun j x a h => by rw [pm_ua h]; exact hI a h
      have hrow : ∀ (j : Nat) (x : Int32), pm_u I' 106 j x 106 = upd (I' 106) j x := fun j x => by
        funext y; unfold pm_u upd; simp
      refine b_X11_reckons_4 ?_
      rcases hw with ⟨h16, hcv, hk, hw⟩ | ⟨h0, hk, hw⟩ | ⟨h1, h8, hk, hw⟩
      · have hq' : ∀ I'', (∀ a, a ≠ 106 → I'' a = I a) → Q (.inl (some (.int (ew (fun v => I 105 (v + o)) cs (upd (I' 106) k (if 32 ≤ c then nI (c - 32) else I 105 (c - 16 + o))) (k + 1))))) (pm_hp L fz t I'' J) := by
          intro I'' h
          have := hq I'' h
          simpa only [ew, if_pos h16] using this
        by_cases h32 : 32 ≤ c
        · simp only [enc, if_pos h32, List.length_cons, mC_cons] at hC hp
          rw [nI_add, nI_add, nI_clamp (by omega : p < 2 ^ 31), nI_clamp (by omega : p + 1 < 2 ^ 31), nI_clamp (by omega : k < 2 ^ 31), hI 91 (by omega), hC.1, hC.2.1, nI_add]
          refine ⟨vp_in_nI (by omega) (by omega), q_f (by decide) ⟨vp_in_nI (by omega) (by omega), q_t rfl ⟨vp_in_nI (by omega) (by omega), vp_in_nI (by omega) (by omega), ?_⟩⟩⟩
          refine ih (p + 1 + 1) (k + 1) _ hC.2.2 (by omega) hw (by omega) (hup _ _) ?_
          rw [hrow]
          rw [if_pos h32] at hq'
          exact hq'
        · simp only [enc, if_neg h32, if_pos h16, List.length_cons, mC_cons] at hC hp
          rw [nI_add, nI_clamp (by omega : p < 2 ^ 31), nI_clamp (by omega : p + 1 < 2 ^ 31), nI_clamp (by omega : k < 2 ^ 31), hI 91 (by omega), hC.1, hC.2.1, nI_clamp (by omega), hI 105 (by omega), nI_add, nI_add]
          refine ⟨vp_in_nI (by omega) (by omega), q_f (by decide) ⟨vp_in_nI (by omega) (by omega), q_f (by decide) (q_f' rfl ⟨vp_in_nI (by omega) (by omega), vp_in_nI (by omega) (by omega), vp_in_nI (by omega) (by omega), ?_⟩)⟩⟩
          refine ih (p + 1 + 1) (k + 1) _ hC.2.2 (by omega) hw (by omega) (hup _ _) ?_
          rw [hrow]
          rw [if_neg h32] at hq'
          exact hq'
      · subst h0
        have hq' : ∀ I'', (∀ a, a ≠ 106 → I'' a = I a) → Q (.inl (some (.int (ew (fun v => I 105 (v + o)) cs (upd (I' 106) (k - 1) (nt (I' 106 (k - 1)))) k)))) (pm_hp L fz t I'' J) := by
          intro I'' h
          have := hq I'' h
          simpa only [ew, if_neg (show ¬ 16 ≤ 0 by omega), if_true] using this
        simp only [enc, if_neg (show ¬ 32 ≤ 0 by omega), if_neg (show ¬ 16 ≤ 0 by omega), List.length_cons, mC_cons, show mop 0 = 3 from rfl] at hC hp
        rw [nI_clamp (by omega : p < 2 ^ 31), hI 91 (by omega), hC.1, pk_sub (by omega), nI_clamp (by omega : k - 1 < 2 ^ 31), nI_add]
        refine ⟨vp_in_nI (by omega) (by omega), q_f (by decide) ⟨vp_in_nI (by omega) (by omega), q_f (by decide) (q_t' (by decide) (q_f' rfl ⟨vp_in_nI (by omega) (by omega), fun hz => ⟨vp_in_nI (by omega) (by omega), ?_⟩, fun hz => ⟨vp_in_nI (by omega) (by omega), ?_⟩⟩))⟩⟩
        · refine ih (p + 1) k _ hC.2 (by omega) hw (by omega) (hup _ _) ?_
          rw [hrow]
          unfold nt at hq'; rw [if_neg hz] at hq'
          exact hq'
        · refine ih (p + 1) k _ hC.2 (by omega) hw (by omega) (hup _ _) ?_
          rw [hrow]
          unfold nt at hq'; rw [if_pos hz] at hq'
          exact hq'
      · have hq' : ∀ I'', (∀ a, a ≠ 106 → I'' a = I a) → Q (.inl (some (.int (ew (fun v => I 105 (v + o)) cs (upd (I' 106) (k - 2) (jn c (I' 106 (k - 2)) (I' 106 (k - 1)))) (k - 1))))) (pm_hp L fz t I'' J) := by
          intro I'' h
          have := hq I'' h
          simpa only [ew, if_neg (show ¬ 16 ≤ c by omega), if_neg (show ¬ c = 0 by omega)] using this
        simp only [enc, if_neg (show ¬ 32 ≤ c by omega), if_neg (show ¬ 16 ≤ c by omega), List.length_cons, mC_cons] at hC hp
        have hm : 4 ≤ mop c ∧ mop c ≤ 11 := by unfold mop; rw [if_neg (by omega)]; split <;> try split
                                               all_goals omega
        have hne : ∀ x, x < 4 → ¬ nI (mop c) = nI x := fun x hx e => by rw [nI_eq (by omega) (by omega)] at e; omega
        rw [nI_clamp (by omega : p < 2 ^ 31), hI 91 (by omega), hC.1, sb_m1 (by omega), pk_sub (by omega : 1 ≤ k - 1), nI_clamp (by omega : k - 1 - 1 < 2 ^ 31), nI_clamp (by omega : k - 1 < 2 ^ 31), nI_add]
        refine ⟨vp_in_nI (by omega) (by omega), q_f (hne 0 (by omega)) ⟨vp_in_nI (by omega) (by omega), q_f (hne 1 (by omega)) (q_t' (hne 2 (by omega)) (q_t' (hne 3 (by omega)) ⟨vp_in_nI (by omega) (by omega), vp_in_nI (by omega) (by omega), S_works h1 h8 (kb_X11_reckons_139 ?_)⟩))⟩⟩
        rw [nI_clamp (by omega : k - 1 - 1 < 2 ^ 31)]
        refine ⟨vp_in_nI (by omega) (by omega), ih (p + 1) (k - 1) _ hC.2 (by omega) hw (by omega) (hup _ _) ?_⟩
        rw [hrow, show k - 1 - 1 = k - 2 by omega]
        exact hq'
  refine e_X11_reckons ?_
  refine loop codes p 0 I hC hp hw (by omega) (fun _ _ => rfl) ?_
  intro I' h
  have := hq I' h
  unfold fw at this
  rw [ew_congr (by omega : n0 ≤ 16) codes (I 106) (fun _ => nI 0) 0 hw (fun _ _ _ => rfl) (fun j hj => absurd hj (by omega))]
  exact this
end Spec
