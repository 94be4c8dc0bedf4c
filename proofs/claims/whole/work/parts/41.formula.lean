/-! formulas: postfix codes worked out over a row as stack; class and reference do the same -/
def jn (c : Nat) (a b : Int32) : Int32 :=
  if c = 1 then (if a = nI 0 ∧ b = nI 0 then nI 0 else nI 1)
  else if c = 2 then (if a = nI 0 ∨ b = nI 0 then nI 0 else nI 1)
  else if c = 3 then (if b ≤ a then nI 0 else nI 1)
  else if c = 4 then (if a = b then nI 1 else nI 0)
  else if c = 5 then a + b else if c = 6 then a - b else if c = 7 then a * b
  else (if b = nI 0 then nI 0 else a / b)
def nt (a : Int32) : Int32 := if a = nI 0 then nI 1 else nI 0
/-- the worth of codes over values, with a stack of k numbers -/
def ew (vs : Nat → Int32) : List Nat → (Nat → Int32) → Nat → Int32
  | [], sv, _ => sv 0
  | c :: cs, sv, k => if 16 ≤ c then ew vs cs (upd sv k (if 32 ≤ c then nI (c - 32) else vs (c - 16))) (k + 1)
    else if c = 0 then ew vs cs (upd sv (k - 1) (nt (sv (k - 1)))) k
    else ew vs cs (upd sv (k - 2) (jn c (sv (k - 2)) (sv (k - 1)))) (k - 1)
/-- codes that leave one number, over n0 values -/
def wf (n0 : Nat) : List Nat → Nat → Prop
  | [], k => k = 1
  | c :: cs, k => (16 ≤ c ∧ (c < 16 + n0 ∨ 32 ≤ c ∧ c < 10032) ∧ k < 64 ∧ wf n0 cs (k + 1)) ∨ (c = 0 ∧ 1 ≤ k ∧ wf n0 cs k) ∨ (1 ≤ c ∧ c ≤ 8 ∧ 2 ≤ k ∧ wf n0 cs (k - 1))
theorem ew_congr {n0 : Nat} {vs vs' : Nat → Int32} (hn : n0 ≤ 16) : ∀ (cs : List Nat) (sv sv' : Nat → Int32) (k : Nat), wf n0 cs k → (∀ v, v < n0 → 16 + v ∈ cs → vs v = vs' v) → (∀ j, j < k → sv j = sv' j) → ew vs cs sv k = ew vs' cs sv' k
  | [], sv, sv', k, hw, _, hs => by
    have hk : k = 1 := hw
    exact hs 0 (by omega)
  | c :: cs, sv, sv', k, hw, hv, hs => by
    have hv' : ∀ v, v < n0 → 16 + v ∈ cs → vs v = vs' v := fun v h1 h2 => hv v h1 (List.mem_cons_of_mem _ h2)
    have hu : ∀ (m n : Nat) (x : Int32), n ≤ k → (∀ j, j < m → j = n ∨ j < k) → ∀ j, j < m → upd sv n x j = upd sv' n x j := by
      intro m n x _ hm j hj
      by_cases e : j = n
      · rw [e, pk_us, pk_us]
      · rw [pk_un e, pk_un e]
        rcases hm j hj with q | q
        · exact absurd q e
        · exact hs j q
    rcases hw with ⟨h16, hc, hk, hw⟩ | ⟨h0, hk, hw⟩ | ⟨h1, h8, hk, hw⟩
    · simp only [ew, if_pos h16]
      have e : (if 32 ≤ c then nI (c - 32) else vs (c - 16)) = (if 32 ≤ c then nI (c - 32) else vs' (c - 16)) := by
        by_cases h32 : 32 ≤ c
        · rw [if_pos h32, if_pos h32]
        · rw [if_neg h32, if_neg h32]
          exact hv (c - 16) (by omega) (by rw [show 16 + (c - 16) = c by omega]; exact List.mem_cons_self)
      rw [e]
      exact ew_congr hn cs _ _ _ hw hv' (hu _ _ _ (Nat.le_refl _) (fun j hj => by omega))
    · subst h0
      simp only [ew, if_neg (show ¬ 16 ≤ 0 by omega), if_true]
      rw [hs (k - 1) (by omega)]
      exact ew_congr hn cs _ _ _ hw hv' (hu _ _ _ (by omega) (fun j hj => by omega))
    · simp only [ew, if_neg (show ¬ 16 ≤ c by omega), if_neg (show ¬ c = 0 by omega)]
      rw [hs (k - 1) (by omega), hs (k - 2) (by omega)]
      exact ew_congr hn cs _ _ _ hw hv' (hu _ _ _ (by omega) (fun j hj => by omega))
/-- the worth of a formula -/
def fw (l : List Nat) (vs : Nat → Int32) : Int32 := ew vs l (fun _ => nI 0) 0
theorem fw_congr {n0 : Nat} {vs vs' : Nat → Int32} (hn : n0 ≤ 16) {l : List Nat} (hw : wf n0 l 0) (hv : ∀ v, v < n0 → 16 + v ∈ l → vs v = vs' v) : fw l vs = fw l vs' := ew_congr hn l _ _ 0 hw hv (fun j hj => absurd hj (by omega))
/-! the class's formula -/
def cF (b : Nat) (l : List Nat) (I : Nat → Nat → Int32) : Prop := l.length ≤ 700 ∧ I b 2 = nI l.length ∧ (∀ v, v < 16 → bt (I b 3) v = l.contains (16 + v)) ∧ ∀ i, i < l.length → I (b + 1) i = nI (l.getD i 0)
theorem cF_of {b : Nat} {l : List Nat} {I I' : Nat → Nat → Int32} (h0 : I' b = I b) (h1 : I' (b + 1) = I (b + 1)) (h : cF b l I) : cF b l I' := by
  unfold cF at *; rw [h0, h1]; exact h
section Spec
variable {d L : Nat} {fz t : Bool} {Q : pm_R → pm_H → Prop} {I : Nat → Nat → Int32} {J : Nat → Nat → Int64}
theorem S_joined {c : Nat} {a b : Int32} (h1 : 1 ≤ c) (h8 : c ≤ 8) (hq : Q (.inl (some (.int (jn c a b)))) (pm_hp L fz t I J)) : pm_Ev (d + 1) 10 [.int (nI c), .int a, .int b] (pm_hp L fz t I J) Q := by
  refine e_X1_joined ?_
  rw [nI_toInt (by omega : c < 2 ^ 31)]
  refine ⟨fun h => ?_, fun h => ?_, fun h => ?_, fun h => ?_, fun h => ?_, fun h => ?_, fun h => ?_, fun h => ?_⟩
  · have : c = 8 := by omega
    subst this
    refine ⟨fun h => ⟨h, ?_⟩, fun h => ?_⟩ <;> simpa [jn, h] using hq
  · have : c = 1 := by omega
    subst this
    refine ⟨fun h => ?_, fun h => ⟨fun h' => ?_, fun h' => ?_⟩⟩
    · simpa [jn, h] using hq
    · simpa [jn, h, h'] using hq
    · simpa [jn, h, h'] using hq
  · have : c = 2 := by omega
    subst this
    refine ⟨fun h => ?_, fun h => ⟨fun h' => ?_, fun h' => ?_⟩⟩
    · simpa [jn, h] using hq
    · simpa [jn, h, h'] using hq
    · simpa [jn, h, h'] using hq
  · have : c = 3 := by omega
    subst this
    refine ⟨fun h => ?_, fun h => ?_⟩
    · simpa only [jn, if_pos h, if_true, if_false, show ¬ (3 : Nat) = 1 by omega, show ¬ (3 : Nat) = 2 by omega] using hq
    · simpa only [jn, if_neg h, if_true, if_false, show ¬ (3 : Nat) = 1 by omega, show ¬ (3 : Nat) = 2 by omega] using hq
  · have : c = 4 := by omega
    subst this
    refine ⟨fun h => ?_, fun h => ?_⟩ <;> simpa [jn, h] using hq
  · have : c = 5 := by omega
    subst this
    simpa [jn] using hq
  · have : c = 6 := by omega
    subst this
    simpa [jn] using hq
  · have : c = 7 := by omega
    subst this
    simpa [jn] using hq
theorem S_worth {a0 a1 n0 : Nat} (ha0 : a0 = 64 ∨ a0 = 67 ∨ a0 = 79 ∨ a0 = 82) (harr : (a1 = 6 ∧ n0 = 6) ∨ (a1 = 13 ∧ n0 = 4)) {codes : List Nat} (hF : cF a0 codes I) (hw : wf n0 codes 0)
    (hq : ∀ I', (∀ a, a ≠ a0 + 2 → I' a = I a) → Q (.inl (some (.int (fw codes (I a1))))) (pm_hp L fz t I' J)) : pm_Ev (d + 2) 9 [.ref a0, .ref a1] (pm_hp L fz t I J) Q := by
  have hn0 : n0 ≤ 6 := by omega
  have loop : ∀ (cs : List Nat) (i k : Nat) (I' : Nat → Nat → Int32), codes.drop i = cs → i + cs.length = codes.length → wf n0 cs k → k ≤ 64 → (∀ a, a ≠ a0 + 2 → I' a = I a) → (∀ I'', (∀ a, a ≠ a0 + 2 → I'' a = I a) → Q (.inl (some (.int (ew (I a1) cs (I' (a0 + 2)) k)))) (pm_hp L fz t I'' J)) → t_X1_worth_4 (d + 1) L fz t Q a0 a1 (nI k) (nI i) I' J := by
    intro cs
    induction cs with
    | nil =>
      intro i k I' hd hl hw hk64 hI hq
      have hk : k = 1 := hw
      have h7 := hF.1
      simp only [List.length_nil, Nat.add_zero] at hl
      refine b_X1_worth_4 ha0 harr ?_
      rw [hI a0 (by omega), hF.2.1]
      exact q_t (nI_le (by omega) (by omega)) (q_t (nI_le (by omega) (by omega)) (hq I' hI))
    | cons c cs ih =>
      intro i k I' hd hl hw hk64 hI hq
      have h7 := hF.1
      simp only [List.length_cons] at hl
      have hi : i < codes.length := by omega
      have hd' : codes.drop (i + 1) = cs := by rw [← List.drop_drop, hd]; rfl
      have hc : codes.getD i 0 = c := by
        have e := List.drop_eq_getElem_cons hi
        rw [hd] at e
        have e2 := (List.cons.inj e).1
        rw [List.getD_eq_getElem?_getD, List.getElem?_eq_getElem hi, ← e2]
        rfl
      have ec : I' (a0 + 1) (nI i).toNatClampNeg = nI c := by
        rw [nI_clamp (by omega), hI (a0 + 1) (by omega), hF.2.2.2 i hi, hc]
      have hup : ∀ (j : Nat) (x : Int32) (a : Nat), a ≠ a0 + 2 → pm_u I' (a0 + 2) j x a = I a := fun j x a h => by rw [pm_ua h]; exact hI a h
      have hrow : ∀ (j : Nat) (x : Int32), pm_u I' (a0 + 2) j x (a0 + 2) = upd (I' (a0 + 2)) j x := fun j x => by
        funext y; unfold pm_u upd; simp
      refine b_X1_worth_4 ha0 harr ?_
      rw [hI a0 (by omega), hF.2.1, ec]
      refine q_f (nI_ge (by omega) (by omega)) ⟨vp_in_nI (by omega) (by omega), ?_⟩
      rcases hw with ⟨h16, hcv, hk, hw⟩ | ⟨h0, hk, hw⟩ | ⟨h1, h8, hk, hw⟩
      · have hq' : ∀ I'', (∀ a, a ≠ a0 + 2 → I'' a = I a) → Q (.inl (some (.int (ew (I a1) cs (upd (I' (a0 + 2)) k (if 32 ≤ c then nI (c - 32) else I a1 (c - 16))) (k + 1))))) (pm_hp L fz t I'' J) := by
          intro I'' h
          have := hq I'' h
          simpa only [ew, if_pos h16] using this
        refine q_f (nI_nlt (by omega) (by omega)) (q_t (nI_lt (by omega) (by omega)) (q_lt (by omega) (by omega) (fun h32 => ?_) (fun h32 => ⟨vp_in_nI (by omega) (by omega), ?_⟩)))
        · rw [pk_sub (by omega), nI_clamp (by omega : c - 16 < 2 ^ 31), nI_clamp (by omega : k < 2 ^ 31), nI_add, nI_add]
          refine q_f (nI_ge (by omega) (by omega)) ⟨vp_in_nI (by omega) (by omega), vp_in_nI (by omega) (by omega), ?_⟩
          refine ih (i + 1) (k + 1) _ hd' (by omega) hw (by omega) (hup _ _) ?_
          rw [hrow, hI a1 (by omega)]
          rw [if_neg (by omega)] at hq'
          exact hq'
        · rw [pk_sub (by omega), nI_clamp (by omega : k < 2 ^ 31), nI_add, nI_add]
          refine ih (i + 1) (k + 1) _ hd' (by omega) hw (by omega) (hup _ _) ?_
          rw [hrow]
          rw [if_pos (by omega)] at hq'
          exact hq'
      · subst h0
        have hq' : ∀ I'', (∀ a, a ≠ a0 + 2 → I'' a = I a) → Q (.inl (some (.int (ew (I a1) cs (upd (I' (a0 + 2)) (k - 1) (nt (I' (a0 + 2) (k - 1)))) k)))) (pm_hp L fz t I'' J) := by
          intro I'' h
          have := hq I'' h
          simpa only [ew, if_neg (show ¬ 16 ≤ 0 by omega), if_true] using this
        rw [pk_sub (by omega), nI_clamp (by omega : k - 1 < 2 ^ 31), nI_add]
        refine q_t (nI_lt (by omega) (by omega)) (q_f' rfl (q_t (nI_le (by omega) (by omega)) ⟨vp_in_nI (by omega) (by omega), fun hz => ⟨vp_in_nI (by omega) (by omega), ?_⟩, fun hz => ⟨vp_in_nI (by omega) (by omega), ?_⟩⟩))
        · refine ih (i + 1) k _ hd' (by omega) hw (by omega) (hup _ _) ?_
          rw [hrow]
          unfold nt at hq'; rw [if_neg hz] at hq'
          exact hq'
        · refine ih (i + 1) k _ hd' (by omega) hw (by omega) (hup _ _) ?_
          rw [hrow]
          unfold nt at hq'; rw [if_pos hz] at hq'
          exact hq'
      · have hq' : ∀ I'', (∀ a, a ≠ a0 + 2 → I'' a = I a) → Q (.inl (some (.int (ew (I a1) cs (upd (I' (a0 + 2)) (k - 2) (jn c (I' (a0 + 2) (k - 2)) (I' (a0 + 2) (k - 1)))) (k - 1))))) (pm_hp L fz t I'' J) := by
          intro I'' h
          have := hq I'' h
          simpa only [ew, if_neg (show ¬ 16 ≤ c by omega), if_neg (show ¬ c = 0 by omega)] using this
        rw [sb_m1 (by omega), pk_sub (by omega : 1 ≤ k - 1), nI_clamp (by omega : k - 1 - 1 < 2 ^ 31), nI_clamp (by omega : k - 1 < 2 ^ 31)]
        refine q_t (nI_lt (by omega) (by omega)) (q_t' (fun e => ?_) (q_t (nI_le (by omega) (by omega)) ⟨vp_in_nI (by omega) (by omega), vp_in_nI (by omega) (by omega), S_joined h1 h8 (kb_X1_worth_159 ha0 harr ?_)⟩))
        · rw [nI_eq (by omega) (by omega)] at e; omega
        · rw [nI_clamp (by omega : k - 1 - 1 < 2 ^ 31), nI_add]
          refine ⟨vp_in_nI (by omega) (by omega), ih (i + 1) (k - 1) _ hd' (by omega) hw (by omega) (hup _ _) ?_⟩
          rw [hrow, show k - 1 - 1 = k - 2 by omega]
          exact hq'
  refine e_X1_worth ha0 harr ?_
  refine loop codes 0 0 I rfl (by omega) hw (by omega) (fun _ _ => rfl) ?_
  intro I' h
  have := hq I' h
  unfold fw at this
  rw [ew_congr (by omega : n0 ≤ 16) codes (I (a0 + 2)) (fun _ => nI 0) 0 hw (fun _ _ _ => rfl) (fun j hj => absurd hj (by omega))]
  exact this
theorem S_isTold {a0 : Nat} (ha0 : a0 = 64 ∨ a0 = 67 ∨ a0 = 79 ∨ a0 = 82) {codes : List Nat} (hF : cF a0 codes I) (hq : Q (.inl (some (.int (bz (!codes.isEmpty))))) (pm_hp L fz t I J)) : pm_Ev (d + 1) 5 [.ref a0] (pm_hp L fz t I J) Q := by
  refine e_X1_isTold ha0 ?_
  have h7 := hF.1
  rw [hF.2.1]
  cases codes with
  | nil => exact ⟨fun _ => hq, fun h => absurd (by decide) h⟩
  | cons c cs =>
    simp only [List.length_cons] at h7 ⊢
    simp (disch := omega) only [nI_leI]
    exact ⟨fun h => by omega, fun _ => hq⟩
theorem S_uses {a0 v : Nat} (ha0 : a0 = 64 ∨ a0 = 67 ∨ a0 = 79 ∨ a0 = 82) {codes : List Nat} (hF : cF a0 codes I) (hv : v < 16) (hq : Q (.inl (some (.int (bz (codes.contains (16 + v)))))) (pm_hp L fz t I J)) : pm_Ev (d + 1) 6 [.ref a0, .int (nI v)] (pm_hp L fz t I J) Q := by
  refine e_X1_uses ha0 ?_
  rw [b_bit _ (by omega : v < 32), hF.2.2.1 v hv]
  cases hb : codes.contains (16 + v) with
  | true => rw [hb] at hq; exact ⟨fun h => absurd rfl h, fun _ => hq⟩
  | false => rw [hb] at hq; exact ⟨fun _ => hq, fun h => absurd h (by decide)⟩
end Spec
