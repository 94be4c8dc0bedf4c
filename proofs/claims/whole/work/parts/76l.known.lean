/-! the reference's known words; written by wip/whole/gen_known.py -/
def rpk : List Nat → Nat
  | [] => 0
  | c :: cs => rpk cs * 32 + (c - 96)
def pkl (w : List Nat) : Nat := rpk w.reverse
theorem rpk_inj : ∀ (a b : List Nat), (∀ c, c ∈ a → bL c = true) → (∀ c, c ∈ b → bL c = true) → rpk a = rpk b → a = b
  | [], [], _, _, _ => rfl
  | [], c :: b, _, h, e => by
    have := h c List.mem_cons_self
    unfold bL at this; simp at this
    unfold rpk at e
    omega
  | c :: a, [], h, _, e => by
    have := h c List.mem_cons_self
    unfold bL at this; simp at this
    unfold rpk at e
    omega
  | c :: a, c' :: b, h, h', e => by
    have h1 := h c List.mem_cons_self
    have h2 := h' c' List.mem_cons_self
    unfold bL at h1 h2; simp at h1 h2
    unfold rpk at e
    have e1 : c = c' := by omega
    have e2 : rpk a = rpk b := by omega
    rw [e1, rpk_inj a b (fun x hx => h x (List.mem_cons_of_mem _ hx)) (fun x hx => h' x (List.mem_cons_of_mem _ hx)) e2]
theorem pkl_inj {a b : List Nat} (h : ∀ c, c ∈ a → bL c = true) (h' : ∀ c, c ∈ b → bL c = true) (e : pkl a = pkl b) : a = b := by
  have := rpk_inj a.reverse b.reverse (fun c hc => h c (List.mem_reverse.mp hc)) (fun c hc => h' c (List.mem_reverse.mp hc)) e
  exact List.reverse_inj.mp this
theorem pkn_pkl (g : Nat → Nat) (s : Nat) : ∀ n, pkn g s n = pkl (wrd g s n)
  | 0 => rfl
  | n + 1 => by
    have e : wrd g s (n + 1) = wrd g s n ++ [g (s + n)] := by unfold wrd; rw [List.range_succ, List.map_append]; rfl
    rw [e]
    unfold pkn pkl
    rw [List.reverse_append, pkn_pkl g s n]
    rfl
theorem wds_ok : ∀ k, k < 19 → (∀ c, c ∈ wds.getD k [] → bL c = true) ∧ (wds.getD k []).length ≤ 7 ∧ pkl (wds.getD k []) < 2 ^ 40 := by decide +kernel
theorem Qv {Q : pm_R → pm_H → Prop} {H : pm_H} {v v' : Int64} (hq : Q (.inl (some (.long v))) H) (e : v' = v) : Q (.inl (some (.long v'))) H := e ▸ hq
section Spec
variable {d L : Nat} {fz t : Bool} {Q : pm_R → pm_H → Prop} {I : Nat → Nat → Int32} {J : Nat → Nat → Int64} {g : Nat → Nat} {N p : Nat}
theorem S_let0 (hq : Q (.inl (some (.long (lN (pkl (wds.getD 0 [])))))) (pm_hp L fz t I J)) : pm_Ev (d + 2) 131 [.int (nI 0)] (pm_hp L fz t I J) Q :=
  e_X11_letters ⟨fun h => absurd h (by decide), fun _ => e_X11_spelled (q_f (by decide) (b_X11_spelled_32 (q_f (by decide) (b_X11_spelled_48 (q_t (by decide) (b_X11_spelled_66 (q_t (by decide) (b_X11_spelled_84 (q_t (by decide) (b_X11_spelled_102 (kb_X11_letters_102 (Qv hq (by decide +kernel))))))))))))), fun h => absurd h (by decide), fun h => absurd h (by decide), fun h => absurd h (by decide), fun h => absurd h (by decide), fun h => absurd h (by decide), fun h => absurd h (by decide), fun h => absurd h (by decide), fun h => absurd h (by decide), fun h => absurd h (by decide), fun h => absurd h (by decide), fun h => absurd h (by decide), fun h => absurd h (by decide), fun h => absurd h (by decide), fun h => absurd h (by decide), fun h => absurd h (by decide), fun h => absurd h (by decide), fun h => absurd h (by decide)⟩
theorem S_let1 (hq : Q (.inl (some (.long (lN (pkl (wds.getD 1 [])))))) (pm_hp L fz t I J)) : pm_Ev (d + 2) 131 [.int (nI 1)] (pm_hp L fz t I J) Q :=
  e_X11_letters ⟨fun h => absurd h (by decide), fun h => absurd h (by decide), fun _ => e_X11_spelled (q_f (by decide) (b_X11_spelled_32 (q_f (by decide) (b_X11_spelled_48 (q_f (by decide) (b_X11_spelled_66 (q_f (by decide) (b_X11_spelled_84 (q_t (by decide) (b_X11_spelled_102 (kb_X11_letters_119 (Qv hq (by decide +kernel))))))))))))), fun h => absurd h (by decide), fun h => absurd h (by decide), fun h => absurd h (by decide), fun h => absurd h (by decide), fun h => absurd h (by decide), fun h => absurd h (by decide), fun h => absurd h (by decide), fun h => absurd h (by decide), fun h => absurd h (by decide), fun h => absurd h (by decide), fun h => absurd h (by decide), fun h => absurd h (by decide), fun h => absurd h (by decide), fun h => absurd h (by decide), fun h => absurd h (by decide), fun h => absurd h (by decide)⟩
theorem S_let2 (hq : Q (.inl (some (.long (lN (pkl (wds.getD 2 [])))))) (pm_hp L fz t I J)) : pm_Ev (d + 2) 131 [.int (nI 2)] (pm_hp L fz t I J) Q :=
  e_X11_letters ⟨fun h => absurd h (by decide), fun h => absurd h (by decide), fun h => absurd h (by decide), fun _ => e_X11_spelled (q_f (by decide) (b_X11_spelled_32 (q_f (by decide) (b_X11_spelled_48 (q_f (by decide) (b_X11_spelled_66 (q_t (by decide) (b_X11_spelled_84 (q_t (by decide) (b_X11_spelled_102 (kb_X11_letters_135 (Qv hq (by decide +kernel))))))))))))), fun h => absurd h (by decide), fun h => absurd h (by decide), fun h => absurd h (by decide), fun h => absurd h (by decide), fun h => absurd h (by decide), fun h => absurd h (by decide), fun h => absurd h (by decide), fun h => absurd h (by decide), fun h => absurd h (by decide), fun h => absurd h (by decide), fun h => absurd h (by decide), fun h => absurd h (by decide), fun h => absurd h (by decide), fun h => absurd h (by decide), fun h => absurd h (by decide)⟩
theorem S_let3 (hq : Q (.inl (some (.long (lN (pkl (wds.getD 3 [])))))) (pm_hp L fz t I J)) : pm_Ev (d + 2) 131 [.int (nI 3)] (pm_hp L fz t I J) Q :=
  e_X11_letters ⟨fun h => absurd h (by decide), fun h => absurd h (by decide), fun h => absurd h (by decide), fun h => absurd h (by decide), fun _ => e_X11_spelled (q_f (by decide) (b_X11_spelled_32 (q_f (by decide) (b_X11_spelled_48 (q_t (by decide) (b_X11_spelled_66 (q_t (by decide) (b_X11_spelled_84 (q_t (by decide) (b_X11_spelled_102 (kb_X11_letters_150 (Qv hq (by decide +kernel))))))))))))), fun h => absurd h (by decide), fun h => absurd h (by decide), fun h => absurd h (by decide), fun h => absurd h (by decide), fun h => absurd h (by decide), fun h => absurd h (by decide), fun h => absurd h (by decide), fun h => absurd h (by decide), fun h => absurd h (by decide), fun h => absurd h (by decide), fun h => absurd h (by decide), fun h => absurd h (by decide), fun h => absurd h (by decide), fun h => absurd h (by decide)⟩
theorem S_let4 (hq : Q (.inl (some (.long (lN (pkl (wds.getD 4 [])))))) (pm_hp L fz t I J)) : pm_Ev (d + 2) 131 [.int (nI 4)] (pm_hp L fz t I J) Q :=
  e_X11_letters ⟨fun h => absurd h (by decide), fun h => absurd h (by decide), fun h => absurd h (by decide), fun h => absurd h (by decide), fun h => absurd h (by decide), fun _ => e_X11_spelled (q_f (by decide) (b_X11_spelled_32 (q_f (by decide) (b_X11_spelled_48 (q_f (by decide) (b_X11_spelled_66 (q_f (by decide) (b_X11_spelled_84 (q_t (by decide) (b_X11_spelled_102 (kb_X11_letters_167 (Qv hq (by decide +kernel))))))))))))), fun h => absurd h (by decide), fun h => absurd h (by decide), fun h => absurd h (by decide), fun h => absurd h (by decide), fun h => absurd h (by decide), fun h => absurd h (by decide), fun h => absurd h (by decide), fun h => absurd h (by decide), fun h => absurd h (by decide), fun h => absurd h (by decide), fun h => absurd h (by decide), fun h => absurd h (by decide), fun h => absurd h (by decide)⟩
theorem S_let5 (hq : Q (.inl (some (.long (lN (pkl (wds.getD 5 [])))))) (pm_hp L fz t I J)) : pm_Ev (d + 2) 131 [.int (nI 5)] (pm_hp L fz t I J) Q :=
  e_X11_letters ⟨fun h => absurd h (by decide), fun h => absurd h (by decide), fun h => absurd h (by decide), fun h => absurd h (by decide), fun h => absurd h (by decide), fun h => absurd h (by decide), fun _ => e_X11_spelled (q_f (by decide) (b_X11_spelled_32 (q_f (by decide) (b_X11_spelled_48 (q_t (by decide) (b_X11_spelled_66 (q_t (by decide) (b_X11_spelled_84 (q_t (by decide) (b_X11_spelled_102 (kb_X11_letters_182 (Qv hq (by decide +kernel))))))))))))), fun h => absurd h (by decide), fun h => absurd h (by decide), fun h => absurd h (by decide), fun h => absurd h (by decide), fun h => absurd h (by decide), fun h => absurd h (by decide), fun h => absurd h (by decide), fun h => absurd h (by decide), fun h => absurd h (by decide), fun h => absurd h (by decide), fun h => absurd h (by decide), fun h => absurd h (by decide)⟩
theorem S_let6 (hq : Q (.inl (some (.long (lN (pkl (wds.getD 6 [])))))) (pm_hp L fz t I J)) : pm_Ev (d + 2) 131 [.int (nI 6)] (pm_hp L fz t I J) Q :=
  e_X11_letters ⟨fun h => absurd h (by decide), fun h => absurd h (by decide), fun h => absurd h (by decide), fun h => absurd h (by decide), fun h => absurd h (by decide), fun h => absurd h (by decide), fun h => absurd h (by decide), fun _ => e_X11_spelled (q_f (by decide) (b_X11_spelled_32 (q_f (by decide) (b_X11_spelled_48 (q_f (by decide) (b_X11_spelled_66 (q_t (by decide) (b_X11_spelled_84 (q_t (by decide) (b_X11_spelled_102 (kb_X11_letters_198 (Qv hq (by decide +kernel))))))))))))), fun h => absurd h (by decide), fun h => absurd h (by decide), fun h => absurd h (by decide), fun h => absurd h (by decide), fun h => absurd h (by decide), fun h => absurd h (by decide), fun h => absurd h (by decide), fun h => absurd h (by decide), fun h => absurd h (by decide), fun h => absurd h (by decide), fun h => absurd h (by decide)⟩
theorem S_let7 (hq : Q (.inl (some (.long (lN (pkl (wds.getD 7 [])))))) (pm_hp L fz t I J)) : pm_Ev (d + 2) 131 [.int (nI 7)] (pm_hp L fz t I J) Q :=
  e_X11_letters ⟨fun h => absurd h (by decide), fun h => absurd h (by decide), fun h => absurd h (by decide), fun h => absurd h (by decide), fun h => absurd h (by decide), fun h => absurd h (by decide), fun h => absurd h (by decide), fun h => absurd h (by decide), fun _ => e_X11_spelled (q_f (by decide) (b_X11_spelled_32 (q_f (by decide) (b_X11_spelled_48 (q_f (by decide) (b_X11_spelled_66 (q_t (by decide) (b_X11_spelled_84 (q_t (by decide) (b_X11_spelled_102 (kb_X11_letters_214 (Qv hq (by decide +kernel))))))))))))), fun h => absurd h (by decide), fun h => absurd h (by decide), fun h => absurd h (by decide), fun h => absurd h (by decide), fun h => absurd h (by decide), fun h => absurd h (by decide), fun h => absurd h (by decide), fun h => absurd h (by decide), fun h => absurd h (by decide), fun h => absurd h (by decide)⟩
theorem S_let8 (hq : Q (.inl (some (.long (lN (pkl (wds.getD 8 [])))))) (pm_hp L fz t I J)) : pm_Ev (d + 2) 131 [.int (nI 8)] (pm_hp L fz t I J) Q :=
  e_X11_letters ⟨fun h => absurd h (by decide), fun h => absurd h (by decide), fun h => absurd h (by decide), fun h => absurd h (by decide), fun h => absurd h (by decide), fun h => absurd h (by decide), fun h => absurd h (by decide), fun h => absurd h (by decide), fun h => absurd h (by decide), fun _ => e_X11_spelled (q_f (by decide) (b_X11_spelled_32 (q_f (by decide) (b_X11_spelled_48 (q_f (by decide) (b_X11_spelled_66 (q_t (by decide) (b_X11_spelled_84 (q_t (by decide) (b_X11_spelled_102 (kb_X11_letters_230 (Qv hq (by decide +kernel))))))))))))), fun h => absurd h (by decide), fun h => absurd h (by decide), fun h => absurd h (by decide), fun h => absurd h (by decide), fun h => absurd h (by decide), fun h => absurd h (by decide), fun h => absurd h (by decide), fun h => absurd h (by decide), fun h => absurd h (by decide)⟩
theorem S_let9 (hq : Q (.inl (some (.long (lN (pkl (wds.getD 9 [])))))) (pm_hp L fz t I J)) : pm_Ev (d + 2) 131 [.int (nI 9)] (pm_hp L fz t I J) Q :=
  e_X11_letters ⟨fun h => absurd h (by decide), fun h => absurd h (by decide), fun h => absurd h (by decide), fun h => absurd h (by decide), fun h => absurd h (by decide), fun h => absurd h (by decide), fun h => absurd h (by decide), fun h => absurd h (by decide), fun h => absurd h (by decide), fun h => absurd h (by decide), fun _ => e_X11_spelled (q_f (by decide) (b_X11_spelled_32 (q_f (by decide) (b_X11_spelled_48 (q_f (by decide) (b_X11_spelled_66 (q_f (by decide) (b_X11_spelled_84 (q_t (by decide) (b_X11_spelled_102 (kb_X11_letters_247 (Qv hq (by decide +kernel))))))))))))), fun h => absurd h (by decide), fun h => absurd h (by decide), fun h => absurd h (by decide), fun h => absurd h (by decide), fun h => absurd h (by decide), fun h => absurd h (by decide), fun h => absurd h (by decide), fun h => absurd h (by decide)⟩
theorem S_let10 (hq : Q (.inl (some (.long (lN (pkl (wds.getD 10 [])))))) (pm_hp L fz t I J)) : pm_Ev (d + 2) 131 [.int (nI 10)] (pm_hp L fz t I J) Q :=
  e_X11_letters ⟨fun h => absurd h (by decide), fun h => absurd h (by decide), fun h => absurd h (by decide), fun h => absurd h (by decide), fun h => absurd h (by decide), fun h => absurd h (by decide), fun h => absurd h (by decide), fun h => absurd h (by decide), fun h => absurd h (by decide), fun h => absurd h (by decide), fun h => absurd h (by decide), fun _ => e_X11_spelled (q_f (by decide) (b_X11_spelled_32 (q_f (by decide) (b_X11_spelled_48 (q_f (by decide) (b_X11_spelled_66 (q_f (by decide) (b_X11_spelled_84 (q_f (by decide) (b_X11_spelled_102 (kb_X11_letters_265 (Qv hq (by decide +kernel))))))))))))), fun h => absurd h (by decide), fun h => absurd h (by decide), fun h => absurd h (by decide), fun h => absurd h (by decide), fun h => absurd h (by decide), fun h => absurd h (by decide), fun h => absurd h (by decide)⟩
theorem S_let11 (hq : Q (.inl (some (.long (lN (pkl (wds.getD 11 [])))))) (pm_hp L fz t I J)) : pm_Ev (d + 2) 131 [.int (nI 11)] (pm_hp L fz t I J) Q :=
  e_X11_letters ⟨fun h => absurd h (by decide), fun h => absurd h (by decide), fun h => absurd h (by decide), fun h => absurd h (by decide), fun h => absurd h (by decide), fun h => absurd h (by decide), fun h => absurd h (by decide), fun h => absurd h (by decide), fun h => absurd h (by decide), fun h => absurd h (by decide), fun h => absurd h (by decide), fun h => absurd h (by decide), fun _ => e_X11_spelled (q_f (by decide) (b_X11_spelled_32 (q_f (by decide) (b_X11_spelled_48 (q_t (by decide) (b_X11_spelled_66 (q_t (by decide) (b_X11_spelled_84 (q_t (by decide) (b_X11_spelled_102 (kb_X11_letters_280 (Qv hq (by decide +kernel))))))))))))), fun h => absurd h (by decide), fun h => absurd h (by decide), fun h => absurd h (by decide), fun h => absurd h (by decide), fun h => absurd h (by decide), fun h => absurd h (by decide)⟩
theorem S_let12 (hq : Q (.inl (some (.long (lN (pkl (wds.getD 12 [])))))) (pm_hp L fz t I J)) : pm_Ev (d + 2) 131 [.int (nI 12)] (pm_hp L fz t I J) Q :=
  e_X11_letters ⟨fun h => absurd h (by decide), fun h => absurd h (by decide), fun h => absurd h (by decide), fun h => absurd h (by decide), fun h => absurd h (by decide), fun h => absurd h (by decide), fun h => absurd h (by decide), fun h => absurd h (by decide), fun h => absurd h (by decide), fun h => absurd h (by decide), fun h => absurd h (by decide), fun h => absurd h (by decide), fun h => absurd h (by decide), fun _ => e_X11_spelled (q_f (by decide) (b_X11_spelled_32 (q_f (by decide) (b_X11_spelled_48 (q_t (by decide) (b_X11_spelled_66 (q_t (by decide) (b_X11_spelled_84 (q_t (by decide) (b_X11_spelled_102 (kb_X11_letters_295 (Qv hq (by decide +kernel))))))))))))), fun h => absurd h (by decide), fun h => absurd h (by decide), fun h => absurd h (by decide), fun h => absurd h (by decide), fun h => absurd h (by decide)⟩
theorem S_let13 (hq : Q (.inl (some (.long (lN (pkl (wds.getD 13 [])))))) (pm_hp L fz t I J)) : pm_Ev (d + 2) 131 [.int (nI 13)] (pm_hp L fz t I J) Q :=
  e_X11_letters ⟨fun h => absurd h (by decide), fun h => absurd h (by decide), fun h => absurd h (by decide), fun h => absurd h (by decide), fun h => absurd h (by decide), fun h => absurd h (by decide), fun h => absurd h (by decide), fun h => absurd h (by decide), fun h => absurd h (by decide), fun h => absurd h (by decide), fun h => absurd h (by decide), fun h => absurd h (by decide), fun h => absurd h (by decide), fun h => absurd h (by decide), fun _ => e_X11_spelled (q_f (by decide) (b_X11_spelled_32 (q_f (by decide) (b_X11_spelled_48 (q_f (by decide) (b_X11_spelled_66 (q_f (by decide) (b_X11_spelled_84 (q_t (by decide) (b_X11_spelled_102 (kb_X11_letters_312 (Qv hq (by decide +kernel))))))))))))), fun h => absurd h (by decide), fun h => absurd h (by decide), fun h => absurd h (by decide), fun h => absurd h (by decide)⟩
theorem S_let14 (hq : Q (.inl (some (.long (lN (pkl (wds.getD 14 [])))))) (pm_hp L fz t I J)) : pm_Ev (d + 2) 131 [.int (nI 14)] (pm_hp L fz t I J) Q :=
  e_X11_letters ⟨fun h => absurd h (by decide), fun h => absurd h (by decide), fun h => absurd h (by decide), fun h => absurd h (by decide), fun h => absurd h (by decide), fun h => absurd h (by decide), fun h => absurd h (by decide), fun h => absurd h (by decide), fun h => absurd h (by decide), fun h => absurd h (by decide), fun h => absurd h (by decide), fun h => absurd h (by decide), fun h => absurd h (by decide), fun h => absurd h (by decide), fun h => absurd h (by decide), fun _ => e_X11_spelled (q_t (by decide) (b_X11_spelled_32 (q_t (by decide) (b_X11_spelled_48 (q_t (by decide) (b_X11_spelled_66 (q_t (by decide) (b_X11_spelled_84 (q_t (by decide) (b_X11_spelled_102 (kb_X11_letters_325 (Qv hq (by decide +kernel))))))))))))), fun h => absurd h (by decide), fun h => absurd h (by decide), fun h => absurd h (by decide)⟩
theorem S_let15 (hq : Q (.inl (some (.long (lN (pkl (wds.getD 15 [])))))) (pm_hp L fz t I J)) : pm_Ev (d + 2) 131 [.int (nI 15)] (pm_hp L fz t I J) Q :=
  e_X11_letters ⟨fun h => absurd h (by decide), fun h => absurd h (by decide), fun h => absurd h (by decide), fun h => absurd h (by decide), fun h => absurd h (by decide), fun h => absurd h (by decide), fun h => absurd h (by decide), fun h => absurd h (by decide), fun h => absurd h (by decide), fun h => absurd h (by decide), fun h => absurd h (by decide), fun h => absurd h (by decide), fun h => absurd h (by decide), fun h => absurd h (by decide), fun h => absurd h (by decide), fun h => absurd h (by decide), fun _ => e_X11_spelled (q_f (by decide) (b_X11_spelled_32 (q_f (by decide) (b_X11_spelled_48 (q_t (by decide) (b_X11_spelled_66 (q_t (by decide) (b_X11_spelled_84 (q_t (by decide) (b_X11_spelled_102 (kb_X11_letters_340 (Qv hq (by decide +kernel))))))))))))), fun h => absurd h (by decide), fun h => absurd h (by decide)⟩
theorem S_let16 (hq : Q (.inl (some (.long (lN (pkl (wds.getD 16 [])))))) (pm_hp L fz t I J)) : pm_Ev (d + 2) 131 [.int (nI 16)] (pm_hp L fz t I J) Q :=
  e_X11_letters ⟨fun h => absurd h (by decide), fun h => absurd h (by decide), fun h => absurd h (by decide), fun h => absurd h (by decide), fun h => absurd h (by decide), fun h => absurd h (by decide), fun h => absurd h (by decide), fun h => absurd h (by decide), fun h => absurd h (by decide), fun h => absurd h (by decide), fun h => absurd h (by decide), fun h => absurd h (by decide), fun h => absurd h (by decide), fun h => absurd h (by decide), fun h => absurd h (by decide), fun h => absurd h (by decide), fun h => absurd h (by decide), fun _ => e_X11_spelled (q_f (by decide) (b_X11_spelled_32 (q_t (by decide) (b_X11_spelled_48 (q_t (by decide) (b_X11_spelled_66 (q_t (by decide) (b_X11_spelled_84 (q_t (by decide) (b_X11_spelled_102 (kb_X11_letters_354 (Qv hq (by decide +kernel))))))))))))), fun h => absurd h (by decide)⟩
theorem S_let17 (hq : Q (.inl (some (.long (lN (pkl (wds.getD 17 [])))))) (pm_hp L fz t I J)) : pm_Ev (d + 2) 131 [.int (nI 17)] (pm_hp L fz t I J) Q :=
  e_X11_letters ⟨fun h => absurd h (by decide), fun h => absurd h (by decide), fun h => absurd h (by decide), fun h => absurd h (by decide), fun h => absurd h (by decide), fun h => absurd h (by decide), fun h => absurd h (by decide), fun h => absurd h (by decide), fun h => absurd h (by decide), fun h => absurd h (by decide), fun h => absurd h (by decide), fun h => absurd h (by decide), fun h => absurd h (by decide), fun h => absurd h (by decide), fun h => absurd h (by decide), fun h => absurd h (by decide), fun h => absurd h (by decide), fun h => absurd h (by decide), fun _ => e_X11_spelled (q_t (by decide) (b_X11_spelled_32 (q_t (by decide) (b_X11_spelled_48 (q_t (by decide) (b_X11_spelled_66 (q_t (by decide) (b_X11_spelled_84 (q_t (by decide) (b_X11_spelled_102 (kb_X11_letters_367 (Qv hq (by decide +kernel)))))))))))))⟩
theorem S_let18 (hq : Q (.inl (some (.long (lN (pkl (wds.getD 18 [])))))) (pm_hp L fz t I J)) : pm_Ev (d + 2) 131 [.int (nI 18)] (pm_hp L fz t I J) Q :=
  e_X11_letters ⟨fun _ => e_X11_spelled (q_f (by decide) (b_X11_spelled_32 (q_t (by decide) (b_X11_spelled_48 (q_t (by decide) (b_X11_spelled_66 (q_t (by decide) (b_X11_spelled_84 (q_t (by decide) (b_X11_spelled_102 (kb_X11_letters_381 (Qv hq (by decide +kernel))))))))))))), fun h => absurd h (by decide), fun h => absurd h (by decide), fun h => absurd h (by decide), fun h => absurd h (by decide), fun h => absurd h (by decide), fun h => absurd h (by decide), fun h => absurd h (by decide), fun h => absurd h (by decide), fun h => absurd h (by decide), fun h => absurd h (by decide), fun h => absurd h (by decide), fun h => absurd h (by decide), fun h => absurd h (by decide), fun h => absurd h (by decide), fun h => absurd h (by decide), fun h => absurd h (by decide), fun h => absurd h (by decide), fun h => absurd h (by decide)⟩
theorem S_letters {k : Nat} (hk : k < 19) (hq : Q (.inl (some (.long (lN (pkl (wds.getD k [])))))) (pm_hp L fz t I J)) : pm_Ev (d + 2) 131 [.int (nI k)] (pm_hp L fz t I J) Q := by
  match k, hk, hq with
  | 0, _, hq => exact S_let0 hq
  | 1, _, hq => exact S_let1 hq
  | 2, _, hq => exact S_let2 hq
  | 3, _, hq => exact S_let3 hq
  | 4, _, hq => exact S_let4 hq
  | 5, _, hq => exact S_let5 hq
  | 6, _, hq => exact S_let6 hq
  | 7, _, hq => exact S_let7 hq
  | 8, _, hq => exact S_let8 hq
  | 9, _, hq => exact S_let9 hq
  | 10, _, hq => exact S_let10 hq
  | 11, _, hq => exact S_let11 hq
  | 12, _, hq => exact S_let12 hq
  | 13, _, hq => exact S_let13 hq
  | 14, _, hq => exact S_let14 hq
  | 15, _, hq => exact S_let15 hq
  | 16, _, hq => exact S_let16 hq
  | 17, _, hq => exact S_let17 hq
  | 18, _, hq => exact S_let18 hq
  | k + 19, hk, _ => exact absurd hk (by omega)
/-- which known word a token is -/
def kv (k : Tk) (x : Int32) : Prop := (∃ j, j < 19 ∧ k = kW j ∧ x = nI j) ∨ ((∀ j, j < 19 → k ≠ kW j) ∧ x = -1)
theorem lg_0 (x y : Int64) : lg_cmp x y = nI 0 ↔ x = y := by
  unfold lg_cmp
  constructor
  · intro h
    split at h
    · exact absurd h (by decide)
    · split at h
      · assumption
      · exact absurd h (by decide)
  · intro h
    subst h
    rw [if_neg (by rw [gt_iff_lt, fa_lt64]; omega), if_pos rfl]
    rfl
theorem S_known (hp : p ≤ N) (hN : N ≤ 700) (h : mTk g N p I J) (hq : ∀ x, kv (tK g N p) x → Q (.inl (some (.int x))) (pm_hp L fz t I J)) : pm_Ev (d + 3) 132 [.ref 85] (pm_hp L fz t I J) Q := by
  obtain ⟨-, -, h20, -, h22, -, -, h25⟩ := h
  have hnN := tnx_N (g := g) hp
  refine e_X11_knownWord ?_
  rw [h20, h22]
  rcases tk_cases (g := g) hp with ⟨_, e, _⟩ | ⟨hs, hl, _, e1, e⟩ | ⟨_, _, _, _, e⟩ | ⟨_, _, _, _, e⟩
  · rw [e] at hq ⊢
    exact q_t' (by decide) (hq _ (Or.inr ⟨fun j _ q => (by cases q), rfl⟩))
  · rw [show srt (tK g N p) = 1 from by rw [e]; rfl]
    refine q_f' rfl ?_
    have hle : tst g N p ≤ tnx g N p := by rw [e1]; exact sc_le
    refine q_le (by omega) (by omega) (fun c7 => ?_) (fun c7 => hq _ (Or.inr ⟨fun j hj q => ?_, rfl⟩))
    · have hJ := h25 (by rw [e]; rfl) c7
      have let1 : ∀ c, c ∈ wrd g (tst g N p) (tnx g N p - tst g N p) → bL c = true := by
        intro c hc
        obtain ⟨i, hi, rfl⟩ := List.mem_map.mp hc
        have := List.mem_range.mp hi
        exact sc_in (N := N) (i := tst g N p) (by omega) (by rw [← e1]; omega)
      have lt1 : pkl (wrd g (tst g N p) (tnx g N p - tst g N p)) < 2 ^ 40 := by
        rw [← pkn_pkl]
        refine Nat.lt_of_lt_of_le (pkn_lt _ _ (fun i hi => sc_in (N := N) (i := tst g N p) (by omega) (by rw [← e1]; omega))) (Nat.le_trans (Nat.pow_le_pow_right (by omega) c7) (by decide))
      have key : ∀ k, k < 19 → (lN (pkl (wds.getD k [])) = J 85 25 ↔ tK g N p = kW k) := by
        intro k hk
        have hw := wds_ok k hk
        rw [hJ, pkn_pkl, e, kW_inj, wid_iff hk]
        constructor
        · intro q
          have q2 := congrArg (fun z : Int64 => z.toBitVec.toNat) q
          change (lN (pkl (wds.getD k []))).toBitVec.toNat = (lN (pkl (wrd g (tst g N p) (tnx g N p - tst g N p)))).toBitVec.toNat at q2
          rw [l_tn (by omega), l_tn (by omega)] at q2
          exact (pkl_inj hw.1 let1 q2).symm
        · intro q; rw [q]
      suffices H : ∀ f k, 19 - k = f → k ≤ 19 → (∀ j, j < k → tK g N p ≠ kW j) → t_X11_knownWord_21 (d + 2) L fz t Q (nI k) I J from H _ 0 rfl (by omega) (fun j hj => absurd hj (by omega))
      intro f
      induction f with
      | zero =>
        intro k hf hk hno
        exact b_X11_knownWord_21 (q_t (nI_le (by omega) (by omega)) (hq _ (Or.inr ⟨fun j hj => hno j (by omega), rfl⟩)))
      | succ f ih =>
        intro k hf hk hno
        refine b_X11_knownWord_21 (q_f (nI_ge (by omega) (by omega)) (S_letters (d := d) (by omega) (kb_X11_knownWord_31 ?_)))
        by_cases c : tK g N p = kW k
        · exact q_f' ((lg_0 _ _).mpr ((key k (by omega)).mpr c)) (hq _ (Or.inl ⟨k, by omega, c, rfl⟩))
        · refine q_t' (fun q => c ((key k (by omega)).mp ((lg_0 _ _).mp q))) ?_
          rw [nI_add]
          refine ih (k + 1) (by omega) (by omega) (fun j hj => ?_)
          by_cases ej : j = k
          · rw [ej]; exact c
          · exact hno j (by omega)
    · rw [e, kW_inj, wid_iff hj] at q
      have := (wds_ok j hj).2.1
      rw [← q] at this
      simp [wrd] at this
      omega
  · rw [show srt (tK g N p) = 2 from by rw [e]; split <;> rfl]
    refine q_t' (by decide) (hq _ (Or.inr ⟨fun j _ q => ?_, rfl⟩))
    rw [e] at q; split at q <;> cases q
  · have hs : srt (tK g N p) = 3 ∨ srt (tK g N p) = 4 := by
      rw [e]
      by_cases hm : g (tst g N p) ∈ ss
      · exact Or.inl (if_pos hm)
      · exact Or.inr (if_neg hm)
    refine q_t' (fun q => ?_) (hq _ (Or.inr ⟨fun j _ q => (by rw [e] at q; cases q), rfl⟩))
    rw [nI_eq (by omega) (by omega)] at q
    omega
end Spec
