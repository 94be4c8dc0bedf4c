/-! the rules of the small machine -/
def pm_mono (E : pm_E) : Prop := ∀ (k : Nat) (as : List Value) (h : pm_H) (Q Q' : pm_R → pm_H → Prop), (∀ r h, Q r h → Q' r h) → E k as h Q → E k as h Q'
theorem pm_m_bif {b : Bool} {A B : Prop} (h : A → B) : (bif b then A else False) → (bif b then B else False) := by cases b <;> simpa using h
theorem pm_m_and {P A B : Prop} (h : A → B) : P ∧ A → P ∧ B := fun q => ⟨q.1, h q.2⟩
theorem pm_m_and2 {A A' B B' : Prop} (h : A → B) (h' : A' → B') : A ∧ A' → B ∧ B' := fun q => ⟨h q.1, h' q.2⟩
theorem pm_m_imp {P A B : Prop} (h : A → B) : (P → A) → (P → B) := fun q p => h (q p)
theorem pm_m_br {cd : ClassFile.Cond} {x y : Int32} {A B A' B' : Prop} (h : A → B) (h' : A' → B') : pm_br cd x y A A' → pm_br cd x y B B' := by
  cases cd <;> exact pm_m_and2 (pm_m_imp h) (pm_m_imp h')
theorem pm_m_sw {x : Int32} {K K' : Nat → Prop} (h : ∀ t, K t → K' t) : ∀ (ts : List Nat) (j : Int), pm_sw x K j ts → pm_sw x K' j ts
  | [], _ => id
  | t :: ts, j => pm_m_and2 (pm_m_imp (h t)) (pm_m_sw h ts (j + 1))
theorem pm_m_ret {k c z : Nat} {A B : Prop} (h : A → B) : pm_ret k c z A → pm_ret k c z B := pm_m_bif h
theorem pm_m_ii {st : List Value} {f : Int32 → Int32 → Int32} {K K' : List Value → Prop} (h : ∀ r, K r → K' r) : pm_ii st f K → pm_ii st f K' := by
  unfold pm_ii; split
  · exact h _
  · exact id
theorem pm_m_ll {st : List Value} {f : Int64 → Int64 → Int64} {K K' : List Value → Prop} (h : ∀ r, K r → K' r) : pm_ll st f K → pm_ll st f K' := by
  unfold pm_ll; split
  · exact h _
  · exact id
theorem pm_m_li {st : List Value} {f : Int64 → Int32 → Int64} {K K' : List Value → Prop} (h : ∀ r, K r → K' r) : pm_li st f K → pm_li st f K' := by
  unfold pm_li; split
  · exact h _
  · exact id
section Mono
variable {E : pm_E} {k len : Nat} {ts : List Nat} {v : Int32} {K K' : pm_F → Prop} {Q Q' : pm_R → pm_H → Prop}
theorem pm_m_call (hE : pm_mono E) (hK : ∀ s, K s → K' s) (hQ : ∀ r h, Q r h → Q' r h) {k' np pc : Nat} {lv : pm_L} {st : List Value} {h : pm_H} {c z : Nat} : pm_call E k k' np pc lv st h c z K Q → pm_call E k k' np pc lv st h c z K' Q' := by
  unfold pm_call
  split
  · exact id
  · refine pm_m_bif (hE _ _ _ _ _ fun r h' => ?_)
    cases r with
    | inl v => exact hK _
    | inr x =>
      dsimp only
      split
      · exact hQ _ _
      · split
        · exact id
        · exact hK _
theorem pm_m_call0 (hE : pm_mono E) (hK : ∀ s, K s → K' s) {k' np pc : Nat} {lv : pm_L} {st : List Value} {h : pm_H} {c z : Nat} : pm_call0 E k k' np pc lv st h c z K → pm_call0 E k k' np pc lv st h c z K' := by
  unfold pm_call0
  split
  · exact id
  · refine pm_m_bif (hE _ _ _ _ _ fun r h' => ?_)
    cases r with
    | inl v => exact hK _
    | inr x => exact id
set_option maxHeartbeats 4000000 in
theorem pm_m_inv (hE : pm_mono E) (hK : ∀ s, K s → K' s) (hQ : ∀ r h, Q r h → Q' r h) {pc : Nat} {lv : pm_L} {st : List Value} {fz : Bool} {n : Nat} {sh : Nat → Nat × Nat} {I : Nat → Nat → Int32} {J : Nat → Nat → Int64} {R : Nat → Nat → Option Nat} {c z : Nat} : pm_inv E k ts pc lv st fz n sh I J R c z K Q → pm_inv E k ts pc lv st fz n sh I J R c z K' Q' := by
  unfold pm_inv
  repeat' (first | exact id | exact pm_m_bif (pm_m_call hE hK hQ) | exact pm_m_bif (hK _) | exact pm_m_bif (pm_m_and (hK _)) | split)
set_option maxHeartbeats 4000000 in
theorem pm_m_inst (hE : pm_mono E) (hK : ∀ s, K s → K' s) (hQ : ∀ r h, Q r h → Q' r h) {pc : Nat} {lv : pm_L} {st : List Value} {fz : Bool} {n : Nat} {sh : Nat → Nat × Nat} {I : Nat → Nat → Int32} {J : Nat → Nat → Int64} {R : Nat → Nat → Option Nat} {c z : Nat} : pm_inst E k ts pc lv st fz n sh I J R c z K Q → pm_inst E k ts pc lv st fz n sh I J R c z K' Q' := by
  unfold pm_inst
  split
  · exact pm_m_call hE hK hQ
  · split
    · exact pm_m_bif (hK _)
    · exact id
  · split
    · exact pm_m_bif (hK _)
    · exact id
  · split
    · refine pm_m_bif ?_
      generalize (pm_is _ _ _ 100 && pm_is _ _ _ 100) = b1
      generalize (pm_is _ _ _ 103 && pm_is _ _ _ 103) = b2
      cases b1 with
      | true => exact pm_m_and (hK _)
      | false => cases b2 with
        | true => exact pm_m_and (hK _)
        | false => exact id
    · exact id
  · exact id
set_option maxHeartbeats 4000000 in
theorem pm_sem_mono (hE : pm_mono E) (hK : ∀ s, K s → K' s) (hQ : ∀ r h, Q r h → Q' r h) {i : Instr} {s : pm_F} : pm_sem E k i len ts v s K Q → pm_sem E k i len ts v s K' Q' := by
  obtain ⟨pc, lv, st, ⟨fz, n, sh, I, J, R⟩, c, z⟩ := s
  cases i
  case bastore =>
    simp only [pm_sem]
    split
    · generalize pm_is _ _ _ 101 = b1
      generalize pm_is _ _ _ 102 = b2
      cases b1 with
      | true => exact pm_m_and (hK _)
      | false => cases b2 with
        | true => exact pm_m_and (hK _)
        | false => exact id
    · exact id
  case putfield =>
    simp only [pm_sem]
    split
    · refine pm_m_bif ?_
      split
      · exact hK _
      · exact pm_m_and (hK _)
      · exact hK _
      · exact hK _
      · exact id
    · exact id
  case invokevirtual => exact pm_m_inv hE hK hQ
  case invokestatic => exact pm_m_inst hE hK hQ
  case invokespecial =>
    simp only [pm_sem]
    split
    · exact pm_m_bif (pm_m_call0 hE hK)
    · exact pm_m_bif (pm_m_call0 hE hK)
    · split
      · exact pm_m_bif (hK _)
      · exact id
    · exact id
  all_goals first
    | exact hK _
    | exact id
    | exact pm_m_ii fun _ => hK _
    | exact pm_m_ll fun _ => hK _
    | exact pm_m_li fun _ => hK _
    | (simp only [pm_sem]; repeat' (first | exact hK _ | exact id | exact pm_m_ii (fun _ => hK _) | exact pm_m_ll (fun _ => hK _) | exact pm_m_li (fun _ => hK _) | exact pm_m_bif (hK _) | exact pm_m_bif (hQ _ _) | exact pm_m_ret (hQ _ _) | exact pm_m_and (pm_m_ret (hQ _ _)) | exact pm_m_and (hK _) | exact pm_m_bif (pm_m_and (hK _)) | exact pm_m_br (hK _) (hK _) | exact pm_m_and2 (pm_m_imp (hK _)) (pm_m_sw (fun _ => hK _) _ _) | split))
theorem pm_step_mono (hE : pm_mono E) (hK : ∀ s, K s → K' s) (hQ : ∀ r h, Q r h → Q' r h) {s : pm_F} : pm_step E k s K Q → pm_step E k s K' Q' := by
  unfold pm_step
  split
  · exact id
  · exact pm_sem_mono hE hK hQ
theorem pm_T_mono (hE : pm_mono E) (hQ : ∀ r h, Q r h → Q' r h) {s : pm_F} (h : pm_T E k Q s) : pm_T E k Q' s := fun P hP hW => h P (fun s hs => hP s (pm_step_mono hE (fun _ q => q) hQ hs)) hW
theorem pm_T_step (hE : pm_mono E) {s : pm_F} (h : pm_step E k s (pm_T E k Q) Q) : pm_T E k Q s := fun P hP hW => hP s (pm_step_mono hE (fun s' q => q P hP hW) (fun _ _ q => q) h)
theorem pm_T_weak {pc : Nat} {lv lv' : pm_L} {st : List Value} {h : pm_H} {c z : Nat} (hl : ∀ q ∈ lv', q ∈ lv) (q : pm_T E k Q (pc, lv', st, h, c, z)) : pm_T E k Q (pc, lv, st, h, c, z) := fun P hP hW => hW pc lv lv' st h c z hl (q P hP hW)
/-- fewer locals, by their places in the list -/
theorem pm_T_pick (ks : List Nat) {pc : Nat} {lv : pm_L} {st : List Value} {h : pm_H} {c z : Nat} (q : pm_T E k Q (pc, lv_pick lv ks, st, h, c, z)) : pm_T E k Q (pc, lv, st, h, c, z) := by
  refine pm_T_weak (fun x hx => ?_) q
  obtain ⟨j, -, hj⟩ := List.mem_filterMap.mp hx
  exact List.mem_of_getElem? hj
end Mono
theorem pm_Ev_mono : ∀ d, pm_mono (pm_Ev d)
  | 0 => fun _ _ _ _ _ _ h => h
  | d + 1 => fun _ _ _ _ _ hQ h => pm_m_bif (pm_T_mono (pm_Ev_mono d) hQ) h
