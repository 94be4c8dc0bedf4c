/-! deeper is no harm -/
section Up
variable {E E' : pm_E} {k len : Nat} {ts : List Nat} {v : Int32} {K : pm_F → Prop} {Q : pm_R → pm_H → Prop}
theorem pm_u_call (hE : ∀ k as h Q, E k as h Q → E' k as h Q) {k' np pc : Nat} {lv : pm_L} {st : List Value} {h : pm_H} {c z : Nat} : pm_call E k k' np pc lv st h c z K Q → pm_call E' k k' np pc lv st h c z K Q := by
  unfold pm_call
  split
  · exact id
  · exact pm_m_bif (hE _ _ _ _)
theorem pm_u_call0 (hE : ∀ k as h Q, E k as h Q → E' k as h Q) {k' np pc : Nat} {lv : pm_L} {st : List Value} {h : pm_H} {c z : Nat} : pm_call0 E k k' np pc lv st h c z K → pm_call0 E' k k' np pc lv st h c z K := by
  unfold pm_call0
  split
  · exact id
  · exact pm_m_bif (hE _ _ _ _)
theorem pm_u_inv (hE : ∀ k as h Q, E k as h Q → E' k as h Q) {pc : Nat} {lv : pm_L} {st : List Value} {fz : Bool} {n : Nat} {sh : Nat → Nat × Nat} {I : Nat → Nat → Int32} {J : Nat → Nat → Int64} {R : Nat → Nat → Option Nat} {c z : Nat} : pm_inv E k ts pc lv st fz n sh I J R c z K Q → pm_inv E' k ts pc lv st fz n sh I J R c z K Q := by
  unfold pm_inv
  split
  · exact pm_m_bif (pm_u_call hE)
  · exact id
  · exact id
  · exact id
theorem pm_u_inst (hE : ∀ k as h Q, E k as h Q → E' k as h Q) {pc : Nat} {lv : pm_L} {st : List Value} {fz : Bool} {n : Nat} {sh : Nat → Nat × Nat} {I : Nat → Nat → Int32} {J : Nat → Nat → Int64} {R : Nat → Nat → Option Nat} {c z : Nat} : pm_inst E k ts pc lv st fz n sh I J R c z K Q → pm_inst E' k ts pc lv st fz n sh I J R c z K Q := by
  unfold pm_inst
  split
  · exact pm_u_call hE
  · exact id
  · exact id
  · exact id
  · exact id
set_option maxHeartbeats 4000000 in
theorem pm_u_sem (hE : ∀ k as h Q, E k as h Q → E' k as h Q) {i : Instr} {s : pm_F} : pm_sem E k i len ts v s K Q → pm_sem E' k i len ts v s K Q := by
  obtain ⟨pc, lv, st, ⟨fz, n, sh, I, J, R⟩, c, z⟩ := s
  cases i
  case invokevirtual => exact pm_u_inv hE
  case invokestatic => exact pm_u_inst hE
  case invokespecial =>
    simp only [pm_sem]
    split
    · exact pm_m_bif (pm_u_call0 hE)
    · exact pm_m_bif (pm_u_call0 hE)
    · exact id
    · exact id
  all_goals exact id
theorem pm_u_step (hE : ∀ k as h Q, E k as h Q → E' k as h Q) {s : pm_F} : pm_step E k s K Q → pm_step E' k s K Q := by
  unfold pm_step
  split
  · exact id
  · exact pm_u_sem hE
theorem pm_u_T (hE : ∀ k as h Q, E k as h Q → E' k as h Q) {s : pm_F} (h : pm_T E k Q s) : pm_T E' k Q s := fun P hP hW => h P (fun s hs => hP s (pm_u_step hE hs)) hW
end Up
theorem pm_Ev_up : ∀ (d k : Nat) (as : List Value) (h : pm_H) (Q : pm_R → pm_H → Prop), pm_Ev d k as h Q → pm_Ev (d + 1) k as h Q
  | 0, _, _, _, _, h => absurd h id
  | d + 1, _, _, _, _, h => pm_m_bif (pm_u_T (pm_Ev_up d)) h
