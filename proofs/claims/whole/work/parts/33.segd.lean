theorem pm_swapR (t : Bool) : pm_u (pm_u (pm_R0 t) 0 15 (some (pm_td (!t)))) 0 16 (some (pm_td t)) = pm_R0 (!t) := by
  funext x y
  unfold pm_u
  by_cases h : x = 0 ∧ y = 16
  · rw [if_pos h, h.1, h.2]; cases t <;> rfl
  · rw [if_neg h]
    by_cases h' : x = 0 ∧ y = 15
    · rw [if_pos h', h'.1, h'.2]; cases t <;> rfl
    · rw [if_neg h']
      unfold pm_R0
      cases hx : Nat.beq x 0 with
      | false => simp only [cond_false]
      | true =>
        have hx' := Nat.eq_of_beq_eq_true hx
        have a1 : Nat.beq y 15 = false := by
          cases q : Nat.beq y 15 with
          | false => rfl
          | true => exact absurd ⟨hx', Nat.eq_of_beq_eq_true q⟩ h'
        have a2 : Nat.beq y 16 = false := by
          cases q : Nat.beq y 16 with
          | false => rfl
          | true => exact absurd ⟨hx', Nat.eq_of_beq_eq_true q⟩ h
        simp only [a1, a2, cond_false]
theorem pm_swap_cast {t : Bool} {P : (Nat → Nat → Option Nat) → Prop} (h : P (pm_R0 (!t))) : P (pm_u (pm_u (pm_R0 t) 0 15 (some (pm_td (!t)))) 0 16 (some (pm_td t))) := by rw [pm_swapR]; exact h
def t_X10_feed_0 (d L : Nat) (fz t : Bool) (Q : pm_R → pm_H → Prop) (x1 : Int32) (x2 : Int32) (x3 : Int32) (x4 : Int32) (x5 : Int32) (I : Nat → Nat → Int32) (J : Nat → Nat → Int64) : Prop := pm_T (pm_Ev d) 85 Q (0, [(0, .ref 0), (1, .int x1), (2, .int x2), (3, .int x3), (4, .int x4), (5, .int x5)], [], pm_hp L fz t I J, 0, 0)
def t_X10_feed_26 (d L : Nat) (fz t : Bool) (Q : pm_R → pm_H → Prop) (x2 : Int32) (x3 : Int32) (x4 : Int32) (x5 : Int32) (I : Nat → Nat → Int32) (J : Nat → Nat → Int64) : Prop := pm_T (pm_Ev d) 85 Q (26, [(0, .ref 0), (2, .int x2), (3, .int x3), (4, .int x4), (5, .int x5)], [], pm_hp L fz t I J, 0, 0)
def K_X10_feed_26 (d : Nat) (fz t : Bool) (Q : pm_R → pm_H → Prop) (x2 : Int32) (x3 : Int32) (x4 : Int32) (x5 : Int32) : pm_R → pm_H → Prop := pm_K d 85 Q 26 [(0, .ref 0), (2, .int x2), (3, .int x3), (4, .int x4), (5, .int x5)] [] 118 0 fz 0 0
def t_X10_feed_34 (d L : Nat) (fz t : Bool) (Q : pm_R → pm_H → Prop) (x3 : Int32) (x4 : Int32) (x5 : Int32) (I : Nat → Nat → Int32) (J : Nat → Nat → Int64) : Prop := pm_T (pm_Ev d) 85 Q (34, [(0, .ref 0), (3, .int x3), (4, .int x4), (5, .int x5)], [], pm_hp L fz t I J, 0, 0)
def K_X10_feed_34 (d : Nat) (fz t : Bool) (Q : pm_R → pm_H → Prop) (x3 : Int32) (x4 : Int32) (x5 : Int32) : pm_R → pm_H → Prop := pm_K d 85 Q 34 [(0, .ref 0), (3, .int x3), (4, .int x4), (5, .int x5)] [] 118 0 fz 0 0
def t_X10_feed_42 (d L : Nat) (fz t : Bool) (Q : pm_R → pm_H → Prop) (x4 : Int32) (x5 : Int32) (I : Nat → Nat → Int32) (J : Nat → Nat → Int64) : Prop := pm_T (pm_Ev d) 85 Q (42, [(0, .ref 0), (4, .int x4), (5, .int x5)], [], pm_hp L fz t I J, 0, 0)
def K_X10_feed_42 (d : Nat) (fz t : Bool) (Q : pm_R → pm_H → Prop) (x4 : Int32) (x5 : Int32) : pm_R → pm_H → Prop := pm_K d 85 Q 42 [(0, .ref 0), (4, .int x4), (5, .int x5)] [] 118 0 fz 0 0
def t_X10_feed_51 (d L : Nat) (fz t : Bool) (Q : pm_R → pm_H → Prop) (x5 : Int32) (I : Nat → Nat → Int32) (J : Nat → Nat → Int64) : Prop := pm_T (pm_Ev d) 85 Q (51, [(0, .ref 0), (5, .int x5)], [], pm_hp L fz t I J, 0, 0)
def K_X10_feed_51 (d : Nat) (fz t : Bool) (Q : pm_R → pm_H → Prop) (x5 : Int32) : pm_R → pm_H → Prop := pm_K d 85 Q 51 [(0, .ref 0), (5, .int x5)] [] 118 0 fz 0 0
def t_X10_feed_60 (d L : Nat) (fz t : Bool) (Q : pm_R → pm_H → Prop) (I : Nat → Nat → Int32) (J : Nat → Nat → Int64) : Prop := pm_T (pm_Ev d) 85 Q (60, [(0, .ref 0)], [], pm_hp L fz t I J, 0, 0)
def K_X10_feed_60 (d : Nat) (fz t : Bool) (Q : pm_R → pm_H → Prop) : pm_R → pm_H → Prop := pm_K d 85 Q 60 [(0, .ref 0)] [] 118 0 fz 0 0
set_option maxRecDepth 100000 in
theorem b_X10_feed_0 {d L : Nat} {fz t : Bool} {Q : pm_R → pm_H → Prop} {x1 : Int32} {x2 : Int32} {x3 : Int32} {x4 : Int32} {x5 : Int32} {I : Nat → Nat → Int32} {J : Nat → Nat → Int64}
    (h : ((((I 1 1) + (nI 20)) ≤ (nI 700) → pm_Ev d 25 [.ref 1, .int x1] (pm_hp L fz t I J) (K_X10_feed_26 d fz t Q x2 x3 x4 x5)) ∧ (¬ ((I 1 1) + (nI 20)) ≤ (nI 700) → Q (.inl (some (.int (-1 : Int32)))) (pm_hp L fz t I J)))) :
    t_X10_feed_0 d L fz t Q x1 x2 x3 x4 x5 I J := by
  exact pm_go d [(26, [0, 2, 3, 4, 5]), (34, [0, 3, 4, 5]), (42, [0, 4, 5]), (51, [0, 5]), (60, [0])] 400 ⟨fun q0 => ((h).1 q0), fun q0 => ((h).2 q0)⟩
theorem e_X10_feed {d L : Nat} {fz t : Bool} {Q : pm_R → pm_H → Prop} {x1 : Int32} {x2 : Int32} {x3 : Int32} {x4 : Int32} {x5 : Int32} {I : Nat → Nat → Int32} {J : Nat → Nat → Int64}
    (h : ((((I 1 1) + (nI 20)) ≤ (nI 700) → pm_Ev d 25 [.ref 1, .int x1] (pm_hp L fz t I J) (K_X10_feed_26 d fz t Q x2 x3 x4 x5)) ∧ (¬ ((I 1 1) + (nI 20)) ≤ (nI 700) → Q (.inl (some (.int (-1 : Int32)))) (pm_hp L fz t I J)))) :
    pm_Ev (d + 1) 85 [.ref 0, .int x1, .int x2, .int x3, .int x4, .int x5] (pm_hp L fz t I J) Q := pm_Ev_in rfl (b_X10_feed_0 h)
set_option maxRecDepth 100000 in
theorem b_X10_feed_26 {d L : Nat} {fz t : Bool} {Q : pm_R → pm_H → Prop} {x2 : Int32} {x3 : Int32} {x4 : Int32} {x5 : Int32} {I : Nat → Nat → Int32} {J : Nat → Nat → Int64}
    (h : pm_Ev d 25 [.ref 1, .int x2] (pm_hp L fz t I J) (K_X10_feed_34 d fz t Q x3 x4 x5)) :
    t_X10_feed_26 d L fz t Q x2 x3 x4 x5 I J := by
  exact pm_go d [(26, [0, 2, 3, 4, 5]), (34, [0, 3, 4, 5]), (42, [0, 4, 5]), (51, [0, 5]), (60, [0])] 400 h
theorem kb_X10_feed_26 {d L : Nat} {fz t : Bool} {Q : pm_R → pm_H → Prop} {x2 : Int32} {x3 : Int32} {x4 : Int32} {x5 : Int32} {fz1 : Bool} {I : Nat → Nat → Int32} {J : Nat → Nat → Int64}
    (h : pm_Ev d 25 [.ref 1, .int x2] (pm_hp L fz t I J) (K_X10_feed_34 d fz t Q x3 x4 x5)) :
    K_X10_feed_26 d fz t Q x2 x3 x4 x5 (.inl none) (pm_hp L fz1 t I J) := b_X10_feed_26 h
set_option maxRecDepth 100000 in
theorem b_X10_feed_34 {d L : Nat} {fz t : Bool} {Q : pm_R → pm_H → Prop} {x3 : Int32} {x4 : Int32} {x5 : Int32} {I : Nat → Nat → Int32} {J : Nat → Nat → Int64}
    (h : pm_Ev d 25 [.ref 1, .int x3] (pm_hp L fz t I J) (K_X10_feed_42 d fz t Q x4 x5)) :
    t_X10_feed_34 d L fz t Q x3 x4 x5 I J := by
  exact pm_go d [(26, [0, 2, 3, 4, 5]), (34, [0, 3, 4, 5]), (42, [0, 4, 5]), (51, [0, 5]), (60, [0])] 400 h
theorem kb_X10_feed_34 {d L : Nat} {fz t : Bool} {Q : pm_R → pm_H → Prop} {x3 : Int32} {x4 : Int32} {x5 : Int32} {fz1 : Bool} {I : Nat → Nat → Int32} {J : Nat → Nat → Int64}
    (h : pm_Ev d 25 [.ref 1, .int x3] (pm_hp L fz t I J) (K_X10_feed_42 d fz t Q x4 x5)) :
    K_X10_feed_34 d fz t Q x3 x4 x5 (.inl none) (pm_hp L fz1 t I J) := b_X10_feed_34 h
set_option maxRecDepth 100000 in
theorem b_X10_feed_42 {d L : Nat} {fz t : Bool} {Q : pm_R → pm_H → Prop} {x4 : Int32} {x5 : Int32} {I : Nat → Nat → Int32} {J : Nat → Nat → Int64}
    (h : pm_Ev d 25 [.ref 1, .int x4] (pm_hp L fz t I J) (K_X10_feed_51 d fz t Q x5)) :
    t_X10_feed_42 d L fz t Q x4 x5 I J := by
  exact pm_go d [(26, [0, 2, 3, 4, 5]), (34, [0, 3, 4, 5]), (42, [0, 4, 5]), (51, [0, 5]), (60, [0])] 400 h
theorem kb_X10_feed_42 {d L : Nat} {fz t : Bool} {Q : pm_R → pm_H → Prop} {x4 : Int32} {x5 : Int32} {fz1 : Bool} {I : Nat → Nat → Int32} {J : Nat → Nat → Int64}
    (h : pm_Ev d 25 [.ref 1, .int x4] (pm_hp L fz t I J) (K_X10_feed_51 d fz t Q x5)) :
    K_X10_feed_42 d fz t Q x4 x5 (.inl none) (pm_hp L fz1 t I J) := b_X10_feed_42 h
set_option maxRecDepth 100000 in
theorem b_X10_feed_51 {d L : Nat} {fz t : Bool} {Q : pm_R → pm_H → Prop} {x5 : Int32} {I : Nat → Nat → Int32} {J : Nat → Nat → Int64}
    (h : pm_Ev d 25 [.ref 1, .int x5] (pm_hp L fz t I J) (K_X10_feed_60 d fz t Q)) :
    t_X10_feed_51 d L fz t Q x5 I J := by
  exact pm_go d [(26, [0, 2, 3, 4, 5]), (34, [0, 3, 4, 5]), (42, [0, 4, 5]), (51, [0, 5]), (60, [0])] 400 h
theorem kb_X10_feed_51 {d L : Nat} {fz t : Bool} {Q : pm_R → pm_H → Prop} {x5 : Int32} {fz1 : Bool} {I : Nat → Nat → Int32} {J : Nat → Nat → Int64}
    (h : pm_Ev d 25 [.ref 1, .int x5] (pm_hp L fz t I J) (K_X10_feed_60 d fz t Q)) :
    K_X10_feed_51 d fz t Q x5 (.inl none) (pm_hp L fz1 t I J) := b_X10_feed_51 h
set_option maxRecDepth 100000 in
theorem b_X10_feed_60 {d L : Nat} {fz t : Bool} {Q : pm_R → pm_H → Prop} {I : Nat → Nat → Int32} {J : Nat → Nat → Int64}
    (h : Q (.inl (some (.int (I 1 1)))) (pm_hp L fz t I J)) :
    t_X10_feed_60 d L fz t Q I J := by
  exact pm_go d [(26, [0, 2, 3, 4, 5]), (34, [0, 3, 4, 5]), (42, [0, 4, 5]), (51, [0, 5]), (60, [0])] 400 h
theorem kb_X10_feed_60 {d L : Nat} {fz t : Bool} {Q : pm_R → pm_H → Prop} {fz1 : Bool} {I : Nat → Nat → Int32} {J : Nat → Nat → Int64}
    (h : Q (.inl (some (.int (I 1 1)))) (pm_hp L fz t I J)) :
    K_X10_feed_60 d fz t Q (.inl none) (pm_hp L fz1 t I J) := b_X10_feed_60 h
def t_X10_fault_0 (d L : Nat) (fz t : Bool) (Q : pm_R → pm_H → Prop) (I : Nat → Nat → Int32) (J : Nat → Nat → Int64) : Prop := pm_T (pm_Ev d) 86 Q (0, [(0, .ref 0)], [], pm_hp L fz t I J, 0, 0)
set_option maxRecDepth 100000 in
theorem b_X10_fault_0 {d L : Nat} {fz t : Bool} {Q : pm_R → pm_H → Prop} {I : Nat → Nat → Int32} {J : Nat → Nat → Int64}
    (h : Q (.inl (some (.int (I 0 18)))) (pm_hp L fz t I J)) :
    t_X10_fault_0 d L fz t Q I J := by
  exact pm_go d [] 400 h
theorem e_X10_fault {d L : Nat} {fz t : Bool} {Q : pm_R → pm_H → Prop} {I : Nat → Nat → Int32} {J : Nat → Nat → Int64}
    (h : Q (.inl (some (.int (I 0 18)))) (pm_hp L fz t I J)) :
    pm_Ev (d + 1) 86 [.ref 0] (pm_hp L fz t I J) Q := pm_Ev_in rfl (b_X10_fault_0 h)
def t_X10_sundays_0 (d L : Nat) (fz t : Bool) (Q : pm_R → pm_H → Prop) (x1 : Int32) (I : Nat → Nat → Int32) (J : Nat → Nat → Int64) : Prop := pm_T (pm_Ev d) 87 Q (0, [(0, .ref 0), (1, .int x1)], [], pm_hp L fz t I J, 0, 0)
def t_X10_sundays_64 (d L : Nat) (fz t : Bool) (Q : pm_R → pm_H → Prop) (x1 : Int32) (s1 : Int32) (s2 : Int32) (s3 : Int32) (r : Int64) (I : Nat → Nat → Int32) (J : Nat → Nat → Int64) : Prop := pm_T (pm_Ev d) 87 Q (64, [(0, .ref 0), (1, .int x1)], [.long r, .int s3, .int s2, .int s1, .ref 35], pm_hp L fz t I J, 0, 0)
def K_X10_sundays_64 (d : Nat) (fz t : Bool) (Q : pm_R → pm_H → Prop) (x1 : Int32) (s1 : Int32) (s2 : Int32) (s3 : Int32) : pm_R → pm_H → Prop := pm_K d 87 Q 64 [(0, .ref 0), (1, .int x1)] [.int s3, .int s2, .int s1, .ref 35] 118 0 fz 0 0
def t_X10_sundays_67 (d L : Nat) (fz t : Bool) (Q : pm_R → pm_H → Prop) (x1 : Int32) (I : Nat → Nat → Int32) (J : Nat → Nat → Int64) : Prop := pm_T (pm_Ev d) 87 Q (67, [(0, .ref 0), (1, .int x1)], [], pm_hp L fz t I J, 0, 0)
def K_X10_sundays_67 (d : Nat) (fz t : Bool) (Q : pm_R → pm_H → Prop) (x1 : Int32) : pm_R → pm_H → Prop := pm_K d 87 Q 67 [(0, .ref 0), (1, .int x1)] [] 118 0 fz 0 0
def t_X10_sundays_69 (d L : Nat) (fz t : Bool) (Q : pm_R → pm_H → Prop) (x1 : Int32) (x2 : Int32) (I : Nat → Nat → Int32) (J : Nat → Nat → Int64) : Prop := pm_T (pm_Ev d) 87 Q (69, [(0, .ref 0), (1, .int x1), (2, .int x2)], [], pm_hp L fz t I J, 0, 0)
def t_X10_sundays_82 (d L : Nat) (fz t : Bool) (Q : pm_R → pm_H → Prop) (x1 : Int32) (x2 : Int32) (I : Nat → Nat → Int32) (J : Nat → Nat → Int64) : Prop := pm_T (pm_Ev d) 87 Q (82, [(0, .ref 0), (1, .int x1), (2, .int x2)], [], pm_hp L fz t I J, 0, 0)
def K_X10_sundays_82 (d : Nat) (fz t : Bool) (Q : pm_R → pm_H → Prop) (x1 : Int32) (x2 : Int32) : pm_R → pm_H → Prop := pm_K d 87 Q 82 [(0, .ref 0), (1, .int x1), (2, .int x2)] [] 118 0 fz 0 0
set_option maxRecDepth 100000 in
theorem b_X10_sundays_0 {d L : Nat} {fz t : Bool} {Q : pm_R → pm_H → Prop} {x1 : Int32} {I : Nat → Nat → Int32} {J : Nat → Nat → Int64}
    (h : ((x1 < (nI 1) → Q (.inl (some (.int (-1 : Int32)))) (pm_hp L fz t (pm_u I 20 1 ((I 20 1) + (nI 1))) J)) ∧ (¬ x1 < (nI 1) → (((nI 20) < x1 → Q (.inl (some (.int (-1 : Int32)))) (pm_hp L fz t (pm_u I 20 1 ((I 20 1) + (nI 1))) J)) ∧ (¬ (nI 20) < x1 → ((((I 23 4) + x1) ≤ (nI 999) → pm_Ev d 83 [.ref 23] (pm_hp L fz t I J) (K_X10_sundays_64 d fz t Q x1 (nI 0) (I 23 4) (I 23 5))) ∧ (¬ ((I 23 4) + x1) ≤ (nI 999) → Q (.inl (some (.int (-1 : Int32)))) (pm_hp L fz t (pm_u I 20 1 ((I 20 1) + (nI 1))) J)))))))) :
    t_X10_sundays_0 d L fz t Q x1 I J := by
  exact pm_go d [(64, [0, 1]), (67, [0, 1]), (69, [0, 1, 2]), (82, [0, 1, 2])] 400 ⟨fun q0 => ⟨(vp_in_nI (by decide : 1 < 3) (by decide) : vp_in (nI 1) 3), ⟨(vp_in_nI (by decide : 1 < 3) (by decide) : vp_in (nI 1) 3), ((h).1 q0)⟩⟩, fun q0 => ⟨fun q1 => ⟨(vp_in_nI (by decide : 1 < 3) (by decide) : vp_in (nI 1) 3), ⟨(vp_in_nI (by decide : 1 < 3) (by decide) : vp_in (nI 1) 3), ((((h).2 q0)).1 q1)⟩⟩, fun q1 => ⟨fun q2 => ((((((h).2 q0)).2 q1)).1 q2), fun q2 => ⟨(vp_in_nI (by decide : 1 < 3) (by decide) : vp_in (nI 1) 3), ⟨(vp_in_nI (by decide : 1 < 3) (by decide) : vp_in (nI 1) 3), ((((((h).2 q0)).2 q1)).2 q2)⟩⟩⟩⟩⟩
theorem e_X10_sundays {d L : Nat} {fz t : Bool} {Q : pm_R → pm_H → Prop} {x1 : Int32} {I : Nat → Nat → Int32} {J : Nat → Nat → Int64}
    (h : ((x1 < (nI 1) → Q (.inl (some (.int (-1 : Int32)))) (pm_hp L fz t (pm_u I 20 1 ((I 20 1) + (nI 1))) J)) ∧ (¬ x1 < (nI 1) → (((nI 20) < x1 → Q (.inl (some (.int (-1 : Int32)))) (pm_hp L fz t (pm_u I 20 1 ((I 20 1) + (nI 1))) J)) ∧ (¬ (nI 20) < x1 → ((((I 23 4) + x1) ≤ (nI 999) → pm_Ev d 83 [.ref 23] (pm_hp L fz t I J) (K_X10_sundays_64 d fz t Q x1 (nI 0) (I 23 4) (I 23 5))) ∧ (¬ ((I 23 4) + x1) ≤ (nI 999) → Q (.inl (some (.int (-1 : Int32)))) (pm_hp L fz t (pm_u I 20 1 ((I 20 1) + (nI 1))) J)))))))) :
    pm_Ev (d + 1) 87 [.ref 0, .int x1] (pm_hp L fz t I J) Q := pm_Ev_in rfl (b_X10_sundays_0 h)
set_option maxRecDepth 100000 in
theorem b_X10_sundays_64 {d L : Nat} {fz t : Bool} {Q : pm_R → pm_H → Prop} {x1 : Int32} {s1 : Int32} {s2 : Int32} {s3 : Int32} {r : Int64} {I : Nat → Nat → Int32} {J : Nat → Nat → Int64}
    (h : pm_Ev d 0 [.ref 35, .int s1, .int s2, .int s3, .long r] (pm_hp L fz t I J) (K_X10_sundays_67 d fz t Q x1)) :
    t_X10_sundays_64 d L fz t Q x1 s1 s2 s3 r I J := by
  exact pm_go d [(64, [0, 1]), (67, [0, 1]), (69, [0, 1, 2]), (82, [0, 1, 2])] 400 h
theorem kb_X10_sundays_64 {d L : Nat} {fz t : Bool} {Q : pm_R → pm_H → Prop} {x1 : Int32} {s1 : Int32} {s2 : Int32} {s3 : Int32} {r : Int64} {fz1 : Bool} {I : Nat → Nat → Int32} {J : Nat → Nat → Int64}
    (h : pm_Ev d 0 [.ref 35, .int s1, .int s2, .int s3, .long r] (pm_hp L fz t I J) (K_X10_sundays_67 d fz t Q x1)) :
    K_X10_sundays_64 d fz t Q x1 s1 s2 s3 (.inl (some (.long r))) (pm_hp L fz1 t I J) := b_X10_sundays_64 h
set_option maxRecDepth 100000 in
theorem b_X10_sundays_67 {d L : Nat} {fz t : Bool} {Q : pm_R → pm_H → Prop} {x1 : Int32} {I : Nat → Nat → Int32} {J : Nat → Nat → Int64}
    (h : t_X10_sundays_69 d L fz t Q x1 (nI 0) I J) :
    t_X10_sundays_67 d L fz t Q x1 I J := by
  exact pm_go d [(64, [0, 1]), (67, [0, 1]), (69, [0, 1, 2]), (82, [0, 1, 2])] 400 h
theorem kb_X10_sundays_67 {d L : Nat} {fz t : Bool} {Q : pm_R → pm_H → Prop} {x1 : Int32} {fz1 : Bool} {I : Nat → Nat → Int32} {J : Nat → Nat → Int64}
    (h : t_X10_sundays_69 d L fz t Q x1 (nI 0) I J) :
    K_X10_sundays_67 d fz t Q x1 (.inl none) (pm_hp L fz1 t I J) := b_X10_sundays_67 h
set_option maxRecDepth 100000 in
theorem b_X10_sundays_69 {d L : Nat} {fz t : Bool} {Q : pm_R → pm_H → Prop} {x1 : Int32} {x2 : Int32} {I : Nat → Nat → Int32} {J : Nat → Nat → Int64}
    (h : ((x1 ≤ x2 → Q (.inl (some (.int (I 23 4)))) (pm_hp L fz t I J)) ∧ (¬ x1 ≤ x2 → pm_Ev d 101 [.ref 0, .ref 23] (pm_hp L fz t I J) (K_X10_sundays_82 d fz t Q x1 x2)))) :
    t_X10_sundays_69 d L fz t Q x1 x2 I J := by
  exact pm_go d [(64, [0, 1]), (67, [0, 1]), (69, [0, 1, 2]), (82, [0, 1, 2])] 400 ⟨fun q0 => ((h).1 q0), fun q0 => ((h).2 q0)⟩
set_option maxRecDepth 100000 in
theorem b_X10_sundays_82 {d L : Nat} {fz t : Bool} {Q : pm_R → pm_H → Prop} {x1 : Int32} {x2 : Int32} {I : Nat → Nat → Int32} {J : Nat → Nat → Int64}
    (h : t_X10_sundays_69 d L fz t Q x1 (x2 + (nI 1)) I J) :
    t_X10_sundays_82 d L fz t Q x1 x2 I J := by
  exact pm_go d [(64, [0, 1]), (67, [0, 1]), (69, [0, 1, 2]), (82, [0, 1, 2])] 400 h
theorem kb_X10_sundays_82 {d L : Nat} {fz t : Bool} {Q : pm_R → pm_H → Prop} {x1 : Int32} {x2 : Int32} {fz1 : Bool} {I : Nat → Nat → Int32} {J : Nat → Nat → Int64}
    (h : t_X10_sundays_69 d L fz t Q x1 (x2 + (nI 1)) I J) :
    K_X10_sundays_82 d fz t Q x1 x2 (.inl none) (pm_hp L fz1 t I J) := b_X10_sundays_82 h
def t_X10_change_0 (d L : Nat) (fz t : Bool) (Q : pm_R → pm_H → Prop) (x1 : Int32) (x2 : Int32) (I : Nat → Nat → Int32) (J : Nat → Nat → Int64) : Prop := pm_T (pm_Ev d) 88 Q (0, [(0, .ref 0), (1, .int x1), (2, .int x2)], [], pm_hp L fz t I J, 0, 0)
def t_X10_change_10 (d L : Nat) (fz t : Bool) (Q : pm_R → pm_H → Prop) (x1 : Int32) (x2 : Int32) (r : Int32) (I : Nat → Nat → Int32) (J : Nat → Nat → Int64) : Prop := pm_T (pm_Ev d) 88 Q (10, [(0, .ref 0), (1, .int x1), (2, .int x2)], [.int r], pm_hp L fz t I J, 0, 0)
def K_X10_change_10 (d : Nat) (fz t : Bool) (Q : pm_R → pm_H → Prop) (x1 : Int32) (x2 : Int32) : pm_R → pm_H → Prop := pm_K d 88 Q 10 [(0, .ref 0), (1, .int x1), (2, .int x2)] [] 118 0 fz 0 0
def t_X10_change_18 (d L : Nat) (fz t : Bool) (Q : pm_R → pm_H → Prop) (x1 : Int32) (x2 : Int32) (r : Int32) (I : Nat → Nat → Int32) (J : Nat → Nat → Int64) : Prop := pm_T (pm_Ev d) 88 Q (18, [(0, .ref 0), (1, .int x1), (2, .int x2)], [.int r], pm_hp L fz t I J, 0, 0)
def K_X10_change_18 (d : Nat) (fz t : Bool) (Q : pm_R → pm_H → Prop) (x1 : Int32) (x2 : Int32) : pm_R → pm_H → Prop := pm_K d 88 Q 18 [(0, .ref 0), (1, .int x1), (2, .int x2)] [] 118 0 fz 0 0
def t_X10_change_44 (d L : Nat) (fz t : Bool) (Q : pm_R → pm_H → Prop) (x1 : Int32) (x2 : Int32) (I : Nat → Nat → Int32) (J : Nat → Nat → Int64) : Prop := pm_T (pm_Ev d) 88 Q (44, [(0, .ref 0), (1, .int x1), (2, .int x2)], [], pm_hp L fz t I J, 0, 0)
def K_X10_change_44 (d : Nat) (fz t : Bool) (Q : pm_R → pm_H → Prop) (x1 : Int32) (x2 : Int32) : pm_R → pm_H → Prop := pm_K d 88 Q 44 [(0, .ref 0), (1, .int x1), (2, .int x2)] [] 118 0 fz 0 0
def t_X10_change_53 (d L : Nat) (fz t : Bool) (Q : pm_R → pm_H → Prop) (I : Nat → Nat → Int32) (J : Nat → Nat → Int64) : Prop := pm_T (pm_Ev d) 88 Q (53, [], [], pm_hp L fz t I J, 0, 0)
def K_X10_change_53 (d : Nat) (fz t : Bool) (Q : pm_R → pm_H → Prop) : pm_R → pm_H → Prop := pm_K d 88 Q 53 [] [] 118 0 fz 0 0
set_option maxRecDepth 100000 in
theorem b_X10_change_0 {d L : Nat} {fz t : Bool} {Q : pm_R → pm_H → Prop} {x1 : Int32} {x2 : Int32} {I : Nat → Nat → Int32} {J : Nat → Nat → Int64}
    (h : ((x1 = x2 → Q (.inl (some (.int (nI 0)))) (pm_hp L fz t (pm_u I 20 1 ((I 20 1) + (nI 1))) J)) ∧ (¬ x1 = x2 → pm_Ev d 95 [.ref 0, .int x1] (pm_hp L fz t I J) (K_X10_change_10 d fz t Q x1 x2)))) :
    t_X10_change_0 d L fz t Q x1 x2 I J := by
  exact pm_go d [(10, [0, 1, 2]), (18, [0, 1, 2]), (44, [0, 1, 2]), (53, [])] 400 ⟨fun q0 => ⟨(vp_in_nI (by decide : 1 < 3) (by decide) : vp_in (nI 1) 3), ⟨(vp_in_nI (by decide : 1 < 3) (by decide) : vp_in (nI 1) 3), ⟨Or.inl rfl, ((h).1 q0)⟩⟩⟩, fun q0 => ((h).2 q0)⟩
theorem e_X10_change {d L : Nat} {fz t : Bool} {Q : pm_R → pm_H → Prop} {x1 : Int32} {x2 : Int32} {I : Nat → Nat → Int32} {J : Nat → Nat → Int64}
    (h : ((x1 = x2 → Q (.inl (some (.int (nI 0)))) (pm_hp L fz t (pm_u I 20 1 ((I 20 1) + (nI 1))) J)) ∧ (¬ x1 = x2 → pm_Ev d 95 [.ref 0, .int x1] (pm_hp L fz t I J) (K_X10_change_10 d fz t Q x1 x2)))) :
    pm_Ev (d + 1) 88 [.ref 0, .int x1, .int x2] (pm_hp L fz t I J) Q := pm_Ev_in rfl (b_X10_change_0 h)
set_option maxRecDepth 100000 in
theorem b_X10_change_10 {d L : Nat} {fz t : Bool} {Q : pm_R → pm_H → Prop} {x1 : Int32} {x2 : Int32} {r : Int32} {I : Nat → Nat → Int32} {J : Nat → Nat → Int64}
    (h : ((r = (nI 0) → Q (.inl (some (.int (nI 0)))) (pm_hp L fz t (pm_u I 20 1 ((I 20 1) + (nI 1))) J)) ∧ (¬ r = (nI 0) → pm_Ev d 95 [.ref 0, .int x2] (pm_hp L fz t I J) (K_X10_change_18 d fz t Q x1 x2)))) :
    t_X10_change_10 d L fz t Q x1 x2 r I J := by
  exact pm_go d [(10, [0, 1, 2]), (18, [0, 1, 2]), (44, [0, 1, 2]), (53, [])] 400 ⟨fun q0 => ⟨(vp_in_nI (by decide : 1 < 3) (by decide) : vp_in (nI 1) 3), ⟨(vp_in_nI (by decide : 1 < 3) (by decide) : vp_in (nI 1) 3), ⟨Or.inl rfl, ((h).1 q0)⟩⟩⟩, fun q0 => ((h).2 q0)⟩
theorem kb_X10_change_10 {d L : Nat} {fz t : Bool} {Q : pm_R → pm_H → Prop} {x1 : Int32} {x2 : Int32} {r : Int32} {fz1 : Bool} {I : Nat → Nat → Int32} {J : Nat → Nat → Int64}
    (h : ((r = (nI 0) → Q (.inl (some (.int (nI 0)))) (pm_hp L fz t (pm_u I 20 1 ((I 20 1) + (nI 1))) J)) ∧ (¬ r = (nI 0) → pm_Ev d 95 [.ref 0, .int x2] (pm_hp L fz t I J) (K_X10_change_18 d fz t Q x1 x2)))) :
    K_X10_change_10 d fz t Q x1 x2 (.inl (some (.int r))) (pm_hp L fz1 t I J) := b_X10_change_10 h
set_option maxRecDepth 100000 in
theorem b_X10_change_18 {d L : Nat} {fz t : Bool} {Q : pm_R → pm_H → Prop} {x1 : Int32} {x2 : Int32} {r : Int32} {I : Nat → Nat → Int32} {J : Nat → Nat → Int64}
    (h : ((¬ r = (nI 0) → pm_Ev d 0 [.ref 35, .int (nI 3), .int x1, .int x2, .long (Int64.ofNat 0)] (pm_hp L fz t I J) (K_X10_change_44 d fz t Q x1 x2)) ∧ (r = (nI 0) → Q (.inl (some (.int (nI 0)))) (pm_hp L fz t (pm_u I 20 1 ((I 20 1) + (nI 1))) J)))) :
    t_X10_change_18 d L fz t Q x1 x2 r I J := by
  exact pm_go d [(10, [0, 1, 2]), (18, [0, 1, 2]), (44, [0, 1, 2]), (53, [])] 400 ⟨fun q0 => ((h).1 q0), fun q0 => ⟨(vp_in_nI (by decide : 1 < 3) (by decide) : vp_in (nI 1) 3), ⟨(vp_in_nI (by decide : 1 < 3) (by decide) : vp_in (nI 1) 3), ⟨Or.inl rfl, ((h).2 q0)⟩⟩⟩⟩
theorem kb_X10_change_18 {d L : Nat} {fz t : Bool} {Q : pm_R → pm_H → Prop} {x1 : Int32} {x2 : Int32} {r : Int32} {fz1 : Bool} {I : Nat → Nat → Int32} {J : Nat → Nat → Int64}
    (h : ((¬ r = (nI 0) → pm_Ev d 0 [.ref 35, .int (nI 3), .int x1, .int x2, .long (Int64.ofNat 0)] (pm_hp L fz t I J) (K_X10_change_44 d fz t Q x1 x2)) ∧ (r = (nI 0) → Q (.inl (some (.int (nI 0)))) (pm_hp L fz t (pm_u I 20 1 ((I 20 1) + (nI 1))) J)))) :
    K_X10_change_18 d fz t Q x1 x2 (.inl (some (.int r))) (pm_hp L fz1 t I J) := b_X10_change_18 h
set_option maxRecDepth 100000 in
theorem b_X10_change_44 {d L : Nat} {fz t : Bool} {Q : pm_R → pm_H → Prop} {x1 : Int32} {x2 : Int32} {I : Nat → Nat → Int32} {J : Nat → Nat → Int64}
    (h : pm_Ev d 81 [.ref 23, .int x1, .int x2] (pm_hp L fz t I J) (K_X10_change_53 d fz t Q)) :
    t_X10_change_44 d L fz t Q x1 x2 I J := by
  exact pm_go d [(10, [0, 1, 2]), (18, [0, 1, 2]), (44, [0, 1, 2]), (53, [])] 400 h
theorem kb_X10_change_44 {d L : Nat} {fz t : Bool} {Q : pm_R → pm_H → Prop} {x1 : Int32} {x2 : Int32} {fz1 : Bool} {I : Nat → Nat → Int32} {J : Nat → Nat → Int64}
    (h : pm_Ev d 81 [.ref 23, .int x1, .int x2] (pm_hp L fz t I J) (K_X10_change_53 d fz t Q)) :
    K_X10_change_44 d fz t Q x1 x2 (.inl none) (pm_hp L fz1 t I J) := b_X10_change_44 h
set_option maxRecDepth 100000 in
theorem b_X10_change_53 {d L : Nat} {fz t : Bool} {Q : pm_R → pm_H → Prop} {I : Nat → Nat → Int32} {J : Nat → Nat → Int64}
    (h : Q (.inl (some (.int (nI 1)))) (pm_hp L fz t I J)) :
    t_X10_change_53 d L fz t Q I J := by
  exact pm_go d [(10, [0, 1, 2]), (18, [0, 1, 2]), (44, [0, 1, 2]), (53, [])] 400 ⟨Or.inr rfl, h⟩
theorem kb_X10_change_53 {d L : Nat} {fz t : Bool} {Q : pm_R → pm_H → Prop} {fz1 : Bool} {I : Nat → Nat → Int32} {J : Nat → Nat → Int64}
    (h : Q (.inl (some (.int (nI 1)))) (pm_hp L fz t I J)) :
    K_X10_change_53 d fz t Q (.inl none) (pm_hp L fz1 t I J) := b_X10_change_53 h
def t_X10_undo_0 (d L : Nat) (fz t : Bool) (Q : pm_R → pm_H → Prop) (I : Nat → Nat → Int32) (J : Nat → Nat → Int64) : Prop := pm_T (pm_Ev d) 89 Q (0, [(0, .ref 0)], [], pm_hp L fz t I J, 0, 0)
def t_X10_undo_24 (d L : Nat) (fz t : Bool) (Q : pm_R → pm_H → Prop) (I : Nat → Nat → Int32) (J : Nat → Nat → Int64) : Prop := pm_T (pm_Ev d) 89 Q (24, [(0, .ref 0)], [], pm_hp L fz t I J, 0, 0)
def K_X10_undo_24 (d : Nat) (fz t : Bool) (Q : pm_R → pm_H → Prop) : pm_R → pm_H → Prop := pm_K d 89 Q 24 [(0, .ref 0)] [] 118 0 fz 0 0
set_option maxRecDepth 100000 in
theorem b_X10_undo_0 {d L : Nat} {fz t : Bool} {Q : pm_R → pm_H → Prop} {I : Nat → Nat → Int32} {J : Nat → Nat → Int64}
    (h : (((nI 1) ≤ (I 35 4) → pm_Ev d 2 [.ref 35, .ref 23] (pm_hp L fz t I J) (K_X10_undo_24 d fz t Q)) ∧ (¬ (nI 1) ≤ (I 35 4) → Q (.inl (some (.int (-1 : Int32)))) (pm_hp L fz t I J)))) :
    t_X10_undo_0 d L fz t Q I J := by
  exact pm_go d [(24, [0])] 400 ⟨fun q0 => ((h).1 q0), fun q0 => ((h).2 q0)⟩
theorem e_X10_undo {d L : Nat} {fz t : Bool} {Q : pm_R → pm_H → Prop} {I : Nat → Nat → Int32} {J : Nat → Nat → Int64}
    (h : (((nI 1) ≤ (I 35 4) → pm_Ev d 2 [.ref 35, .ref 23] (pm_hp L fz t I J) (K_X10_undo_24 d fz t Q)) ∧ (¬ (nI 1) ≤ (I 35 4) → Q (.inl (some (.int (-1 : Int32)))) (pm_hp L fz t I J)))) :
    pm_Ev (d + 1) 89 [.ref 0] (pm_hp L fz t I J) Q := pm_Ev_in rfl (b_X10_undo_0 h)
set_option maxRecDepth 100000 in
theorem b_X10_undo_24 {d L : Nat} {fz t : Bool} {Q : pm_R → pm_H → Prop} {I : Nat → Nat → Int32} {J : Nat → Nat → Int64}
    (h : Q (.inl (some (.int (I 35 4)))) (pm_hp L fz t I J)) :
    t_X10_undo_24 d L fz t Q I J := by
  exact pm_go d [(24, [0])] 400 h
theorem kb_X10_undo_24 {d L : Nat} {fz t : Bool} {Q : pm_R → pm_H → Prop} {fz1 : Bool} {I : Nat → Nat → Int32} {J : Nat → Nat → Int64}
    (h : Q (.inl (some (.int (I 35 4)))) (pm_hp L fz t I J)) :
    K_X10_undo_24 d fz t Q (.inl none) (pm_hp L fz1 t I J) := b_X10_undo_24 h
def t_X10_changes_0 (d L : Nat) (fz t : Bool) (Q : pm_R → pm_H → Prop) (I : Nat → Nat → Int32) (J : Nat → Nat → Int64) : Prop := pm_T (pm_Ev d) 90 Q (0, [(0, .ref 0)], [], pm_hp L fz t I J, 0, 0)
def t_X10_changes_16 (d L : Nat) (fz t : Bool) (Q : pm_R → pm_H → Prop) (I : Nat → Nat → Int32) (J : Nat → Nat → Int64) : Prop := pm_T (pm_Ev d) 90 Q (16, [(0, .ref 0)], [], pm_hp L fz t I J, 0, 0)
def K_X10_changes_16 (d : Nat) (fz t : Bool) (Q : pm_R → pm_H → Prop) : pm_R → pm_H → Prop := pm_K d 90 Q 16 [(0, .ref 0)] [] 118 0 fz 0 0
def t_X10_changes_23 (d L : Nat) (fz t : Bool) (Q : pm_R → pm_H → Prop) (I : Nat → Nat → Int32) (J : Nat → Nat → Int64) : Prop := pm_T (pm_Ev d) 90 Q (23, [(0, .ref 0)], [], pm_hp L fz t I J, 0, 0)
def K_X10_changes_23 (d : Nat) (fz t : Bool) (Q : pm_R → pm_H → Prop) : pm_R → pm_H → Prop := pm_K d 90 Q 23 [(0, .ref 0)] [] 118 0 fz 0 0
def t_X10_changes_25 (d L : Nat) (fz t : Bool) (Q : pm_R → pm_H → Prop) (x1 : Int32) (I : Nat → Nat → Int32) (J : Nat → Nat → Int64) : Prop := pm_T (pm_Ev d) 90 Q (25, [(0, .ref 0), (1, .int x1)], [], pm_hp L fz t I J, 0, 0)
def t_X10_changes_47 (d L : Nat) (fz t : Bool) (Q : pm_R → pm_H → Prop) (x1 : Int32) (I : Nat → Nat → Int32) (J : Nat → Nat → Int64) : Prop := pm_T (pm_Ev d) 90 Q (47, [(0, .ref 0), (1, .int x1)], [], pm_hp L fz t I J, 0, 0)
def K_X10_changes_47 (d : Nat) (fz t : Bool) (Q : pm_R → pm_H → Prop) (x1 : Int32) : pm_R → pm_H → Prop := pm_K d 90 Q 47 [(0, .ref 0), (1, .int x1)] [] 118 0 fz 0 0
def t_X10_changes_54 (d L : Nat) (fz t : Bool) (Q : pm_R → pm_H → Prop) (x1 : Int32) (r : Int32) (I : Nat → Nat → Int32) (J : Nat → Nat → Int64) : Prop := pm_T (pm_Ev d) 90 Q (54, [(0, .ref 0), (1, .int x1)], [.int r], pm_hp L fz t I J, 0, 0)
def K_X10_changes_54 (d : Nat) (fz t : Bool) (Q : pm_R → pm_H → Prop) (x1 : Int32) : pm_R → pm_H → Prop := pm_K d 90 Q 54 [(0, .ref 0), (1, .int x1)] [] 118 0 fz 0 0
set_option maxRecDepth 100000 in
theorem b_X10_changes_0 {d L : Nat} {fz t : Bool} {Q : pm_R → pm_H → Prop} {I : Nat → Nat → Int32} {J : Nat → Nat → Int64}
    (h : pm_Ev d 12 [.ref 3, .ref (pm_td t), .ref 23, .int (nI 0)] (pm_hp L fz t I J) (K_X10_changes_16 d fz t Q)) :
    t_X10_changes_0 d L fz t Q I J := by
  cases t <;> exact pm_go d [(16, [0]), (23, [0]), (25, [0, 1]), (47, [0, 1]), (54, [0, 1])] 400 h
theorem e_X10_changes {d L : Nat} {fz t : Bool} {Q : pm_R → pm_H → Prop} {I : Nat → Nat → Int32} {J : Nat → Nat → Int64}
    (h : pm_Ev d 12 [.ref 3, .ref (pm_td t), .ref 23, .int (nI 0)] (pm_hp L fz t I J) (K_X10_changes_16 d fz t Q)) :
    pm_Ev (d + 1) 90 [.ref 0] (pm_hp L fz t I J) Q := pm_Ev_in rfl (b_X10_changes_0 h)
set_option maxRecDepth 100000 in
theorem b_X10_changes_16 {d L : Nat} {fz t : Bool} {Q : pm_R → pm_H → Prop} {I : Nat → Nat → Int32} {J : Nat → Nat → Int64}
    (h : pm_Ev d 17 [.ref 3] (pm_hp L fz t I J) (K_X10_changes_23 d fz t Q)) :
    t_X10_changes_16 d L fz t Q I J := by
  exact pm_go d [(16, [0]), (23, [0]), (25, [0, 1]), (47, [0, 1]), (54, [0, 1])] 400 h
theorem kb_X10_changes_16 {d L : Nat} {fz t : Bool} {Q : pm_R → pm_H → Prop} {fz1 : Bool} {I : Nat → Nat → Int32} {J : Nat → Nat → Int64}
    (h : pm_Ev d 17 [.ref 3] (pm_hp L fz t I J) (K_X10_changes_23 d fz t Q)) :
    K_X10_changes_16 d fz t Q (.inl none) (pm_hp L fz1 t I J) := b_X10_changes_16 h
set_option maxRecDepth 100000 in
theorem b_X10_changes_23 {d L : Nat} {fz t : Bool} {Q : pm_R → pm_H → Prop} {I : Nat → Nat → Int32} {J : Nat → Nat → Int64}
    (h : t_X10_changes_25 d L fz t Q (nI 1) I J) :
    t_X10_changes_23 d L fz t Q I J := by
  exact pm_go d [(16, [0]), (23, [0]), (25, [0, 1]), (47, [0, 1]), (54, [0, 1])] 400 h
theorem kb_X10_changes_23 {d L : Nat} {fz t : Bool} {Q : pm_R → pm_H → Prop} {fz1 : Bool} {I : Nat → Nat → Int32} {J : Nat → Nat → Int64}
    (h : t_X10_changes_25 d L fz t Q (nI 1) I J) :
    K_X10_changes_23 d fz t Q (.inl none) (pm_hp L fz1 t I J) := b_X10_changes_23 h
set_option maxRecDepth 100000 in
theorem b_X10_changes_25 {d L : Nat} {fz t : Bool} {Q : pm_R → pm_H → Prop} {x1 : Int32} {I : Nat → Nat → Int32} {J : Nat → Nat → Int64}
    (h : (((nI 9) < x1 → Q (.inl (some (.int (-1 : Int32)))) (pm_hp L fz t I J)) ∧ (¬ (nI 9) < x1 → pm_Ev d 12 [.ref 3, .ref (pm_td t), .ref 23, .int x1] (pm_hp L fz t I J) (K_X10_changes_47 d fz t Q x1)))) :
    t_X10_changes_25 d L fz t Q x1 I J := by
  cases t <;> exact pm_go d [(16, [0]), (23, [0]), (25, [0, 1]), (47, [0, 1]), (54, [0, 1])] 400 ⟨fun q0 => ((h).1 q0), fun q0 => ((h).2 q0)⟩
set_option maxRecDepth 100000 in
theorem b_X10_changes_47 {d L : Nat} {fz t : Bool} {Q : pm_R → pm_H → Prop} {x1 : Int32} {I : Nat → Nat → Int32} {J : Nat → Nat → Int64}
    (h : pm_Ev d 18 [.ref 3] (pm_hp L fz t I J) (K_X10_changes_54 d fz t Q x1)) :
    t_X10_changes_47 d L fz t Q x1 I J := by
  exact pm_go d [(16, [0]), (23, [0]), (25, [0, 1]), (47, [0, 1]), (54, [0, 1])] 400 h
theorem kb_X10_changes_47 {d L : Nat} {fz t : Bool} {Q : pm_R → pm_H → Prop} {x1 : Int32} {fz1 : Bool} {I : Nat → Nat → Int32} {J : Nat → Nat → Int64}
    (h : pm_Ev d 18 [.ref 3] (pm_hp L fz t I J) (K_X10_changes_54 d fz t Q x1)) :
    K_X10_changes_47 d fz t Q x1 (.inl none) (pm_hp L fz1 t I J) := b_X10_changes_47 h
set_option maxRecDepth 100000 in
theorem b_X10_changes_54 {d L : Nat} {fz t : Bool} {Q : pm_R → pm_H → Prop} {x1 : Int32} {r : Int32} {I : Nat → Nat → Int32} {J : Nat → Nat → Int64}
    (h : ((r = (nI 0) → t_X10_changes_25 d L fz t Q (x1 + (nI 1)) I J) ∧ (¬ r = (nI 0) → Q (.inl (some (.int x1))) (pm_hp L fz t I J)))) :
    t_X10_changes_54 d L fz t Q x1 r I J := by
  exact pm_go d [(16, [0]), (23, [0]), (25, [0, 1]), (47, [0, 1]), (54, [0, 1])] 400 ⟨fun q0 => ((h).1 q0), fun q0 => ((h).2 q0)⟩
theorem kb_X10_changes_54 {d L : Nat} {fz t : Bool} {Q : pm_R → pm_H → Prop} {x1 : Int32} {r : Int32} {fz1 : Bool} {I : Nat → Nat → Int32} {J : Nat → Nat → Int64}
    (h : ((r = (nI 0) → t_X10_changes_25 d L fz t Q (x1 + (nI 1)) I J) ∧ (¬ r = (nI 0) → Q (.inl (some (.int x1))) (pm_hp L fz t I J)))) :
    K_X10_changes_54 d fz t Q x1 (.inl (some (.int r))) (pm_hp L fz1 t I J) := b_X10_changes_54 h
def t_X10_forget_0 (d L : Nat) (fz t : Bool) (Q : pm_R → pm_H → Prop) (I : Nat → Nat → Int32) (J : Nat → Nat → Int64) : Prop := pm_T (pm_Ev d) 91 Q (0, [(0, .ref 0)], [], pm_hp L fz t I J, 0, 0)
set_option maxRecDepth 100000 in
theorem b_X10_forget_0 {d L : Nat} {fz t : Bool} {Q : pm_R → pm_H → Prop} {I : Nat → Nat → Int32} {J : Nat → Nat → Int64}
    (h : Q (.inl none) (pm_hp L fz t (pm_u I 45 4 (nI 0)) J)) :
    t_X10_forget_0 d L fz t Q I J := by
  exact pm_go d [] 400 h
theorem e_X10_forget {d L : Nat} {fz t : Bool} {Q : pm_R → pm_H → Prop} {I : Nat → Nat → Int32} {J : Nat → Nat → Int64}
    (h : Q (.inl none) (pm_hp L fz t (pm_u I 45 4 (nI 0)) J)) :
    pm_Ev (d + 1) 91 [.ref 0] (pm_hp L fz t I J) Q := pm_Ev_in rfl (b_X10_forget_0 h)
def t_X10_swap_0 (d L : Nat) (fz t : Bool) (Q : pm_R → pm_H → Prop) (I : Nat → Nat → Int32) (J : Nat → Nat → Int64) : Prop := pm_T (pm_Ev d) 92 Q (0, [(0, .ref 0)], [], pm_hp L fz t I J, 0, 0)
def t_X10_swap_15 (d L : Nat) (fz t : Bool) (Q : pm_R → pm_H → Prop) (r : Int32) (I : Nat → Nat → Int32) (J : Nat → Nat → Int64) : Prop := pm_T (pm_Ev d) 92 Q (15, [], [.int r], pm_hp L fz t I J, 0, 0)
def K_X10_swap_15 (d : Nat) (fz t : Bool) (Q : pm_R → pm_H → Prop) : pm_R → pm_H → Prop := pm_K d 92 Q 15 [] [] 118 0 fz 0 0
set_option maxRecDepth 100000 in
theorem b_X10_swap_0 {d L : Nat} {fz t : Bool} {Q : pm_R → pm_H → Prop} {I : Nat → Nat → Int32} {J : Nat → Nat → Int64}
    (h : pm_Ev d 64 [.ref 12, .ref (pm_td t), .ref 23] (pm_hp L fz t I J) (K_X10_swap_15 d fz t Q)) :
    t_X10_swap_0 d L fz t Q I J := by
  cases t <;> exact pm_go d [(15, [])] 400 h
theorem e_X10_swap {d L : Nat} {fz t : Bool} {Q : pm_R → pm_H → Prop} {I : Nat → Nat → Int32} {J : Nat → Nat → Int64}
    (h : pm_Ev d 64 [.ref 12, .ref (pm_td t), .ref 23] (pm_hp L fz t I J) (K_X10_swap_15 d fz t Q)) :
    pm_Ev (d + 1) 92 [.ref 0] (pm_hp L fz t I J) Q := pm_Ev_in rfl (b_X10_swap_0 h)
set_option maxRecDepth 100000 in
theorem b_X10_swap_15 {d L : Nat} {fz t : Bool} {Q : pm_R → pm_H → Prop} {r : Int32} {I : Nat → Nat → Int32} {J : Nat → Nat → Int64}
    (h : Q (.inl (some (.int r))) (pm_hp L fz t I J)) :
    t_X10_swap_15 d L fz t Q r I J := by
  exact pm_go d [(15, [])] 400 h
theorem kb_X10_swap_15 {d L : Nat} {fz t : Bool} {Q : pm_R → pm_H → Prop} {r : Int32} {fz1 : Bool} {I : Nat → Nat → Int32} {J : Nat → Nat → Int64}
    (h : Q (.inl (some (.int r))) (pm_hp L fz t I J)) :
    K_X10_swap_15 d fz t Q (.inl (some (.int r))) (pm_hp L fz1 t I J) := b_X10_swap_15 h
def t_X10_image_0 (d L : Nat) (fz t : Bool) (Q : pm_R → pm_H → Prop) (I : Nat → Nat → Int32) (J : Nat → Nat → Int64) : Prop := pm_T (pm_Ev d) 93 Q (0, [(0, .ref 0)], [], pm_hp L fz t I J, 0, 0)
def t_X10_image_11 (d L : Nat) (fz t : Bool) (Q : pm_R → pm_H → Prop) (I : Nat → Nat → Int32) (J : Nat → Nat → Int64) : Prop := pm_T (pm_Ev d) 93 Q (11, [(0, .ref 0)], [], pm_hp L fz t I J, 0, 0)
def K_X10_image_11 (d : Nat) (fz t : Bool) (Q : pm_R → pm_H → Prop) : pm_R → pm_H → Prop := pm_K d 93 Q 11 [(0, .ref 0)] [] 118 0 fz 0 0
def t_X10_image_22 (d L : Nat) (fz t : Bool) (Q : pm_R → pm_H → Prop) (I : Nat → Nat → Int32) (J : Nat → Nat → Int64) : Prop := pm_T (pm_Ev d) 93 Q (22, [(0, .ref 0)], [], pm_hp L fz t I J, 0, 0)
def K_X10_image_22 (d : Nat) (fz t : Bool) (Q : pm_R → pm_H → Prop) : pm_R → pm_H → Prop := pm_K d 93 Q 22 [(0, .ref 0)] [] 118 0 fz 0 0
def t_X10_image_33 (d L : Nat) (fz t : Bool) (Q : pm_R → pm_H → Prop) (I : Nat → Nat → Int32) (J : Nat → Nat → Int64) : Prop := pm_T (pm_Ev d) 93 Q (33, [(0, .ref 0)], [], pm_hp L fz t I J, 0, 0)
def K_X10_image_33 (d : Nat) (fz t : Bool) (Q : pm_R → pm_H → Prop) : pm_R → pm_H → Prop := pm_K d 93 Q 33 [(0, .ref 0)] [] 118 0 fz 0 0
set_option maxRecDepth 100000 in
theorem b_X10_image_0 {d L : Nat} {fz t : Bool} {Q : pm_R → pm_H → Prop} {I : Nat → Nat → Int32} {J : Nat → Nat → Int64}
    (h : pm_Ev d 78 [.ref 31, .ref 23] (pm_hp L fz t I J) (K_X10_image_11 d fz t Q)) :
    t_X10_image_0 d L fz t Q I J := by
  exact pm_go d [(11, [0]), (22, [0]), (33, [0])] 400 h
theorem e_X10_image {d L : Nat} {fz t : Bool} {Q : pm_R → pm_H → Prop} {I : Nat → Nat → Int32} {J : Nat → Nat → Int64}
    (h : pm_Ev d 78 [.ref 31, .ref 23] (pm_hp L fz t I J) (K_X10_image_11 d fz t Q)) :
    pm_Ev (d + 1) 93 [.ref 0] (pm_hp L fz t I J) Q := pm_Ev_in rfl (b_X10_image_0 h)
set_option maxRecDepth 100000 in
theorem b_X10_image_11 {d L : Nat} {fz t : Bool} {Q : pm_R → pm_H → Prop} {I : Nat → Nat → Int32} {J : Nat → Nat → Int64}
    (h : pm_Ev d 3 [.ref 40, .ref 35] (pm_hp L fz t I J) (K_X10_image_22 d fz t Q)) :
    t_X10_image_11 d L fz t Q I J := by
  exact pm_go d [(11, [0]), (22, [0]), (33, [0])] 400 h
theorem kb_X10_image_11 {d L : Nat} {fz t : Bool} {Q : pm_R → pm_H → Prop} {fz1 : Bool} {I : Nat → Nat → Int32} {J : Nat → Nat → Int64}
    (h : pm_Ev d 3 [.ref 40, .ref 35] (pm_hp L fz t I J) (K_X10_image_22 d fz t Q)) :
    K_X10_image_11 d fz t Q (.inl none) (pm_hp L fz1 t I J) := b_X10_image_11 h
set_option maxRecDepth 100000 in
theorem b_X10_image_22 {d L : Nat} {fz t : Bool} {Q : pm_R → pm_H → Prop} {I : Nat → Nat → Int32} {J : Nat → Nat → Int64}
    (h : pm_Ev d 54 [.ref 50, .ref 45] (pm_hp L fz t I J) (K_X10_image_33 d fz t Q)) :
    t_X10_image_22 d L fz t Q I J := by
  exact pm_go d [(11, [0]), (22, [0]), (33, [0])] 400 h
theorem kb_X10_image_22 {d L : Nat} {fz t : Bool} {Q : pm_R → pm_H → Prop} {fz1 : Bool} {I : Nat → Nat → Int32} {J : Nat → Nat → Int64}
    (h : pm_Ev d 54 [.ref 50, .ref 45] (pm_hp L fz t I J) (K_X10_image_33 d fz t Q)) :
    K_X10_image_22 d fz t Q (.inl none) (pm_hp L fz1 t I J) := b_X10_image_22 h
set_option maxRecDepth 100000 in
theorem b_X10_image_33 {d L : Nat} {fz t : Bool} {Q : pm_R → pm_H → Prop} {I : Nat → Nat → Int32} {J : Nat → Nat → Int64}
    (h : Q (.inl none) (pm_hp L fz t (pm_u I 0 17 (nI 1)) J)) :
    t_X10_image_33 d L fz t Q I J := by
  exact pm_go d [(11, [0]), (22, [0]), (33, [0])] 400 ⟨Or.inr rfl, h⟩
theorem kb_X10_image_33 {d L : Nat} {fz t : Bool} {Q : pm_R → pm_H → Prop} {fz1 : Bool} {I : Nat → Nat → Int32} {J : Nat → Nat → Int64}
    (h : Q (.inl none) (pm_hp L fz t (pm_u I 0 17 (nI 1)) J)) :
    K_X10_image_33 d fz t Q (.inl none) (pm_hp L fz1 t I J) := b_X10_image_33 h
def t_X10_restore_0 (d L : Nat) (fz t : Bool) (Q : pm_R → pm_H → Prop) (I : Nat → Nat → Int32) (J : Nat → Nat → Int64) : Prop := pm_T (pm_Ev d) 94 Q (0, [(0, .ref 0)], [], pm_hp L fz t I J, 0, 0)
def t_X10_restore_20 (d L : Nat) (fz t : Bool) (Q : pm_R → pm_H → Prop) (I : Nat → Nat → Int32) (J : Nat → Nat → Int64) : Prop := pm_T (pm_Ev d) 94 Q (20, [(0, .ref 0)], [], pm_hp L fz t I J, 0, 0)
def K_X10_restore_20 (d : Nat) (fz t : Bool) (Q : pm_R → pm_H → Prop) : pm_R → pm_H → Prop := pm_K d 94 Q 20 [(0, .ref 0)] [] 118 0 fz 0 0
def t_X10_restore_31 (d L : Nat) (fz t : Bool) (Q : pm_R → pm_H → Prop) (I : Nat → Nat → Int32) (J : Nat → Nat → Int64) : Prop := pm_T (pm_Ev d) 94 Q (31, [(0, .ref 0)], [], pm_hp L fz t I J, 0, 0)
def K_X10_restore_31 (d : Nat) (fz t : Bool) (Q : pm_R → pm_H → Prop) : pm_R → pm_H → Prop := pm_K d 94 Q 31 [(0, .ref 0)] [] 118 0 fz 0 0
def t_X10_restore_42 (d L : Nat) (fz t : Bool) (Q : pm_R → pm_H → Prop) (I : Nat → Nat → Int32) (J : Nat → Nat → Int64) : Prop := pm_T (pm_Ev d) 94 Q (42, [], [], pm_hp L fz t I J, 0, 0)
def K_X10_restore_42 (d : Nat) (fz t : Bool) (Q : pm_R → pm_H → Prop) : pm_R → pm_H → Prop := pm_K d 94 Q 42 [] [] 118 0 fz 0 0
set_option maxRecDepth 100000 in
theorem b_X10_restore_0 {d L : Nat} {fz t : Bool} {Q : pm_R → pm_H → Prop} {I : Nat → Nat → Int32} {J : Nat → Nat → Int64}
    (h : ((¬ (I 0 17) = (nI 0) → pm_Ev d 78 [.ref 23, .ref 31] (pm_hp L fz t I J) (K_X10_restore_20 d fz t Q)) ∧ ((I 0 17) = (nI 0) → Q (.inl (some (.int (nI 0)))) (pm_hp L fz t I J)))) :
    t_X10_restore_0 d L fz t Q I J := by
  exact pm_go d [(20, [0]), (31, [0]), (42, [])] 400 ⟨fun q0 => ((h).1 q0), fun q0 => ⟨Or.inl rfl, ((h).2 q0)⟩⟩
theorem e_X10_restore {d L : Nat} {fz t : Bool} {Q : pm_R → pm_H → Prop} {I : Nat → Nat → Int32} {J : Nat → Nat → Int64}
    (h : ((¬ (I 0 17) = (nI 0) → pm_Ev d 78 [.ref 23, .ref 31] (pm_hp L fz t I J) (K_X10_restore_20 d fz t Q)) ∧ ((I 0 17) = (nI 0) → Q (.inl (some (.int (nI 0)))) (pm_hp L fz t I J)))) :
    pm_Ev (d + 1) 94 [.ref 0] (pm_hp L fz t I J) Q := pm_Ev_in rfl (b_X10_restore_0 h)
set_option maxRecDepth 100000 in
theorem b_X10_restore_20 {d L : Nat} {fz t : Bool} {Q : pm_R → pm_H → Prop} {I : Nat → Nat → Int32} {J : Nat → Nat → Int64}
    (h : pm_Ev d 3 [.ref 35, .ref 40] (pm_hp L fz t I J) (K_X10_restore_31 d fz t Q)) :
    t_X10_restore_20 d L fz t Q I J := by
  exact pm_go d [(20, [0]), (31, [0]), (42, [])] 400 h
theorem kb_X10_restore_20 {d L : Nat} {fz t : Bool} {Q : pm_R → pm_H → Prop} {fz1 : Bool} {I : Nat → Nat → Int32} {J : Nat → Nat → Int64}
    (h : pm_Ev d 3 [.ref 35, .ref 40] (pm_hp L fz t I J) (K_X10_restore_31 d fz t Q)) :
    K_X10_restore_20 d fz t Q (.inl none) (pm_hp L fz1 t I J) := b_X10_restore_20 h
set_option maxRecDepth 100000 in
theorem b_X10_restore_31 {d L : Nat} {fz t : Bool} {Q : pm_R → pm_H → Prop} {I : Nat → Nat → Int32} {J : Nat → Nat → Int64}
    (h : pm_Ev d 54 [.ref 45, .ref 50] (pm_hp L fz t I J) (K_X10_restore_42 d fz t Q)) :
    t_X10_restore_31 d L fz t Q I J := by
  exact pm_go d [(20, [0]), (31, [0]), (42, [])] 400 h
theorem kb_X10_restore_31 {d L : Nat} {fz t : Bool} {Q : pm_R → pm_H → Prop} {fz1 : Bool} {I : Nat → Nat → Int32} {J : Nat → Nat → Int64}
    (h : pm_Ev d 54 [.ref 45, .ref 50] (pm_hp L fz t I J) (K_X10_restore_42 d fz t Q)) :
    K_X10_restore_31 d fz t Q (.inl none) (pm_hp L fz1 t I J) := b_X10_restore_31 h
set_option maxRecDepth 100000 in
theorem b_X10_restore_42 {d L : Nat} {fz t : Bool} {Q : pm_R → pm_H → Prop} {I : Nat → Nat → Int32} {J : Nat → Nat → Int64}
    (h : Q (.inl (some (.int (nI 1)))) (pm_hp L fz t I J)) :
    t_X10_restore_42 d L fz t Q I J := by
  exact pm_go d [(20, [0]), (31, [0]), (42, [])] 400 ⟨Or.inr rfl, h⟩
theorem kb_X10_restore_42 {d L : Nat} {fz t : Bool} {Q : pm_R → pm_H → Prop} {fz1 : Bool} {I : Nat → Nat → Int32} {J : Nat → Nat → Int64}
    (h : Q (.inl (some (.int (nI 1)))) (pm_hp L fz t I J)) :
    K_X10_restore_42 d fz t Q (.inl none) (pm_hp L fz1 t I J) := b_X10_restore_42 h
def t_X10_isPick_0 (d L : Nat) (fz t : Bool) (Q : pm_R → pm_H → Prop) (x1 : Int32) (I : Nat → Nat → Int32) (J : Nat → Nat → Int64) : Prop := pm_T (pm_Ev d) 95 Q (0, [(0, .ref 0), (1, .int x1)], [], pm_hp L fz t I J, 0, 0)
set_option maxRecDepth 100000 in
theorem b_X10_isPick_0 {d L : Nat} {fz t : Bool} {Q : pm_R → pm_H → Prop} {x1 : Int32} {I : Nat → Nat → Int32} {J : Nat → Nat → Int64}
    (h : ((x1 < (nI 0) → Q (.inl (some (.int (nI 0)))) (pm_hp L fz t I J)) ∧ (¬ x1 < (nI 0) → (((I 23 3) ≤ x1 → Q (.inl (some (.int (nI 0)))) (pm_hp L fz t I J)) ∧ (¬ (I 23 3) ≤ x1 → Q (.inl (some (.int (nI 1)))) (pm_hp L fz t I J)))))) :
    t_X10_isPick_0 d L fz t Q x1 I J := by
  exact pm_go d [] 400 ⟨fun q0 => ⟨Or.inl rfl, ((h).1 q0)⟩, fun q0 => ⟨fun q1 => ⟨Or.inl rfl, ((((h).2 q0)).1 q1)⟩, fun q1 => ⟨Or.inr rfl, ((((h).2 q0)).2 q1)⟩⟩⟩
theorem e_X10_isPick {d L : Nat} {fz t : Bool} {Q : pm_R → pm_H → Prop} {x1 : Int32} {I : Nat → Nat → Int32} {J : Nat → Nat → Int64}
    (h : ((x1 < (nI 0) → Q (.inl (some (.int (nI 0)))) (pm_hp L fz t I J)) ∧ (¬ x1 < (nI 0) → (((I 23 3) ≤ x1 → Q (.inl (some (.int (nI 0)))) (pm_hp L fz t I J)) ∧ (¬ (I 23 3) ≤ x1 → Q (.inl (some (.int (nI 1)))) (pm_hp L fz t I J)))))) :
    pm_Ev (d + 1) 95 [.ref 0, .int x1] (pm_hp L fz t I J) Q := pm_Ev_in rfl (b_X10_isPick_0 h)
def t_X10_isThread_0 (d L : Nat) (fz t : Bool) (Q : pm_R → pm_H → Prop) (x1 : Int32) (I : Nat → Nat → Int32) (J : Nat → Nat → Int64) : Prop := pm_T (pm_Ev d) 96 Q (0, [(0, .ref 0), (1, .int x1)], [], pm_hp L fz t I J, 0, 0)
set_option maxRecDepth 100000 in
theorem b_X10_isThread_0 {d L : Nat} {fz t : Bool} {Q : pm_R → pm_H → Prop} {x1 : Int32} {I : Nat → Nat → Int32} {J : Nat → Nat → Int64}
    (h : ((x1 < (nI 0) → Q (.inl (some (.int (nI 0)))) (pm_hp L fz t I J)) ∧ (¬ x1 < (nI 0) → (((I (pm_td t) 11) ≤ x1 → Q (.inl (some (.int (nI 0)))) (pm_hp L fz t I J)) ∧ (¬ (I (pm_td t) 11) ≤ x1 → Q (.inl (some (.int (nI 1)))) (pm_hp L fz t I J)))))) :
    t_X10_isThread_0 d L fz t Q x1 I J := by
  cases t <;> exact pm_go d [] 400 ⟨fun q0 => ⟨Or.inl rfl, ((h).1 q0)⟩, fun q0 => ⟨fun q1 => ⟨Or.inl rfl, ((((h).2 q0)).1 q1)⟩, fun q1 => ⟨Or.inr rfl, ((((h).2 q0)).2 q1)⟩⟩⟩
theorem e_X10_isThread {d L : Nat} {fz t : Bool} {Q : pm_R → pm_H → Prop} {x1 : Int32} {I : Nat → Nat → Int32} {J : Nat → Nat → Int64}
    (h : ((x1 < (nI 0) → Q (.inl (some (.int (nI 0)))) (pm_hp L fz t I J)) ∧ (¬ x1 < (nI 0) → (((I (pm_td t) 11) ≤ x1 → Q (.inl (some (.int (nI 0)))) (pm_hp L fz t I J)) ∧ (¬ (I (pm_td t) 11) ≤ x1 → Q (.inl (some (.int (nI 1)))) (pm_hp L fz t I J)))))) :
    pm_Ev (d + 1) 96 [.ref 0, .int x1] (pm_hp L fz t I J) Q := pm_Ev_in rfl (b_X10_isThread_0 h)
def t_X10_lowestBit_0 (d L : Nat) (fz t : Bool) (Q : pm_R → pm_H → Prop) (x0 : Int32) (I : Nat → Nat → Int32) (J : Nat → Nat → Int64) : Prop := pm_T (pm_Ev d) 97 Q (0, [(0, .int x0)], [], pm_hp L fz t I J, 0, 0)
def t_X10_lowestBit_2 (d L : Nat) (fz t : Bool) (Q : pm_R → pm_H → Prop) (x0 : Int32) (x1 : Int32) (I : Nat → Nat → Int32) (J : Nat → Nat → Int64) : Prop := pm_T (pm_Ev d) 97 Q (2, [(0, .int x0), (1, .int x1)], [], pm_hp L fz t I J, 0, 0)
set_option maxRecDepth 100000 in
theorem b_X10_lowestBit_0 {d L : Nat} {fz t : Bool} {Q : pm_R → pm_H → Prop} {x0 : Int32} {I : Nat → Nat → Int32} {J : Nat → Nat → Int64}
    (h : t_X10_lowestBit_2 d L fz t Q x0 (nI 0) I J) :
    t_X10_lowestBit_0 d L fz t Q x0 I J := by
  exact pm_go d [(2, [0, 1])] 400 h
theorem e_X10_lowestBit {d L : Nat} {fz t : Bool} {Q : pm_R → pm_H → Prop} {x0 : Int32} {I : Nat → Nat → Int32} {J : Nat → Nat → Int64}
    (h : t_X10_lowestBit_2 d L fz t Q x0 (nI 0) I J) :
    pm_Ev (d + 1) 97 [.int x0] (pm_hp L fz t I J) Q := pm_Ev_in rfl (b_X10_lowestBit_0 h)
set_option maxRecDepth 100000 in
theorem b_X10_lowestBit_2 {d L : Nat} {fz t : Bool} {Q : pm_R → pm_H → Prop} {x0 : Int32} {x1 : Int32} {I : Nat → Nat → Int32} {J : Nat → Nat → Int64}
    (h : (((nI 12) ≤ x1 → Q (.inl (some (.int (-1 : Int32)))) (pm_hp L fz t I J)) ∧ (¬ (nI 12) ≤ x1 → ((¬ ((x0 >>> (x1 &&& 31)) &&& (nI 1)) = (nI 1) → t_X10_lowestBit_2 d L fz t Q x0 (x1 + (nI 1)) I J) ∧ (((x0 >>> (x1 &&& 31)) &&& (nI 1)) = (nI 1) → Q (.inl (some (.int x1))) (pm_hp L fz t I J)))))) :
    t_X10_lowestBit_2 d L fz t Q x0 x1 I J := by
  exact pm_go d [(2, [0, 1])] 400 ⟨fun q0 => ((h).1 q0), fun q0 => ⟨fun q1 => ((((h).2 q0)).1 q1), fun q1 => ((((h).2 q0)).2 q1)⟩⟩
def t_X10_plainThreads_0 (d L : Nat) (fz t : Bool) (Q : pm_R → pm_H → Prop) (I : Nat → Nat → Int32) (J : Nat → Nat → Int64) : Prop := pm_T (pm_Ev d) 98 Q (0, [(0, .ref 0)], [], pm_hp L fz t I J, 0, 0)
def t_X10_plainThreads_16 (d L : Nat) (fz t : Bool) (Q : pm_R → pm_H → Prop) (I : Nat → Nat → Int32) (J : Nat → Nat → Int64) : Prop := pm_T (pm_Ev d) 98 Q (16, [(0, .ref 0)], [], pm_hp L fz t I J, 0, 0)
def K_X10_plainThreads_16 (d : Nat) (fz t : Bool) (Q : pm_R → pm_H → Prop) : pm_R → pm_H → Prop := pm_K d 98 Q 16 [(0, .ref 0)] [] 118 0 fz 0 0
def t_X10_plainThreads_20 (d L : Nat) (fz t : Bool) (Q : pm_R → pm_H → Prop) (x1 : Int32) (x2 : Int32) (I : Nat → Nat → Int32) (J : Nat → Nat → Int64) : Prop := pm_T (pm_Ev d) 98 Q (20, [(0, .ref 0), (1, .int x1), (2, .int x2)], [], pm_hp L fz t I J, 0, 0)
set_option maxRecDepth 100000 in
theorem b_X10_plainThreads_0 {d L : Nat} {fz t : Bool} {Q : pm_R → pm_H → Prop} {I : Nat → Nat → Int32} {J : Nat → Nat → Int64}
    (h : pm_Ev d 12 [.ref 3, .ref (pm_td t), .ref 23, .int (nI 0)] (pm_hp L fz t I J) (K_X10_plainThreads_16 d fz t Q)) :
    t_X10_plainThreads_0 d L fz t Q I J := by
  cases t <;> exact pm_go d [(16, [0]), (20, [0, 1, 2])] 400 h
theorem e_X10_plainThreads {d L : Nat} {fz t : Bool} {Q : pm_R → pm_H → Prop} {I : Nat → Nat → Int32} {J : Nat → Nat → Int64}
    (h : pm_Ev d 12 [.ref 3, .ref (pm_td t), .ref 23, .int (nI 0)] (pm_hp L fz t I J) (K_X10_plainThreads_16 d fz t Q)) :
    pm_Ev (d + 1) 98 [.ref 0] (pm_hp L fz t I J) Q := pm_Ev_in rfl (b_X10_plainThreads_0 h)
set_option maxRecDepth 100000 in
theorem b_X10_plainThreads_16 {d L : Nat} {fz t : Bool} {Q : pm_R → pm_H → Prop} {I : Nat → Nat → Int32} {J : Nat → Nat → Int64}
    (h : t_X10_plainThreads_20 d L fz t Q (nI 0) (nI 0) I J) :
    t_X10_plainThreads_16 d L fz t Q I J := by
  exact pm_go d [(16, [0]), (20, [0, 1, 2])] 400 h
theorem kb_X10_plainThreads_16 {d L : Nat} {fz t : Bool} {Q : pm_R → pm_H → Prop} {fz1 : Bool} {I : Nat → Nat → Int32} {J : Nat → Nat → Int64}
    (h : t_X10_plainThreads_20 d L fz t Q (nI 0) (nI 0) I J) :
    K_X10_plainThreads_16 d fz t Q (.inl none) (pm_hp L fz1 t I J) := b_X10_plainThreads_16 h
set_option maxRecDepth 100000 in
theorem b_X10_plainThreads_20 {d L : Nat} {fz t : Bool} {Q : pm_R → pm_H → Prop} {x1 : Int32} {x2 : Int32} {I : Nat → Nat → Int32} {J : Nat → Nat → Int64}
    (h : (((I 3 1) ≤ x2 → Q (.inl (some (.int ((I (pm_td t) 12) &&& (x1 ^^^ (-1 : Int32)))))) (pm_hp L fz t I J)) ∧ (¬ (I 3 1) ≤ x2 → (vp_in x2 12 ∧ t_X10_plainThreads_20 d L fz t Q (x1 ||| (I 4 (x2).toNatClampNeg)) (x2 + (nI 1)) I J)))) :
    t_X10_plainThreads_20 d L fz t Q x1 x2 I J := by
  cases t <;> exact pm_go d [(16, [0]), (20, [0, 1, 2])] 400 ⟨fun q0 => ((h).1 q0), fun q0 => ⟨(((h).2 q0)).1, (((h).2 q0)).2⟩⟩
def t_X10_repeatOf_0 (d L : Nat) (fz t : Bool) (Q : pm_R → pm_H → Prop) (I : Nat → Nat → Int32) (J : Nat → Nat → Int64) : Prop := pm_T (pm_Ev d) 99 Q (0, [(0, .ref 0)], [], pm_hp L fz t I J, 0, 0)
def t_X10_repeatOf_16 (d L : Nat) (fz t : Bool) (Q : pm_R → pm_H → Prop) (I : Nat → Nat → Int32) (J : Nat → Nat → Int64) : Prop := pm_T (pm_Ev d) 99 Q (16, [(0, .ref 0)], [], pm_hp L fz t I J, 0, 0)
def K_X10_repeatOf_16 (d : Nat) (fz t : Bool) (Q : pm_R → pm_H → Prop) : pm_R → pm_H → Prop := pm_K d 99 Q 16 [(0, .ref 0)] [] 118 0 fz 0 0
def t_X10_repeatOf_18 (d L : Nat) (fz t : Bool) (Q : pm_R → pm_H → Prop) (x1 : Int32) (I : Nat → Nat → Int32) (J : Nat → Nat → Int64) : Prop := pm_T (pm_Ev d) 99 Q (18, [(0, .ref 0), (1, .int x1)], [], pm_hp L fz t I J, 0, 0)
def t_X10_repeatOf_37 (d L : Nat) (fz t : Bool) (Q : pm_R → pm_H → Prop) (x1 : Int32) (r : Int32) (I : Nat → Nat → Int32) (J : Nat → Nat → Int64) : Prop := pm_T (pm_Ev d) 99 Q (37, [(0, .ref 0), (1, .int x1)], [.int r], pm_hp L fz t I J, 0, 0)
def K_X10_repeatOf_37 (d : Nat) (fz t : Bool) (Q : pm_R → pm_H → Prop) (x1 : Int32) : pm_R → pm_H → Prop := pm_K d 99 Q 37 [(0, .ref 0), (1, .int x1)] [] 118 0 fz 0 0
set_option maxRecDepth 100000 in
theorem b_X10_repeatOf_0 {d L : Nat} {fz t : Bool} {Q : pm_R → pm_H → Prop} {I : Nat → Nat → Int32} {J : Nat → Nat → Int64}
    (h : pm_Ev d 12 [.ref 3, .ref (pm_td t), .ref 23, .int (nI 0)] (pm_hp L fz t I J) (K_X10_repeatOf_16 d fz t Q)) :
    t_X10_repeatOf_0 d L fz t Q I J := by
  cases t <;> exact pm_go d [(16, [0]), (18, [0, 1]), (37, [0, 1])] 400 h
theorem e_X10_repeatOf {d L : Nat} {fz t : Bool} {Q : pm_R → pm_H → Prop} {I : Nat → Nat → Int32} {J : Nat → Nat → Int64}
    (h : pm_Ev d 12 [.ref 3, .ref (pm_td t), .ref 23, .int (nI 0)] (pm_hp L fz t I J) (K_X10_repeatOf_16 d fz t Q)) :
    pm_Ev (d + 1) 99 [.ref 0] (pm_hp L fz t I J) Q := pm_Ev_in rfl (b_X10_repeatOf_0 h)
set_option maxRecDepth 100000 in
theorem b_X10_repeatOf_16 {d L : Nat} {fz t : Bool} {Q : pm_R → pm_H → Prop} {I : Nat → Nat → Int32} {J : Nat → Nat → Int64}
    (h : t_X10_repeatOf_18 d L fz t Q (nI 1) I J) :
    t_X10_repeatOf_16 d L fz t Q I J := by
  exact pm_go d [(16, [0]), (18, [0, 1]), (37, [0, 1])] 400 h
theorem kb_X10_repeatOf_16 {d L : Nat} {fz t : Bool} {Q : pm_R → pm_H → Prop} {fz1 : Bool} {I : Nat → Nat → Int32} {J : Nat → Nat → Int64}
    (h : t_X10_repeatOf_18 d L fz t Q (nI 1) I J) :
    K_X10_repeatOf_16 d fz t Q (.inl none) (pm_hp L fz1 t I J) := b_X10_repeatOf_16 h
set_option maxRecDepth 100000 in
theorem b_X10_repeatOf_18 {d L : Nat} {fz t : Bool} {Q : pm_R → pm_H → Prop} {x1 : Int32} {I : Nat → Nat → Int32} {J : Nat → Nat → Int64}
    (h : (((I 3 1) ≤ x1 → Q (.inl (some (.int (I 3 1)))) (pm_hp L fz t I J)) ∧ (¬ (I 3 1) ≤ x1 → pm_Ev d 19 [.ref 3, .int x1] (pm_hp L fz t I J) (K_X10_repeatOf_37 d fz t Q x1)))) :
    t_X10_repeatOf_18 d L fz t Q x1 I J := by
  exact pm_go d [(16, [0]), (18, [0, 1]), (37, [0, 1])] 400 ⟨fun q0 => ((h).1 q0), fun q0 => ((h).2 q0)⟩
set_option maxRecDepth 100000 in
theorem b_X10_repeatOf_37 {d L : Nat} {fz t : Bool} {Q : pm_R → pm_H → Prop} {x1 : Int32} {r : Int32} {I : Nat → Nat → Int32} {J : Nat → Nat → Int64}
    (h : ((r = (nI 0) → t_X10_repeatOf_18 d L fz t Q (x1 + (nI 1)) I J) ∧ (¬ r = (nI 0) → Q (.inl (some (.int x1))) (pm_hp L fz t I J)))) :
    t_X10_repeatOf_37 d L fz t Q x1 r I J := by
  exact pm_go d [(16, [0]), (18, [0, 1]), (37, [0, 1])] 400 ⟨fun q0 => ((h).1 q0), fun q0 => ((h).2 q0)⟩
theorem kb_X10_repeatOf_37 {d L : Nat} {fz t : Bool} {Q : pm_R → pm_H → Prop} {x1 : Int32} {r : Int32} {fz1 : Bool} {I : Nat → Nat → Int32} {J : Nat → Nat → Int64}
    (h : ((r = (nI 0) → t_X10_repeatOf_18 d L fz t Q (x1 + (nI 1)) I J) ∧ (¬ r = (nI 0) → Q (.inl (some (.int x1))) (pm_hp L fz t I J)))) :
    K_X10_repeatOf_37 d fz t Q x1 (.inl (some (.int r))) (pm_hp L fz1 t I J) := b_X10_repeatOf_37 h
def t_X10_standingNow_0 (d L : Nat) (fz t : Bool) (Q : pm_R → pm_H → Prop) (I : Nat → Nat → Int32) (J : Nat → Nat → Int64) : Prop := pm_T (pm_Ev d) 100 Q (0, [(0, .ref 0)], [], pm_hp L fz t I J, 0, 0)
def t_X10_standingNow_16 (d L : Nat) (fz t : Bool) (Q : pm_R → pm_H → Prop) (I : Nat → Nat → Int32) (J : Nat → Nat → Int64) : Prop := pm_T (pm_Ev d) 100 Q (16, [(0, .ref 0)], [], pm_hp L fz t I J, 0, 0)
def K_X10_standingNow_16 (d : Nat) (fz t : Bool) (Q : pm_R → pm_H → Prop) : pm_R → pm_H → Prop := pm_K d 100 Q 16 [(0, .ref 0)] [] 118 0 fz 0 0
def t_X10_standingNow_27 (d L : Nat) (fz t : Bool) (Q : pm_R → pm_H → Prop) (r : Int32) (I : Nat → Nat → Int32) (J : Nat → Nat → Int64) : Prop := pm_T (pm_Ev d) 100 Q (27, [], [.int r], pm_hp L fz t I J, 0, 0)
def K_X10_standingNow_27 (d : Nat) (fz t : Bool) (Q : pm_R → pm_H → Prop) : pm_R → pm_H → Prop := pm_K d 100 Q 27 [] [] 118 0 fz 0 0
set_option maxRecDepth 100000 in
theorem b_X10_standingNow_0 {d L : Nat} {fz t : Bool} {Q : pm_R → pm_H → Prop} {I : Nat → Nat → Int32} {J : Nat → Nat → Int64}
    (h : pm_Ev d 12 [.ref 3, .ref (pm_td t), .ref 23, .int (nI 0)] (pm_hp L fz t I J) (K_X10_standingNow_16 d fz t Q)) :
    t_X10_standingNow_0 d L fz t Q I J := by
  cases t <;> exact pm_go d [(16, [0]), (27, [])] 400 h
theorem e_X10_standingNow {d L : Nat} {fz t : Bool} {Q : pm_R → pm_H → Prop} {I : Nat → Nat → Int32} {J : Nat → Nat → Int64}
    (h : pm_Ev d 12 [.ref 3, .ref (pm_td t), .ref 23, .int (nI 0)] (pm_hp L fz t I J) (K_X10_standingNow_16 d fz t Q)) :
    pm_Ev (d + 1) 100 [.ref 0] (pm_hp L fz t I J) Q := pm_Ev_in rfl (b_X10_standingNow_0 h)
set_option maxRecDepth 100000 in
theorem b_X10_standingNow_16 {d L : Nat} {fz t : Bool} {Q : pm_R → pm_H → Prop} {I : Nat → Nat → Int32} {J : Nat → Nat → Int64}
    (h : pm_Ev d 23 [.ref 3, .ref (pm_td t)] (pm_hp L fz t I J) (K_X10_standingNow_27 d fz t Q)) :
    t_X10_standingNow_16 d L fz t Q I J := by
  cases t <;> exact pm_go d [(16, [0]), (27, [])] 400 h
theorem kb_X10_standingNow_16 {d L : Nat} {fz t : Bool} {Q : pm_R → pm_H → Prop} {fz1 : Bool} {I : Nat → Nat → Int32} {J : Nat → Nat → Int64}
    (h : pm_Ev d 23 [.ref 3, .ref (pm_td t)] (pm_hp L fz t I J) (K_X10_standingNow_27 d fz t Q)) :
    K_X10_standingNow_16 d fz t Q (.inl none) (pm_hp L fz1 t I J) := b_X10_standingNow_16 h
set_option maxRecDepth 100000 in
theorem b_X10_standingNow_27 {d L : Nat} {fz t : Bool} {Q : pm_R → pm_H → Prop} {r : Int32} {I : Nat → Nat → Int32} {J : Nat → Nat → Int64}
    (h : Q (.inl (some (.int r))) (pm_hp L fz t I J)) :
    t_X10_standingNow_27 d L fz t Q r I J := by
  exact pm_go d [(16, [0]), (27, [])] 400 h
theorem kb_X10_standingNow_27 {d L : Nat} {fz t : Bool} {Q : pm_R → pm_H → Prop} {r : Int32} {fz1 : Bool} {I : Nat → Nat → Int32} {J : Nat → Nat → Int64}
    (h : Q (.inl (some (.int r))) (pm_hp L fz t I J)) :
    K_X10_standingNow_27 d fz t Q (.inl (some (.int r))) (pm_hp L fz1 t I J) := b_X10_standingNow_27 h
def t_X10_passSunday_0 (d L : Nat) (fz t : Bool) (Q : pm_R → pm_H → Prop) (a1 : Nat) (I : Nat → Nat → Int32) (J : Nat → Nat → Int64) : Prop := pm_T (pm_Ev d) 101 Q (0, [(0, .ref 0), (1, .ref a1)], [], pm_hp L fz t I J, 0, 0)
def t_X10_passSunday_13 (d L : Nat) (fz t : Bool) (Q : pm_R → pm_H → Prop) (a1 : Nat) (I : Nat → Nat → Int32) (J : Nat → Nat → Int64) : Prop := pm_T (pm_Ev d) 101 Q (13, [(0, .ref 0), (1, .ref a1)], [], pm_hp L fz t I J, 0, 0)
def K_X10_passSunday_13 (d : Nat) (fz t : Bool) (Q : pm_R → pm_H → Prop) (a1 : Nat) : pm_R → pm_H → Prop := pm_K d 101 Q 13 [(0, .ref 0), (1, .ref a1)] [] 118 0 fz 0 0
def t_X10_passSunday_29 (d L : Nat) (fz t : Bool) (Q : pm_R → pm_H → Prop) (a1 : Nat) (s1 : Int32) (r : Int32) (I : Nat → Nat → Int32) (J : Nat → Nat → Int64) : Prop := pm_T (pm_Ev d) 101 Q (29, [(1, .ref a1)], [.int r, .int s1, .ref a1], pm_hp L fz t I J, 0, 0)
def K_X10_passSunday_29 (d : Nat) (fz t : Bool) (Q : pm_R → pm_H → Prop) (a1 : Nat) (s1 : Int32) : pm_R → pm_H → Prop := pm_K d 101 Q 29 [(1, .ref a1)] [.int s1, .ref a1] 118 0 fz 0 0
def t_X10_passSunday_32 (d L : Nat) (fz t : Bool) (Q : pm_R → pm_H → Prop) (a1 : Nat) (s1 : Int32) (r : Int32) (I : Nat → Nat → Int32) (J : Nat → Nat → Int64) : Prop := pm_T (pm_Ev d) 101 Q (32, [(1, .ref a1)], [.int r, .int s1, .ref a1], pm_hp L fz t I J, 0, 0)
def K_X10_passSunday_32 (d : Nat) (fz t : Bool) (Q : pm_R → pm_H → Prop) (a1 : Nat) (s1 : Int32) : pm_R → pm_H → Prop := pm_K d 101 Q 32 [(1, .ref a1)] [.int s1, .ref a1] 118 0 fz 0 0
def t_X10_passSunday_40 (d L : Nat) (fz t : Bool) (Q : pm_R → pm_H → Prop) (a1 : Nat) (I : Nat → Nat → Int32) (J : Nat → Nat → Int64) : Prop := pm_T (pm_Ev d) 101 Q (40, [(1, .ref a1)], [], pm_hp L fz t I J, 0, 0)
def K_X10_passSunday_40 (d : Nat) (fz t : Bool) (Q : pm_R → pm_H → Prop) (a1 : Nat) : pm_R → pm_H → Prop := pm_K d 101 Q 40 [(1, .ref a1)] [] 118 0 fz 0 0
set_option maxRecDepth 100000 in
theorem b_X10_passSunday_0 {d L : Nat} {fz t : Bool} {Q : pm_R → pm_H → Prop} {a1 : Nat} {I : Nat → Nat → Int32} {J : Nat → Nat → Int64} (ha1 : a1 = 23 ∨ a1 = 27 ∨ a1 = 31)
    (h : pm_Ev d 12 [.ref 3, .ref (pm_td t), .ref a1, .int (nI 0)] (pm_hp L fz t I J) (K_X10_passSunday_13 d fz t Q a1)) :
    t_X10_passSunday_0 d L fz t Q a1 I J := by
  rcases ha1 with rfl | rfl | rfl <;> cases t <;> exact pm_go d [(13, [0, 1]), (29, [1]), (32, [1]), (40, [1])] 400 h
theorem e_X10_passSunday {d L : Nat} {fz t : Bool} {Q : pm_R → pm_H → Prop} {a1 : Nat} {I : Nat → Nat → Int32} {J : Nat → Nat → Int64} (ha1 : a1 = 23 ∨ a1 = 27 ∨ a1 = 31)
    (h : pm_Ev d 12 [.ref 3, .ref (pm_td t), .ref a1, .int (nI 0)] (pm_hp L fz t I J) (K_X10_passSunday_13 d fz t Q a1)) :
    pm_Ev (d + 1) 101 [.ref 0, .ref a1] (pm_hp L fz t I J) Q := pm_Ev_in rfl (b_X10_passSunday_0 ha1 h)
set_option maxRecDepth 100000 in
theorem b_X10_passSunday_13 {d L : Nat} {fz t : Bool} {Q : pm_R → pm_H → Prop} {a1 : Nat} {I : Nat → Nat → Int32} {J : Nat → Nat → Int64} (ha1 : a1 = 23 ∨ a1 = 27 ∨ a1 = 31)
    (h : pm_Ev d 23 [.ref 3, .ref (pm_td t)] (pm_hp L fz t I J) (K_X10_passSunday_29 d fz t Q a1 (I a1 5))) :
    t_X10_passSunday_13 d L fz t Q a1 I J := by
  rcases ha1 with rfl | rfl | rfl <;> cases t <;> exact pm_go d [(13, [0, 1]), (29, [1]), (32, [1]), (40, [1])] 400 h
theorem kb_X10_passSunday_13 {d L : Nat} {fz t : Bool} {Q : pm_R → pm_H → Prop} {a1 : Nat} {fz1 : Bool} {I : Nat → Nat → Int32} {J : Nat → Nat → Int64} (ha1 : a1 = 23 ∨ a1 = 27 ∨ a1 = 31)
    (h : pm_Ev d 23 [.ref 3, .ref (pm_td t)] (pm_hp L fz t I J) (K_X10_passSunday_29 d fz t Q a1 (I a1 5))) :
    K_X10_passSunday_13 d fz t Q a1 (.inl none) (pm_hp L fz1 t I J) := b_X10_passSunday_13 ha1 h
set_option maxRecDepth 100000 in
theorem b_X10_passSunday_29 {d L : Nat} {fz t : Bool} {Q : pm_R → pm_H → Prop} {a1 : Nat} {s1 : Int32} {r : Int32} {I : Nat → Nat → Int32} {J : Nat → Nat → Int64} (ha1 : a1 = 23 ∨ a1 = 27 ∨ a1 = 31)
    (h : pm_Ev d 236 [.int r] (pm_hp L fz t I J) (K_X10_passSunday_32 d fz t Q a1 s1)) :
    t_X10_passSunday_29 d L fz t Q a1 s1 r I J := by
  rcases ha1 with rfl | rfl | rfl <;> exact pm_go d [(13, [0, 1]), (29, [1]), (32, [1]), (40, [1])] 400 h
theorem kb_X10_passSunday_29 {d L : Nat} {fz t : Bool} {Q : pm_R → pm_H → Prop} {a1 : Nat} {s1 : Int32} {r : Int32} {fz1 : Bool} {I : Nat → Nat → Int32} {J : Nat → Nat → Int64} (ha1 : a1 = 23 ∨ a1 = 27 ∨ a1 = 31)
    (h : pm_Ev d 236 [.int r] (pm_hp L fz t I J) (K_X10_passSunday_32 d fz t Q a1 s1)) :
    K_X10_passSunday_29 d fz t Q a1 s1 (.inl (some (.int r))) (pm_hp L fz1 t I J) := b_X10_passSunday_29 ha1 h
set_option maxRecDepth 100000 in
theorem b_X10_passSunday_32 {d L : Nat} {fz t : Bool} {Q : pm_R → pm_H → Prop} {a1 : Nat} {s1 : Int32} {r : Int32} {I : Nat → Nat → Int32} {J : Nat → Nat → Int64} (ha1 : a1 = 23 ∨ a1 = 27 ∨ a1 = 31)
    (h : pm_Ev d 80 [.ref a1] (pm_hp L fz t (pm_u I a1 5 (s1 + r)) J) (K_X10_passSunday_40 d fz t Q a1)) :
    t_X10_passSunday_32 d L fz t Q a1 s1 r I J := by
  rcases ha1 with rfl | rfl | rfl <;> exact pm_go d [(13, [0, 1]), (29, [1]), (32, [1]), (40, [1])] 400 h
theorem kb_X10_passSunday_32 {d L : Nat} {fz t : Bool} {Q : pm_R → pm_H → Prop} {a1 : Nat} {s1 : Int32} {r : Int32} {fz1 : Bool} {I : Nat → Nat → Int32} {J : Nat → Nat → Int64} (ha1 : a1 = 23 ∨ a1 = 27 ∨ a1 = 31)
    (h : pm_Ev d 80 [.ref a1] (pm_hp L fz t (pm_u I a1 5 (s1 + r)) J) (K_X10_passSunday_40 d fz t Q a1)) :
    K_X10_passSunday_32 d fz t Q a1 s1 (.inl (some (.int r))) (pm_hp L fz1 t I J) := b_X10_passSunday_32 ha1 h
set_option maxRecDepth 100000 in
theorem b_X10_passSunday_40 {d L : Nat} {fz t : Bool} {Q : pm_R → pm_H → Prop} {a1 : Nat} {I : Nat → Nat → Int32} {J : Nat → Nat → Int64} (ha1 : a1 = 23 ∨ a1 = 27 ∨ a1 = 31)
    (h : Q (.inl none) (pm_hp L fz t (pm_u I a1 4 ((I a1 4) + (nI 1))) J)) :
    t_X10_passSunday_40 d L fz t Q a1 I J := by
  rcases ha1 with rfl | rfl | rfl <;> exact pm_go d [(13, [0, 1]), (29, [1]), (32, [1]), (40, [1])] 400 h
theorem kb_X10_passSunday_40 {d L : Nat} {fz t : Bool} {Q : pm_R → pm_H → Prop} {a1 : Nat} {fz1 : Bool} {I : Nat → Nat → Int32} {J : Nat → Nat → Int64} (ha1 : a1 = 23 ∨ a1 = 27 ∨ a1 = 31)
    (h : Q (.inl none) (pm_hp L fz t (pm_u I a1 4 ((I a1 4) + (nI 1))) J)) :
    K_X10_passSunday_40 d fz t Q a1 (.inl none) (pm_hp L fz1 t I J) := b_X10_passSunday_40 ha1 h
def t_X10_grantsBehind_0 (d L : Nat) (fz t : Bool) (Q : pm_R → pm_H → Prop) (a1 : Nat) (x2 : Int32) (I : Nat → Nat → Int32) (J : Nat → Nat → Int64) : Prop := pm_T (pm_Ev d) 102 Q (0, [(0, .ref 0), (1, .ref a1), (2, .int x2)], [], pm_hp L fz t I J, 0, 0)
def t_X10_grantsBehind_11 (d L : Nat) (fz t : Bool) (Q : pm_R → pm_H → Prop) (a1 : Nat) (x2 : Int32) (x3 : Int32) (x4 : Int32) (x5 : Int32) (I : Nat → Nat → Int32) (J : Nat → Nat → Int64) : Prop := pm_T (pm_Ev d) 102 Q (11, [(0, .ref 0), (1, .ref a1), (2, .int x2), (3, .int x3), (4, .int x4), (5, .int x5)], [], pm_hp L fz t I J, 0, 0)
def t_X10_grantsBehind_38 (d L : Nat) (fz t : Bool) (Q : pm_R → pm_H → Prop) (a1 : Nat) (x2 : Int32) (x3 : Int32) (x5 : Int32) (I : Nat → Nat → Int32) (J : Nat → Nat → Int64) : Prop := pm_T (pm_Ev d) 102 Q (38, [(0, .ref 0), (1, .ref a1), (2, .int x2), (3, .int x3), (5, .int x5)], [], pm_hp L fz t I J, 0, 0)
def K_X10_grantsBehind_38 (d : Nat) (fz t : Bool) (Q : pm_R → pm_H → Prop) (a1 : Nat) (x2 : Int32) (x3 : Int32) (x5 : Int32) : pm_R → pm_H → Prop := pm_K d 102 Q 38 [(0, .ref 0), (1, .ref a1), (2, .int x2), (3, .int x3), (5, .int x5)] [] 118 0 fz 0 0
def t_X10_grantsBehind_49 (d L : Nat) (fz t : Bool) (Q : pm_R → pm_H → Prop) (a1 : Nat) (x2 : Int32) (x3 : Int32) (x5 : Int32) (r : Int32) (I : Nat → Nat → Int32) (J : Nat → Nat → Int64) : Prop := pm_T (pm_Ev d) 102 Q (49, [(0, .ref 0), (1, .ref a1), (2, .int x2), (3, .int x3), (5, .int x5)], [.int r], pm_hp L fz t I J, 0, 0)
def K_X10_grantsBehind_49 (d : Nat) (fz t : Bool) (Q : pm_R → pm_H → Prop) (a1 : Nat) (x2 : Int32) (x3 : Int32) (x5 : Int32) : pm_R → pm_H → Prop := pm_K d 102 Q 49 [(0, .ref 0), (1, .ref a1), (2, .int x2), (3, .int x3), (5, .int x5)] [] 118 0 fz 0 0
def t_X10_grantsBehind_52 (d L : Nat) (fz t : Bool) (Q : pm_R → pm_H → Prop) (a1 : Nat) (x2 : Int32) (x3 : Int32) (x5 : Int32) (r : Int32) (I : Nat → Nat → Int32) (J : Nat → Nat → Int64) : Prop := pm_T (pm_Ev d) 102 Q (52, [(0, .ref 0), (1, .ref a1), (2, .int x2), (3, .int x3), (5, .int x5)], [.int r], pm_hp L fz t I J, 0, 0)
def K_X10_grantsBehind_52 (d : Nat) (fz t : Bool) (Q : pm_R → pm_H → Prop) (a1 : Nat) (x2 : Int32) (x3 : Int32) (x5 : Int32) : pm_R → pm_H → Prop := pm_K d 102 Q 52 [(0, .ref 0), (1, .ref a1), (2, .int x2), (3, .int x3), (5, .int x5)] [] 118 0 fz 0 0
set_option maxRecDepth 100000 in
theorem b_X10_grantsBehind_0 {d L : Nat} {fz t : Bool} {Q : pm_R → pm_H → Prop} {a1 : Nat} {x2 : Int32} {I : Nat → Nat → Int32} {J : Nat → Nat → Int64} (ha1 : a1 = 23 ∨ a1 = 27 ∨ a1 = 31)
    (h : t_X10_grantsBehind_11 d L fz t Q a1 x2 (I a1 5) (nI 0) (nI 0) I J) :
    t_X10_grantsBehind_0 d L fz t Q a1 x2 I J := by
  rcases ha1 with rfl | rfl | rfl <;> exact pm_go d [(11, [0, 1, 2, 3, 4, 5]), (38, [0, 1, 2, 3, 5]), (49, [0, 1, 2, 3, 5]), (52, [0, 1, 2, 3, 5])] 400 h
theorem e_X10_grantsBehind {d L : Nat} {fz t : Bool} {Q : pm_R → pm_H → Prop} {a1 : Nat} {x2 : Int32} {I : Nat → Nat → Int32} {J : Nat → Nat → Int64} (ha1 : a1 = 23 ∨ a1 = 27 ∨ a1 = 31)
    (h : t_X10_grantsBehind_11 d L fz t Q a1 x2 (I a1 5) (nI 0) (nI 0) I J) :
    pm_Ev (d + 1) 102 [.ref 0, .ref a1, .int x2] (pm_hp L fz t I J) Q := pm_Ev_in rfl (b_X10_grantsBehind_0 ha1 h)
set_option maxRecDepth 100000 in
theorem b_X10_grantsBehind_11 {d L : Nat} {fz t : Bool} {Q : pm_R → pm_H → Prop} {a1 : Nat} {x2 : Int32} {x3 : Int32} {x4 : Int32} {x5 : Int32} {I : Nat → Nat → Int32} {J : Nat → Nat → Int64} (ha1 : a1 = 23 ∨ a1 = 27 ∨ a1 = 31)
    (h : ((x2 ≤ x5 → Q (.inl (some (.int x3))) (pm_hp L fz t I J)) ∧ (¬ x2 ≤ x5 → (((nI 9) < x5 → t_X10_grantsBehind_11 d L fz t Q a1 x2 (x3 + x4) x4 (x5 + (nI 1)) I J) ∧ (¬ (nI 9) < x5 → pm_Ev d 12 [.ref 3, .ref (pm_td t), .ref a1, .int x5] (pm_hp L fz t I J) (K_X10_grantsBehind_38 d fz t Q a1 x2 x3 x5)))))) :
    t_X10_grantsBehind_11 d L fz t Q a1 x2 x3 x4 x5 I J := by
  rcases ha1 with rfl | rfl | rfl <;> cases t <;> exact pm_go d [(11, [0, 1, 2, 3, 4, 5]), (38, [0, 1, 2, 3, 5]), (49, [0, 1, 2, 3, 5]), (52, [0, 1, 2, 3, 5])] 400 ⟨fun q0 => ((h).1 q0), fun q0 => ⟨fun q1 => ((((h).2 q0)).1 q1), fun q1 => ((((h).2 q0)).2 q1)⟩⟩
set_option maxRecDepth 100000 in
theorem b_X10_grantsBehind_38 {d L : Nat} {fz t : Bool} {Q : pm_R → pm_H → Prop} {a1 : Nat} {x2 : Int32} {x3 : Int32} {x5 : Int32} {I : Nat → Nat → Int32} {J : Nat → Nat → Int64} (ha1 : a1 = 23 ∨ a1 = 27 ∨ a1 = 31)
    (h : pm_Ev d 23 [.ref 3, .ref (pm_td t)] (pm_hp L fz t I J) (K_X10_grantsBehind_49 d fz t Q a1 x2 x3 x5)) :
    t_X10_grantsBehind_38 d L fz t Q a1 x2 x3 x5 I J := by
  rcases ha1 with rfl | rfl | rfl <;> cases t <;> exact pm_go d [(11, [0, 1, 2, 3, 4, 5]), (38, [0, 1, 2, 3, 5]), (49, [0, 1, 2, 3, 5]), (52, [0, 1, 2, 3, 5])] 400 h
theorem kb_X10_grantsBehind_38 {d L : Nat} {fz t : Bool} {Q : pm_R → pm_H → Prop} {a1 : Nat} {x2 : Int32} {x3 : Int32} {x5 : Int32} {fz1 : Bool} {I : Nat → Nat → Int32} {J : Nat → Nat → Int64} (ha1 : a1 = 23 ∨ a1 = 27 ∨ a1 = 31)
    (h : pm_Ev d 23 [.ref 3, .ref (pm_td t)] (pm_hp L fz t I J) (K_X10_grantsBehind_49 d fz t Q a1 x2 x3 x5)) :
    K_X10_grantsBehind_38 d fz t Q a1 x2 x3 x5 (.inl none) (pm_hp L fz1 t I J) := b_X10_grantsBehind_38 ha1 h
set_option maxRecDepth 100000 in
theorem b_X10_grantsBehind_49 {d L : Nat} {fz t : Bool} {Q : pm_R → pm_H → Prop} {a1 : Nat} {x2 : Int32} {x3 : Int32} {x5 : Int32} {r : Int32} {I : Nat → Nat → Int32} {J : Nat → Nat → Int64} (ha1 : a1 = 23 ∨ a1 = 27 ∨ a1 = 31)
    (h : pm_Ev d 236 [.int r] (pm_hp L fz t I J) (K_X10_grantsBehind_52 d fz t Q a1 x2 x3 x5)) :
    t_X10_grantsBehind_49 d L fz t Q a1 x2 x3 x5 r I J := by
  rcases ha1 with rfl | rfl | rfl <;> exact pm_go d [(11, [0, 1, 2, 3, 4, 5]), (38, [0, 1, 2, 3, 5]), (49, [0, 1, 2, 3, 5]), (52, [0, 1, 2, 3, 5])] 400 h
theorem kb_X10_grantsBehind_49 {d L : Nat} {fz t : Bool} {Q : pm_R → pm_H → Prop} {a1 : Nat} {x2 : Int32} {x3 : Int32} {x5 : Int32} {r : Int32} {fz1 : Bool} {I : Nat → Nat → Int32} {J : Nat → Nat → Int64} (ha1 : a1 = 23 ∨ a1 = 27 ∨ a1 = 31)
    (h : pm_Ev d 236 [.int r] (pm_hp L fz t I J) (K_X10_grantsBehind_52 d fz t Q a1 x2 x3 x5)) :
    K_X10_grantsBehind_49 d fz t Q a1 x2 x3 x5 (.inl (some (.int r))) (pm_hp L fz1 t I J) := b_X10_grantsBehind_49 ha1 h
set_option maxRecDepth 100000 in
theorem b_X10_grantsBehind_52 {d L : Nat} {fz t : Bool} {Q : pm_R → pm_H → Prop} {a1 : Nat} {x2 : Int32} {x3 : Int32} {x5 : Int32} {r : Int32} {I : Nat → Nat → Int32} {J : Nat → Nat → Int64} (ha1 : a1 = 23 ∨ a1 = 27 ∨ a1 = 31)
    (h : t_X10_grantsBehind_11 d L fz t Q a1 x2 (x3 + r) r (x5 + (nI 1)) I J) :
    t_X10_grantsBehind_52 d L fz t Q a1 x2 x3 x5 r I J := by
  rcases ha1 with rfl | rfl | rfl <;> exact pm_go d [(11, [0, 1, 2, 3, 4, 5]), (38, [0, 1, 2, 3, 5]), (49, [0, 1, 2, 3, 5]), (52, [0, 1, 2, 3, 5])] 400 h
theorem kb_X10_grantsBehind_52 {d L : Nat} {fz t : Bool} {Q : pm_R → pm_H → Prop} {a1 : Nat} {x2 : Int32} {x3 : Int32} {x5 : Int32} {r : Int32} {fz1 : Bool} {I : Nat → Nat → Int32} {J : Nat → Nat → Int64} (ha1 : a1 = 23 ∨ a1 = 27 ∨ a1 = 31)
    (h : t_X10_grantsBehind_11 d L fz t Q a1 x2 (x3 + r) r (x5 + (nI 1)) I J) :
    K_X10_grantsBehind_52 d fz t Q a1 x2 x3 x5 (.inl (some (.int r))) (pm_hp L fz1 t I J) := b_X10_grantsBehind_52 ha1 h
def t_X10_tryTurned_0 (d L : Nat) (fz t : Bool) (Q : pm_R → pm_H → Prop) (x1 : Int32) (I : Nat → Nat → Int32) (J : Nat → Nat → Int64) : Prop := pm_T (pm_Ev d) 103 Q (0, [(0, .ref 0), (1, .int x1)], [], pm_hp L fz t I J, 0, 0)
def t_X10_tryTurned_11 (d L : Nat) (fz t : Bool) (Q : pm_R → pm_H → Prop) (x1 : Int32) (I : Nat → Nat → Int32) (J : Nat → Nat → Int64) : Prop := pm_T (pm_Ev d) 103 Q (11, [(0, .ref 0), (1, .int x1)], [], pm_hp L fz t I J, 0, 0)
def K_X10_tryTurned_11 (d : Nat) (fz t : Bool) (Q : pm_R → pm_H → Prop) (x1 : Int32) : pm_R → pm_H → Prop := pm_K d 103 Q 11 [(0, .ref 0), (1, .int x1)] [] 118 0 fz 0 0
def t_X10_tryTurned_35 (d L : Nat) (fz t : Bool) (Q : pm_R → pm_H → Prop) (s1 : Int32) (r : Int32) (I : Nat → Nat → Int32) (J : Nat → Nat → Int64) : Prop := pm_T (pm_Ev d) 103 Q (35, [], [.int r, .int s1, .ref 28], pm_hp L fz t I J, 0, 0)
def K_X10_tryTurned_35 (d : Nat) (fz t : Bool) (Q : pm_R → pm_H → Prop) (s1 : Int32) : pm_R → pm_H → Prop := pm_K d 103 Q 35 [] [.int s1, .ref 28] 118 0 fz 0 0
set_option maxRecDepth 100000 in
theorem b_X10_tryTurned_0 {d L : Nat} {fz t : Bool} {Q : pm_R → pm_H → Prop} {x1 : Int32} {I : Nat → Nat → Int32} {J : Nat → Nat → Int64}
    (h : pm_Ev d 78 [.ref 27, .ref 23] (pm_hp L fz t I J) (K_X10_tryTurned_11 d fz t Q x1)) :
    t_X10_tryTurned_0 d L fz t Q x1 I J := by
  exact pm_go d [(11, [0, 1]), (35, [])] 400 h
theorem e_X10_tryTurned {d L : Nat} {fz t : Bool} {Q : pm_R → pm_H → Prop} {x1 : Int32} {I : Nat → Nat → Int32} {J : Nat → Nat → Int64}
    (h : pm_Ev d 78 [.ref 27, .ref 23] (pm_hp L fz t I J) (K_X10_tryTurned_11 d fz t Q x1)) :
    pm_Ev (d + 1) 103 [.ref 0, .int x1] (pm_hp L fz t I J) Q := pm_Ev_in rfl (b_X10_tryTurned_0 h)
set_option maxRecDepth 100000 in
theorem b_X10_tryTurned_11 {d L : Nat} {fz t : Bool} {Q : pm_R → pm_H → Prop} {x1 : Int32} {I : Nat → Nat → Int32} {J : Nat → Nat → Int64}
    (h : (vp_in x1 10 ∧ pm_Ev d 71 [.ref (pm_td t), .int (I 24 (x1).toNatClampNeg)] (pm_hp L fz t I J) (K_X10_tryTurned_35 d fz t Q x1))) :
    t_X10_tryTurned_11 d L fz t Q x1 I J := by
  cases t <;> exact pm_go d [(11, [0, 1]), (35, [])] 400 ⟨(h).1, (h).2⟩
theorem kb_X10_tryTurned_11 {d L : Nat} {fz t : Bool} {Q : pm_R → pm_H → Prop} {x1 : Int32} {fz1 : Bool} {I : Nat → Nat → Int32} {J : Nat → Nat → Int64}
    (h : (vp_in x1 10 ∧ pm_Ev d 71 [.ref (pm_td t), .int (I 24 (x1).toNatClampNeg)] (pm_hp L fz t I J) (K_X10_tryTurned_35 d fz t Q x1))) :
    K_X10_tryTurned_11 d fz t Q x1 (.inl none) (pm_hp L fz1 t I J) := b_X10_tryTurned_11 h
set_option maxRecDepth 100000 in
theorem b_X10_tryTurned_35 {d L : Nat} {fz t : Bool} {Q : pm_R → pm_H → Prop} {s1 : Int32} {r : Int32} {I : Nat → Nat → Int32} {J : Nat → Nat → Int64}
    (h : (vp_in s1 10 ∧ Q (.inl none) (pm_hp L fz t (pm_u I 28 (s1).toNatClampNeg r) J))) :
    t_X10_tryTurned_35 d L fz t Q s1 r I J := by
  exact pm_go d [(11, [0, 1]), (35, [])] 400 ⟨(h).1, (h).2⟩
theorem kb_X10_tryTurned_35 {d L : Nat} {fz t : Bool} {Q : pm_R → pm_H → Prop} {s1 : Int32} {r : Int32} {fz1 : Bool} {I : Nat → Nat → Int32} {J : Nat → Nat → Int64}
    (h : (vp_in s1 10 ∧ Q (.inl none) (pm_hp L fz t (pm_u I 28 (s1).toNatClampNeg r) J))) :
    K_X10_tryTurned_35 d fz t Q s1 (.inl (some (.int r))) (pm_hp L fz1 t I J) := b_X10_tryTurned_35 h
def t_X10_threadsNotAsSeen_0 (d L : Nat) (fz t : Bool) (Q : pm_R → pm_H → Prop) (a1 : Nat) (I : Nat → Nat → Int32) (J : Nat → Nat → Int64) : Prop := pm_T (pm_Ev d) 104 Q (0, [(0, .ref 0), (1, .ref a1)], [], pm_hp L fz t I J, 0, 0)
def t_X10_threadsNotAsSeen_7 (d L : Nat) (fz t : Bool) (Q : pm_R → pm_H → Prop) (a1 : Nat) (x2 : Int32) (x3 : Int32) (x4 : Int32) (I : Nat → Nat → Int32) (J : Nat → Nat → Int64) : Prop := pm_T (pm_Ev d) 104 Q (7, [(0, .ref 0), (1, .ref a1), (2, .int x2), (3, .int x3), (4, .int x4)], [], pm_hp L fz t I J, 0, 0)
def t_X10_threadsNotAsSeen_57 (d L : Nat) (fz t : Bool) (Q : pm_R → pm_H → Prop) (a1 : Nat) (x2 : Int32) (x3 : Int32) (x4 : Int32) (I : Nat → Nat → Int32) (J : Nat → Nat → Int64) : Prop := pm_T (pm_Ev d) 104 Q (57, [(0, .ref 0), (1, .ref a1), (2, .int x2), (3, .int x3), (4, .int x4)], [], pm_hp L fz t I J, 0, 0)
def K_X10_threadsNotAsSeen_57 (d : Nat) (fz t : Bool) (Q : pm_R → pm_H → Prop) (a1 : Nat) (x2 : Int32) (x3 : Int32) (x4 : Int32) : pm_R → pm_H → Prop := pm_K d 104 Q 57 [(0, .ref 0), (1, .ref a1), (2, .int x2), (3, .int x3), (4, .int x4)] [] 118 0 fz 0 0
set_option maxRecDepth 100000 in
theorem b_X10_threadsNotAsSeen_0 {d L : Nat} {fz t : Bool} {Q : pm_R → pm_H → Prop} {a1 : Nat} {I : Nat → Nat → Int32} {J : Nat → Nat → Int64} (ha1 : a1 = 23 ∨ a1 = 27 ∨ a1 = 31)
    (h : t_X10_threadsNotAsSeen_7 d L fz t Q a1 (-1 : Int32) (nI 0) (nI 0) I J) :
    t_X10_threadsNotAsSeen_0 d L fz t Q a1 I J := by
  rcases ha1 with rfl | rfl | rfl <;> exact pm_go d [(7, [0, 1, 2, 3, 4]), (57, [0, 1, 2, 3, 4])] 400 h
theorem e_X10_threadsNotAsSeen {d L : Nat} {fz t : Bool} {Q : pm_R → pm_H → Prop} {a1 : Nat} {I : Nat → Nat → Int32} {J : Nat → Nat → Int64} (ha1 : a1 = 23 ∨ a1 = 27 ∨ a1 = 31)
    (h : t_X10_threadsNotAsSeen_7 d L fz t Q a1 (-1 : Int32) (nI 0) (nI 0) I J) :
    pm_Ev (d + 1) 104 [.ref 0, .ref a1] (pm_hp L fz t I J) Q := pm_Ev_in rfl (b_X10_threadsNotAsSeen_0 ha1 h)
set_option maxRecDepth 100000 in
theorem b_X10_threadsNotAsSeen_7 {d L : Nat} {fz t : Bool} {Q : pm_R → pm_H → Prop} {a1 : Nat} {x2 : Int32} {x3 : Int32} {x4 : Int32} {I : Nat → Nat → Int32} {J : Nat → Nat → Int64} (ha1 : a1 = 23 ∨ a1 = 27 ∨ a1 = 31)
    (h : (((I 45 4) ≤ x4 → Q (.inl (some (.int x3))) (pm_hp L fz t I J)) ∧ (¬ (I 45 4) ≤ x4 → (vp_in x4 8 ∧ (((I 48 (x4).toNatClampNeg) = x2 → t_X10_threadsNotAsSeen_57 d L fz t Q a1 x2 x3 x4 I J) ∧ (¬ (I 48 (x4).toNatClampNeg) = x2 → (vp_in x4 8 ∧ pm_Ev d 12 [.ref 3, .ref (pm_td t), .ref a1, .int (I 48 (x4).toNatClampNeg)] (pm_hp L fz t I J) (K_X10_threadsNotAsSeen_57 d fz t Q a1 (I 48 (x4).toNatClampNeg) x3 x4)))))))) :
    t_X10_threadsNotAsSeen_7 d L fz t Q a1 x2 x3 x4 I J := by
  rcases ha1 with rfl | rfl | rfl <;> cases t <;> exact pm_go d [(7, [0, 1, 2, 3, 4]), (57, [0, 1, 2, 3, 4])] 400 ⟨fun q0 => ((h).1 q0), fun q0 => ⟨(((h).2 q0)).1, ⟨fun q1 => (((((h).2 q0)).2).1 q1), fun q1 => ⟨((((((h).2 q0)).2).2 q1)).1, ((((((h).2 q0)).2).2 q1)).2⟩⟩⟩⟩
set_option maxRecDepth 100000 in
theorem b_X10_threadsNotAsSeen_57 {d L : Nat} {fz t : Bool} {Q : pm_R → pm_H → Prop} {a1 : Nat} {x2 : Int32} {x3 : Int32} {x4 : Int32} {I : Nat → Nat → Int32} {J : Nat → Nat → Int64} (ha1 : a1 = 23 ∨ a1 = 27 ∨ a1 = 31)
    (h : (vp_in x4 8 ∧ (vp_in (I 46 (x4).toNatClampNeg) 12 ∧ (vp_in x4 8 ∧ ((¬ (((I 4 ((I 46 (x4).toNatClampNeg)).toNatClampNeg) >>> ((I 47 (x4).toNatClampNeg) &&& 31)) &&& (nI 1)) = (nI 1) → (vp_in x4 8 ∧ (((nI 0) = (I 49 (x4).toNatClampNeg) → t_X10_threadsNotAsSeen_7 d L fz t Q a1 x2 x3 (x4 + (nI 1)) I J) ∧ (¬ (nI 0) = (I 49 (x4).toNatClampNeg) → (vp_in x4 8 ∧ t_X10_threadsNotAsSeen_7 d L fz t Q a1 x2 (x3 ||| ((nI 1) <<< ((I 47 (x4).toNatClampNeg) &&& 31))) (x4 + (nI 1)) I J))))) ∧ ((((I 4 ((I 46 (x4).toNatClampNeg)).toNatClampNeg) >>> ((I 47 (x4).toNatClampNeg) &&& 31)) &&& (nI 1)) = (nI 1) → (vp_in x4 8 ∧ (((nI 1) = (I 49 (x4).toNatClampNeg) → t_X10_threadsNotAsSeen_7 d L fz t Q a1 x2 x3 (x4 + (nI 1)) I J) ∧ (¬ (nI 1) = (I 49 (x4).toNatClampNeg) → (vp_in x4 8 ∧ t_X10_threadsNotAsSeen_7 d L fz t Q a1 x2 (x3 ||| ((nI 1) <<< ((I 47 (x4).toNatClampNeg) &&& 31))) (x4 + (nI 1)) I J)))))))))) :
    t_X10_threadsNotAsSeen_57 d L fz t Q a1 x2 x3 x4 I J := by
  rcases ha1 with rfl | rfl | rfl <;> exact pm_go d [(7, [0, 1, 2, 3, 4]), (57, [0, 1, 2, 3, 4])] 400 ⟨(h).1, ⟨((h).2).1, ⟨(((h).2).2).1, ⟨fun q0 => ⟨((((((h).2).2).2).1 q0)).1, ⟨fun q1 => ((((((((h).2).2).2).1 q0)).2).1 q1), fun q1 => ⟨(((((((((h).2).2).2).1 q0)).2).2 q1)).1, (((((((((h).2).2).2).1 q0)).2).2 q1)).2⟩⟩⟩, fun q0 => ⟨((((((h).2).2).2).2 q0)).1, ⟨fun q1 => ((((((((h).2).2).2).2 q0)).2).1 q1), fun q1 => ⟨(((((((((h).2).2).2).2 q0)).2).2 q1)).1, (((((((((h).2).2).2).2 q0)).2).2 q1)).2⟩⟩⟩⟩⟩⟩⟩
theorem kb_X10_threadsNotAsSeen_57 {d L : Nat} {fz t : Bool} {Q : pm_R → pm_H → Prop} {a1 : Nat} {x2 : Int32} {x3 : Int32} {x4 : Int32} {fz1 : Bool} {I : Nat → Nat → Int32} {J : Nat → Nat → Int64} (ha1 : a1 = 23 ∨ a1 = 27 ∨ a1 = 31)
    (h : (vp_in x4 8 ∧ (vp_in (I 46 (x4).toNatClampNeg) 12 ∧ (vp_in x4 8 ∧ ((¬ (((I 4 ((I 46 (x4).toNatClampNeg)).toNatClampNeg) >>> ((I 47 (x4).toNatClampNeg) &&& 31)) &&& (nI 1)) = (nI 1) → (vp_in x4 8 ∧ (((nI 0) = (I 49 (x4).toNatClampNeg) → t_X10_threadsNotAsSeen_7 d L fz t Q a1 x2 x3 (x4 + (nI 1)) I J) ∧ (¬ (nI 0) = (I 49 (x4).toNatClampNeg) → (vp_in x4 8 ∧ t_X10_threadsNotAsSeen_7 d L fz t Q a1 x2 (x3 ||| ((nI 1) <<< ((I 47 (x4).toNatClampNeg) &&& 31))) (x4 + (nI 1)) I J))))) ∧ ((((I 4 ((I 46 (x4).toNatClampNeg)).toNatClampNeg) >>> ((I 47 (x4).toNatClampNeg) &&& 31)) &&& (nI 1)) = (nI 1) → (vp_in x4 8 ∧ (((nI 1) = (I 49 (x4).toNatClampNeg) → t_X10_threadsNotAsSeen_7 d L fz t Q a1 x2 x3 (x4 + (nI 1)) I J) ∧ (¬ (nI 1) = (I 49 (x4).toNatClampNeg) → (vp_in x4 8 ∧ t_X10_threadsNotAsSeen_7 d L fz t Q a1 x2 (x3 ||| ((nI 1) <<< ((I 47 (x4).toNatClampNeg) &&& 31))) (x4 + (nI 1)) I J)))))))))) :
    K_X10_threadsNotAsSeen_57 d fz t Q a1 x2 x3 x4 (.inl none) (pm_hp L fz1 t I J) := b_X10_threadsNotAsSeen_57 ha1 h
def t_X10_isWithinReach_0 (d L : Nat) (fz t : Bool) (Q : pm_R → pm_H → Prop) (x1 : Int32) (x2 : Int32) (I : Nat → Nat → Int32) (J : Nat → Nat → Int64) : Prop := pm_T (pm_Ev d) 105 Q (0, [(0, .ref 0), (1, .int x1), (2, .int x2)], [], pm_hp L fz t I J, 0, 0)
set_option maxRecDepth 100000 in
theorem b_X10_isWithinReach_0 {d L : Nat} {fz t : Bool} {Q : pm_R → pm_H → Prop} {x1 : Int32} {x2 : Int32} {I : Nat → Nat → Int32} {J : Nat → Nat → Int64}
    (h : ((x1 = (nI 0) → Q (.inl (some (.int (nI 1)))) (pm_hp L fz t I J)) ∧ (¬ x1 = (nI 0) → (vp_in x2 5 ∧ ((((x1 &&& (-x1)) <<< (((I ((pm_td t) + 6) (x2).toNatClampNeg) + (nI 2)) &&& 31)) ≤ x1 → Q (.inl (some (.int (nI 0)))) (pm_hp L fz t I J)) ∧ (¬ ((x1 &&& (-x1)) <<< (((I ((pm_td t) + 6) (x2).toNatClampNeg) + (nI 2)) &&& 31)) ≤ x1 → Q (.inl (some (.int (nI 1)))) (pm_hp L fz t I J))))))) :
    t_X10_isWithinReach_0 d L fz t Q x1 x2 I J := by
  cases t <;> exact pm_go d [] 400 ⟨fun q0 => ⟨Or.inr rfl, ((h).1 q0)⟩, fun q0 => ⟨(((h).2 q0)).1, ⟨fun q1 => ⟨Or.inl rfl, (((((h).2 q0)).2).1 q1)⟩, fun q1 => ⟨Or.inr rfl, (((((h).2 q0)).2).2 q1)⟩⟩⟩⟩
theorem e_X10_isWithinReach {d L : Nat} {fz t : Bool} {Q : pm_R → pm_H → Prop} {x1 : Int32} {x2 : Int32} {I : Nat → Nat → Int32} {J : Nat → Nat → Int64}
    (h : ((x1 = (nI 0) → Q (.inl (some (.int (nI 1)))) (pm_hp L fz t I J)) ∧ (¬ x1 = (nI 0) → (vp_in x2 5 ∧ ((((x1 &&& (-x1)) <<< (((I ((pm_td t) + 6) (x2).toNatClampNeg) + (nI 2)) &&& 31)) ≤ x1 → Q (.inl (some (.int (nI 0)))) (pm_hp L fz t I J)) ∧ (¬ ((x1 &&& (-x1)) <<< (((I ((pm_td t) + 6) (x2).toNatClampNeg) + (nI 2)) &&& 31)) ≤ x1 → Q (.inl (some (.int (nI 1)))) (pm_hp L fz t I J))))))) :
    pm_Ev (d + 1) 105 [.ref 0, .int x1, .int x2] (pm_hp L fz t I J) Q := pm_Ev_in rfl (b_X10_isWithinReach_0 h)
def t_X10_gatherTurned_0 (d L : Nat) (fz t : Bool) (Q : pm_R → pm_H → Prop) (I : Nat → Nat → Int32) (J : Nat → Nat → Int64) : Prop := pm_T (pm_Ev d) 106 Q (0, [(0, .ref 0)], [], pm_hp L fz t I J, 0, 0)
def t_X10_gatherTurned_4 (d L : Nat) (fz t : Bool) (Q : pm_R → pm_H → Prop) (x1 : Int32) (x2 : Int32) (I : Nat → Nat → Int32) (J : Nat → Nat → Int64) : Prop := pm_T (pm_Ev d) 106 Q (4, [(0, .ref 0), (1, .int x1), (2, .int x2)], [], pm_hp L fz t I J, 0, 0)
def t_X10_gatherTurned_20 (d L : Nat) (fz t : Bool) (Q : pm_R → pm_H → Prop) (x1 : Int32) (x2 : Int32) (I : Nat → Nat → Int32) (J : Nat → Nat → Int64) : Prop := pm_T (pm_Ev d) 106 Q (20, [(0, .ref 0), (1, .int x1), (2, .int x2)], [], pm_hp L fz t I J, 0, 0)
def K_X10_gatherTurned_20 (d : Nat) (fz t : Bool) (Q : pm_R → pm_H → Prop) (x1 : Int32) (x2 : Int32) : pm_R → pm_H → Prop := pm_K d 106 Q 20 [(0, .ref 0), (1, .int x1), (2, .int x2)] [] 118 0 fz 0 0
def t_X10_gatherTurned_28 (d L : Nat) (fz t : Bool) (Q : pm_R → pm_H → Prop) (x1 : Int32) (x2 : Int32) (r : Int32) (I : Nat → Nat → Int32) (J : Nat → Nat → Int64) : Prop := pm_T (pm_Ev d) 106 Q (28, [(0, .ref 0), (1, .int x1), (2, .int x2)], [.int r], pm_hp L fz t I J, 0, 0)
def K_X10_gatherTurned_28 (d : Nat) (fz t : Bool) (Q : pm_R → pm_H → Prop) (x1 : Int32) (x2 : Int32) : pm_R → pm_H → Prop := pm_K d 106 Q 28 [(0, .ref 0), (1, .int x1), (2, .int x2)] [] 118 0 fz 0 0
def t_X10_gatherTurned_47 (d L : Nat) (fz t : Bool) (Q : pm_R → pm_H → Prop) (x1 : Int32) (x2 : Int32) (I : Nat → Nat → Int32) (J : Nat → Nat → Int64) : Prop := pm_T (pm_Ev d) 106 Q (47, [(0, .ref 0), (1, .int x1), (2, .int x2)], [], pm_hp L fz t I J, 0, 0)
def K_X10_gatherTurned_47 (d : Nat) (fz t : Bool) (Q : pm_R → pm_H → Prop) (x1 : Int32) (x2 : Int32) : pm_R → pm_H → Prop := pm_K d 106 Q 47 [(0, .ref 0), (1, .int x1), (2, .int x2)] [] 118 0 fz 0 0
set_option maxRecDepth 100000 in
theorem b_X10_gatherTurned_0 {d L : Nat} {fz t : Bool} {Q : pm_R → pm_H → Prop} {I : Nat → Nat → Int32} {J : Nat → Nat → Int64}
    (h : t_X10_gatherTurned_4 d L fz t Q (nI 0) (nI 0) I J) :
    t_X10_gatherTurned_0 d L fz t Q I J := by
  exact pm_go d [(4, [0, 1, 2]), (20, [0, 1, 2]), (28, [0, 1, 2]), (47, [0, 1, 2])] 400 h
theorem e_X10_gatherTurned {d L : Nat} {fz t : Bool} {Q : pm_R → pm_H → Prop} {I : Nat → Nat → Int32} {J : Nat → Nat → Int64}
    (h : t_X10_gatherTurned_4 d L fz t Q (nI 0) (nI 0) I J) :
    pm_Ev (d + 1) 106 [.ref 0] (pm_hp L fz t I J) Q := pm_Ev_in rfl (b_X10_gatherTurned_0 h)
set_option maxRecDepth 100000 in
theorem b_X10_gatherTurned_4 {d L : Nat} {fz t : Bool} {Q : pm_R → pm_H → Prop} {x1 : Int32} {x2 : Int32} {I : Nat → Nat → Int32} {J : Nat → Nat → Int64}
    (h : (((I (pm_td t) 13) ≤ x2 → Q (.inl (some (.int x1))) (pm_hp L fz t I J)) ∧ (¬ (I (pm_td t) 13) ≤ x2 → pm_Ev d 103 [.ref 0, .int x2] (pm_hp L fz t I J) (K_X10_gatherTurned_20 d fz t Q x1 x2)))) :
    t_X10_gatherTurned_4 d L fz t Q x1 x2 I J := by
  cases t <;> exact pm_go d [(4, [0, 1, 2]), (20, [0, 1, 2]), (28, [0, 1, 2]), (47, [0, 1, 2])] 400 ⟨fun q0 => ((h).1 q0), fun q0 => ((h).2 q0)⟩
set_option maxRecDepth 100000 in
theorem b_X10_gatherTurned_20 {d L : Nat} {fz t : Bool} {Q : pm_R → pm_H → Prop} {x1 : Int32} {x2 : Int32} {I : Nat → Nat → Int32} {J : Nat → Nat → Int64}
    (h : pm_Ev d 104 [.ref 0, .ref 27] (pm_hp L fz t I J) (K_X10_gatherTurned_28 d fz t Q x1 x2)) :
    t_X10_gatherTurned_20 d L fz t Q x1 x2 I J := by
  exact pm_go d [(4, [0, 1, 2]), (20, [0, 1, 2]), (28, [0, 1, 2]), (47, [0, 1, 2])] 400 h
theorem kb_X10_gatherTurned_20 {d L : Nat} {fz t : Bool} {Q : pm_R → pm_H → Prop} {x1 : Int32} {x2 : Int32} {fz1 : Bool} {I : Nat → Nat → Int32} {J : Nat → Nat → Int64}
    (h : pm_Ev d 104 [.ref 0, .ref 27] (pm_hp L fz t I J) (K_X10_gatherTurned_28 d fz t Q x1 x2)) :
    K_X10_gatherTurned_20 d fz t Q x1 x2 (.inl none) (pm_hp L fz1 t I J) := b_X10_gatherTurned_20 h
set_option maxRecDepth 100000 in
theorem b_X10_gatherTurned_28 {d L : Nat} {fz t : Bool} {Q : pm_R → pm_H → Prop} {x1 : Int32} {x2 : Int32} {r : Int32} {I : Nat → Nat → Int32} {J : Nat → Nat → Int64}
    (h : ((¬ r = (nI 0) → t_X10_gatherTurned_4 d L fz t Q x1 (x2 + (nI 1)) I J) ∧ (r = (nI 0) → pm_Ev d 12 [.ref 3, .ref (pm_td t), .ref 27, .int (nI 0)] (pm_hp L fz t I J) (K_X10_gatherTurned_47 d fz t Q x1 x2)))) :
    t_X10_gatherTurned_28 d L fz t Q x1 x2 r I J := by
  cases t <;> exact pm_go d [(4, [0, 1, 2]), (20, [0, 1, 2]), (28, [0, 1, 2]), (47, [0, 1, 2])] 400 ⟨fun q0 => ((h).1 q0), fun q0 => ((h).2 q0)⟩
theorem kb_X10_gatherTurned_28 {d L : Nat} {fz t : Bool} {Q : pm_R → pm_H → Prop} {x1 : Int32} {x2 : Int32} {r : Int32} {fz1 : Bool} {I : Nat → Nat → Int32} {J : Nat → Nat → Int64}
    (h : ((¬ r = (nI 0) → t_X10_gatherTurned_4 d L fz t Q x1 (x2 + (nI 1)) I J) ∧ (r = (nI 0) → pm_Ev d 12 [.ref 3, .ref (pm_td t), .ref 27, .int (nI 0)] (pm_hp L fz t I J) (K_X10_gatherTurned_47 d fz t Q x1 x2)))) :
    K_X10_gatherTurned_28 d fz t Q x1 x2 (.inl (some (.int r))) (pm_hp L fz1 t I J) := b_X10_gatherTurned_28 h
set_option maxRecDepth 100000 in
theorem b_X10_gatherTurned_47 {d L : Nat} {fz t : Bool} {Q : pm_R → pm_H → Prop} {x1 : Int32} {x2 : Int32} {I : Nat → Nat → Int32} {J : Nat → Nat → Int64}
    (h : ((¬ (nI 0) < 0 ∧ ¬ (x1 * (nI 12)) < 0 ∧ ¬ (nI 12) < 0 ∧ 0 + 12 ≤ 12 ∧ ((x1 * (nI 12))).toNatClampNeg + 12 ≤ 120) ∧ t_X10_gatherTurned_4 d L fz t Q (x1 + (nI 1)) (x2 + (nI 1)) (pm_ur I 21 (va_cpy (I 4) (I 21) 0 ((x1 * (nI 12))).toNatClampNeg 12)) J)) :
    t_X10_gatherTurned_47 d L fz t Q x1 x2 I J := by
  exact pm_go d [(4, [0, 1, 2]), (20, [0, 1, 2]), (28, [0, 1, 2]), (47, [0, 1, 2])] 400 ⟨(h).1, (h).2⟩
theorem kb_X10_gatherTurned_47 {d L : Nat} {fz t : Bool} {Q : pm_R → pm_H → Prop} {x1 : Int32} {x2 : Int32} {fz1 : Bool} {I : Nat → Nat → Int32} {J : Nat → Nat → Int64}
    (h : ((¬ (nI 0) < 0 ∧ ¬ (x1 * (nI 12)) < 0 ∧ ¬ (nI 12) < 0 ∧ 0 + 12 ≤ 12 ∧ ((x1 * (nI 12))).toNatClampNeg + 12 ≤ 120) ∧ t_X10_gatherTurned_4 d L fz t Q (x1 + (nI 1)) (x2 + (nI 1)) (pm_ur I 21 (va_cpy (I 4) (I 21) 0 ((x1 * (nI 12))).toNatClampNeg 12)) J)) :
    K_X10_gatherTurned_47 d fz t Q x1 x2 (.inl none) (pm_hp L fz1 t I J) := b_X10_gatherTurned_47 h
def t_X10_unlikeRowsAt_0 (d L : Nat) (fz t : Bool) (Q : pm_R → pm_H → Prop) (x1 : Int32) (x2 : Int32) (I : Nat → Nat → Int32) (J : Nat → Nat → Int64) : Prop := pm_T (pm_Ev d) 107 Q (0, [(0, .ref 0), (1, .int x1), (2, .int x2)], [], pm_hp L fz t I J, 0, 0)
def t_X10_unlikeRowsAt_5 (d L : Nat) (fz t : Bool) (Q : pm_R → pm_H → Prop) (x1 : Int32) (x2 : Int32) (x3 : Int32) (x4 : Int32) (I : Nat → Nat → Int32) (J : Nat → Nat → Int64) : Prop := pm_T (pm_Ev d) 107 Q (5, [(0, .ref 0), (1, .int x1), (2, .int x2), (3, .int x3), (4, .int x4)], [], pm_hp L fz t I J, 0, 0)
def t_X10_unlikeRowsAt_17 (d L : Nat) (fz t : Bool) (Q : pm_R → pm_H → Prop) (x1 : Int32) (x2 : Int32) (x3 : Int32) (x4 : Int32) (x5 : Int32) (x6 : Int32) (I : Nat → Nat → Int32) (J : Nat → Nat → Int64) : Prop := pm_T (pm_Ev d) 107 Q (17, [(0, .ref 0), (1, .int x1), (2, .int x2), (3, .int x3), (4, .int x4), (5, .int x5), (6, .int x6)], [], pm_hp L fz t I J, 0, 0)
set_option maxRecDepth 100000 in
theorem b_X10_unlikeRowsAt_0 {d L : Nat} {fz t : Bool} {Q : pm_R → pm_H → Prop} {x1 : Int32} {x2 : Int32} {I : Nat → Nat → Int32} {J : Nat → Nat → Int64}
    (h : t_X10_unlikeRowsAt_5 d L fz t Q x1 x2 (nI 0) (nI 0) I J) :
    t_X10_unlikeRowsAt_0 d L fz t Q x1 x2 I J := by
  exact pm_go d [(5, [0, 1, 2, 3, 4]), (17, [0, 1, 2, 3, 4, 5, 6])] 400 h
theorem e_X10_unlikeRowsAt {d L : Nat} {fz t : Bool} {Q : pm_R → pm_H → Prop} {x1 : Int32} {x2 : Int32} {I : Nat → Nat → Int32} {J : Nat → Nat → Int64}
    (h : t_X10_unlikeRowsAt_5 d L fz t Q x1 x2 (nI 0) (nI 0) I J) :
    pm_Ev (d + 1) 107 [.ref 0, .int x1, .int x2] (pm_hp L fz t I J) Q := pm_Ev_in rfl (b_X10_unlikeRowsAt_0 h)
set_option maxRecDepth 100000 in
theorem b_X10_unlikeRowsAt_5 {d L : Nat} {fz t : Bool} {Q : pm_R → pm_H → Prop} {x1 : Int32} {x2 : Int32} {x3 : Int32} {x4 : Int32} {I : Nat → Nat → Int32} {J : Nat → Nat → Int64}
    (h : ((x2 ≤ x4 → Q (.inl (some (.int x3))) (pm_hp L fz t I J)) ∧ (¬ x2 ≤ x4 → t_X10_unlikeRowsAt_17 d L fz t Q x1 x2 x3 x4 (nI 1) (nI 0) I J))) :
    t_X10_unlikeRowsAt_5 d L fz t Q x1 x2 x3 x4 I J := by
  exact pm_go d [(5, [0, 1, 2, 3, 4]), (17, [0, 1, 2, 3, 4, 5, 6])] 400 ⟨fun q0 => ((h).1 q0), fun q0 => ((h).2 q0)⟩
set_option maxRecDepth 100000 in
theorem b_X10_unlikeRowsAt_17 {d L : Nat} {fz t : Bool} {Q : pm_R → pm_H → Prop} {x1 : Int32} {x2 : Int32} {x3 : Int32} {x4 : Int32} {x5 : Int32} {x6 : Int32} {I : Nat → Nat → Int32} {J : Nat → Nat → Int64}
    (h : ((x4 ≤ x6 → ((x5 = (nI 0) → t_X10_unlikeRowsAt_5 d L fz t Q x1 x2 x3 (x4 + (nI 1)) I J) ∧ (¬ x5 = (nI 0) → t_X10_unlikeRowsAt_5 d L fz t Q x1 x2 (x3 + (nI 1)) (x4 + (nI 1)) I J))) ∧ (¬ x4 ≤ x6 → (vp_in ((x6 * (nI 12)) + x1) 120 ∧ (vp_in ((x4 * (nI 12)) + x1) 120 ∧ ((¬ (I 21 (((x6 * (nI 12)) + x1)).toNatClampNeg) = (I 21 (((x4 * (nI 12)) + x1)).toNatClampNeg) → t_X10_unlikeRowsAt_17 d L fz t Q x1 x2 x3 x4 x5 (x6 + (nI 1)) I J) ∧ ((I 21 (((x6 * (nI 12)) + x1)).toNatClampNeg) = (I 21 (((x4 * (nI 12)) + x1)).toNatClampNeg) → t_X10_unlikeRowsAt_17 d L fz t Q x1 x2 x3 x4 (nI 0) (x6 + (nI 1)) I J))))))) :
    t_X10_unlikeRowsAt_17 d L fz t Q x1 x2 x3 x4 x5 x6 I J := by
  exact pm_go d [(5, [0, 1, 2, 3, 4]), (17, [0, 1, 2, 3, 4, 5, 6])] 400 ⟨fun q0 => ⟨fun q1 => ((((h).1 q0)).1 q1), fun q1 => ((((h).1 q0)).2 q1)⟩, fun q0 => ⟨(((h).2 q0)).1, ⟨((((h).2 q0)).2).1, ⟨fun q1 => ((((((h).2 q0)).2).2).1 q1), fun q1 => ((((((h).2 q0)).2).2).2 q1)⟩⟩⟩⟩
def t_X10_addSundayToCosts_0 (d L : Nat) (fz t : Bool) (Q : pm_R → pm_H → Prop) (x1 : Int32) (I : Nat → Nat → Int32) (J : Nat → Nat → Int64) : Prop := pm_T (pm_Ev d) 108 Q (0, [(0, .ref 0), (1, .int x1)], [], pm_hp L fz t I J, 0, 0)
def t_X10_addSundayToCosts_11 (d L : Nat) (fz t : Bool) (Q : pm_R → pm_H → Prop) (x2 : Int32) (x3 : Int32) (I : Nat → Nat → Int32) (J : Nat → Nat → Int64) : Prop := pm_T (pm_Ev d) 108 Q (11, [(0, .ref 0), (2, .int x2), (3, .int x3)], [], pm_hp L fz t I J, 0, 0)
set_option maxRecDepth 100000 in
theorem b_X10_addSundayToCosts_0 {d L : Nat} {fz t : Bool} {Q : pm_R → pm_H → Prop} {x1 : Int32} {I : Nat → Nat → Int32} {J : Nat → Nat → Int64}
    (h : t_X10_addSundayToCosts_11 d L fz t Q (x1 + (I 22 1)) (nI 0) I J) :
    t_X10_addSundayToCosts_0 d L fz t Q x1 I J := by
  exact pm_go d [(11, [0, 2, 3])] 400 ⟨(vp_in_nI (by decide : 1 < 10) (by decide) : vp_in (nI 1) 10), h⟩
theorem e_X10_addSundayToCosts {d L : Nat} {fz t : Bool} {Q : pm_R → pm_H → Prop} {x1 : Int32} {I : Nat → Nat → Int32} {J : Nat → Nat → Int64}
    (h : t_X10_addSundayToCosts_11 d L fz t Q (x1 + (I 22 1)) (nI 0) I J) :
    pm_Ev (d + 1) 108 [.ref 0, .int x1] (pm_hp L fz t I J) Q := pm_Ev_in rfl (b_X10_addSundayToCosts_0 h)
set_option maxRecDepth 100000 in
theorem b_X10_addSundayToCosts_11 {d L : Nat} {fz t : Bool} {Q : pm_R → pm_H → Prop} {x2 : Int32} {x3 : Int32} {I : Nat → Nat → Int32} {J : Nat → Nat → Int64}
    (h : (((nI 9) < x3 → Q (.inl none) (pm_hp L fz t I J)) ∧ (¬ (nI 9) < x3 → (vp_in (if (nI 9) < (x3 + (nI 1)) then (nI 9) else (x3 + (nI 1))) 10 ∧ (vp_in x3 10 ∧ t_X10_addSundayToCosts_11 d L fz t Q x2 (x3 + (nI 1)) (pm_u I 22 (x3).toNatClampNeg (if x2 < (x3 + (I 22 ((if (nI 9) < (x3 + (nI 1)) then (nI 9) else (x3 + (nI 1)))).toNatClampNeg)) then x2 else (x3 + (I 22 ((if (nI 9) < (x3 + (nI 1)) then (nI 9) else (x3 + (nI 1)))).toNatClampNeg)))) J))))) :
    t_X10_addSundayToCosts_11 d L fz t Q x2 x3 I J := by
  exact pm_go d [(11, [0, 2, 3])] 400 ⟨fun q0 => ((h).1 q0), fun q0 => ⟨(((h).2 q0)).1, ⟨((((h).2 q0)).2).1, ((((h).2 q0)).2).2⟩⟩⟩
def t_X10_sideHoles_0 (d L : Nat) (fz t : Bool) (Q : pm_R → pm_H → Prop) (x1 : Int32) (x2 : Int32) (I : Nat → Nat → Int32) (J : Nat → Nat → Int64) : Prop := pm_T (pm_Ev d) 109 Q (0, [(0, .ref 0), (1, .int x1), (2, .int x2)], [], pm_hp L fz t I J, 0, 0)
def t_X10_sideHoles_12 (d L : Nat) (fz t : Bool) (Q : pm_R → pm_H → Prop) (x2 : Int32) (r : Int32) (I : Nat → Nat → Int32) (J : Nat → Nat → Int64) : Prop := pm_T (pm_Ev d) 109 Q (12, [(0, .ref 0), (2, .int x2)], [.int r], pm_hp L fz t I J, 0, 0)
def K_X10_sideHoles_12 (d : Nat) (fz t : Bool) (Q : pm_R → pm_H → Prop) (x2 : Int32) : pm_R → pm_H → Prop := pm_K d 109 Q 12 [(0, .ref 0), (2, .int x2)] [] 118 0 fz 0 0
def t_X10_sideHoles_26 (d L : Nat) (fz t : Bool) (Q : pm_R → pm_H → Prop) (r : Int32) (I : Nat → Nat → Int32) (J : Nat → Nat → Int64) : Prop := pm_T (pm_Ev d) 109 Q (26, [], [.int r], pm_hp L fz t I J, 0, 0)
def K_X10_sideHoles_26 (d : Nat) (fz t : Bool) (Q : pm_R → pm_H → Prop) : pm_R → pm_H → Prop := pm_K d 109 Q 26 [] [] 118 0 fz 0 0
set_option maxRecDepth 100000 in
theorem b_X10_sideHoles_0 {d L : Nat} {fz t : Bool} {Q : pm_R → pm_H → Prop} {x1 : Int32} {x2 : Int32} {I : Nat → Nat → Int32} {J : Nat → Nat → Int64}
    (h : pm_Ev d 72 [.ref (pm_td t), .ref 23, .int x1] (pm_hp L fz t I J) (K_X10_sideHoles_12 d fz t Q x2)) :
    t_X10_sideHoles_0 d L fz t Q x1 x2 I J := by
  cases t <;> exact pm_go d [(12, [0, 2]), (26, [])] 400 h
theorem e_X10_sideHoles {d L : Nat} {fz t : Bool} {Q : pm_R → pm_H → Prop} {x1 : Int32} {x2 : Int32} {I : Nat → Nat → Int32} {J : Nat → Nat → Int64}
    (h : pm_Ev d 72 [.ref (pm_td t), .ref 23, .int x1] (pm_hp L fz t I J) (K_X10_sideHoles_12 d fz t Q x2)) :
    pm_Ev (d + 1) 109 [.ref 0, .int x1, .int x2] (pm_hp L fz t I J) Q := pm_Ev_in rfl (b_X10_sideHoles_0 h)
set_option maxRecDepth 100000 in
theorem b_X10_sideHoles_12 {d L : Nat} {fz t : Bool} {Q : pm_R → pm_H → Prop} {x2 : Int32} {r : Int32} {I : Nat → Nat → Int32} {J : Nat → Nat → Int64}
    (h : ((¬ x2 = (nI 1) → Q (.inl (some (.int r))) (pm_hp L fz t I J)) ∧ (x2 = (nI 1) → pm_Ev d 71 [.ref (pm_td t), .int r] (pm_hp L fz t I J) (K_X10_sideHoles_26 d fz t Q)))) :
    t_X10_sideHoles_12 d L fz t Q x2 r I J := by
  cases t <;> exact pm_go d [(12, [0, 2]), (26, [])] 400 ⟨fun q0 => ((h).1 q0), fun q0 => ((h).2 q0)⟩
theorem kb_X10_sideHoles_12 {d L : Nat} {fz t : Bool} {Q : pm_R → pm_H → Prop} {x2 : Int32} {r : Int32} {fz1 : Bool} {I : Nat → Nat → Int32} {J : Nat → Nat → Int64}
    (h : ((¬ x2 = (nI 1) → Q (.inl (some (.int r))) (pm_hp L fz t I J)) ∧ (x2 = (nI 1) → pm_Ev d 71 [.ref (pm_td t), .int r] (pm_hp L fz t I J) (K_X10_sideHoles_26 d fz t Q)))) :
    K_X10_sideHoles_12 d fz t Q x2 (.inl (some (.int r))) (pm_hp L fz1 t I J) := b_X10_sideHoles_12 h
set_option maxRecDepth 100000 in
theorem b_X10_sideHoles_26 {d L : Nat} {fz t : Bool} {Q : pm_R → pm_H → Prop} {r : Int32} {I : Nat → Nat → Int32} {J : Nat → Nat → Int64}
    (h : Q (.inl (some (.int r))) (pm_hp L fz t I J)) :
    t_X10_sideHoles_26 d L fz t Q r I J := by
  exact pm_go d [(12, [0, 2]), (26, [])] 400 h
theorem kb_X10_sideHoles_26 {d L : Nat} {fz t : Bool} {Q : pm_R → pm_H → Prop} {r : Int32} {fz1 : Bool} {I : Nat → Nat → Int32} {J : Nat → Nat → Int64}
    (h : Q (.inl (some (.int r))) (pm_hp L fz t I J)) :
    K_X10_sideHoles_26 d fz t Q (.inl (some (.int r))) (pm_hp L fz1 t I J) := b_X10_sideHoles_26 h
def t_X10_gainOf_0 (d L : Nat) (fz t : Bool) (Q : pm_R → pm_H → Prop) (x1 : Int32) (x2 : Int32) (x3 : Int32) (x4 : Int32) (x5 : Int32) (I : Nat → Nat → Int32) (J : Nat → Nat → Int64) : Prop := pm_T (pm_Ev d) 110 Q (0, [(0, .ref 0), (1, .int x1), (2, .int x2), (3, .int x3), (4, .int x4), (5, .int x5)], [], pm_hp L fz t I J, 0, 0)
def t_X10_gainOf_7 (d L : Nat) (fz t : Bool) (Q : pm_R → pm_H → Prop) (x1 : Int32) (x2 : Int32) (x3 : Int32) (x4 : Int32) (x5 : Int32) (r : Int32) (I : Nat → Nat → Int32) (J : Nat → Nat → Int64) : Prop := pm_T (pm_Ev d) 110 Q (7, [(0, .ref 0), (1, .int x1), (2, .int x2), (3, .int x3), (4, .int x4), (5, .int x5)], [.int r], pm_hp L fz t I J, 0, 0)
def K_X10_gainOf_7 (d : Nat) (fz t : Bool) (Q : pm_R → pm_H → Prop) (x1 : Int32) (x2 : Int32) (x3 : Int32) (x4 : Int32) (x5 : Int32) : pm_R → pm_H → Prop := pm_K d 110 Q 7 [(0, .ref 0), (1, .int x1), (2, .int x2), (3, .int x3), (4, .int x4), (5, .int x5)] [] 118 0 fz 0 0
def t_X10_gainOf_16 (d L : Nat) (fz t : Bool) (Q : pm_R → pm_H → Prop) (x1 : Int32) (x2 : Int32) (x3 : Int32) (x4 : Int32) (x5 : Int32) (x6 : Int32) (r : Int32) (I : Nat → Nat → Int32) (J : Nat → Nat → Int64) : Prop := pm_T (pm_Ev d) 110 Q (16, [(0, .ref 0), (1, .int x1), (2, .int x2), (3, .int x3), (4, .int x4), (5, .int x5), (6, .int x6)], [.int r], pm_hp L fz t I J, 0, 0)
def K_X10_gainOf_16 (d : Nat) (fz t : Bool) (Q : pm_R → pm_H → Prop) (x1 : Int32) (x2 : Int32) (x3 : Int32) (x4 : Int32) (x5 : Int32) (x6 : Int32) : pm_R → pm_H → Prop := pm_K d 110 Q 16 [(0, .ref 0), (1, .int x1), (2, .int x2), (3, .int x3), (4, .int x4), (5, .int x5), (6, .int x6)] [] 118 0 fz 0 0
def t_X10_gainOf_50 (d L : Nat) (fz t : Bool) (Q : pm_R → pm_H → Prop) (x2 : Int32) (x3 : Int32) (x5 : Int32) (x6 : Int32) (x7 : Int32) (r : Int32) (I : Nat → Nat → Int32) (J : Nat → Nat → Int64) : Prop := pm_T (pm_Ev d) 110 Q (50, [(0, .ref 0), (2, .int x2), (3, .int x3), (5, .int x5), (6, .int x6), (7, .int x7)], [.int r], pm_hp L fz t I J, 0, 0)
def K_X10_gainOf_50 (d : Nat) (fz t : Bool) (Q : pm_R → pm_H → Prop) (x2 : Int32) (x3 : Int32) (x5 : Int32) (x6 : Int32) (x7 : Int32) : pm_R → pm_H → Prop := pm_K d 110 Q 50 [(0, .ref 0), (2, .int x2), (3, .int x3), (5, .int x5), (6, .int x6), (7, .int x7)] [] 118 0 fz 0 0
def t_X10_gainOf_32 (d L : Nat) (fz t : Bool) (Q : pm_R → pm_H → Prop) (x2 : Int32) (x3 : Int32) (x4 : Int32) (x6 : Int32) (x7 : Int32) (r : Int32) (I : Nat → Nat → Int32) (J : Nat → Nat → Int64) : Prop := pm_T (pm_Ev d) 110 Q (32, [(0, .ref 0), (2, .int x2), (3, .int x3), (4, .int x4), (6, .int x6), (7, .int x7)], [.int r], pm_hp L fz t I J, 0, 0)
def K_X10_gainOf_32 (d : Nat) (fz t : Bool) (Q : pm_R → pm_H → Prop) (x2 : Int32) (x3 : Int32) (x4 : Int32) (x6 : Int32) (x7 : Int32) : pm_R → pm_H → Prop := pm_K d 110 Q 32 [(0, .ref 0), (2, .int x2), (3, .int x3), (4, .int x4), (6, .int x6), (7, .int x7)] [] 118 0 fz 0 0
def t_X10_gainOf_76 (d L : Nat) (fz t : Bool) (Q : pm_R → pm_H → Prop) (s0 : Int32) (r : Int32) (I : Nat → Nat → Int32) (J : Nat → Nat → Int64) : Prop := pm_T (pm_Ev d) 110 Q (76, [], [.int r, .int s0], pm_hp L fz t I J, 0, 0)
def K_X10_gainOf_76 (d : Nat) (fz t : Bool) (Q : pm_R → pm_H → Prop) (s0 : Int32) : pm_R → pm_H → Prop := pm_K d 110 Q 76 [] [.int s0] 118 0 fz 0 0
set_option maxRecDepth 100000 in
theorem b_X10_gainOf_0 {d L : Nat} {fz t : Bool} {Q : pm_R → pm_H → Prop} {x1 : Int32} {x2 : Int32} {x3 : Int32} {x4 : Int32} {x5 : Int32} {I : Nat → Nat → Int32} {J : Nat → Nat → Int64}
    (h : pm_Ev d 109 [.ref 0, .int x2, .int x4] (pm_hp L fz t I J) (K_X10_gainOf_7 d fz t Q x1 x2 x3 x4 x5)) :
    t_X10_gainOf_0 d L fz t Q x1 x2 x3 x4 x5 I J := by
  exact pm_go d [(7, [0, 1, 2, 3, 4, 5]), (16, [0, 1, 2, 3, 4, 5, 6]), (32, [0, 2, 3, 4, 6, 7]), (50, [0, 2, 3, 5, 6, 7]), (76, [])] 400 h
theorem e_X10_gainOf {d L : Nat} {fz t : Bool} {Q : pm_R → pm_H → Prop} {x1 : Int32} {x2 : Int32} {x3 : Int32} {x4 : Int32} {x5 : Int32} {I : Nat → Nat → Int32} {J : Nat → Nat → Int64}
    (h : pm_Ev d 109 [.ref 0, .int x2, .int x4] (pm_hp L fz t I J) (K_X10_gainOf_7 d fz t Q x1 x2 x3 x4 x5)) :
    pm_Ev (d + 1) 110 [.ref 0, .int x1, .int x2, .int x3, .int x4, .int x5] (pm_hp L fz t I J) Q := pm_Ev_in rfl (b_X10_gainOf_0 h)
set_option maxRecDepth 100000 in
theorem b_X10_gainOf_7 {d L : Nat} {fz t : Bool} {Q : pm_R → pm_H → Prop} {x1 : Int32} {x2 : Int32} {x3 : Int32} {x4 : Int32} {x5 : Int32} {r : Int32} {I : Nat → Nat → Int32} {J : Nat → Nat → Int64}
    (h : pm_Ev d 109 [.ref 0, .int x3, .int x5] (pm_hp L fz t I J) (K_X10_gainOf_16 d fz t Q x1 x2 x3 x4 x5 r)) :
    t_X10_gainOf_7 d L fz t Q x1 x2 x3 x4 x5 r I J := by
  exact pm_go d [(7, [0, 1, 2, 3, 4, 5]), (16, [0, 1, 2, 3, 4, 5, 6]), (32, [0, 2, 3, 4, 6, 7]), (50, [0, 2, 3, 5, 6, 7]), (76, [])] 400 h
theorem kb_X10_gainOf_7 {d L : Nat} {fz t : Bool} {Q : pm_R → pm_H → Prop} {x1 : Int32} {x2 : Int32} {x3 : Int32} {x4 : Int32} {x5 : Int32} {r : Int32} {fz1 : Bool} {I : Nat → Nat → Int32} {J : Nat → Nat → Int64}
    (h : pm_Ev d 109 [.ref 0, .int x3, .int x5] (pm_hp L fz t I J) (K_X10_gainOf_16 d fz t Q x1 x2 x3 x4 x5 r)) :
    K_X10_gainOf_7 d fz t Q x1 x2 x3 x4 x5 (.inl (some (.int r))) (pm_hp L fz1 t I J) := b_X10_gainOf_7 h
set_option maxRecDepth 100000 in
theorem b_X10_gainOf_16 {d L : Nat} {fz t : Bool} {Q : pm_R → pm_H → Prop} {x1 : Int32} {x2 : Int32} {x3 : Int32} {x4 : Int32} {x5 : Int32} {x6 : Int32} {r : Int32} {I : Nat → Nat → Int32} {J : Nat → Nat → Int64}
    (h : ((x1 = (nI 0) → pm_Ev d 236 [.int (r &&& (x6 ^^^ (-1 : Int32)))] (pm_hp L fz t I J) (K_X10_gainOf_50 d fz t Q x2 x3 x5 x6 r)) ∧ (¬ x1 = (nI 0) → pm_Ev d 236 [.int (x6 &&& (r ^^^ (-1 : Int32)))] (pm_hp L fz t I J) (K_X10_gainOf_32 d fz t Q x2 x3 x4 x6 r)))) :
    t_X10_gainOf_16 d L fz t Q x1 x2 x3 x4 x5 x6 r I J := by
  exact pm_go d [(7, [0, 1, 2, 3, 4, 5]), (16, [0, 1, 2, 3, 4, 5, 6]), (32, [0, 2, 3, 4, 6, 7]), (50, [0, 2, 3, 5, 6, 7]), (76, [])] 400 ⟨fun q0 => ((h).1 q0), fun q0 => ((h).2 q0)⟩
theorem kb_X10_gainOf_16 {d L : Nat} {fz t : Bool} {Q : pm_R → pm_H → Prop} {x1 : Int32} {x2 : Int32} {x3 : Int32} {x4 : Int32} {x5 : Int32} {x6 : Int32} {r : Int32} {fz1 : Bool} {I : Nat → Nat → Int32} {J : Nat → Nat → Int64}
    (h : ((x1 = (nI 0) → pm_Ev d 236 [.int (r &&& (x6 ^^^ (-1 : Int32)))] (pm_hp L fz t I J) (K_X10_gainOf_50 d fz t Q x2 x3 x5 x6 r)) ∧ (¬ x1 = (nI 0) → pm_Ev d 236 [.int (x6 &&& (r ^^^ (-1 : Int32)))] (pm_hp L fz t I J) (K_X10_gainOf_32 d fz t Q x2 x3 x4 x6 r)))) :
    K_X10_gainOf_16 d fz t Q x1 x2 x3 x4 x5 x6 (.inl (some (.int r))) (pm_hp L fz1 t I J) := b_X10_gainOf_16 h
set_option maxRecDepth 100000 in
theorem b_X10_gainOf_50 {d L : Nat} {fz t : Bool} {Q : pm_R → pm_H → Prop} {x2 : Int32} {x3 : Int32} {x5 : Int32} {x6 : Int32} {x7 : Int32} {r : Int32} {I : Nat → Nat → Int32} {J : Nat → Nat → Int64}
    (h : pm_Ev d 59 [.ref 12, .ref (pm_td t), .int x2, .int x6, .int x3, .int x7] (pm_hp L fz t I J) (K_X10_gainOf_76 d fz t Q (r - ((nI 2) * x5)))) :
    t_X10_gainOf_50 d L fz t Q x2 x3 x5 x6 x7 r I J := by
  cases t <;> exact pm_go d [(7, [0, 1, 2, 3, 4, 5]), (16, [0, 1, 2, 3, 4, 5, 6]), (32, [0, 2, 3, 4, 6, 7]), (50, [0, 2, 3, 5, 6, 7]), (76, [])] 400 h
theorem kb_X10_gainOf_50 {d L : Nat} {fz t : Bool} {Q : pm_R → pm_H → Prop} {x2 : Int32} {x3 : Int32} {x5 : Int32} {x6 : Int32} {x7 : Int32} {r : Int32} {fz1 : Bool} {I : Nat → Nat → Int32} {J : Nat → Nat → Int64}
    (h : pm_Ev d 59 [.ref 12, .ref (pm_td t), .int x2, .int x6, .int x3, .int x7] (pm_hp L fz t I J) (K_X10_gainOf_76 d fz t Q (r - ((nI 2) * x5)))) :
    K_X10_gainOf_50 d fz t Q x2 x3 x5 x6 x7 (.inl (some (.int r))) (pm_hp L fz1 t I J) := b_X10_gainOf_50 h
set_option maxRecDepth 100000 in
theorem b_X10_gainOf_32 {d L : Nat} {fz t : Bool} {Q : pm_R → pm_H → Prop} {x2 : Int32} {x3 : Int32} {x4 : Int32} {x6 : Int32} {x7 : Int32} {r : Int32} {I : Nat → Nat → Int32} {J : Nat → Nat → Int64}
    (h : pm_Ev d 59 [.ref 12, .ref (pm_td t), .int x2, .int x6, .int x3, .int x7] (pm_hp L fz t I J) (K_X10_gainOf_76 d fz t Q (r - ((nI 2) * x4)))) :
    t_X10_gainOf_32 d L fz t Q x2 x3 x4 x6 x7 r I J := by
  cases t <;> exact pm_go d [(7, [0, 1, 2, 3, 4, 5]), (16, [0, 1, 2, 3, 4, 5, 6]), (32, [0, 2, 3, 4, 6, 7]), (50, [0, 2, 3, 5, 6, 7]), (76, [])] 400 h
theorem kb_X10_gainOf_32 {d L : Nat} {fz t : Bool} {Q : pm_R → pm_H → Prop} {x2 : Int32} {x3 : Int32} {x4 : Int32} {x6 : Int32} {x7 : Int32} {r : Int32} {fz1 : Bool} {I : Nat → Nat → Int32} {J : Nat → Nat → Int64}
    (h : pm_Ev d 59 [.ref 12, .ref (pm_td t), .int x2, .int x6, .int x3, .int x7] (pm_hp L fz t I J) (K_X10_gainOf_76 d fz t Q (r - ((nI 2) * x4)))) :
    K_X10_gainOf_32 d fz t Q x2 x3 x4 x6 x7 (.inl (some (.int r))) (pm_hp L fz1 t I J) := b_X10_gainOf_32 h
set_option maxRecDepth 100000 in
theorem b_X10_gainOf_76 {d L : Nat} {fz t : Bool} {Q : pm_R → pm_H → Prop} {s0 : Int32} {r : Int32} {I : Nat → Nat → Int32} {J : Nat → Nat → Int64}
    (h : Q (.inl (some (.int (s0 - r)))) (pm_hp L fz t I J)) :
    t_X10_gainOf_76 d L fz t Q s0 r I J := by
  exact pm_go d [(7, [0, 1, 2, 3, 4, 5]), (16, [0, 1, 2, 3, 4, 5, 6]), (32, [0, 2, 3, 4, 6, 7]), (50, [0, 2, 3, 5, 6, 7]), (76, [])] 400 h
theorem kb_X10_gainOf_76 {d L : Nat} {fz t : Bool} {Q : pm_R → pm_H → Prop} {s0 : Int32} {r : Int32} {fz1 : Bool} {I : Nat → Nat → Int32} {J : Nat → Nat → Int64}
    (h : Q (.inl (some (.int (s0 - r)))) (pm_hp L fz t I J)) :
    K_X10_gainOf_76 d fz t Q s0 (.inl (some (.int r))) (pm_hp L fz1 t I J) := b_X10_gainOf_76 h
def t_X10_isAtRest_0 (d L : Nat) (fz t : Bool) (Q : pm_R → pm_H → Prop) (x1 : Int32) (x2 : Int32) (x3 : Int32) (x4 : Int32) (I : Nat → Nat → Int32) (J : Nat → Nat → Int64) : Prop := pm_T (pm_Ev d) 111 Q (0, [(0, .ref 0), (1, .int x1), (2, .int x2), (3, .int x3), (4, .int x4)], [], pm_hp L fz t I J, 0, 0)
def t_X10_isAtRest_12 (d L : Nat) (fz t : Bool) (Q : pm_R → pm_H → Prop) (x1 : Int32) (x2 : Int32) (x3 : Int32) (x4 : Int32) (r : Int32) (I : Nat → Nat → Int32) (J : Nat → Nat → Int64) : Prop := pm_T (pm_Ev d) 111 Q (12, [(0, .ref 0), (1, .int x1), (2, .int x2), (3, .int x3), (4, .int x4)], [.int r], pm_hp L fz t I J, 0, 0)
def K_X10_isAtRest_12 (d : Nat) (fz t : Bool) (Q : pm_R → pm_H → Prop) (x1 : Int32) (x2 : Int32) (x3 : Int32) (x4 : Int32) : pm_R → pm_H → Prop := pm_K d 111 Q 12 [(0, .ref 0), (1, .int x1), (2, .int x2), (3, .int x3), (4, .int x4)] [] 118 0 fz 0 0
def t_X10_isAtRest_22 (d L : Nat) (fz t : Bool) (Q : pm_R → pm_H → Prop) (x1 : Int32) (x2 : Int32) (x3 : Int32) (x4 : Int32) (s0 : Int32) (r : Int32) (I : Nat → Nat → Int32) (J : Nat → Nat → Int64) : Prop := pm_T (pm_Ev d) 111 Q (22, [(0, .ref 0), (1, .int x1), (2, .int x2), (3, .int x3), (4, .int x4)], [.int r, .int s0], pm_hp L fz t I J, 0, 0)
def K_X10_isAtRest_22 (d : Nat) (fz t : Bool) (Q : pm_R → pm_H → Prop) (x1 : Int32) (x2 : Int32) (x3 : Int32) (x4 : Int32) (s0 : Int32) : pm_R → pm_H → Prop := pm_K d 111 Q 22 [(0, .ref 0), (1, .int x1), (2, .int x2), (3, .int x3), (4, .int x4)] [.int s0] 118 0 fz 0 0
def t_X10_isAtRest_37 (d L : Nat) (fz t : Bool) (Q : pm_R → pm_H → Prop) (x1 : Int32) (x2 : Int32) (x3 : Int32) (x4 : Int32) (r : Int32) (I : Nat → Nat → Int32) (J : Nat → Nat → Int64) : Prop := pm_T (pm_Ev d) 111 Q (37, [(0, .ref 0), (1, .int x1), (2, .int x2), (3, .int x3), (4, .int x4)], [.int r], pm_hp L fz t I J, 0, 0)
def K_X10_isAtRest_37 (d : Nat) (fz t : Bool) (Q : pm_R → pm_H → Prop) (x1 : Int32) (x2 : Int32) (x3 : Int32) (x4 : Int32) : pm_R → pm_H → Prop := pm_K d 111 Q 37 [(0, .ref 0), (1, .int x1), (2, .int x2), (3, .int x3), (4, .int x4)] [] 118 0 fz 0 0
def t_X10_isAtRest_47 (d L : Nat) (fz t : Bool) (Q : pm_R → pm_H → Prop) (s0 : Int32) (r : Int32) (I : Nat → Nat → Int32) (J : Nat → Nat → Int64) : Prop := pm_T (pm_Ev d) 111 Q (47, [], [.int r, .int s0], pm_hp L fz t I J, 0, 0)
def K_X10_isAtRest_47 (d : Nat) (fz t : Bool) (Q : pm_R → pm_H → Prop) (s0 : Int32) : pm_R → pm_H → Prop := pm_K d 111 Q 47 [] [.int s0] 118 0 fz 0 0
set_option maxRecDepth 100000 in
theorem b_X10_isAtRest_0 {d L : Nat} {fz t : Bool} {Q : pm_R → pm_H → Prop} {x1 : Int32} {x2 : Int32} {x3 : Int32} {x4 : Int32} {I : Nat → Nat → Int32} {J : Nat → Nat → Int64}
    (h : pm_Ev d 110 [.ref 0, .int (nI 1), .int x1, .int x2, .int ((nI 1) - x3), .int x4] (pm_hp L fz t I J) (K_X10_isAtRest_12 d fz t Q x1 x2 x3 x4)) :
    t_X10_isAtRest_0 d L fz t Q x1 x2 x3 x4 I J := by
  exact pm_go d [(12, [0, 1, 2, 3, 4]), (22, [0, 1, 2, 3, 4]), (37, [0, 1, 2, 3, 4]), (47, [])] 400 h
theorem e_X10_isAtRest {d L : Nat} {fz t : Bool} {Q : pm_R → pm_H → Prop} {x1 : Int32} {x2 : Int32} {x3 : Int32} {x4 : Int32} {I : Nat → Nat → Int32} {J : Nat → Nat → Int64}
    (h : pm_Ev d 110 [.ref 0, .int (nI 1), .int x1, .int x2, .int ((nI 1) - x3), .int x4] (pm_hp L fz t I J) (K_X10_isAtRest_12 d fz t Q x1 x2 x3 x4)) :
    pm_Ev (d + 1) 111 [.ref 0, .int x1, .int x2, .int x3, .int x4] (pm_hp L fz t I J) Q := pm_Ev_in rfl (b_X10_isAtRest_0 h)
set_option maxRecDepth 100000 in
theorem b_X10_isAtRest_12 {d L : Nat} {fz t : Bool} {Q : pm_R → pm_H → Prop} {x1 : Int32} {x2 : Int32} {x3 : Int32} {x4 : Int32} {r : Int32} {I : Nat → Nat → Int32} {J : Nat → Nat → Int64}
    (h : pm_Ev d 110 [.ref 0, .int (nI 1), .int x1, .int x2, .int x3, .int x4] (pm_hp L fz t I J) (K_X10_isAtRest_22 d fz t Q x1 x2 x3 x4 r)) :
    t_X10_isAtRest_12 d L fz t Q x1 x2 x3 x4 r I J := by
  exact pm_go d [(12, [0, 1, 2, 3, 4]), (22, [0, 1, 2, 3, 4]), (37, [0, 1, 2, 3, 4]), (47, [])] 400 h
theorem kb_X10_isAtRest_12 {d L : Nat} {fz t : Bool} {Q : pm_R → pm_H → Prop} {x1 : Int32} {x2 : Int32} {x3 : Int32} {x4 : Int32} {r : Int32} {fz1 : Bool} {I : Nat → Nat → Int32} {J : Nat → Nat → Int64}
    (h : pm_Ev d 110 [.ref 0, .int (nI 1), .int x1, .int x2, .int x3, .int x4] (pm_hp L fz t I J) (K_X10_isAtRest_22 d fz t Q x1 x2 x3 x4 r)) :
    K_X10_isAtRest_12 d fz t Q x1 x2 x3 x4 (.inl (some (.int r))) (pm_hp L fz1 t I J) := b_X10_isAtRest_12 h
set_option maxRecDepth 100000 in
theorem b_X10_isAtRest_22 {d L : Nat} {fz t : Bool} {Q : pm_R → pm_H → Prop} {x1 : Int32} {x2 : Int32} {x3 : Int32} {x4 : Int32} {s0 : Int32} {r : Int32} {I : Nat → Nat → Int32} {J : Nat → Nat → Int64}
    (h : ((r < s0 → Q (.inl (some (.int (nI 0)))) (pm_hp L fz t I J)) ∧ (¬ r < s0 → pm_Ev d 110 [.ref 0, .int (nI 0), .int x1, .int x2, .int x3, .int ((nI 1) - x4)] (pm_hp L fz t I J) (K_X10_isAtRest_37 d fz t Q x1 x2 x3 x4)))) :
    t_X10_isAtRest_22 d L fz t Q x1 x2 x3 x4 s0 r I J := by
  exact pm_go d [(12, [0, 1, 2, 3, 4]), (22, [0, 1, 2, 3, 4]), (37, [0, 1, 2, 3, 4]), (47, [])] 400 ⟨fun q0 => ⟨Or.inl rfl, ((h).1 q0)⟩, fun q0 => ((h).2 q0)⟩
theorem kb_X10_isAtRest_22 {d L : Nat} {fz t : Bool} {Q : pm_R → pm_H → Prop} {x1 : Int32} {x2 : Int32} {x3 : Int32} {x4 : Int32} {s0 : Int32} {r : Int32} {fz1 : Bool} {I : Nat → Nat → Int32} {J : Nat → Nat → Int64}
    (h : ((r < s0 → Q (.inl (some (.int (nI 0)))) (pm_hp L fz t I J)) ∧ (¬ r < s0 → pm_Ev d 110 [.ref 0, .int (nI 0), .int x1, .int x2, .int x3, .int ((nI 1) - x4)] (pm_hp L fz t I J) (K_X10_isAtRest_37 d fz t Q x1 x2 x3 x4)))) :
    K_X10_isAtRest_22 d fz t Q x1 x2 x3 x4 s0 (.inl (some (.int r))) (pm_hp L fz1 t I J) := b_X10_isAtRest_22 h
set_option maxRecDepth 100000 in
theorem b_X10_isAtRest_37 {d L : Nat} {fz t : Bool} {Q : pm_R → pm_H → Prop} {x1 : Int32} {x2 : Int32} {x3 : Int32} {x4 : Int32} {r : Int32} {I : Nat → Nat → Int32} {J : Nat → Nat → Int64}
    (h : pm_Ev d 110 [.ref 0, .int (nI 0), .int x1, .int x2, .int x3, .int x4] (pm_hp L fz t I J) (K_X10_isAtRest_47 d fz t Q r)) :
    t_X10_isAtRest_37 d L fz t Q x1 x2 x3 x4 r I J := by
  exact pm_go d [(12, [0, 1, 2, 3, 4]), (22, [0, 1, 2, 3, 4]), (37, [0, 1, 2, 3, 4]), (47, [])] 400 h
theorem kb_X10_isAtRest_37 {d L : Nat} {fz t : Bool} {Q : pm_R → pm_H → Prop} {x1 : Int32} {x2 : Int32} {x3 : Int32} {x4 : Int32} {r : Int32} {fz1 : Bool} {I : Nat → Nat → Int32} {J : Nat → Nat → Int64}
    (h : pm_Ev d 110 [.ref 0, .int (nI 0), .int x1, .int x2, .int x3, .int x4] (pm_hp L fz t I J) (K_X10_isAtRest_47 d fz t Q r)) :
    K_X10_isAtRest_37 d fz t Q x1 x2 x3 x4 (.inl (some (.int r))) (pm_hp L fz1 t I J) := b_X10_isAtRest_37 h
set_option maxRecDepth 100000 in
theorem b_X10_isAtRest_47 {d L : Nat} {fz t : Bool} {Q : pm_R → pm_H → Prop} {s0 : Int32} {r : Int32} {I : Nat → Nat → Int32} {J : Nat → Nat → Int64}
    (h : ((r < s0 → Q (.inl (some (.int (nI 0)))) (pm_hp L fz t I J)) ∧ (¬ r < s0 → Q (.inl (some (.int (nI 1)))) (pm_hp L fz t I J)))) :
    t_X10_isAtRest_47 d L fz t Q s0 r I J := by
  exact pm_go d [(12, [0, 1, 2, 3, 4]), (22, [0, 1, 2, 3, 4]), (37, [0, 1, 2, 3, 4]), (47, [])] 400 ⟨fun q0 => ⟨Or.inl rfl, ((h).1 q0)⟩, fun q0 => ⟨Or.inr rfl, ((h).2 q0)⟩⟩
theorem kb_X10_isAtRest_47 {d L : Nat} {fz t : Bool} {Q : pm_R → pm_H → Prop} {s0 : Int32} {r : Int32} {fz1 : Bool} {I : Nat → Nat → Int32} {J : Nat → Nat → Int64}
    (h : ((r < s0 → Q (.inl (some (.int (nI 0)))) (pm_hp L fz t I J)) ∧ (¬ r < s0 → Q (.inl (some (.int (nI 1)))) (pm_hp L fz t I J)))) :
    K_X10_isAtRest_47 d fz t Q s0 (.inl (some (.int r))) (pm_hp L fz1 t I J) := b_X10_isAtRest_47 h
def t_X10_stepped_0 (d L : Nat) (fz t : Bool) (Q : pm_R → pm_H → Prop) (x0 : Int32) (I : Nat → Nat → Int32) (J : Nat → Nat → Int64) : Prop := pm_T (pm_Ev d) 112 Q (0, [(0, .int x0)], [], pm_hp L fz t I J, 0, 0)
set_option maxRecDepth 100000 in
theorem b_X10_stepped_0 {d L : Nat} {fz t : Bool} {Q : pm_R → pm_H → Prop} {x0 : Int32} {I : Nat → Nat → Int32} {J : Nat → Nat → Int64}
    (h : Q (.inl (some (.int ((x0 * (nI 1103515245)) + (nI 12345))))) (pm_hp L fz t I J)) :
    t_X10_stepped_0 d L fz t Q x0 I J := by
  exact pm_go d [] 400 h
theorem e_X10_stepped {d L : Nat} {fz t : Bool} {Q : pm_R → pm_H → Prop} {x0 : Int32} {I : Nat → Nat → Int32} {J : Nat → Nat → Int64}
    (h : Q (.inl (some (.int ((x0 * (nI 1103515245)) + (nI 12345))))) (pm_hp L fz t I J)) :
    pm_Ev (d + 1) 112 [.int x0] (pm_hp L fz t I J) Q := pm_Ev_in rfl (b_X10_stepped_0 h)
def t_X10_drawOf_0 (d L : Nat) (fz t : Bool) (Q : pm_R → pm_H → Prop) (x0 : Int32) (x1 : Int32) (I : Nat → Nat → Int32) (J : Nat → Nat → Int64) : Prop := pm_T (pm_Ev d) 113 Q (0, [(0, .int x0), (1, .int x1)], [], pm_hp L fz t I J, 0, 0)
set_option maxRecDepth 100000 in
theorem b_X10_drawOf_0 {d L : Nat} {fz t : Bool} {Q : pm_R → pm_H → Prop} {x0 : Int32} {x1 : Int32} {I : Nat → Nat → Int32} {J : Nat → Nat → Int64}
    (h : (((nI 1) ≤ x1 → (¬ x1 = nI 0 ∧ Q (.inl (some (.int (((((x0).toUInt32 >>> (((nI 16)).toUInt32 &&& Int32.toUInt32 31)).toInt32) &&& (nI 32767)) - ((((x0).toUInt32 >>> (((nI 16)).toUInt32 &&& Int32.toUInt32 31)).toInt32) &&& (nI 32767)) / x1 * x1)))) (pm_hp L fz t I J))) ∧ (¬ (nI 1) ≤ x1 → Q (.inl (some (.int (nI 0)))) (pm_hp L fz t I J)))) :
    t_X10_drawOf_0 d L fz t Q x0 x1 I J := by
  exact pm_go d [] 400 ⟨fun q0 => ⟨(((h).1 q0)).1, (((h).1 q0)).2⟩, fun q0 => ((h).2 q0)⟩
theorem e_X10_drawOf {d L : Nat} {fz t : Bool} {Q : pm_R → pm_H → Prop} {x0 : Int32} {x1 : Int32} {I : Nat → Nat → Int32} {J : Nat → Nat → Int64}
    (h : (((nI 1) ≤ x1 → (¬ x1 = nI 0 ∧ Q (.inl (some (.int (((((x0).toUInt32 >>> (((nI 16)).toUInt32 &&& Int32.toUInt32 31)).toInt32) &&& (nI 32767)) - ((((x0).toUInt32 >>> (((nI 16)).toUInt32 &&& Int32.toUInt32 31)).toInt32) &&& (nI 32767)) / x1 * x1)))) (pm_hp L fz t I J))) ∧ (¬ (nI 1) ≤ x1 → Q (.inl (some (.int (nI 0)))) (pm_hp L fz t I J)))) :
    pm_Ev (d + 1) 113 [.int x0, .int x1] (pm_hp L fz t I J) Q := pm_Ev_in rfl (b_X10_drawOf_0 h)
def t_X10_befall_0 (d L : Nat) (fz t : Bool) (Q : pm_R → pm_H → Prop) (x1 : Int32) (I : Nat → Nat → Int32) (J : Nat → Nat → Int64) : Prop := pm_T (pm_Ev d) 114 Q (0, [(0, .ref 0), (1, .int x1)], [], pm_hp L fz t I J, 0, 0)
def t_X10_befall_17 (d L : Nat) (fz t : Bool) (Q : pm_R → pm_H → Prop) (r : Int32) (I : Nat → Nat → Int32) (J : Nat → Nat → Int64) : Prop := pm_T (pm_Ev d) 114 Q (17, [(0, .ref 0)], [.int r], pm_hp L fz t I J, 0, 0)
def K_X10_befall_17 (d : Nat) (fz t : Bool) (Q : pm_R → pm_H → Prop) : pm_R → pm_H → Prop := pm_K d 114 Q 17 [(0, .ref 0)] [] 118 0 fz 0 0
def t_X10_befall_29 (d L : Nat) (fz t : Bool) (Q : pm_R → pm_H → Prop) (x2 : Int32) (r : Int32) (I : Nat → Nat → Int32) (J : Nat → Nat → Int64) : Prop := pm_T (pm_Ev d) 114 Q (29, [(0, .ref 0), (2, .int x2)], [.int r], pm_hp L fz t I J, 0, 0)
def K_X10_befall_29 (d : Nat) (fz t : Bool) (Q : pm_R → pm_H → Prop) (x2 : Int32) : pm_R → pm_H → Prop := pm_K d 114 Q 29 [(0, .ref 0), (2, .int x2)] [] 118 0 fz 0 0
def t_X10_befall_34 (d L : Nat) (fz t : Bool) (Q : pm_R → pm_H → Prop) (x3 : Int32) (r : Int32) (I : Nat → Nat → Int32) (J : Nat → Nat → Int64) : Prop := pm_T (pm_Ev d) 114 Q (34, [(0, .ref 0), (3, .int x3)], [.int r], pm_hp L fz t I J, 0, 0)
def K_X10_befall_34 (d : Nat) (fz t : Bool) (Q : pm_R → pm_H → Prop) (x3 : Int32) : pm_R → pm_H → Prop := pm_K d 114 Q 34 [(0, .ref 0), (3, .int x3)] [] 118 0 fz 0 0
def t_X10_befall_40 (d L : Nat) (fz t : Bool) (Q : pm_R → pm_H → Prop) (x2 : Int32) (x3 : Int32) (r : Int32) (I : Nat → Nat → Int32) (J : Nat → Nat → Int64) : Prop := pm_T (pm_Ev d) 114 Q (40, [(0, .ref 0), (2, .int x2), (3, .int x3)], [.int r], pm_hp L fz t I J, 0, 0)
def K_X10_befall_40 (d : Nat) (fz t : Bool) (Q : pm_R → pm_H → Prop) (x2 : Int32) (x3 : Int32) : pm_R → pm_H → Prop := pm_K d 114 Q 40 [(0, .ref 0), (2, .int x2), (3, .int x3)] [] 118 0 fz 0 0
def t_X10_befall_110 (d L : Nat) (fz t : Bool) (Q : pm_R → pm_H → Prop) (x2 : Int32) (s1 : Int32) (r : Int32) (I : Nat → Nat → Int32) (J : Nat → Nat → Int64) : Prop := pm_T (pm_Ev d) 114 Q (110, [(2, .int x2)], [.int r, .int s1, .ref 28], pm_hp L fz t I J, 0, 0)
def K_X10_befall_110 (d : Nat) (fz t : Bool) (Q : pm_R → pm_H → Prop) (x2 : Int32) (s1 : Int32) : pm_R → pm_H → Prop := pm_K d 114 Q 110 [(2, .int x2)] [.int s1, .ref 28] 118 0 fz 0 0
def t_X10_befall_51 (d L : Nat) (fz t : Bool) (Q : pm_R → pm_H → Prop) (x3 : Int32) (r : Int32) (I : Nat → Nat → Int32) (J : Nat → Nat → Int64) : Prop := pm_T (pm_Ev d) 114 Q (51, [(0, .ref 0), (3, .int x3)], [.int r], pm_hp L fz t I J, 0, 0)
def K_X10_befall_51 (d : Nat) (fz t : Bool) (Q : pm_R → pm_H → Prop) (x3 : Int32) : pm_R → pm_H → Prop := pm_K d 114 Q 51 [(0, .ref 0), (3, .int x3)] [] 118 0 fz 0 0
def t_X10_befall_74 (d L : Nat) (fz t : Bool) (Q : pm_R → pm_H → Prop) (x2 : Int32) (s1 : Int32) (s2 : Int32) (s3 : Int32) (r : Int32) (I : Nat → Nat → Int32) (J : Nat → Nat → Int64) : Prop := pm_T (pm_Ev d) 114 Q (74, [(2, .int x2)], [.int r, .int s3, .int s2, .int s1, .ref 28], pm_hp L fz t I J, 0, 0)
def K_X10_befall_74 (d : Nat) (fz t : Bool) (Q : pm_R → pm_H → Prop) (x2 : Int32) (s1 : Int32) (s2 : Int32) (s3 : Int32) : pm_R → pm_H → Prop := pm_K d 114 Q 74 [(2, .int x2)] [.int s3, .int s2, .int s1, .ref 28] 118 0 fz 0 0
set_option maxRecDepth 100000 in
theorem b_X10_befall_0 {d L : Nat} {fz t : Bool} {Q : pm_R → pm_H → Prop} {x1 : Int32} {I : Nat → Nat → Int32} {J : Nat → Nat → Int64}
    (h : (((nI 1) ≤ (I (pm_td t) 13) → pm_Ev d 112 [.int x1] (pm_hp L fz t I J) (K_X10_befall_17 d fz t Q)) ∧ (¬ (nI 1) ≤ (I (pm_td t) 13) → Q (.inl (some (.int x1))) (pm_hp L fz t I J)))) :
    t_X10_befall_0 d L fz t Q x1 I J := by
  cases t <;> exact pm_go d [(17, [0]), (29, [0, 2]), (34, [0, 3]), (40, [0, 2, 3]), (51, [0, 3]), (74, [2]), (110, [2])] 400 ⟨fun q0 => ((h).1 q0), fun q0 => ((h).2 q0)⟩
theorem e_X10_befall {d L : Nat} {fz t : Bool} {Q : pm_R → pm_H → Prop} {x1 : Int32} {I : Nat → Nat → Int32} {J : Nat → Nat → Int64}
    (h : (((nI 1) ≤ (I (pm_td t) 13) → pm_Ev d 112 [.int x1] (pm_hp L fz t I J) (K_X10_befall_17 d fz t Q)) ∧ (¬ (nI 1) ≤ (I (pm_td t) 13) → Q (.inl (some (.int x1))) (pm_hp L fz t I J)))) :
    pm_Ev (d + 1) 114 [.ref 0, .int x1] (pm_hp L fz t I J) Q := pm_Ev_in rfl (b_X10_befall_0 h)
set_option maxRecDepth 100000 in
theorem b_X10_befall_17 {d L : Nat} {fz t : Bool} {Q : pm_R → pm_H → Prop} {r : Int32} {I : Nat → Nat → Int32} {J : Nat → Nat → Int64}
    (h : pm_Ev d 113 [.int r, .int (I (pm_td t) 13)] (pm_hp L fz t I J) (K_X10_befall_29 d fz t Q r)) :
    t_X10_befall_17 d L fz t Q r I J := by
  cases t <;> exact pm_go d [(17, [0]), (29, [0, 2]), (34, [0, 3]), (40, [0, 2, 3]), (51, [0, 3]), (74, [2]), (110, [2])] 400 h
theorem kb_X10_befall_17 {d L : Nat} {fz t : Bool} {Q : pm_R → pm_H → Prop} {r : Int32} {fz1 : Bool} {I : Nat → Nat → Int32} {J : Nat → Nat → Int64}
    (h : pm_Ev d 113 [.int r, .int (I (pm_td t) 13)] (pm_hp L fz t I J) (K_X10_befall_29 d fz t Q r)) :
    K_X10_befall_17 d fz t Q (.inl (some (.int r))) (pm_hp L fz1 t I J) := b_X10_befall_17 h
set_option maxRecDepth 100000 in
theorem b_X10_befall_29 {d L : Nat} {fz t : Bool} {Q : pm_R → pm_H → Prop} {x2 : Int32} {r : Int32} {I : Nat → Nat → Int32} {J : Nat → Nat → Int64}
    (h : pm_Ev d 112 [.int x2] (pm_hp L fz t I J) (K_X10_befall_34 d fz t Q r)) :
    t_X10_befall_29 d L fz t Q x2 r I J := by
  exact pm_go d [(17, [0]), (29, [0, 2]), (34, [0, 3]), (40, [0, 2, 3]), (51, [0, 3]), (74, [2]), (110, [2])] 400 h
theorem kb_X10_befall_29 {d L : Nat} {fz t : Bool} {Q : pm_R → pm_H → Prop} {x2 : Int32} {r : Int32} {fz1 : Bool} {I : Nat → Nat → Int32} {J : Nat → Nat → Int64}
    (h : pm_Ev d 112 [.int x2] (pm_hp L fz t I J) (K_X10_befall_34 d fz t Q r)) :
    K_X10_befall_29 d fz t Q x2 (.inl (some (.int r))) (pm_hp L fz1 t I J) := b_X10_befall_29 h
set_option maxRecDepth 100000 in
theorem b_X10_befall_34 {d L : Nat} {fz t : Bool} {Q : pm_R → pm_H → Prop} {x3 : Int32} {r : Int32} {I : Nat → Nat → Int32} {J : Nat → Nat → Int64}
    (h : pm_Ev d 113 [.int r, .int (nI 4)] (pm_hp L fz t I J) (K_X10_befall_40 d fz t Q r x3)) :
    t_X10_befall_34 d L fz t Q x3 r I J := by
  exact pm_go d [(17, [0]), (29, [0, 2]), (34, [0, 3]), (40, [0, 2, 3]), (51, [0, 3]), (74, [2]), (110, [2])] 400 h
theorem kb_X10_befall_34 {d L : Nat} {fz t : Bool} {Q : pm_R → pm_H → Prop} {x3 : Int32} {r : Int32} {fz1 : Bool} {I : Nat → Nat → Int32} {J : Nat → Nat → Int64}
    (h : pm_Ev d 113 [.int r, .int (nI 4)] (pm_hp L fz t I J) (K_X10_befall_40 d fz t Q r x3)) :
    K_X10_befall_34 d fz t Q x3 (.inl (some (.int r))) (pm_hp L fz1 t I J) := b_X10_befall_34 h
set_option maxRecDepth 100000 in
theorem b_X10_befall_40 {d L : Nat} {fz t : Bool} {Q : pm_R → pm_H → Prop} {x2 : Int32} {x3 : Int32} {r : Int32} {I : Nat → Nat → Int32} {J : Nat → Nat → Int64}
    (h : ((¬ r = (nI 0) → ((¬ r = (nI 1) → ((¬ r = (nI 2) → Q (.inl (some (.int x2))) (pm_hp L fz t I J)) ∧ (r = (nI 2) → (vp_in x3 10 ∧ Q (.inl (some (.int x2))) (pm_hp L fz t (pm_u I 29 (x3).toNatClampNeg (nI 0)) J))))) ∧ (r = (nI 1) → (vp_in x3 10 ∧ pm_Ev d 71 [.ref (pm_td t), .int (I 28 (x3).toNatClampNeg)] (pm_hp L fz t I J) (K_X10_befall_110 d fz t Q x2 x3))))) ∧ (r = (nI 0) → pm_Ev d 112 [.int x2] (pm_hp L fz t I J) (K_X10_befall_51 d fz t Q x3)))) :
    t_X10_befall_40 d L fz t Q x2 x3 r I J := by
  cases t <;> exact pm_go d [(17, [0]), (29, [0, 2]), (34, [0, 3]), (40, [0, 2, 3]), (51, [0, 3]), (74, [2]), (110, [2])] 400 ⟨fun q0 => ⟨fun q1 => ⟨fun q2 => ((((((h).1 q0)).1 q1)).1 q2), fun q2 => ⟨(((((((h).1 q0)).1 q1)).2 q2)).1, (((((((h).1 q0)).1 q1)).2 q2)).2⟩⟩, fun q1 => ⟨(((((h).1 q0)).2 q1)).1, (((((h).1 q0)).2 q1)).2⟩⟩, fun q0 => ((h).2 q0)⟩
theorem kb_X10_befall_40 {d L : Nat} {fz t : Bool} {Q : pm_R → pm_H → Prop} {x2 : Int32} {x3 : Int32} {r : Int32} {fz1 : Bool} {I : Nat → Nat → Int32} {J : Nat → Nat → Int64}
    (h : ((¬ r = (nI 0) → ((¬ r = (nI 1) → ((¬ r = (nI 2) → Q (.inl (some (.int x2))) (pm_hp L fz t I J)) ∧ (r = (nI 2) → (vp_in x3 10 ∧ Q (.inl (some (.int x2))) (pm_hp L fz t (pm_u I 29 (x3).toNatClampNeg (nI 0)) J))))) ∧ (r = (nI 1) → (vp_in x3 10 ∧ pm_Ev d 71 [.ref (pm_td t), .int (I 28 (x3).toNatClampNeg)] (pm_hp L fz t I J) (K_X10_befall_110 d fz t Q x2 x3))))) ∧ (r = (nI 0) → pm_Ev d 112 [.int x2] (pm_hp L fz t I J) (K_X10_befall_51 d fz t Q x3)))) :
    K_X10_befall_40 d fz t Q x2 x3 (.inl (some (.int r))) (pm_hp L fz1 t I J) := b_X10_befall_40 h
set_option maxRecDepth 100000 in
theorem b_X10_befall_110 {d L : Nat} {fz t : Bool} {Q : pm_R → pm_H → Prop} {x2 : Int32} {s1 : Int32} {r : Int32} {I : Nat → Nat → Int32} {J : Nat → Nat → Int64}
    (h : (vp_in s1 10 ∧ Q (.inl (some (.int x2))) (pm_hp L fz t (pm_u I 28 (s1).toNatClampNeg r) J))) :
    t_X10_befall_110 d L fz t Q x2 s1 r I J := by
  exact pm_go d [(17, [0]), (29, [0, 2]), (34, [0, 3]), (40, [0, 2, 3]), (51, [0, 3]), (74, [2]), (110, [2])] 400 ⟨(h).1, (h).2⟩
theorem kb_X10_befall_110 {d L : Nat} {fz t : Bool} {Q : pm_R → pm_H → Prop} {x2 : Int32} {s1 : Int32} {r : Int32} {fz1 : Bool} {I : Nat → Nat → Int32} {J : Nat → Nat → Int64}
    (h : (vp_in s1 10 ∧ Q (.inl (some (.int x2))) (pm_hp L fz t (pm_u I 28 (s1).toNatClampNeg r) J))) :
    K_X10_befall_110 d fz t Q x2 s1 (.inl (some (.int r))) (pm_hp L fz1 t I J) := b_X10_befall_110 h
set_option maxRecDepth 100000 in
theorem b_X10_befall_51 {d L : Nat} {fz t : Bool} {Q : pm_R → pm_H → Prop} {x3 : Int32} {r : Int32} {I : Nat → Nat → Int32} {J : Nat → Nat → Int64}
    (h : (vp_in x3 10 ∧ pm_Ev d 113 [.int r, .int (I (pm_td t) 11)] (pm_hp L fz t I J) (K_X10_befall_74 d fz t Q r x3 (I 28 (x3).toNatClampNeg) (nI 1)))) :
    t_X10_befall_51 d L fz t Q x3 r I J := by
  cases t <;> exact pm_go d [(17, [0]), (29, [0, 2]), (34, [0, 3]), (40, [0, 2, 3]), (51, [0, 3]), (74, [2]), (110, [2])] 400 ⟨(h).1, (h).2⟩
theorem kb_X10_befall_51 {d L : Nat} {fz t : Bool} {Q : pm_R → pm_H → Prop} {x3 : Int32} {r : Int32} {fz1 : Bool} {I : Nat → Nat → Int32} {J : Nat → Nat → Int64}
    (h : (vp_in x3 10 ∧ pm_Ev d 113 [.int r, .int (I (pm_td t) 11)] (pm_hp L fz t I J) (K_X10_befall_74 d fz t Q r x3 (I 28 (x3).toNatClampNeg) (nI 1)))) :
    K_X10_befall_51 d fz t Q x3 (.inl (some (.int r))) (pm_hp L fz1 t I J) := b_X10_befall_51 h
set_option maxRecDepth 100000 in
theorem b_X10_befall_74 {d L : Nat} {fz t : Bool} {Q : pm_R → pm_H → Prop} {x2 : Int32} {s1 : Int32} {s2 : Int32} {s3 : Int32} {r : Int32} {I : Nat → Nat → Int32} {J : Nat → Nat → Int64}
    (h : (vp_in s1 10 ∧ Q (.inl (some (.int x2))) (pm_hp L fz t (pm_u I 28 (s1).toNatClampNeg (s2 ^^^ (s3 <<< (r &&& 31)))) J))) :
    t_X10_befall_74 d L fz t Q x2 s1 s2 s3 r I J := by
  exact pm_go d [(17, [0]), (29, [0, 2]), (34, [0, 3]), (40, [0, 2, 3]), (51, [0, 3]), (74, [2]), (110, [2])] 400 ⟨(h).1, (h).2⟩
theorem kb_X10_befall_74 {d L : Nat} {fz t : Bool} {Q : pm_R → pm_H → Prop} {x2 : Int32} {s1 : Int32} {s2 : Int32} {s3 : Int32} {r : Int32} {fz1 : Bool} {I : Nat → Nat → Int32} {J : Nat → Nat → Int64}
    (h : (vp_in s1 10 ∧ Q (.inl (some (.int x2))) (pm_hp L fz t (pm_u I 28 (s1).toNatClampNeg (s2 ^^^ (s3 <<< (r &&& 31)))) J))) :
    K_X10_befall_74 d fz t Q x2 s1 s2 s3 (.inl (some (.int r))) (pm_hp L fz1 t I J) := b_X10_befall_74 h
def t_X10_wearOfAll_0 (d L : Nat) (fz t : Bool) (Q : pm_R → pm_H → Prop) (a1 : Nat) (I : Nat → Nat → Int32) (J : Nat → Nat → Int64) : Prop := pm_T (pm_Ev d) 115 Q (0, [(0, .ref 0), (1, .ref a1)], [], pm_hp L fz t I J, 0, 0)
def t_X10_wearOfAll_4 (d L : Nat) (fz t : Bool) (Q : pm_R → pm_H → Prop) (a1 : Nat) (x2 : Int32) (x3 : Int32) (I : Nat → Nat → Int32) (J : Nat → Nat → Int64) : Prop := pm_T (pm_Ev d) 115 Q (4, [(0, .ref 0), (1, .ref a1), (2, .int x2), (3, .int x3)], [], pm_hp L fz t I J, 0, 0)
set_option maxRecDepth 100000 in
theorem b_X10_wearOfAll_0 {d L : Nat} {fz t : Bool} {Q : pm_R → pm_H → Prop} {a1 : Nat} {I : Nat → Nat → Int32} {J : Nat → Nat → Int64} (ha1 : a1 = 23 ∨ a1 = 27 ∨ a1 = 31)
    (h : t_X10_wearOfAll_4 d L fz t Q a1 (nI 0) (nI 0) I J) :
    t_X10_wearOfAll_0 d L fz t Q a1 I J := by
  rcases ha1 with rfl | rfl | rfl <;> exact pm_go d [(4, [0, 1, 2, 3])] 400 h
theorem e_X10_wearOfAll {d L : Nat} {fz t : Bool} {Q : pm_R → pm_H → Prop} {a1 : Nat} {I : Nat → Nat → Int32} {J : Nat → Nat → Int64} (ha1 : a1 = 23 ∨ a1 = 27 ∨ a1 = 31)
    (h : t_X10_wearOfAll_4 d L fz t Q a1 (nI 0) (nI 0) I J) :
    pm_Ev (d + 1) 115 [.ref 0, .ref a1] (pm_hp L fz t I J) Q := pm_Ev_in rfl (b_X10_wearOfAll_0 ha1 h)
set_option maxRecDepth 100000 in
theorem b_X10_wearOfAll_4 {d L : Nat} {fz t : Bool} {Q : pm_R → pm_H → Prop} {a1 : Nat} {x2 : Int32} {x3 : Int32} {I : Nat → Nat → Int32} {J : Nat → Nat → Int64} (ha1 : a1 = 23 ∨ a1 = 27 ∨ a1 = 31)
    (h : (((I (pm_td t) 13) ≤ x3 → Q (.inl (some (.int x2))) (pm_hp L fz t I J)) ∧ (¬ (I (pm_td t) 13) ≤ x3 → (vp_in x3 10 ∧ t_X10_wearOfAll_4 d L fz t Q a1 (x2 + (I (a1 + 2) (x3).toNatClampNeg)) (x3 + (nI 1)) I J)))) :
    t_X10_wearOfAll_4 d L fz t Q a1 x2 x3 I J := by
  rcases ha1 with rfl | rfl | rfl <;> cases t <;> exact pm_go d [(4, [0, 1, 2, 3])] 400 ⟨fun q0 => ((h).1 q0), fun q0 => ⟨(((h).2 q0)).1, (((h).2 q0)).2⟩⟩
def t_X10_threadsUp_0 (d L : Nat) (fz t : Bool) (Q : pm_R → pm_H → Prop) (a1 : Nat) (I : Nat → Nat → Int32) (J : Nat → Nat → Int64) : Prop := pm_T (pm_Ev d) 116 Q (0, [(0, .ref 0), (1, .ref a1)], [], pm_hp L fz t I J, 0, 0)
def t_X10_threadsUp_13 (d L : Nat) (fz t : Bool) (Q : pm_R → pm_H → Prop) (I : Nat → Nat → Int32) (J : Nat → Nat → Int64) : Prop := pm_T (pm_Ev d) 116 Q (13, [(0, .ref 0)], [], pm_hp L fz t I J, 0, 0)
def K_X10_threadsUp_13 (d : Nat) (fz t : Bool) (Q : pm_R → pm_H → Prop) : pm_R → pm_H → Prop := pm_K d 116 Q 13 [(0, .ref 0)] [] 118 0 fz 0 0
def t_X10_threadsUp_17 (d L : Nat) (fz t : Bool) (Q : pm_R → pm_H → Prop) (x2 : Int32) (x3 : Int32) (I : Nat → Nat → Int32) (J : Nat → Nat → Int64) : Prop := pm_T (pm_Ev d) 116 Q (17, [(0, .ref 0), (2, .int x2), (3, .int x3)], [], pm_hp L fz t I J, 0, 0)
def t_X10_threadsUp_41 (d L : Nat) (fz t : Bool) (Q : pm_R → pm_H → Prop) (x3 : Int32) (s0 : Int32) (r : Int32) (I : Nat → Nat → Int32) (J : Nat → Nat → Int64) : Prop := pm_T (pm_Ev d) 116 Q (41, [(0, .ref 0), (3, .int x3)], [.int r, .int s0], pm_hp L fz t I J, 0, 0)
def K_X10_threadsUp_41 (d : Nat) (fz t : Bool) (Q : pm_R → pm_H → Prop) (x3 : Int32) (s0 : Int32) : pm_R → pm_H → Prop := pm_K d 116 Q 41 [(0, .ref 0), (3, .int x3)] [.int s0] 118 0 fz 0 0
set_option maxRecDepth 100000 in
theorem b_X10_threadsUp_0 {d L : Nat} {fz t : Bool} {Q : pm_R → pm_H → Prop} {a1 : Nat} {I : Nat → Nat → Int32} {J : Nat → Nat → Int64} (ha1 : a1 = 23 ∨ a1 = 27 ∨ a1 = 31)
    (h : pm_Ev d 12 [.ref 3, .ref (pm_td t), .ref a1, .int (nI 0)] (pm_hp L fz t I J) (K_X10_threadsUp_13 d fz t Q)) :
    t_X10_threadsUp_0 d L fz t Q a1 I J := by
  rcases ha1 with rfl | rfl | rfl <;> cases t <;> exact pm_go d [(13, [0]), (17, [0, 2, 3]), (41, [0, 3])] 400 h
theorem e_X10_threadsUp {d L : Nat} {fz t : Bool} {Q : pm_R → pm_H → Prop} {a1 : Nat} {I : Nat → Nat → Int32} {J : Nat → Nat → Int64} (ha1 : a1 = 23 ∨ a1 = 27 ∨ a1 = 31)
    (h : pm_Ev d 12 [.ref 3, .ref (pm_td t), .ref a1, .int (nI 0)] (pm_hp L fz t I J) (K_X10_threadsUp_13 d fz t Q)) :
    pm_Ev (d + 1) 116 [.ref 0, .ref a1] (pm_hp L fz t I J) Q := pm_Ev_in rfl (b_X10_threadsUp_0 ha1 h)
set_option maxRecDepth 100000 in
theorem b_X10_threadsUp_13 {d L : Nat} {fz t : Bool} {Q : pm_R → pm_H → Prop} {I : Nat → Nat → Int32} {J : Nat → Nat → Int64}
    (h : t_X10_threadsUp_17 d L fz t Q (nI 0) (nI 0) I J) :
    t_X10_threadsUp_13 d L fz t Q I J := by
  exact pm_go d [(13, [0]), (17, [0, 2, 3]), (41, [0, 3])] 400 h
theorem kb_X10_threadsUp_13 {d L : Nat} {fz t : Bool} {Q : pm_R → pm_H → Prop} {fz1 : Bool} {I : Nat → Nat → Int32} {J : Nat → Nat → Int64}
    (h : t_X10_threadsUp_17 d L fz t Q (nI 0) (nI 0) I J) :
    K_X10_threadsUp_13 d fz t Q (.inl none) (pm_hp L fz1 t I J) := b_X10_threadsUp_13 h
set_option maxRecDepth 100000 in
theorem b_X10_threadsUp_17 {d L : Nat} {fz t : Bool} {Q : pm_R → pm_H → Prop} {x2 : Int32} {x3 : Int32} {I : Nat → Nat → Int32} {J : Nat → Nat → Int64}
    (h : (((I 3 1) ≤ x3 → Q (.inl (some (.int x2))) (pm_hp L fz t I J)) ∧ (¬ (I 3 1) ≤ x3 → (vp_in x3 12 ∧ pm_Ev d 236 [.int (I 4 (x3).toNatClampNeg)] (pm_hp L fz t I J) (K_X10_threadsUp_41 d fz t Q x3 x2))))) :
    t_X10_threadsUp_17 d L fz t Q x2 x3 I J := by
  exact pm_go d [(13, [0]), (17, [0, 2, 3]), (41, [0, 3])] 400 ⟨fun q0 => ((h).1 q0), fun q0 => ⟨(((h).2 q0)).1, (((h).2 q0)).2⟩⟩
set_option maxRecDepth 100000 in
theorem b_X10_threadsUp_41 {d L : Nat} {fz t : Bool} {Q : pm_R → pm_H → Prop} {x3 : Int32} {s0 : Int32} {r : Int32} {I : Nat → Nat → Int32} {J : Nat → Nat → Int64}
    (h : t_X10_threadsUp_17 d L fz t Q (s0 + r) (x3 + (nI 1)) I J) :
    t_X10_threadsUp_41 d L fz t Q x3 s0 r I J := by
  exact pm_go d [(13, [0]), (17, [0, 2, 3]), (41, [0, 3])] 400 h
theorem kb_X10_threadsUp_41 {d L : Nat} {fz t : Bool} {Q : pm_R → pm_H → Prop} {x3 : Int32} {s0 : Int32} {r : Int32} {fz1 : Bool} {I : Nat → Nat → Int32} {J : Nat → Nat → Int64}
    (h : t_X10_threadsUp_17 d L fz t Q (s0 + r) (x3 + (nI 1)) I J) :
    K_X10_threadsUp_41 d fz t Q x3 s0 (.inl (some (.int r))) (pm_hp L fz1 t I J) := b_X10_threadsUp_41 h
def t_X10_chapel_0 (d L : Nat) (fz t : Bool) (Q : pm_R → pm_H → Prop) (x1 : Int32) (I : Nat → Nat → Int32) (J : Nat → Nat → Int64) : Prop := pm_T (pm_Ev d) 249 Q (0, [(0, .ref 0), (1, .int x1)], [], pm_hp L fz t I J, 0, 0)
def t_X10_chapel_37 (d L : Nat) (fz t : Bool) (Q : pm_R → pm_H → Prop) (r : Int32) (I : Nat → Nat → Int32) (J : Nat → Nat → Int64) : Prop := pm_T (pm_Ev d) 249 Q (37, [(0, .ref 0)], [.int r], pm_hp L fz t I J, 0, 0)
def K_X10_chapel_37 (d : Nat) (fz t : Bool) (Q : pm_R → pm_H → Prop) : pm_R → pm_H → Prop := pm_K d 249 Q 37 [(0, .ref 0)] [] 118 0 fz 0 0
def t_X10_chapel_103 (d L : Nat) (fz t : Bool) (Q : pm_R → pm_H → Prop) (I : Nat → Nat → Int32) (J : Nat → Nat → Int64) : Prop := pm_T (pm_Ev d) 249 Q (103, [(0, .ref 0)], [], pm_hp L fz t I J, 0, 0)
def K_X10_chapel_103 (d : Nat) (fz t : Bool) (Q : pm_R → pm_H → Prop) : pm_R → pm_H → Prop := pm_K d 249 Q 103 [(0, .ref 0)] [] 118 0 fz 0 0
def t_X10_chapel_114 (d L : Nat) (fz t : Bool) (Q : pm_R → pm_H → Prop) (I : Nat → Nat → Int32) (J : Nat → Nat → Int64) : Prop := pm_T (pm_Ev d) 249 Q (114, [(0, .ref 0)], [], pm_hp L fz t I J, 0, 0)
def K_X10_chapel_114 (d : Nat) (fz t : Bool) (Q : pm_R → pm_H → Prop) : pm_R → pm_H → Prop := pm_K d 249 Q 114 [(0, .ref 0)] [] 118 0 fz 0 0
set_option maxRecDepth 100000 in
theorem b_X10_chapel_0 {d L : Nat} {fz t : Bool} {Q : pm_R → pm_H → Prop} {x1 : Int32} {I : Nat → Nat → Int32} {J : Nat → Nat → Int64}
    (h : ((x1 < (nI 0) → Q (.inr 2) (pm_hp L true t I J)) ∧ (¬ x1 < (nI 0) → ((x1 ≤ (I 1 1) → pm_Ev d 26 [.ref 1, .int x1, .ref (pm_td (!t))] (pm_hp L fz t I J) (K_X10_chapel_37 d fz t Q)) ∧ (¬ x1 ≤ (I 1 1) → Q (.inr 2) (pm_hp L true t I J)))))) :
    t_X10_chapel_0 d L fz t Q x1 I J := by
  cases t <;> exact pm_go d [(37, [0]), (103, [0]), (114, [0])] 400 ⟨fun q0 => ((h).1 q0), fun q0 => ⟨fun q1 => ((((h).2 q0)).1 q1), fun q1 => ((((h).2 q0)).2 q1)⟩⟩
theorem e_X10_chapel {d L : Nat} {fz t : Bool} {Q : pm_R → pm_H → Prop} {x1 : Int32} {I : Nat → Nat → Int32} {J : Nat → Nat → Int64}
    (h : ((x1 < (nI 0) → Q (.inr 2) (pm_hp L true t I J)) ∧ (¬ x1 < (nI 0) → ((x1 ≤ (I 1 1) → pm_Ev d 26 [.ref 1, .int x1, .ref (pm_td (!t))] (pm_hp L fz t I J) (K_X10_chapel_37 d fz t Q)) ∧ (¬ x1 ≤ (I 1 1) → Q (.inr 2) (pm_hp L true t I J)))))) :
    pm_Ev (d + 1) 249 [.ref 0, .int x1] (pm_hp L fz t I J) Q := pm_Ev_in rfl (b_X10_chapel_0 h)
set_option maxRecDepth 100000 in
theorem b_X10_chapel_37 {d L : Nat} {fz t : Bool} {Q : pm_R → pm_H → Prop} {r : Int32} {I : Nat → Nat → Int32} {J : Nat → Nat → Int64}
    (h : ((r = (nI 0) → pm_Ev d 11 [.ref 3] (pm_hp L fz (!t) (pm_u (pm_u I 1 1 (nI 0)) 0 18 (-1 : Int32)) J) (K_X10_chapel_103 d fz (!t) Q)) ∧ (¬ r = (nI 0) → Q (.inl (some (.int r))) (pm_hp L fz t (pm_u (pm_u (pm_u I 1 1 (nI 0)) 0 18 (I 1 9)) 20 0 ((I 20 0) + (nI 1))) J)))) :
    t_X10_chapel_37 d L fz t Q r I J := by
  exact pm_go d [(37, [0]), (103, [0]), (114, [0])] 400 ⟨fun q0 => (pm_swap_cast (P := fun R => pm_Ev d 11 [.ref 3] (fz, 118, pm_sh0 L, (pm_u (pm_u I 1 1 (nI 0)) 0 18 (-1 : Int32)), J, R) (K_X10_chapel_103 d fz (!t) Q)) ((h).1 q0)), fun q0 => ⟨(vp_in_nI (by decide : 0 < 3) (by decide) : vp_in (nI 0) 3), ⟨(vp_in_nI (by decide : 0 < 3) (by decide) : vp_in (nI 0) 3), ((h).2 q0)⟩⟩⟩
theorem kb_X10_chapel_37 {d L : Nat} {fz t : Bool} {Q : pm_R → pm_H → Prop} {r : Int32} {fz1 : Bool} {I : Nat → Nat → Int32} {J : Nat → Nat → Int64}
    (h : ((r = (nI 0) → pm_Ev d 11 [.ref 3] (pm_hp L fz (!t) (pm_u (pm_u I 1 1 (nI 0)) 0 18 (-1 : Int32)) J) (K_X10_chapel_103 d fz (!t) Q)) ∧ (¬ r = (nI 0) → Q (.inl (some (.int r))) (pm_hp L fz t (pm_u (pm_u (pm_u I 1 1 (nI 0)) 0 18 (I 1 9)) 20 0 ((I 20 0) + (nI 1))) J)))) :
    K_X10_chapel_37 d fz t Q (.inl (some (.int r))) (pm_hp L fz1 t I J) := b_X10_chapel_37 h
set_option maxRecDepth 100000 in
theorem b_X10_chapel_103 {d L : Nat} {fz t : Bool} {Q : pm_R → pm_H → Prop} {I : Nat → Nat → Int32} {J : Nat → Nat → Int64}
    (h : pm_Ev d 77 [.ref 23, .ref (pm_td t)] (pm_hp L fz t I J) (K_X10_chapel_114 d fz t Q)) :
    t_X10_chapel_103 d L fz t Q I J := by
  cases t <;> exact pm_go d [(37, [0]), (103, [0]), (114, [0])] 400 h
theorem kb_X10_chapel_103 {d L : Nat} {fz t : Bool} {Q : pm_R → pm_H → Prop} {fz1 : Bool} {I : Nat → Nat → Int32} {J : Nat → Nat → Int64}
    (h : pm_Ev d 77 [.ref 23, .ref (pm_td t)] (pm_hp L fz t I J) (K_X10_chapel_114 d fz t Q)) :
    K_X10_chapel_103 d fz t Q (.inl none) (pm_hp L fz1 t I J) := b_X10_chapel_103 h
set_option maxRecDepth 100000 in
theorem b_X10_chapel_114 {d L : Nat} {fz t : Bool} {Q : pm_R → pm_H → Prop} {I : Nat → Nat → Int32} {J : Nat → Nat → Int64}
    (h : Q (.inl (some (.int (nI 0)))) (pm_hp L fz t (pm_u (pm_u (pm_u I 35 4 (nI 0)) 45 4 (nI 0)) 0 17 (nI 0)) J)) :
    t_X10_chapel_114 d L fz t Q I J := by
  exact pm_go d [(37, [0]), (103, [0]), (114, [0])] 400 ⟨Or.inl rfl, h⟩
theorem kb_X10_chapel_114 {d L : Nat} {fz t : Bool} {Q : pm_R → pm_H → Prop} {fz1 : Bool} {I : Nat → Nat → Int32} {J : Nat → Nat → Int64}
    (h : Q (.inl (some (.int (nI 0)))) (pm_hp L fz t (pm_u (pm_u (pm_u I 35 4 (nI 0)) 45 4 (nI 0)) 0 17 (nI 0)) J)) :
    K_X10_chapel_114 d fz t Q (.inl none) (pm_hp L fz1 t I J) := b_X10_chapel_114 h
def t_X10_count_0 (d L : Nat) (fz t : Bool) (Q : pm_R → pm_H → Prop) (x1 : Int32) (I : Nat → Nat → Int32) (J : Nat → Nat → Int64) : Prop := pm_T (pm_Ev d) 250 Q (0, [(0, .ref 0), (1, .int x1)], [], pm_hp L fz t I J, 0, 0)
def t_X10_count_143 (d L : Nat) (fz t : Bool) (Q : pm_R → pm_H → Prop) (r : Int32) (I : Nat → Nat → Int32) (J : Nat → Nat → Int64) : Prop := pm_T (pm_Ev d) 250 Q (143, [], [.int r], pm_hp L fz t I J, 0, 0)
def K_X10_count_143 (d : Nat) (fz t : Bool) (Q : pm_R → pm_H → Prop) : pm_R → pm_H → Prop := pm_K d 250 Q 143 [] [] 118 0 fz 0 0
def t_X10_count_148 (d L : Nat) (fz t : Bool) (Q : pm_R → pm_H → Prop) (r : Int32) (I : Nat → Nat → Int32) (J : Nat → Nat → Int64) : Prop := pm_T (pm_Ev d) 250 Q (148, [], [.int r], pm_hp L fz t I J, 0, 0)
def K_X10_count_148 (d : Nat) (fz t : Bool) (Q : pm_R → pm_H → Prop) : pm_R → pm_H → Prop := pm_K d 250 Q 148 [] [] 118 0 fz 0 0
def t_X10_count_153 (d L : Nat) (fz t : Bool) (Q : pm_R → pm_H → Prop) (r : Int32) (I : Nat → Nat → Int32) (J : Nat → Nat → Int64) : Prop := pm_T (pm_Ev d) 250 Q (153, [], [.int r], pm_hp L fz t I J, 0, 0)
def K_X10_count_153 (d : Nat) (fz t : Bool) (Q : pm_R → pm_H → Prop) : pm_R → pm_H → Prop := pm_K d 250 Q 153 [] [] 118 0 fz 0 0
def t_X10_count_158 (d L : Nat) (fz t : Bool) (Q : pm_R → pm_H → Prop) (r : Int32) (I : Nat → Nat → Int32) (J : Nat → Nat → Int64) : Prop := pm_T (pm_Ev d) 250 Q (158, [], [.int r], pm_hp L fz t I J, 0, 0)
def K_X10_count_158 (d : Nat) (fz t : Bool) (Q : pm_R → pm_H → Prop) : pm_R → pm_H → Prop := pm_K d 250 Q 158 [] [] 118 0 fz 0 0
set_option maxRecDepth 100000 in
theorem b_X10_count_0 {d L : Nat} {fz t : Bool} {Q : pm_R → pm_H → Prop} {x1 : Int32} {I : Nat → Nat → Int32} {J : Nat → Nat → Int64}
    (h : (((x1).toInt < 0 ∨ 15 < (x1).toInt → Q (.inr 1) (pm_hp L true t I J)) ∧ ((x1).toInt = 0 → Q (.inl (some (.int (I (pm_td t) 11)))) (pm_hp L fz t I J)) ∧ ((x1).toInt = 1 → Q (.inl (some (.int (I (pm_td t) 13)))) (pm_hp L fz t I J)) ∧ ((x1).toInt = 2 → Q (.inl (some (.int (I 23 3)))) (pm_hp L fz t I J)) ∧ ((x1).toInt = 3 → Q (.inl (some (.int (I (pm_td t) 15)))) (pm_hp L fz t I J)) ∧ ((x1).toInt = 4 → Q (.inl (some (.int (I 23 4)))) (pm_hp L fz t I J)) ∧ ((x1).toInt = 5 → Q (.inl (some (.int (I 23 5)))) (pm_hp L fz t I J)) ∧ ((x1).toInt = 6 → pm_Ev d 63 [.ref 12, .ref (pm_td t), .ref 23] (pm_hp L fz t I J) (K_X10_count_143 d fz t Q)) ∧ ((x1).toInt = 7 → pm_Ev d 98 [.ref 0] (pm_hp L fz t I J) (K_X10_count_148 d fz t Q)) ∧ ((x1).toInt = 8 → pm_Ev d 99 [.ref 0] (pm_hp L fz t I J) (K_X10_count_153 d fz t Q)) ∧ ((x1).toInt = 9 → pm_Ev d 100 [.ref 0] (pm_hp L fz t I J) (K_X10_count_158 d fz t Q)) ∧ ((x1).toInt = 10 → Q (.inl (some (.int (I 35 4)))) (pm_hp L fz t I J)) ∧ ((x1).toInt = 11 → Q (.inl (some (.int (I 45 4)))) (pm_hp L fz t I J)) ∧ ((x1).toInt = 12 → Q (.inl (some (.int (I 1 1)))) (pm_hp L fz t I J)) ∧ ((x1).toInt = 13 → Q (.inl (some (.int (I 20 0)))) (pm_hp L fz t I J)) ∧ ((x1).toInt = 14 → Q (.inl (some (.int (I 20 1)))) (pm_hp L fz t I J)) ∧ ((x1).toInt = 15 → Q (.inl (some (.int (I 20 2)))) (pm_hp L fz t I J)))) :
    t_X10_count_0 d L fz t Q x1 I J := by
  cases t <;> exact pm_go d [(143, []), (148, []), (153, []), (158, [])] 400 ⟨fun q0 => ((h).1 q0), fun q0 => (((h).2).1 q0), fun q0 => ((((h).2).2).1 q0), fun q0 => (((((h).2).2).2).1 q0), fun q0 => ((((((h).2).2).2).2).1 q0), fun q0 => (((((((h).2).2).2).2).2).1 q0), fun q0 => ((((((((h).2).2).2).2).2).2).1 q0), fun q0 => (((((((((h).2).2).2).2).2).2).2).1 q0), fun q0 => ((((((((((h).2).2).2).2).2).2).2).2).1 q0), fun q0 => (((((((((((h).2).2).2).2).2).2).2).2).2).1 q0), fun q0 => ((((((((((((h).2).2).2).2).2).2).2).2).2).2).1 q0), fun q0 => (((((((((((((h).2).2).2).2).2).2).2).2).2).2).2).1 q0), fun q0 => ((((((((((((((h).2).2).2).2).2).2).2).2).2).2).2).2).1 q0), fun q0 => (((((((((((((((h).2).2).2).2).2).2).2).2).2).2).2).2).2).1 q0), fun q0 => ⟨(vp_in_nI (by decide : 0 < 3) (by decide) : vp_in (nI 0) 3), ((((((((((((((((h).2).2).2).2).2).2).2).2).2).2).2).2).2).2).1 q0)⟩, fun q0 => ⟨(vp_in_nI (by decide : 1 < 3) (by decide) : vp_in (nI 1) 3), (((((((((((((((((h).2).2).2).2).2).2).2).2).2).2).2).2).2).2).2).1 q0)⟩, fun q0 => ⟨(vp_in_nI (by decide : 2 < 3) (by decide) : vp_in (nI 2) 3), (((((((((((((((((h).2).2).2).2).2).2).2).2).2).2).2).2).2).2).2).2 q0)⟩, trivial⟩
theorem e_X10_count {d L : Nat} {fz t : Bool} {Q : pm_R → pm_H → Prop} {x1 : Int32} {I : Nat → Nat → Int32} {J : Nat → Nat → Int64}
    (h : (((x1).toInt < 0 ∨ 15 < (x1).toInt → Q (.inr 1) (pm_hp L true t I J)) ∧ ((x1).toInt = 0 → Q (.inl (some (.int (I (pm_td t) 11)))) (pm_hp L fz t I J)) ∧ ((x1).toInt = 1 → Q (.inl (some (.int (I (pm_td t) 13)))) (pm_hp L fz t I J)) ∧ ((x1).toInt = 2 → Q (.inl (some (.int (I 23 3)))) (pm_hp L fz t I J)) ∧ ((x1).toInt = 3 → Q (.inl (some (.int (I (pm_td t) 15)))) (pm_hp L fz t I J)) ∧ ((x1).toInt = 4 → Q (.inl (some (.int (I 23 4)))) (pm_hp L fz t I J)) ∧ ((x1).toInt = 5 → Q (.inl (some (.int (I 23 5)))) (pm_hp L fz t I J)) ∧ ((x1).toInt = 6 → pm_Ev d 63 [.ref 12, .ref (pm_td t), .ref 23] (pm_hp L fz t I J) (K_X10_count_143 d fz t Q)) ∧ ((x1).toInt = 7 → pm_Ev d 98 [.ref 0] (pm_hp L fz t I J) (K_X10_count_148 d fz t Q)) ∧ ((x1).toInt = 8 → pm_Ev d 99 [.ref 0] (pm_hp L fz t I J) (K_X10_count_153 d fz t Q)) ∧ ((x1).toInt = 9 → pm_Ev d 100 [.ref 0] (pm_hp L fz t I J) (K_X10_count_158 d fz t Q)) ∧ ((x1).toInt = 10 → Q (.inl (some (.int (I 35 4)))) (pm_hp L fz t I J)) ∧ ((x1).toInt = 11 → Q (.inl (some (.int (I 45 4)))) (pm_hp L fz t I J)) ∧ ((x1).toInt = 12 → Q (.inl (some (.int (I 1 1)))) (pm_hp L fz t I J)) ∧ ((x1).toInt = 13 → Q (.inl (some (.int (I 20 0)))) (pm_hp L fz t I J)) ∧ ((x1).toInt = 14 → Q (.inl (some (.int (I 20 1)))) (pm_hp L fz t I J)) ∧ ((x1).toInt = 15 → Q (.inl (some (.int (I 20 2)))) (pm_hp L fz t I J)))) :
    pm_Ev (d + 1) 250 [.ref 0, .int x1] (pm_hp L fz t I J) Q := pm_Ev_in rfl (b_X10_count_0 h)
set_option maxRecDepth 100000 in
theorem b_X10_count_143 {d L : Nat} {fz t : Bool} {Q : pm_R → pm_H → Prop} {r : Int32} {I : Nat → Nat → Int32} {J : Nat → Nat → Int64}
    (h : Q (.inl (some (.int r))) (pm_hp L fz t I J)) :
    t_X10_count_143 d L fz t Q r I J := by
  exact pm_go d [(143, []), (148, []), (153, []), (158, [])] 400 h
theorem kb_X10_count_143 {d L : Nat} {fz t : Bool} {Q : pm_R → pm_H → Prop} {r : Int32} {fz1 : Bool} {I : Nat → Nat → Int32} {J : Nat → Nat → Int64}
    (h : Q (.inl (some (.int r))) (pm_hp L fz t I J)) :
    K_X10_count_143 d fz t Q (.inl (some (.int r))) (pm_hp L fz1 t I J) := b_X10_count_143 h
set_option maxRecDepth 100000 in
theorem b_X10_count_148 {d L : Nat} {fz t : Bool} {Q : pm_R → pm_H → Prop} {r : Int32} {I : Nat → Nat → Int32} {J : Nat → Nat → Int64}
    (h : Q (.inl (some (.int r))) (pm_hp L fz t I J)) :
    t_X10_count_148 d L fz t Q r I J := by
  exact pm_go d [(143, []), (148, []), (153, []), (158, [])] 400 h
theorem kb_X10_count_148 {d L : Nat} {fz t : Bool} {Q : pm_R → pm_H → Prop} {r : Int32} {fz1 : Bool} {I : Nat → Nat → Int32} {J : Nat → Nat → Int64}
    (h : Q (.inl (some (.int r))) (pm_hp L fz t I J)) :
    K_X10_count_148 d fz t Q (.inl (some (.int r))) (pm_hp L fz1 t I J) := b_X10_count_148 h
set_option maxRecDepth 100000 in
theorem b_X10_count_153 {d L : Nat} {fz t : Bool} {Q : pm_R → pm_H → Prop} {r : Int32} {I : Nat → Nat → Int32} {J : Nat → Nat → Int64}
    (h : Q (.inl (some (.int r))) (pm_hp L fz t I J)) :
    t_X10_count_153 d L fz t Q r I J := by
  exact pm_go d [(143, []), (148, []), (153, []), (158, [])] 400 h
theorem kb_X10_count_153 {d L : Nat} {fz t : Bool} {Q : pm_R → pm_H → Prop} {r : Int32} {fz1 : Bool} {I : Nat → Nat → Int32} {J : Nat → Nat → Int64}
    (h : Q (.inl (some (.int r))) (pm_hp L fz t I J)) :
    K_X10_count_153 d fz t Q (.inl (some (.int r))) (pm_hp L fz1 t I J) := b_X10_count_153 h
set_option maxRecDepth 100000 in
theorem b_X10_count_158 {d L : Nat} {fz t : Bool} {Q : pm_R → pm_H → Prop} {r : Int32} {I : Nat → Nat → Int32} {J : Nat → Nat → Int64}
    (h : Q (.inl (some (.int r))) (pm_hp L fz t I J)) :
    t_X10_count_158 d L fz t Q r I J := by
  exact pm_go d [(143, []), (148, []), (153, []), (158, [])] 400 h
theorem kb_X10_count_158 {d L : Nat} {fz t : Bool} {Q : pm_R → pm_H → Prop} {r : Int32} {fz1 : Bool} {I : Nat → Nat → Int32} {J : Nat → Nat → Int64}
    (h : Q (.inl (some (.int r))) (pm_hp L fz t I J)) :
    K_X10_count_158 d fz t Q (.inl (some (.int r))) (pm_hp L fz1 t I J) := b_X10_count_158 h
def t_X10_card_0 (d L : Nat) (fz t : Bool) (Q : pm_R → pm_H → Prop) (x1 : Int32) (x2 : Int32) (I : Nat → Nat → Int32) (J : Nat → Nat → Int64) : Prop := pm_T (pm_Ev d) 251 Q (0, [(0, .ref 0), (1, .int x1), (2, .int x2)], [], pm_hp L fz t I J, 0, 0)
def t_X10_card_5 (d L : Nat) (fz t : Bool) (Q : pm_R → pm_H → Prop) (x1 : Int32) (x2 : Int32) (I : Nat → Nat → Int32) (J : Nat → Nat → Int64) : Prop := pm_T (pm_Ev d) 251 Q (5, [(0, .ref 0), (1, .int x1), (2, .int x2)], [], pm_hp L fz t I J, 1, 6)
def K_X10_card_5 (d : Nat) (fz t : Bool) (Q : pm_R → pm_H → Prop) (x1 : Int32) (x2 : Int32) : pm_R → pm_H → Prop := pm_K d 251 Q 5 [(0, .ref 0), (1, .int x1), (2, .int x2)] [] 118 1 fz 1 6
def t_X10_card_82 (d L : Nat) (fz t : Bool) (Q : pm_R → pm_H → Prop) (r : Int32) (I : Nat → Nat → Int32) (J : Nat → Nat → Int64) : Prop := pm_T (pm_Ev d) 251 Q (82, [], [.int r], pm_hp L fz t I J, 1, 6)
def K_X10_card_82 (d : Nat) (fz t : Bool) (Q : pm_R → pm_H → Prop) : pm_R → pm_H → Prop := pm_K d 251 Q 82 [] [] 118 0 fz 1 6
def t_X10_card_91 (d L : Nat) (fz t : Bool) (Q : pm_R → pm_H → Prop) (r : Int32) (I : Nat → Nat → Int32) (J : Nat → Nat → Int64) : Prop := pm_T (pm_Ev d) 251 Q (91, [], [.int r], pm_hp L fz t I J, 1, 6)
def K_X10_card_91 (d : Nat) (fz t : Bool) (Q : pm_R → pm_H → Prop) : pm_R → pm_H → Prop := pm_K d 251 Q 91 [] [] 118 0 fz 1 6
set_option maxRecDepth 100000 in
theorem b_X10_card_0 {d L : Nat} {fz t : Bool} {Q : pm_R → pm_H → Prop} {x1 : Int32} {x2 : Int32} {I : Nat → Nat → Int32} {J : Nat → Nat → Int64}
    (h : pm_Ev d 281 [.ref 0, .int x1] (pm_hp L fz t I J) (K_X10_card_5 d fz t Q x1 x2)) :
    t_X10_card_0 d L fz t Q x1 x2 I J := by
  exact pm_go d [(5, [0, 1, 2]), (82, []), (91, [])] 400 h
theorem e_X10_card {d L : Nat} {fz t : Bool} {Q : pm_R → pm_H → Prop} {x1 : Int32} {x2 : Int32} {I : Nat → Nat → Int32} {J : Nat → Nat → Int64}
    (h : pm_Ev d 281 [.ref 0, .int x1] (pm_hp L fz t I J) (K_X10_card_5 d fz t Q x1 x2)) :
    pm_Ev (d + 1) 251 [.ref 0, .int x1, .int x2] (pm_hp L fz t I J) Q := pm_Ev_in rfl (b_X10_card_0 h)
set_option maxRecDepth 100000 in
theorem b_X10_card_5 {d L : Nat} {fz t : Bool} {Q : pm_R → pm_H → Prop} {x1 : Int32} {x2 : Int32} {I : Nat → Nat → Int32} {J : Nat → Nat → Int64}
    (h : (((x2).toInt < 0 ∨ 4 < (x2).toInt → Q (.inr 1) (pm_hp L true t I J)) ∧ ((x2).toInt = 0 → (vp_in x1 10 ∧ Q (.inl (some (.int (I 24 (x1).toNatClampNeg)))) (pm_hp L fz t I J))) ∧ ((x2).toInt = 1 → (vp_in x1 10 ∧ Q (.inl (some (.int (I ((pm_td t) + 2) (x1).toNatClampNeg)))) (pm_hp L fz t I J))) ∧ ((x2).toInt = 2 → (vp_in x1 10 ∧ Q (.inl (some (.int (I 25 (x1).toNatClampNeg)))) (pm_hp L fz t I J))) ∧ ((x2).toInt = 3 → pm_Ev d 72 [.ref (pm_td t), .ref 23, .int x1] (pm_hp L fz t I J) (K_X10_card_82 d fz t Q)) ∧ ((x2).toInt = 4 → pm_Ev d 79 [.ref 23, .int x1] (pm_hp L fz t I J) (K_X10_card_91 d fz t Q)))) :
    t_X10_card_5 d L fz t Q x1 x2 I J := by
  cases t <;> exact pm_go d [(5, [0, 1, 2]), (82, []), (91, [])] 400 ⟨fun q0 => ((h).1 q0), fun q0 => ⟨((((h).2).1 q0)).1, ((((h).2).1 q0)).2⟩, fun q0 => ⟨(((((h).2).2).1 q0)).1, (((((h).2).2).1 q0)).2⟩, fun q0 => ⟨((((((h).2).2).2).1 q0)).1, ((((((h).2).2).2).1 q0)).2⟩, fun q0 => ((((((h).2).2).2).2).1 q0), fun q0 => ((((((h).2).2).2).2).2 q0), trivial⟩
theorem kb_X10_card_5 {d L : Nat} {fz t : Bool} {Q : pm_R → pm_H → Prop} {x1 : Int32} {x2 : Int32} {fz1 : Bool} {I : Nat → Nat → Int32} {J : Nat → Nat → Int64}
    (h : (((x2).toInt < 0 ∨ 4 < (x2).toInt → Q (.inr 1) (pm_hp L true t I J)) ∧ ((x2).toInt = 0 → (vp_in x1 10 ∧ Q (.inl (some (.int (I 24 (x1).toNatClampNeg)))) (pm_hp L true t I J))) ∧ ((x2).toInt = 1 → (vp_in x1 10 ∧ Q (.inl (some (.int (I ((pm_td t) + 2) (x1).toNatClampNeg)))) (pm_hp L true t I J))) ∧ ((x2).toInt = 2 → (vp_in x1 10 ∧ Q (.inl (some (.int (I 25 (x1).toNatClampNeg)))) (pm_hp L true t I J))) ∧ ((x2).toInt = 3 → pm_Ev d 72 [.ref (pm_td t), .ref 23, .int x1] (pm_hp L true t I J) (K_X10_card_82 d true t Q)) ∧ ((x2).toInt = 4 → pm_Ev d 79 [.ref 23, .int x1] (pm_hp L true t I J) (K_X10_card_91 d true t Q)))) :
    K_X10_card_5 d fz t Q x1 x2 (.inl none) (pm_hp L fz1 t I J) := b_X10_card_5 h
set_option maxRecDepth 100000 in
theorem b_X10_card_82 {d L : Nat} {fz t : Bool} {Q : pm_R → pm_H → Prop} {r : Int32} {I : Nat → Nat → Int32} {J : Nat → Nat → Int64}
    (h : Q (.inl (some (.int r))) (pm_hp L fz t I J)) :
    t_X10_card_82 d L fz t Q r I J := by
  exact pm_go d [(5, [0, 1, 2]), (82, []), (91, [])] 400 h
theorem kb_X10_card_82 {d L : Nat} {fz t : Bool} {Q : pm_R → pm_H → Prop} {r : Int32} {fz1 : Bool} {I : Nat → Nat → Int32} {J : Nat → Nat → Int64}
    (h : Q (.inl (some (.int r))) (pm_hp L fz t I J)) :
    K_X10_card_82 d fz t Q (.inl (some (.int r))) (pm_hp L fz1 t I J) := b_X10_card_82 h
set_option maxRecDepth 100000 in
theorem b_X10_card_91 {d L : Nat} {fz t : Bool} {Q : pm_R → pm_H → Prop} {r : Int32} {I : Nat → Nat → Int32} {J : Nat → Nat → Int64}
    (h : Q (.inl (some (.int r))) (pm_hp L fz t I J)) :
    t_X10_card_91 d L fz t Q r I J := by
  exact pm_go d [(5, [0, 1, 2]), (82, []), (91, [])] 400 h
theorem kb_X10_card_91 {d L : Nat} {fz t : Bool} {Q : pm_R → pm_H → Prop} {r : Int32} {fz1 : Bool} {I : Nat → Nat → Int32} {J : Nat → Nat → Int64}
    (h : Q (.inl (some (.int r))) (pm_hp L fz t I J)) :
    K_X10_card_91 d fz t Q (.inl (some (.int r))) (pm_hp L fz1 t I J) := b_X10_card_91 h
def t_X10_lace_0 (d L : Nat) (fz t : Bool) (Q : pm_R → pm_H → Prop) (x1 : Int32) (I : Nat → Nat → Int32) (J : Nat → Nat → Int64) : Prop := pm_T (pm_Ev d) 252 Q (0, [(0, .ref 0), (1, .int x1)], [], pm_hp L fz t I J, 0, 0)
def t_X10_lace_5 (d L : Nat) (fz t : Bool) (Q : pm_R → pm_H → Prop) (x1 : Int32) (I : Nat → Nat → Int32) (J : Nat → Nat → Int64) : Prop := pm_T (pm_Ev d) 252 Q (5, [(0, .ref 0), (1, .int x1)], [], pm_hp L fz t I J, 1, 6)
def K_X10_lace_5 (d : Nat) (fz t : Bool) (Q : pm_R → pm_H → Prop) (x1 : Int32) : pm_R → pm_H → Prop := pm_K d 252 Q 5 [(0, .ref 0), (1, .int x1)] [] 118 1 fz 1 6
set_option maxRecDepth 100000 in
theorem b_X10_lace_0 {d L : Nat} {fz t : Bool} {Q : pm_R → pm_H → Prop} {x1 : Int32} {I : Nat → Nat → Int32} {J : Nat → Nat → Int64}
    (h : pm_Ev d 282 [.ref 0, .int x1] (pm_hp L fz t I J) (K_X10_lace_5 d fz t Q x1)) :
    t_X10_lace_0 d L fz t Q x1 I J := by
  exact pm_go d [(5, [0, 1])] 400 h
theorem e_X10_lace {d L : Nat} {fz t : Bool} {Q : pm_R → pm_H → Prop} {x1 : Int32} {I : Nat → Nat → Int32} {J : Nat → Nat → Int64}
    (h : pm_Ev d 282 [.ref 0, .int x1] (pm_hp L fz t I J) (K_X10_lace_5 d fz t Q x1)) :
    pm_Ev (d + 1) 252 [.ref 0, .int x1] (pm_hp L fz t I J) Q := pm_Ev_in rfl (b_X10_lace_0 h)
set_option maxRecDepth 100000 in
theorem b_X10_lace_5 {d L : Nat} {fz t : Bool} {Q : pm_R → pm_H → Prop} {x1 : Int32} {I : Nat → Nat → Int32} {J : Nat → Nat → Int64}
    (h : (vp_in x1 12 ∧ Q (.inl (some (.int (I 26 (x1).toNatClampNeg)))) (pm_hp L fz t I J))) :
    t_X10_lace_5 d L fz t Q x1 I J := by
  exact pm_go d [(5, [0, 1])] 400 ⟨(h).1, (h).2⟩
theorem kb_X10_lace_5 {d L : Nat} {fz t : Bool} {Q : pm_R → pm_H → Prop} {x1 : Int32} {fz1 : Bool} {I : Nat → Nat → Int32} {J : Nat → Nat → Int64}
    (h : (vp_in x1 12 ∧ Q (.inl (some (.int (I 26 (x1).toNatClampNeg)))) (pm_hp L true t I J))) :
    K_X10_lace_5 d fz t Q x1 (.inl none) (pm_hp L fz1 t I J) := b_X10_lace_5 h
def t_X10_figure_0 (d L : Nat) (fz t : Bool) (Q : pm_R → pm_H → Prop) (x1 : Int32) (x2 : Int32) (I : Nat → Nat → Int32) (J : Nat → Nat → Int64) : Prop := pm_T (pm_Ev d) 253 Q (0, [(0, .ref 0), (1, .int x1), (2, .int x2)], [], pm_hp L fz t I J, 0, 0)
def t_X10_figure_5 (d L : Nat) (fz t : Bool) (Q : pm_R → pm_H → Prop) (x1 : Int32) (x2 : Int32) (I : Nat → Nat → Int32) (J : Nat → Nat → Int64) : Prop := pm_T (pm_Ev d) 253 Q (5, [(0, .ref 0), (1, .int x1), (2, .int x2)], [], pm_hp L fz t I J, 1, 6)
def K_X10_figure_5 (d : Nat) (fz t : Bool) (Q : pm_R → pm_H → Prop) (x1 : Int32) (x2 : Int32) : pm_R → pm_H → Prop := pm_K d 253 Q 5 [(0, .ref 0), (1, .int x1), (2, .int x2)] [] 118 1 fz 1 6
set_option maxRecDepth 100000 in
theorem b_X10_figure_0 {d L : Nat} {fz t : Bool} {Q : pm_R → pm_H → Prop} {x1 : Int32} {x2 : Int32} {I : Nat → Nat → Int32} {J : Nat → Nat → Int64}
    (h : pm_Ev d 283 [.ref 0, .int x1] (pm_hp L fz t I J) (K_X10_figure_5 d fz t Q x1 x2)) :
    t_X10_figure_0 d L fz t Q x1 x2 I J := by
  exact pm_go d [(5, [0, 1, 2])] 400 h
theorem e_X10_figure {d L : Nat} {fz t : Bool} {Q : pm_R → pm_H → Prop} {x1 : Int32} {x2 : Int32} {I : Nat → Nat → Int32} {J : Nat → Nat → Int64}
    (h : pm_Ev d 283 [.ref 0, .int x1] (pm_hp L fz t I J) (K_X10_figure_5 d fz t Q x1 x2)) :
    pm_Ev (d + 1) 253 [.ref 0, .int x1, .int x2] (pm_hp L fz t I J) Q := pm_Ev_in rfl (b_X10_figure_0 h)
set_option maxRecDepth 100000 in
theorem b_X10_figure_5 {d L : Nat} {fz t : Bool} {Q : pm_R → pm_H → Prop} {x1 : Int32} {x2 : Int32} {I : Nat → Nat → Int32} {J : Nat → Nat → Int64}
    (h : (((x2).toInt < 0 ∨ 5 < (x2).toInt → Q (.inr 1) (pm_hp L true t I J)) ∧ ((x2).toInt = 0 → (vp_in x1 5 ∧ Q (.inl (some (.int (I ((pm_td t) + 5) (x1).toNatClampNeg)))) (pm_hp L fz t I J))) ∧ ((x2).toInt = 1 → (vp_in x1 5 ∧ Q (.inl (some (.int (I ((pm_td t) + 6) (x1).toNatClampNeg)))) (pm_hp L fz t I J))) ∧ ((x2).toInt = 2 → (vp_in x1 5 ∧ Q (.inl (some (.int (I ((pm_td t) + 7) (x1).toNatClampNeg)))) (pm_hp L fz t I J))) ∧ ((x2).toInt = 3 → (vp_in (((x1 * (nI 3)) + x2) - (nI 3)) 15 ∧ Q (.inl (some (.int (I ((pm_td t) + 8) ((((x1 * (nI 3)) + x2) - (nI 3))).toNatClampNeg)))) (pm_hp L fz t I J))) ∧ ((x2).toInt = 4 → (vp_in (((x1 * (nI 3)) + x2) - (nI 3)) 15 ∧ Q (.inl (some (.int (I ((pm_td t) + 8) ((((x1 * (nI 3)) + x2) - (nI 3))).toNatClampNeg)))) (pm_hp L fz t I J))) ∧ ((x2).toInt = 5 → (vp_in (((x1 * (nI 3)) + x2) - (nI 3)) 15 ∧ Q (.inl (some (.int (I ((pm_td t) + 8) ((((x1 * (nI 3)) + x2) - (nI 3))).toNatClampNeg)))) (pm_hp L fz t I J))))) :
    t_X10_figure_5 d L fz t Q x1 x2 I J := by
  cases t <;> exact pm_go d [(5, [0, 1, 2])] 400 ⟨fun q0 => ((h).1 q0), fun q0 => ⟨((((h).2).1 q0)).1, ((((h).2).1 q0)).2⟩, fun q0 => ⟨(((((h).2).2).1 q0)).1, (((((h).2).2).1 q0)).2⟩, fun q0 => ⟨((((((h).2).2).2).1 q0)).1, ((((((h).2).2).2).1 q0)).2⟩, fun q0 => ⟨(((((((h).2).2).2).2).1 q0)).1, (((((((h).2).2).2).2).1 q0)).2⟩, fun q0 => ⟨((((((((h).2).2).2).2).2).1 q0)).1, ((((((((h).2).2).2).2).2).1 q0)).2⟩, fun q0 => ⟨((((((((h).2).2).2).2).2).2 q0)).1, ((((((((h).2).2).2).2).2).2 q0)).2⟩, trivial⟩
theorem kb_X10_figure_5 {d L : Nat} {fz t : Bool} {Q : pm_R → pm_H → Prop} {x1 : Int32} {x2 : Int32} {fz1 : Bool} {I : Nat → Nat → Int32} {J : Nat → Nat → Int64}
    (h : (((x2).toInt < 0 ∨ 5 < (x2).toInt → Q (.inr 1) (pm_hp L true t I J)) ∧ ((x2).toInt = 0 → (vp_in x1 5 ∧ Q (.inl (some (.int (I ((pm_td t) + 5) (x1).toNatClampNeg)))) (pm_hp L true t I J))) ∧ ((x2).toInt = 1 → (vp_in x1 5 ∧ Q (.inl (some (.int (I ((pm_td t) + 6) (x1).toNatClampNeg)))) (pm_hp L true t I J))) ∧ ((x2).toInt = 2 → (vp_in x1 5 ∧ Q (.inl (some (.int (I ((pm_td t) + 7) (x1).toNatClampNeg)))) (pm_hp L true t I J))) ∧ ((x2).toInt = 3 → (vp_in (((x1 * (nI 3)) + x2) - (nI 3)) 15 ∧ Q (.inl (some (.int (I ((pm_td t) + 8) ((((x1 * (nI 3)) + x2) - (nI 3))).toNatClampNeg)))) (pm_hp L true t I J))) ∧ ((x2).toInt = 4 → (vp_in (((x1 * (nI 3)) + x2) - (nI 3)) 15 ∧ Q (.inl (some (.int (I ((pm_td t) + 8) ((((x1 * (nI 3)) + x2) - (nI 3))).toNatClampNeg)))) (pm_hp L true t I J))) ∧ ((x2).toInt = 5 → (vp_in (((x1 * (nI 3)) + x2) - (nI 3)) 15 ∧ Q (.inl (some (.int (I ((pm_td t) + 8) ((((x1 * (nI 3)) + x2) - (nI 3))).toNatClampNeg)))) (pm_hp L true t I J))))) :
    K_X10_figure_5 d fz t Q x1 x2 (.inl none) (pm_hp L fz1 t I J) := b_X10_figure_5 h
def t_X10_snarl_0 (d L : Nat) (fz t : Bool) (Q : pm_R → pm_H → Prop) (x1 : Int32) (x2 : Int32) (I : Nat → Nat → Int32) (J : Nat → Nat → Int64) : Prop := pm_T (pm_Ev d) 254 Q (0, [(0, .ref 0), (1, .int x1), (2, .int x2)], [], pm_hp L fz t I J, 0, 0)
def t_X10_snarl_5 (d L : Nat) (fz t : Bool) (Q : pm_R → pm_H → Prop) (x1 : Int32) (x2 : Int32) (I : Nat → Nat → Int32) (J : Nat → Nat → Int64) : Prop := pm_T (pm_Ev d) 254 Q (5, [(0, .ref 0), (1, .int x1), (2, .int x2)], [], pm_hp L fz t I J, 1, 6)
def K_X10_snarl_5 (d : Nat) (fz t : Bool) (Q : pm_R → pm_H → Prop) (x1 : Int32) (x2 : Int32) : pm_R → pm_H → Prop := pm_K d 254 Q 5 [(0, .ref 0), (1, .int x1), (2, .int x2)] [] 118 1 fz 1 6
def t_X10_snarl_10 (d L : Nat) (fz t : Bool) (Q : pm_R → pm_H → Prop) (x1 : Int32) (x2 : Int32) (I : Nat → Nat → Int32) (J : Nat → Nat → Int64) : Prop := pm_T (pm_Ev d) 254 Q (10, [(0, .ref 0), (1, .int x1), (2, .int x2)], [], pm_hp L fz t I J, 2, 12)
def K_X10_snarl_10 (d : Nat) (fz t : Bool) (Q : pm_R → pm_H → Prop) (x1 : Int32) (x2 : Int32) : pm_R → pm_H → Prop := pm_K d 254 Q 10 [(0, .ref 0), (1, .int x1), (2, .int x2)] [] 118 1 fz 2 12
def t_X10_snarl_31 (d L : Nat) (fz t : Bool) (Q : pm_R → pm_H → Prop) (x2 : Int32) (s2 : Int32) (r : Int32) (I : Nat → Nat → Int32) (J : Nat → Nat → Int64) : Prop := pm_T (pm_Ev d) 254 Q (31, [(0, .ref 0), (2, .int x2)], [.int r, .int s2, .ref (pm_td t), .ref 12], pm_hp L fz t I J, 2, 12)
def K_X10_snarl_31 (d : Nat) (fz t : Bool) (Q : pm_R → pm_H → Prop) (x2 : Int32) (s2 : Int32) : pm_R → pm_H → Prop := pm_K d 254 Q 31 [(0, .ref 0), (2, .int x2)] [.int s2, .ref (pm_td t), .ref 12] 118 0 fz 2 12
def t_X10_snarl_44 (d L : Nat) (fz t : Bool) (Q : pm_R → pm_H → Prop) (s2 : Int32) (s3 : Int32) (s4 : Int32) (r : Int32) (I : Nat → Nat → Int32) (J : Nat → Nat → Int64) : Prop := pm_T (pm_Ev d) 254 Q (44, [], [.int r, .int s4, .int s3, .int s2, .ref (pm_td t), .ref 12], pm_hp L fz t I J, 2, 12)
def K_X10_snarl_44 (d : Nat) (fz t : Bool) (Q : pm_R → pm_H → Prop) (s2 : Int32) (s3 : Int32) (s4 : Int32) : pm_R → pm_H → Prop := pm_K d 254 Q 44 [] [.int s4, .int s3, .int s2, .ref (pm_td t), .ref 12] 118 0 fz 2 12
def t_X10_snarl_47 (d L : Nat) (fz t : Bool) (Q : pm_R → pm_H → Prop) (r : Int32) (I : Nat → Nat → Int32) (J : Nat → Nat → Int64) : Prop := pm_T (pm_Ev d) 254 Q (47, [], [.int r], pm_hp L fz t I J, 2, 12)
def K_X10_snarl_47 (d : Nat) (fz t : Bool) (Q : pm_R → pm_H → Prop) : pm_R → pm_H → Prop := pm_K d 254 Q 47 [] [] 118 0 fz 2 12
set_option maxRecDepth 100000 in
theorem b_X10_snarl_0 {d L : Nat} {fz t : Bool} {Q : pm_R → pm_H → Prop} {x1 : Int32} {x2 : Int32} {I : Nat → Nat → Int32} {J : Nat → Nat → Int64}
    (h : pm_Ev d 281 [.ref 0, .int x1] (pm_hp L fz t I J) (K_X10_snarl_5 d fz t Q x1 x2)) :
    t_X10_snarl_0 d L fz t Q x1 x2 I J := by
  exact pm_go d [(5, [0, 1, 2]), (10, [0, 1, 2]), (31, [0, 2]), (44, []), (47, [])] 400 h
theorem e_X10_snarl {d L : Nat} {fz t : Bool} {Q : pm_R → pm_H → Prop} {x1 : Int32} {x2 : Int32} {I : Nat → Nat → Int32} {J : Nat → Nat → Int64}
    (h : pm_Ev d 281 [.ref 0, .int x1] (pm_hp L fz t I J) (K_X10_snarl_5 d fz t Q x1 x2)) :
    pm_Ev (d + 1) 254 [.ref 0, .int x1, .int x2] (pm_hp L fz t I J) Q := pm_Ev_in rfl (b_X10_snarl_0 h)
set_option maxRecDepth 100000 in
theorem b_X10_snarl_5 {d L : Nat} {fz t : Bool} {Q : pm_R → pm_H → Prop} {x1 : Int32} {x2 : Int32} {I : Nat → Nat → Int32} {J : Nat → Nat → Int64}
    (h : pm_Ev d 281 [.ref 0, .int x2] (pm_hp L fz t I J) (K_X10_snarl_10 d fz t Q x1 x2)) :
    t_X10_snarl_5 d L fz t Q x1 x2 I J := by
  exact pm_go d [(5, [0, 1, 2]), (10, [0, 1, 2]), (31, [0, 2]), (44, []), (47, [])] 400 h
theorem kb_X10_snarl_5 {d L : Nat} {fz t : Bool} {Q : pm_R → pm_H → Prop} {x1 : Int32} {x2 : Int32} {fz1 : Bool} {I : Nat → Nat → Int32} {J : Nat → Nat → Int64}
    (h : pm_Ev d 281 [.ref 0, .int x2] (pm_hp L true t I J) (K_X10_snarl_10 d true t Q x1 x2)) :
    K_X10_snarl_5 d fz t Q x1 x2 (.inl none) (pm_hp L fz1 t I J) := b_X10_snarl_5 h
set_option maxRecDepth 100000 in
theorem b_X10_snarl_10 {d L : Nat} {fz t : Bool} {Q : pm_R → pm_H → Prop} {x1 : Int32} {x2 : Int32} {I : Nat → Nat → Int32} {J : Nat → Nat → Int64}
    (h : pm_Ev d 72 [.ref (pm_td t), .ref 23, .int x1] (pm_hp L fz t I J) (K_X10_snarl_31 d fz t Q x2 x1)) :
    t_X10_snarl_10 d L fz t Q x1 x2 I J := by
  cases t <;> exact pm_go d [(5, [0, 1, 2]), (10, [0, 1, 2]), (31, [0, 2]), (44, []), (47, [])] 400 h
theorem kb_X10_snarl_10 {d L : Nat} {fz t : Bool} {Q : pm_R → pm_H → Prop} {x1 : Int32} {x2 : Int32} {fz1 : Bool} {I : Nat → Nat → Int32} {J : Nat → Nat → Int64}
    (h : pm_Ev d 72 [.ref (pm_td t), .ref 23, .int x1] (pm_hp L true t I J) (K_X10_snarl_31 d true t Q x2 x1)) :
    K_X10_snarl_10 d fz t Q x1 x2 (.inl none) (pm_hp L fz1 t I J) := b_X10_snarl_10 h
set_option maxRecDepth 100000 in
theorem b_X10_snarl_31 {d L : Nat} {fz t : Bool} {Q : pm_R → pm_H → Prop} {x2 : Int32} {s2 : Int32} {r : Int32} {I : Nat → Nat → Int32} {J : Nat → Nat → Int64}
    (h : pm_Ev d 72 [.ref (pm_td t), .ref 23, .int x2] (pm_hp L fz t I J) (K_X10_snarl_44 d fz t Q s2 r x2)) :
    t_X10_snarl_31 d L fz t Q x2 s2 r I J := by
  cases t <;> exact pm_go d [(5, [0, 1, 2]), (10, [0, 1, 2]), (31, [0, 2]), (44, []), (47, [])] 400 h
theorem kb_X10_snarl_31 {d L : Nat} {fz t : Bool} {Q : pm_R → pm_H → Prop} {x2 : Int32} {s2 : Int32} {r : Int32} {fz1 : Bool} {I : Nat → Nat → Int32} {J : Nat → Nat → Int64}
    (h : pm_Ev d 72 [.ref (pm_td t), .ref 23, .int x2] (pm_hp L fz t I J) (K_X10_snarl_44 d fz t Q s2 r x2)) :
    K_X10_snarl_31 d fz t Q x2 s2 (.inl (some (.int r))) (pm_hp L fz1 t I J) := b_X10_snarl_31 h
set_option maxRecDepth 100000 in
theorem b_X10_snarl_44 {d L : Nat} {fz t : Bool} {Q : pm_R → pm_H → Prop} {s2 : Int32} {s3 : Int32} {s4 : Int32} {r : Int32} {I : Nat → Nat → Int32} {J : Nat → Nat → Int64}
    (h : pm_Ev d 59 [.ref 12, .ref (pm_td t), .int s2, .int s3, .int s4, .int r] (pm_hp L fz t I J) (K_X10_snarl_47 d fz t Q)) :
    t_X10_snarl_44 d L fz t Q s2 s3 s4 r I J := by
  cases t <;> exact pm_go d [(5, [0, 1, 2]), (10, [0, 1, 2]), (31, [0, 2]), (44, []), (47, [])] 400 h
theorem kb_X10_snarl_44 {d L : Nat} {fz t : Bool} {Q : pm_R → pm_H → Prop} {s2 : Int32} {s3 : Int32} {s4 : Int32} {r : Int32} {fz1 : Bool} {I : Nat → Nat → Int32} {J : Nat → Nat → Int64}
    (h : pm_Ev d 59 [.ref 12, .ref (pm_td t), .int s2, .int s3, .int s4, .int r] (pm_hp L fz t I J) (K_X10_snarl_47 d fz t Q)) :
    K_X10_snarl_44 d fz t Q s2 s3 s4 (.inl (some (.int r))) (pm_hp L fz1 t I J) := b_X10_snarl_44 h
set_option maxRecDepth 100000 in
theorem b_X10_snarl_47 {d L : Nat} {fz t : Bool} {Q : pm_R → pm_H → Prop} {r : Int32} {I : Nat → Nat → Int32} {J : Nat → Nat → Int64}
    (h : Q (.inl (some (.int r))) (pm_hp L fz t I J)) :
    t_X10_snarl_47 d L fz t Q r I J := by
  exact pm_go d [(5, [0, 1, 2]), (10, [0, 1, 2]), (31, [0, 2]), (44, []), (47, [])] 400 h
theorem kb_X10_snarl_47 {d L : Nat} {fz t : Bool} {Q : pm_R → pm_H → Prop} {r : Int32} {fz1 : Bool} {I : Nat → Nat → Int32} {J : Nat → Nat → Int64}
    (h : Q (.inl (some (.int r))) (pm_hp L fz t I J)) :
    K_X10_snarl_47 d fz t Q (.inl (some (.int r))) (pm_hp L fz1 t I J) := b_X10_snarl_47 h
def t_X10_punch_0 (d L : Nat) (fz t : Bool) (Q : pm_R → pm_H → Prop) (x1 : Int32) (x2 : Int32) (I : Nat → Nat → Int32) (J : Nat → Nat → Int64) : Prop := pm_T (pm_Ev d) 255 Q (0, [(0, .ref 0), (1, .int x1), (2, .int x2)], [], pm_hp L fz t I J, 0, 0)
def t_X10_punch_5 (d L : Nat) (fz t : Bool) (Q : pm_R → pm_H → Prop) (x1 : Int32) (x2 : Int32) (I : Nat → Nat → Int32) (J : Nat → Nat → Int64) : Prop := pm_T (pm_Ev d) 255 Q (5, [(0, .ref 0), (1, .int x1), (2, .int x2)], [], pm_hp L fz t I J, 1, 6)
def K_X10_punch_5 (d : Nat) (fz t : Bool) (Q : pm_R → pm_H → Prop) (x1 : Int32) (x2 : Int32) : pm_R → pm_H → Prop := pm_K d 255 Q 5 [(0, .ref 0), (1, .int x1), (2, .int x2)] [] 118 1 fz 1 6
def t_X10_punch_53 (d L : Nat) (fz t : Bool) (Q : pm_R → pm_H → Prop) (x1 : Int32) (x2 : Int32) (x3 : Int32) (I : Nat → Nat → Int32) (J : Nat → Nat → Int64) : Prop := pm_T (pm_Ev d) 255 Q (53, [(0, .ref 0), (1, .int x1), (2, .int x2), (3, .int x3)], [], pm_hp L fz t I J, 1, 6)
def K_X10_punch_53 (d : Nat) (fz t : Bool) (Q : pm_R → pm_H → Prop) (x1 : Int32) (x2 : Int32) (x3 : Int32) : pm_R → pm_H → Prop := pm_K d 255 Q 53 [(0, .ref 0), (1, .int x1), (2, .int x2), (3, .int x3)] [] 118 0 fz 1 6
set_option maxRecDepth 100000 in
theorem b_X10_punch_0 {d L : Nat} {fz t : Bool} {Q : pm_R → pm_H → Prop} {x1 : Int32} {x2 : Int32} {I : Nat → Nat → Int32} {J : Nat → Nat → Int64}
    (h : pm_Ev d 281 [.ref 0, .int x1] (pm_hp L fz t I J) (K_X10_punch_5 d fz t Q x1 x2)) :
    t_X10_punch_0 d L fz t Q x1 x2 I J := by
  exact pm_go d [(5, [0, 1, 2]), (53, [0, 1, 2, 3])] 400 h
theorem e_X10_punch {d L : Nat} {fz t : Bool} {Q : pm_R → pm_H → Prop} {x1 : Int32} {x2 : Int32} {I : Nat → Nat → Int32} {J : Nat → Nat → Int64}
    (h : pm_Ev d 281 [.ref 0, .int x1] (pm_hp L fz t I J) (K_X10_punch_5 d fz t Q x1 x2)) :
    pm_Ev (d + 1) 255 [.ref 0, .int x1, .int x2] (pm_hp L fz t I J) Q := pm_Ev_in rfl (b_X10_punch_0 h)
set_option maxRecDepth 100000 in
theorem b_X10_punch_5 {d L : Nat} {fz t : Bool} {Q : pm_R → pm_H → Prop} {x1 : Int32} {x2 : Int32} {I : Nat → Nat → Int32} {J : Nat → Nat → Int64}
    (h : ((x2 < (nI 0) → Q (.inl (some (.int (-1 : Int32)))) (pm_hp L fz t (pm_u I 20 1 ((I 20 1) + (nI 1))) J)) ∧ (¬ x2 < (nI 0) → ((x2 ≤ (I (pm_td t) 12) → (vp_in x1 10 ∧ pm_Ev d 0 [.ref 35, .int (nI 1), .int x1, .int (I 24 (x1).toNatClampNeg), .long (Int64.ofNat 0)] (pm_hp L fz t I J) (K_X10_punch_53 d fz t Q x1 x2 (I 24 (x1).toNatClampNeg)))) ∧ (¬ x2 ≤ (I (pm_td t) 12) → Q (.inl (some (.int (-1 : Int32)))) (pm_hp L fz t (pm_u I 20 1 ((I 20 1) + (nI 1))) J)))))) :
    t_X10_punch_5 d L fz t Q x1 x2 I J := by
  cases t <;> exact pm_go d [(5, [0, 1, 2]), (53, [0, 1, 2, 3])] 400 ⟨fun q0 => ⟨(vp_in_nI (by decide : 1 < 3) (by decide) : vp_in (nI 1) 3), ⟨(vp_in_nI (by decide : 1 < 3) (by decide) : vp_in (nI 1) 3), ((h).1 q0)⟩⟩, fun q0 => ⟨fun q1 => ⟨(((((h).2 q0)).1 q1)).1, (((((h).2 q0)).1 q1)).2⟩, fun q1 => ⟨(vp_in_nI (by decide : 1 < 3) (by decide) : vp_in (nI 1) 3), ⟨(vp_in_nI (by decide : 1 < 3) (by decide) : vp_in (nI 1) 3), ((((h).2 q0)).2 q1)⟩⟩⟩⟩
theorem kb_X10_punch_5 {d L : Nat} {fz t : Bool} {Q : pm_R → pm_H → Prop} {x1 : Int32} {x2 : Int32} {fz1 : Bool} {I : Nat → Nat → Int32} {J : Nat → Nat → Int64}
    (h : ((x2 < (nI 0) → Q (.inl (some (.int (-1 : Int32)))) (pm_hp L true t (pm_u I 20 1 ((I 20 1) + (nI 1))) J)) ∧ (¬ x2 < (nI 0) → ((x2 ≤ (I (pm_td t) 12) → (vp_in x1 10 ∧ pm_Ev d 0 [.ref 35, .int (nI 1), .int x1, .int (I 24 (x1).toNatClampNeg), .long (Int64.ofNat 0)] (pm_hp L true t I J) (K_X10_punch_53 d true t Q x1 x2 (I 24 (x1).toNatClampNeg)))) ∧ (¬ x2 ≤ (I (pm_td t) 12) → Q (.inl (some (.int (-1 : Int32)))) (pm_hp L true t (pm_u I 20 1 ((I 20 1) + (nI 1))) J)))))) :
    K_X10_punch_5 d fz t Q x1 x2 (.inl none) (pm_hp L fz1 t I J) := b_X10_punch_5 h
set_option maxRecDepth 100000 in
theorem b_X10_punch_53 {d L : Nat} {fz t : Bool} {Q : pm_R → pm_H → Prop} {x1 : Int32} {x2 : Int32} {x3 : Int32} {I : Nat → Nat → Int32} {J : Nat → Nat → Int64}
    (h : (vp_in x1 10 ∧ Q (.inl (some (.int x3))) (pm_hp L fz t (pm_u I 24 (x1).toNatClampNeg x2) J))) :
    t_X10_punch_53 d L fz t Q x1 x2 x3 I J := by
  exact pm_go d [(5, [0, 1, 2]), (53, [0, 1, 2, 3])] 400 ⟨(h).1, (h).2⟩
theorem kb_X10_punch_53 {d L : Nat} {fz t : Bool} {Q : pm_R → pm_H → Prop} {x1 : Int32} {x2 : Int32} {x3 : Int32} {fz1 : Bool} {I : Nat → Nat → Int32} {J : Nat → Nat → Int64}
    (h : (vp_in x1 10 ∧ Q (.inl (some (.int x3))) (pm_hp L fz t (pm_u I 24 (x1).toNatClampNeg x2) J))) :
    K_X10_punch_53 d fz t Q x1 x2 x3 (.inl none) (pm_hp L fz1 t I J) := b_X10_punch_53 h
def t_X10_turn_0 (d L : Nat) (fz t : Bool) (Q : pm_R → pm_H → Prop) (x1 : Int32) (I : Nat → Nat → Int32) (J : Nat → Nat → Int64) : Prop := pm_T (pm_Ev d) 256 Q (0, [(0, .ref 0), (1, .int x1)], [], pm_hp L fz t I J, 0, 0)
def t_X10_turn_5 (d L : Nat) (fz t : Bool) (Q : pm_R → pm_H → Prop) (x1 : Int32) (I : Nat → Nat → Int32) (J : Nat → Nat → Int64) : Prop := pm_T (pm_Ev d) 256 Q (5, [(0, .ref 0), (1, .int x1)], [], pm_hp L fz t I J, 1, 6)
def K_X10_turn_5 (d : Nat) (fz t : Bool) (Q : pm_R → pm_H → Prop) (x1 : Int32) : pm_R → pm_H → Prop := pm_K d 256 Q 5 [(0, .ref 0), (1, .int x1)] [] 118 1 fz 1 6
def t_X10_turn_24 (d L : Nat) (fz t : Bool) (Q : pm_R → pm_H → Prop) (x1 : Int32) (I : Nat → Nat → Int32) (J : Nat → Nat → Int64) : Prop := pm_T (pm_Ev d) 256 Q (24, [(0, .ref 0), (1, .int x1)], [], pm_hp L fz t I J, 1, 6)
def K_X10_turn_24 (d : Nat) (fz t : Bool) (Q : pm_R → pm_H → Prop) (x1 : Int32) : pm_R → pm_H → Prop := pm_K d 256 Q 24 [(0, .ref 0), (1, .int x1)] [] 118 0 fz 1 6
def t_X10_turn_48 (d L : Nat) (fz t : Bool) (Q : pm_R → pm_H → Prop) (x1 : Int32) (s1 : Int32) (r : Int32) (I : Nat → Nat → Int32) (J : Nat → Nat → Int64) : Prop := pm_T (pm_Ev d) 256 Q (48, [(0, .ref 0), (1, .int x1)], [.int r, .int s1, .ref 24], pm_hp L fz t I J, 1, 6)
def K_X10_turn_48 (d : Nat) (fz t : Bool) (Q : pm_R → pm_H → Prop) (x1 : Int32) (s1 : Int32) : pm_R → pm_H → Prop := pm_K d 256 Q 48 [(0, .ref 0), (1, .int x1)] [.int s1, .ref 24] 118 0 fz 1 6
set_option maxRecDepth 100000 in
theorem b_X10_turn_0 {d L : Nat} {fz t : Bool} {Q : pm_R → pm_H → Prop} {x1 : Int32} {I : Nat → Nat → Int32} {J : Nat → Nat → Int64}
    (h : pm_Ev d 281 [.ref 0, .int x1] (pm_hp L fz t I J) (K_X10_turn_5 d fz t Q x1)) :
    t_X10_turn_0 d L fz t Q x1 I J := by
  exact pm_go d [(5, [0, 1]), (24, [0, 1]), (48, [0, 1])] 400 h
theorem e_X10_turn {d L : Nat} {fz t : Bool} {Q : pm_R → pm_H → Prop} {x1 : Int32} {I : Nat → Nat → Int32} {J : Nat → Nat → Int64}
    (h : pm_Ev d 281 [.ref 0, .int x1] (pm_hp L fz t I J) (K_X10_turn_5 d fz t Q x1)) :
    pm_Ev (d + 1) 256 [.ref 0, .int x1] (pm_hp L fz t I J) Q := pm_Ev_in rfl (b_X10_turn_0 h)
set_option maxRecDepth 100000 in
theorem b_X10_turn_5 {d L : Nat} {fz t : Bool} {Q : pm_R → pm_H → Prop} {x1 : Int32} {I : Nat → Nat → Int32} {J : Nat → Nat → Int64}
    (h : (vp_in x1 10 ∧ pm_Ev d 0 [.ref 35, .int (nI 1), .int x1, .int (I 24 (x1).toNatClampNeg), .long (Int64.ofNat 0)] (pm_hp L fz t I J) (K_X10_turn_24 d fz t Q x1))) :
    t_X10_turn_5 d L fz t Q x1 I J := by
  exact pm_go d [(5, [0, 1]), (24, [0, 1]), (48, [0, 1])] 400 ⟨(h).1, (h).2⟩
theorem kb_X10_turn_5 {d L : Nat} {fz t : Bool} {Q : pm_R → pm_H → Prop} {x1 : Int32} {fz1 : Bool} {I : Nat → Nat → Int32} {J : Nat → Nat → Int64}
    (h : (vp_in x1 10 ∧ pm_Ev d 0 [.ref 35, .int (nI 1), .int x1, .int (I 24 (x1).toNatClampNeg), .long (Int64.ofNat 0)] (pm_hp L true t I J) (K_X10_turn_24 d true t Q x1))) :
    K_X10_turn_5 d fz t Q x1 (.inl none) (pm_hp L fz1 t I J) := b_X10_turn_5 h
set_option maxRecDepth 100000 in
theorem b_X10_turn_24 {d L : Nat} {fz t : Bool} {Q : pm_R → pm_H → Prop} {x1 : Int32} {I : Nat → Nat → Int32} {J : Nat → Nat → Int64}
    (h : (vp_in x1 10 ∧ pm_Ev d 71 [.ref (pm_td t), .int (I 24 (x1).toNatClampNeg)] (pm_hp L fz t I J) (K_X10_turn_48 d fz t Q x1 x1))) :
    t_X10_turn_24 d L fz t Q x1 I J := by
  cases t <;> exact pm_go d [(5, [0, 1]), (24, [0, 1]), (48, [0, 1])] 400 ⟨(h).1, (h).2⟩
theorem kb_X10_turn_24 {d L : Nat} {fz t : Bool} {Q : pm_R → pm_H → Prop} {x1 : Int32} {fz1 : Bool} {I : Nat → Nat → Int32} {J : Nat → Nat → Int64}
    (h : (vp_in x1 10 ∧ pm_Ev d 71 [.ref (pm_td t), .int (I 24 (x1).toNatClampNeg)] (pm_hp L fz t I J) (K_X10_turn_48 d fz t Q x1 x1))) :
    K_X10_turn_24 d fz t Q x1 (.inl none) (pm_hp L fz1 t I J) := b_X10_turn_24 h
set_option maxRecDepth 100000 in
theorem b_X10_turn_48 {d L : Nat} {fz t : Bool} {Q : pm_R → pm_H → Prop} {x1 : Int32} {s1 : Int32} {r : Int32} {I : Nat → Nat → Int32} {J : Nat → Nat → Int64}
    (h : (vp_in s1 10 ∧ (vp_in x1 10 ∧ Q (.inl (some (.int ((pm_u I 24 (s1).toNatClampNeg r) 24 (x1).toNatClampNeg)))) (pm_hp L fz t (pm_u I 24 (s1).toNatClampNeg r) J)))) :
    t_X10_turn_48 d L fz t Q x1 s1 r I J := by
  exact pm_go d [(5, [0, 1]), (24, [0, 1]), (48, [0, 1])] 400 ⟨(h).1, ⟨((h).2).1, ((h).2).2⟩⟩
theorem kb_X10_turn_48 {d L : Nat} {fz t : Bool} {Q : pm_R → pm_H → Prop} {x1 : Int32} {s1 : Int32} {r : Int32} {fz1 : Bool} {I : Nat → Nat → Int32} {J : Nat → Nat → Int64}
    (h : (vp_in s1 10 ∧ (vp_in x1 10 ∧ Q (.inl (some (.int ((pm_u I 24 (s1).toNatClampNeg r) 24 (x1).toNatClampNeg)))) (pm_hp L fz t (pm_u I 24 (s1).toNatClampNeg r) J)))) :
    K_X10_turn_48 d fz t Q x1 s1 (.inl (some (.int r))) (pm_hp L fz1 t I J) := b_X10_turn_48 h
def t_X10_cut_0 (d L : Nat) (fz t : Bool) (Q : pm_R → pm_H → Prop) (x1 : Int32) (I : Nat → Nat → Int32) (J : Nat → Nat → Int64) : Prop := pm_T (pm_Ev d) 257 Q (0, [(0, .ref 0), (1, .int x1)], [], pm_hp L fz t I J, 0, 0)
def t_X10_cut_5 (d L : Nat) (fz t : Bool) (Q : pm_R → pm_H → Prop) (x1 : Int32) (I : Nat → Nat → Int32) (J : Nat → Nat → Int64) : Prop := pm_T (pm_Ev d) 257 Q (5, [(0, .ref 0), (1, .int x1)], [], pm_hp L fz t I J, 1, 6)
def K_X10_cut_5 (d : Nat) (fz t : Bool) (Q : pm_R → pm_H → Prop) (x1 : Int32) : pm_R → pm_H → Prop := pm_K d 257 Q 5 [(0, .ref 0), (1, .int x1)] [] 118 1 fz 1 6
def t_X10_cut_42 (d L : Nat) (fz t : Bool) (Q : pm_R → pm_H → Prop) (x1 : Int32) (x2 : Int32) (I : Nat → Nat → Int32) (J : Nat → Nat → Int64) : Prop := pm_T (pm_Ev d) 257 Q (42, [(0, .ref 0), (1, .int x1), (2, .int x2)], [], pm_hp L fz t I J, 1, 6)
def K_X10_cut_42 (d : Nat) (fz t : Bool) (Q : pm_R → pm_H → Prop) (x1 : Int32) (x2 : Int32) : pm_R → pm_H → Prop := pm_K d 257 Q 42 [(0, .ref 0), (1, .int x1), (2, .int x2)] [] 118 0 fz 1 6
set_option maxRecDepth 100000 in
theorem b_X10_cut_0 {d L : Nat} {fz t : Bool} {Q : pm_R → pm_H → Prop} {x1 : Int32} {I : Nat → Nat → Int32} {J : Nat → Nat → Int64}
    (h : pm_Ev d 281 [.ref 0, .int x1] (pm_hp L fz t I J) (K_X10_cut_5 d fz t Q x1)) :
    t_X10_cut_0 d L fz t Q x1 I J := by
  exact pm_go d [(5, [0, 1]), (42, [0, 1, 2])] 400 h
theorem e_X10_cut {d L : Nat} {fz t : Bool} {Q : pm_R → pm_H → Prop} {x1 : Int32} {I : Nat → Nat → Int32} {J : Nat → Nat → Int64}
    (h : pm_Ev d 281 [.ref 0, .int x1] (pm_hp L fz t I J) (K_X10_cut_5 d fz t Q x1)) :
    pm_Ev (d + 1) 257 [.ref 0, .int x1] (pm_hp L fz t I J) Q := pm_Ev_in rfl (b_X10_cut_0 h)
set_option maxRecDepth 100000 in
theorem b_X10_cut_5 {d L : Nat} {fz t : Bool} {Q : pm_R → pm_H → Prop} {x1 : Int32} {I : Nat → Nat → Int32} {J : Nat → Nat → Int64}
    (h : (vp_in x1 10 ∧ ((¬ (I 25 (x1).toNatClampNeg) = (nI 0) → pm_Ev d 0 [.ref 35, .int (nI 2), .int x1, .int (I 25 (x1).toNatClampNeg), .long (Int64.ofNat 0)] (pm_hp L fz t I J) (K_X10_cut_42 d fz t Q x1 (I 25 (x1).toNatClampNeg))) ∧ ((I 25 (x1).toNatClampNeg) = (nI 0) → Q (.inl (some (.int (-1 : Int32)))) (pm_hp L fz t (pm_u I 20 1 ((I 20 1) + (nI 1))) J))))) :
    t_X10_cut_5 d L fz t Q x1 I J := by
  exact pm_go d [(5, [0, 1]), (42, [0, 1, 2])] 400 ⟨(h).1, ⟨fun q0 => (((h).2).1 q0), fun q0 => ⟨(vp_in_nI (by decide : 1 < 3) (by decide) : vp_in (nI 1) 3), ⟨(vp_in_nI (by decide : 1 < 3) (by decide) : vp_in (nI 1) 3), (((h).2).2 q0)⟩⟩⟩⟩
theorem kb_X10_cut_5 {d L : Nat} {fz t : Bool} {Q : pm_R → pm_H → Prop} {x1 : Int32} {fz1 : Bool} {I : Nat → Nat → Int32} {J : Nat → Nat → Int64}
    (h : (vp_in x1 10 ∧ ((¬ (I 25 (x1).toNatClampNeg) = (nI 0) → pm_Ev d 0 [.ref 35, .int (nI 2), .int x1, .int (I 25 (x1).toNatClampNeg), .long (Int64.ofNat 0)] (pm_hp L true t I J) (K_X10_cut_42 d true t Q x1 (I 25 (x1).toNatClampNeg))) ∧ ((I 25 (x1).toNatClampNeg) = (nI 0) → Q (.inl (some (.int (-1 : Int32)))) (pm_hp L true t (pm_u I 20 1 ((I 20 1) + (nI 1))) J))))) :
    K_X10_cut_5 d fz t Q x1 (.inl none) (pm_hp L fz1 t I J) := b_X10_cut_5 h
set_option maxRecDepth 100000 in
theorem b_X10_cut_42 {d L : Nat} {fz t : Bool} {Q : pm_R → pm_H → Prop} {x1 : Int32} {x2 : Int32} {I : Nat → Nat → Int32} {J : Nat → Nat → Int64}
    (h : (vp_in x1 10 ∧ Q (.inl (some (.int x2))) (pm_hp L fz t (pm_u I 25 (x1).toNatClampNeg (nI 0)) J))) :
    t_X10_cut_42 d L fz t Q x1 x2 I J := by
  exact pm_go d [(5, [0, 1]), (42, [0, 1, 2])] 400 ⟨(h).1, (h).2⟩
theorem kb_X10_cut_42 {d L : Nat} {fz t : Bool} {Q : pm_R → pm_H → Prop} {x1 : Int32} {x2 : Int32} {fz1 : Bool} {I : Nat → Nat → Int32} {J : Nat → Nat → Int64}
    (h : (vp_in x1 10 ∧ Q (.inl (some (.int x2))) (pm_hp L fz t (pm_u I 25 (x1).toNatClampNeg (nI 0)) J))) :
    K_X10_cut_42 d fz t Q x1 x2 (.inl none) (pm_hp L fz1 t I J) := b_X10_cut_42 h
def t_X10_then_0 (d L : Nat) (fz t : Bool) (Q : pm_R → pm_H → Prop) (x1 : Int32) (x2 : Int32) (I : Nat → Nat → Int32) (J : Nat → Nat → Int64) : Prop := pm_T (pm_Ev d) 258 Q (0, [(0, .ref 0), (1, .int x1), (2, .int x2)], [], pm_hp L fz t I J, 0, 0)
def t_X10_then_5 (d L : Nat) (fz t : Bool) (Q : pm_R → pm_H → Prop) (x1 : Int32) (x2 : Int32) (I : Nat → Nat → Int32) (J : Nat → Nat → Int64) : Prop := pm_T (pm_Ev d) 258 Q (5, [(0, .ref 0), (1, .int x1), (2, .int x2)], [], pm_hp L fz t I J, 1, 6)
def K_X10_then_5 (d : Nat) (fz t : Bool) (Q : pm_R → pm_H → Prop) (x1 : Int32) (x2 : Int32) : pm_R → pm_H → Prop := pm_K d 258 Q 5 [(0, .ref 0), (1, .int x1), (2, .int x2)] [] 118 1 fz 1 6
def t_X10_then_41 (d L : Nat) (fz t : Bool) (Q : pm_R → pm_H → Prop) (x1 : Int32) (I : Nat → Nat → Int32) (J : Nat → Nat → Int64) : Prop := pm_T (pm_Ev d) 258 Q (41, [(0, .ref 0), (1, .int x1)], [], pm_hp L fz t I J, 1, 6)
def K_X10_then_41 (d : Nat) (fz t : Bool) (Q : pm_R → pm_H → Prop) (x1 : Int32) : pm_R → pm_H → Prop := pm_K d 258 Q 41 [(0, .ref 0), (1, .int x1)] [] 118 0 fz 1 6
set_option maxRecDepth 100000 in
theorem b_X10_then_0 {d L : Nat} {fz t : Bool} {Q : pm_R → pm_H → Prop} {x1 : Int32} {x2 : Int32} {I : Nat → Nat → Int32} {J : Nat → Nat → Int64}
    (h : pm_Ev d 282 [.ref 0, .int x1] (pm_hp L fz t I J) (K_X10_then_5 d fz t Q x1 x2)) :
    t_X10_then_0 d L fz t Q x1 x2 I J := by
  exact pm_go d [(5, [0, 1, 2]), (41, [0, 1])] 400 h
theorem e_X10_then {d L : Nat} {fz t : Bool} {Q : pm_R → pm_H → Prop} {x1 : Int32} {x2 : Int32} {I : Nat → Nat → Int32} {J : Nat → Nat → Int64}
    (h : pm_Ev d 282 [.ref 0, .int x1] (pm_hp L fz t I J) (K_X10_then_5 d fz t Q x1 x2)) :
    pm_Ev (d + 1) 258 [.ref 0, .int x1, .int x2] (pm_hp L fz t I J) Q := pm_Ev_in rfl (b_X10_then_0 h)
set_option maxRecDepth 100000 in
theorem b_X10_then_5 {d L : Nat} {fz t : Bool} {Q : pm_R → pm_H → Prop} {x1 : Int32} {x2 : Int32} {I : Nat → Nat → Int32} {J : Nat → Nat → Int64}
    (h : ((x2 < (nI 0) → Q (.inr 2) (pm_hp L true t I J)) ∧ (¬ x2 < (nI 0) → ((x2 ≤ (nI 30) → pm_Ev d 12 [.ref 3, .ref (pm_td t), .ref 23, .int x2] (pm_hp L fz t I J) (K_X10_then_41 d fz t Q x1)) ∧ (¬ x2 ≤ (nI 30) → Q (.inr 2) (pm_hp L true t I J)))))) :
    t_X10_then_5 d L fz t Q x1 x2 I J := by
  cases t <;> exact pm_go d [(5, [0, 1, 2]), (41, [0, 1])] 400 ⟨fun q0 => ((h).1 q0), fun q0 => ⟨fun q1 => ((((h).2 q0)).1 q1), fun q1 => ((((h).2 q0)).2 q1)⟩⟩
theorem kb_X10_then_5 {d L : Nat} {fz t : Bool} {Q : pm_R → pm_H → Prop} {x1 : Int32} {x2 : Int32} {fz1 : Bool} {I : Nat → Nat → Int32} {J : Nat → Nat → Int64}
    (h : ((x2 < (nI 0) → Q (.inr 2) (pm_hp L true t I J)) ∧ (¬ x2 < (nI 0) → ((x2 ≤ (nI 30) → pm_Ev d 12 [.ref 3, .ref (pm_td t), .ref 23, .int x2] (pm_hp L true t I J) (K_X10_then_41 d true t Q x1)) ∧ (¬ x2 ≤ (nI 30) → Q (.inr 2) (pm_hp L true t I J)))))) :
    K_X10_then_5 d fz t Q x1 x2 (.inl none) (pm_hp L fz1 t I J) := b_X10_then_5 h
set_option maxRecDepth 100000 in
theorem b_X10_then_41 {d L : Nat} {fz t : Bool} {Q : pm_R → pm_H → Prop} {x1 : Int32} {I : Nat → Nat → Int32} {J : Nat → Nat → Int64}
    (h : (vp_in x1 12 ∧ Q (.inl (some (.int (I 4 (x1).toNatClampNeg)))) (pm_hp L fz t I J))) :
    t_X10_then_41 d L fz t Q x1 I J := by
  exact pm_go d [(5, [0, 1, 2]), (41, [0, 1])] 400 ⟨(h).1, (h).2⟩
theorem kb_X10_then_41 {d L : Nat} {fz t : Bool} {Q : pm_R → pm_H → Prop} {x1 : Int32} {fz1 : Bool} {I : Nat → Nat → Int32} {J : Nat → Nat → Int64}
    (h : (vp_in x1 12 ∧ Q (.inl (some (.int (I 4 (x1).toNatClampNeg)))) (pm_hp L fz t I J))) :
    K_X10_then_41 d fz t Q x1 (.inl none) (pm_hp L fz1 t I J) := b_X10_then_41 h
def t_X10_granted_0 (d L : Nat) (fz t : Bool) (Q : pm_R → pm_H → Prop) (x1 : Int32) (I : Nat → Nat → Int32) (J : Nat → Nat → Int64) : Prop := pm_T (pm_Ev d) 259 Q (0, [(0, .ref 0), (1, .int x1)], [], pm_hp L fz t I J, 0, 0)
def t_X10_granted_29 (d L : Nat) (fz t : Bool) (Q : pm_R → pm_H → Prop) (r : Int32) (I : Nat → Nat → Int32) (J : Nat → Nat → Int64) : Prop := pm_T (pm_Ev d) 259 Q (29, [], [.int r], pm_hp L fz t I J, 0, 0)
def K_X10_granted_29 (d : Nat) (fz t : Bool) (Q : pm_R → pm_H → Prop) : pm_R → pm_H → Prop := pm_K d 259 Q 29 [] [] 118 0 fz 0 0
set_option maxRecDepth 100000 in
theorem b_X10_granted_0 {d L : Nat} {fz t : Bool} {Q : pm_R → pm_H → Prop} {x1 : Int32} {I : Nat → Nat → Int32} {J : Nat → Nat → Int64}
    (h : ((x1 < (nI 0) → Q (.inr 2) (pm_hp L true t I J)) ∧ (¬ x1 < (nI 0) → ((x1 ≤ (nI 30) → pm_Ev d 102 [.ref 0, .ref 23, .int x1] (pm_hp L fz t I J) (K_X10_granted_29 d fz t Q)) ∧ (¬ x1 ≤ (nI 30) → Q (.inr 2) (pm_hp L true t I J)))))) :
    t_X10_granted_0 d L fz t Q x1 I J := by
  exact pm_go d [(29, [])] 400 ⟨fun q0 => ((h).1 q0), fun q0 => ⟨fun q1 => ((((h).2 q0)).1 q1), fun q1 => ((((h).2 q0)).2 q1)⟩⟩
theorem e_X10_granted {d L : Nat} {fz t : Bool} {Q : pm_R → pm_H → Prop} {x1 : Int32} {I : Nat → Nat → Int32} {J : Nat → Nat → Int64}
    (h : ((x1 < (nI 0) → Q (.inr 2) (pm_hp L true t I J)) ∧ (¬ x1 < (nI 0) → ((x1 ≤ (nI 30) → pm_Ev d 102 [.ref 0, .ref 23, .int x1] (pm_hp L fz t I J) (K_X10_granted_29 d fz t Q)) ∧ (¬ x1 ≤ (nI 30) → Q (.inr 2) (pm_hp L true t I J)))))) :
    pm_Ev (d + 1) 259 [.ref 0, .int x1] (pm_hp L fz t I J) Q := pm_Ev_in rfl (b_X10_granted_0 h)
set_option maxRecDepth 100000 in
theorem b_X10_granted_29 {d L : Nat} {fz t : Bool} {Q : pm_R → pm_H → Prop} {r : Int32} {I : Nat → Nat → Int32} {J : Nat → Nat → Int64}
    (h : Q (.inl (some (.int r))) (pm_hp L fz t I J)) :
    t_X10_granted_29 d L fz t Q r I J := by
  exact pm_go d [(29, [])] 400 h
theorem kb_X10_granted_29 {d L : Nat} {fz t : Bool} {Q : pm_R → pm_H → Prop} {r : Int32} {fz1 : Bool} {I : Nat → Nat → Int32} {J : Nat → Nat → Int64}
    (h : Q (.inl (some (.int r))) (pm_hp L fz t I J)) :
    K_X10_granted_29 d fz t Q (.inl (some (.int r))) (pm_hp L fz1 t I J) := b_X10_granted_29 h
def t_X10_worn_0 (d L : Nat) (fz t : Bool) (Q : pm_R → pm_H → Prop) (x1 : Int32) (I : Nat → Nat → Int32) (J : Nat → Nat → Int64) : Prop := pm_T (pm_Ev d) 260 Q (0, [(0, .ref 0), (1, .int x1)], [], pm_hp L fz t I J, 0, 0)
def t_X10_worn_5 (d L : Nat) (fz t : Bool) (Q : pm_R → pm_H → Prop) (x1 : Int32) (I : Nat → Nat → Int32) (J : Nat → Nat → Int64) : Prop := pm_T (pm_Ev d) 260 Q (5, [(0, .ref 0), (1, .int x1)], [], pm_hp L fz t I J, 1, 6)
def K_X10_worn_5 (d : Nat) (fz t : Bool) (Q : pm_R → pm_H → Prop) (x1 : Int32) : pm_R → pm_H → Prop := pm_K d 260 Q 5 [(0, .ref 0), (1, .int x1)] [] 118 1 fz 1 6
def t_X10_worn_29 (d L : Nat) (fz t : Bool) (Q : pm_R → pm_H → Prop) (x1 : Int32) (r : Int32) (I : Nat → Nat → Int32) (J : Nat → Nat → Int64) : Prop := pm_T (pm_Ev d) 260 Q (29, [(0, .ref 0), (1, .int x1)], [.int r], pm_hp L fz t I J, 1, 6)
def K_X10_worn_29 (d : Nat) (fz t : Bool) (Q : pm_R → pm_H → Prop) (x1 : Int32) : pm_R → pm_H → Prop := pm_K d 260 Q 29 [(0, .ref 0), (1, .int x1)] [] 118 0 fz 1 6
set_option maxRecDepth 100000 in
theorem b_X10_worn_0 {d L : Nat} {fz t : Bool} {Q : pm_R → pm_H → Prop} {x1 : Int32} {I : Nat → Nat → Int32} {J : Nat → Nat → Int64}
    (h : pm_Ev d 281 [.ref 0, .int x1] (pm_hp L fz t I J) (K_X10_worn_5 d fz t Q x1)) :
    t_X10_worn_0 d L fz t Q x1 I J := by
  exact pm_go d [(5, [0, 1]), (29, [0, 1])] 400 h
theorem e_X10_worn {d L : Nat} {fz t : Bool} {Q : pm_R → pm_H → Prop} {x1 : Int32} {I : Nat → Nat → Int32} {J : Nat → Nat → Int64}
    (h : pm_Ev d 281 [.ref 0, .int x1] (pm_hp L fz t I J) (K_X10_worn_5 d fz t Q x1)) :
    pm_Ev (d + 1) 260 [.ref 0, .int x1] (pm_hp L fz t I J) Q := pm_Ev_in rfl (b_X10_worn_0 h)
set_option maxRecDepth 100000 in
theorem b_X10_worn_5 {d L : Nat} {fz t : Bool} {Q : pm_R → pm_H → Prop} {x1 : Int32} {I : Nat → Nat → Int32} {J : Nat → Nat → Int64}
    (h : (vp_in x1 10 ∧ (((I 25 (x1).toNatClampNeg) < (nI 9) → pm_Ev d 79 [.ref 23, .int x1] (pm_hp L fz t I J) (K_X10_worn_29 d fz t Q x1)) ∧ (¬ (I 25 (x1).toNatClampNeg) < (nI 9) → Q (.inl (some (.int (nI 0)))) (pm_hp L fz t I J))))) :
    t_X10_worn_5 d L fz t Q x1 I J := by
  exact pm_go d [(5, [0, 1]), (29, [0, 1])] 400 ⟨(h).1, ⟨fun q0 => (((h).2).1 q0), fun q0 => (((h).2).2 q0)⟩⟩
theorem kb_X10_worn_5 {d L : Nat} {fz t : Bool} {Q : pm_R → pm_H → Prop} {x1 : Int32} {fz1 : Bool} {I : Nat → Nat → Int32} {J : Nat → Nat → Int64}
    (h : (vp_in x1 10 ∧ (((I 25 (x1).toNatClampNeg) < (nI 9) → pm_Ev d 79 [.ref 23, .int x1] (pm_hp L true t I J) (K_X10_worn_29 d true t Q x1)) ∧ (¬ (I 25 (x1).toNatClampNeg) < (nI 9) → Q (.inl (some (.int (nI 0)))) (pm_hp L true t I J))))) :
    K_X10_worn_5 d fz t Q x1 (.inl none) (pm_hp L fz1 t I J) := b_X10_worn_5 h
set_option maxRecDepth 100000 in
theorem b_X10_worn_29 {d L : Nat} {fz t : Bool} {Q : pm_R → pm_H → Prop} {x1 : Int32} {r : Int32} {I : Nat → Nat → Int32} {J : Nat → Nat → Int64}
    (h : ((¬ r = (nI 0) → (vp_in x1 10 ∧ Q (.inl (some (.int ((nI 9) - (I 25 (x1).toNatClampNeg))))) (pm_hp L fz t I J))) ∧ (r = (nI 0) → Q (.inl (some (.int (-1 : Int32)))) (pm_hp L fz t I J)))) :
    t_X10_worn_29 d L fz t Q x1 r I J := by
  exact pm_go d [(5, [0, 1]), (29, [0, 1])] 400 ⟨fun q0 => ⟨(((h).1 q0)).1, (((h).1 q0)).2⟩, fun q0 => ((h).2 q0)⟩
theorem kb_X10_worn_29 {d L : Nat} {fz t : Bool} {Q : pm_R → pm_H → Prop} {x1 : Int32} {r : Int32} {fz1 : Bool} {I : Nat → Nat → Int32} {J : Nat → Nat → Int64}
    (h : ((¬ r = (nI 0) → (vp_in x1 10 ∧ Q (.inl (some (.int ((nI 9) - (I 25 (x1).toNatClampNeg))))) (pm_hp L fz t I J))) ∧ (r = (nI 0) → Q (.inl (some (.int (-1 : Int32)))) (pm_hp L fz t I J)))) :
    K_X10_worn_29 d fz t Q x1 (.inl (some (.int r))) (pm_hp L fz1 t I J) := b_X10_worn_29 h
def t_X10_floats_0 (d L : Nat) (fz t : Bool) (Q : pm_R → pm_H → Prop) (x1 : Int32) (I : Nat → Nat → Int32) (J : Nat → Nat → Int64) : Prop := pm_T (pm_Ev d) 261 Q (0, [(0, .ref 0), (1, .int x1)], [], pm_hp L fz t I J, 0, 0)
def t_X10_floats_40 (d L : Nat) (fz t : Bool) (Q : pm_R → pm_H → Prop) (x1 : Int32) (I : Nat → Nat → Int32) (J : Nat → Nat → Int64) : Prop := pm_T (pm_Ev d) 261 Q (40, [(0, .ref 0), (1, .int x1)], [], pm_hp L fz t I J, 0, 0)
def K_X10_floats_40 (d : Nat) (fz t : Bool) (Q : pm_R → pm_H → Prop) (x1 : Int32) : pm_R → pm_H → Prop := pm_K d 261 Q 40 [(0, .ref 0), (1, .int x1)] [] 118 0 fz 0 0
def t_X10_floats_10 (d L : Nat) (fz t : Bool) (Q : pm_R → pm_H → Prop) (x1 : Int32) (r : Int32) (I : Nat → Nat → Int32) (J : Nat → Nat → Int64) : Prop := pm_T (pm_Ev d) 261 Q (10, [(0, .ref 0), (1, .int x1)], [.int r], pm_hp L fz t I J, 0, 0)
def K_X10_floats_10 (d : Nat) (fz t : Bool) (Q : pm_R → pm_H → Prop) (x1 : Int32) : pm_R → pm_H → Prop := pm_K d 261 Q 10 [(0, .ref 0), (1, .int x1)] [] 118 0 fz 0 0
def t_X10_floats_58 (d L : Nat) (fz t : Bool) (Q : pm_R → pm_H → Prop) (x2 : Int32) (x3 : Int32) (I : Nat → Nat → Int32) (J : Nat → Nat → Int64) : Prop := pm_T (pm_Ev d) 261 Q (58, [(0, .ref 0), (2, .int x2), (3, .int x3)], [], pm_hp L fz t I J, 0, 0)
def t_X10_floats_53 (d L : Nat) (fz t : Bool) (Q : pm_R → pm_H → Prop) (r : Int32) (I : Nat → Nat → Int32) (J : Nat → Nat → Int64) : Prop := pm_T (pm_Ev d) 261 Q (53, [], [.int r], pm_hp L fz t I J, 0, 0)
def K_X10_floats_53 (d : Nat) (fz t : Bool) (Q : pm_R → pm_H → Prop) : pm_R → pm_H → Prop := pm_K d 261 Q 53 [] [] 118 0 fz 0 0
def t_X10_floats_77 (d L : Nat) (fz t : Bool) (Q : pm_R → pm_H → Prop) (x2 : Int32) (x3 : Int32) (r : Int32) (I : Nat → Nat → Int32) (J : Nat → Nat → Int64) : Prop := pm_T (pm_Ev d) 261 Q (77, [(0, .ref 0), (2, .int x2), (3, .int x3)], [.int r], pm_hp L fz t I J, 0, 0)
def K_X10_floats_77 (d : Nat) (fz t : Bool) (Q : pm_R → pm_H → Prop) (x2 : Int32) (x3 : Int32) : pm_R → pm_H → Prop := pm_K d 261 Q 77 [(0, .ref 0), (2, .int x2), (3, .int x3)] [] 118 0 fz 0 0
def t_X10_floats_85 (d L : Nat) (fz t : Bool) (Q : pm_R → pm_H → Prop) (x2 : Int32) (x3 : Int32) (s0 : Int32) (r : Int32) (I : Nat → Nat → Int32) (J : Nat → Nat → Int64) : Prop := pm_T (pm_Ev d) 261 Q (85, [(0, .ref 0), (2, .int x2), (3, .int x3)], [.int r, .int s0], pm_hp L fz t I J, 0, 0)
def K_X10_floats_85 (d : Nat) (fz t : Bool) (Q : pm_R → pm_H → Prop) (x2 : Int32) (x3 : Int32) (s0 : Int32) : pm_R → pm_H → Prop := pm_K d 261 Q 85 [(0, .ref 0), (2, .int x2), (3, .int x3)] [.int s0] 118 0 fz 0 0
set_option maxRecDepth 100000 in
theorem b_X10_floats_0 {d L : Nat} {fz t : Bool} {Q : pm_R → pm_H → Prop} {x1 : Int32} {I : Nat → Nat → Int32} {J : Nat → Nat → Int64}
    (h : ((x1 = (-1 : Int32) → pm_Ev d 12 [.ref 3, .ref (pm_td t), .ref 23, .int (nI 0)] (pm_hp L fz t I J) (K_X10_floats_40 d fz t Q x1)) ∧ (¬ x1 = (-1 : Int32) → pm_Ev d 96 [.ref 0, .int x1] (pm_hp L fz t I J) (K_X10_floats_10 d fz t Q x1)))) :
    t_X10_floats_0 d L fz t Q x1 I J := by
  cases t <;> exact pm_go d [(10, [0, 1]), (40, [0, 1]), (53, []), (58, [0, 2, 3]), (77, [0, 2, 3]), (85, [0, 2, 3])] 400 ⟨fun q0 => ((h).1 q0), fun q0 => ((h).2 q0)⟩
theorem e_X10_floats {d L : Nat} {fz t : Bool} {Q : pm_R → pm_H → Prop} {x1 : Int32} {I : Nat → Nat → Int32} {J : Nat → Nat → Int64}
    (h : ((x1 = (-1 : Int32) → pm_Ev d 12 [.ref 3, .ref (pm_td t), .ref 23, .int (nI 0)] (pm_hp L fz t I J) (K_X10_floats_40 d fz t Q x1)) ∧ (¬ x1 = (-1 : Int32) → pm_Ev d 96 [.ref 0, .int x1] (pm_hp L fz t I J) (K_X10_floats_10 d fz t Q x1)))) :
    pm_Ev (d + 1) 261 [.ref 0, .int x1] (pm_hp L fz t I J) Q := pm_Ev_in rfl (b_X10_floats_0 h)
set_option maxRecDepth 100000 in
theorem b_X10_floats_40 {d L : Nat} {fz t : Bool} {Q : pm_R → pm_H → Prop} {x1 : Int32} {I : Nat → Nat → Int32} {J : Nat → Nat → Int64}
    (h : ((x1 = (-1 : Int32) → t_X10_floats_58 d L fz t Q (nI 0) (nI 1) I J) ∧ (¬ x1 = (-1 : Int32) → pm_Ev d 20 [.ref 3, .int x1] (pm_hp L fz t I J) (K_X10_floats_53 d fz t Q)))) :
    t_X10_floats_40 d L fz t Q x1 I J := by
  exact pm_go d [(10, [0, 1]), (40, [0, 1]), (53, []), (58, [0, 2, 3]), (77, [0, 2, 3]), (85, [0, 2, 3])] 400 ⟨fun q0 => ((h).1 q0), fun q0 => ((h).2 q0)⟩
theorem kb_X10_floats_40 {d L : Nat} {fz t : Bool} {Q : pm_R → pm_H → Prop} {x1 : Int32} {fz1 : Bool} {I : Nat → Nat → Int32} {J : Nat → Nat → Int64}
    (h : ((x1 = (-1 : Int32) → t_X10_floats_58 d L fz t Q (nI 0) (nI 1) I J) ∧ (¬ x1 = (-1 : Int32) → pm_Ev d 20 [.ref 3, .int x1] (pm_hp L fz t I J) (K_X10_floats_53 d fz t Q)))) :
    K_X10_floats_40 d fz t Q x1 (.inl none) (pm_hp L fz1 t I J) := b_X10_floats_40 h
set_option maxRecDepth 100000 in
theorem b_X10_floats_10 {d L : Nat} {fz t : Bool} {Q : pm_R → pm_H → Prop} {x1 : Int32} {r : Int32} {I : Nat → Nat → Int32} {J : Nat → Nat → Int64}
    (h : ((¬ r = (nI 0) → pm_Ev d 12 [.ref 3, .ref (pm_td t), .ref 23, .int (nI 0)] (pm_hp L fz t I J) (K_X10_floats_40 d fz t Q x1)) ∧ (r = (nI 0) → Q (.inr 1) (pm_hp L true t I J)))) :
    t_X10_floats_10 d L fz t Q x1 r I J := by
  cases t <;> exact pm_go d [(10, [0, 1]), (40, [0, 1]), (53, []), (58, [0, 2, 3]), (77, [0, 2, 3]), (85, [0, 2, 3])] 400 ⟨fun q0 => ((h).1 q0), fun q0 => ((h).2 q0)⟩
theorem kb_X10_floats_10 {d L : Nat} {fz t : Bool} {Q : pm_R → pm_H → Prop} {x1 : Int32} {r : Int32} {fz1 : Bool} {I : Nat → Nat → Int32} {J : Nat → Nat → Int64}
    (h : ((¬ r = (nI 0) → pm_Ev d 12 [.ref 3, .ref (pm_td t), .ref 23, .int (nI 0)] (pm_hp L fz t I J) (K_X10_floats_40 d fz t Q x1)) ∧ (r = (nI 0) → Q (.inr 1) (pm_hp L true t I J)))) :
    K_X10_floats_10 d fz t Q x1 (.inl (some (.int r))) (pm_hp L fz1 t I J) := b_X10_floats_10 h
set_option maxRecDepth 100000 in
theorem b_X10_floats_58 {d L : Nat} {fz t : Bool} {Q : pm_R → pm_H → Prop} {x2 : Int32} {x3 : Int32} {I : Nat → Nat → Int32} {J : Nat → Nat → Int64}
    (h : (((I (pm_td t) 11) ≤ x3 → Q (.inl (some (.int x2))) (pm_hp L fz t I J)) ∧ (¬ (I (pm_td t) 11) ≤ x3 → pm_Ev d 20 [.ref 3, .int x3] (pm_hp L fz t I J) (K_X10_floats_77 d fz t Q x2 x3)))) :
    t_X10_floats_58 d L fz t Q x2 x3 I J := by
  cases t <;> exact pm_go d [(10, [0, 1]), (40, [0, 1]), (53, []), (58, [0, 2, 3]), (77, [0, 2, 3]), (85, [0, 2, 3])] 400 ⟨fun q0 => ((h).1 q0), fun q0 => ((h).2 q0)⟩
set_option maxRecDepth 100000 in
theorem b_X10_floats_53 {d L : Nat} {fz t : Bool} {Q : pm_R → pm_H → Prop} {r : Int32} {I : Nat → Nat → Int32} {J : Nat → Nat → Int64}
    (h : Q (.inl (some (.int r))) (pm_hp L fz t I J)) :
    t_X10_floats_53 d L fz t Q r I J := by
  exact pm_go d [(10, [0, 1]), (40, [0, 1]), (53, []), (58, [0, 2, 3]), (77, [0, 2, 3]), (85, [0, 2, 3])] 400 h
theorem kb_X10_floats_53 {d L : Nat} {fz t : Bool} {Q : pm_R → pm_H → Prop} {r : Int32} {fz1 : Bool} {I : Nat → Nat → Int32} {J : Nat → Nat → Int64}
    (h : Q (.inl (some (.int r))) (pm_hp L fz t I J)) :
    K_X10_floats_53 d fz t Q (.inl (some (.int r))) (pm_hp L fz1 t I J) := b_X10_floats_53 h
set_option maxRecDepth 100000 in
theorem b_X10_floats_77 {d L : Nat} {fz t : Bool} {Q : pm_R → pm_H → Prop} {x2 : Int32} {x3 : Int32} {r : Int32} {I : Nat → Nat → Int32} {J : Nat → Nat → Int64}
    (h : pm_Ev d 20 [.ref 3, .int x2] (pm_hp L fz t I J) (K_X10_floats_85 d fz t Q x2 x3 r)) :
    t_X10_floats_77 d L fz t Q x2 x3 r I J := by
  exact pm_go d [(10, [0, 1]), (40, [0, 1]), (53, []), (58, [0, 2, 3]), (77, [0, 2, 3]), (85, [0, 2, 3])] 400 h
theorem kb_X10_floats_77 {d L : Nat} {fz t : Bool} {Q : pm_R → pm_H → Prop} {x2 : Int32} {x3 : Int32} {r : Int32} {fz1 : Bool} {I : Nat → Nat → Int32} {J : Nat → Nat → Int64}
    (h : pm_Ev d 20 [.ref 3, .int x2] (pm_hp L fz t I J) (K_X10_floats_85 d fz t Q x2 x3 r)) :
    K_X10_floats_77 d fz t Q x2 x3 (.inl (some (.int r))) (pm_hp L fz1 t I J) := b_X10_floats_77 h
set_option maxRecDepth 100000 in
theorem b_X10_floats_85 {d L : Nat} {fz t : Bool} {Q : pm_R → pm_H → Prop} {x2 : Int32} {x3 : Int32} {s0 : Int32} {r : Int32} {I : Nat → Nat → Int32} {J : Nat → Nat → Int64}
    (h : ((s0 ≤ r → t_X10_floats_58 d L fz t Q x2 (x3 + (nI 1)) I J) ∧ (¬ s0 ≤ r → t_X10_floats_58 d L fz t Q x3 (x3 + (nI 1)) I J))) :
    t_X10_floats_85 d L fz t Q x2 x3 s0 r I J := by
  exact pm_go d [(10, [0, 1]), (40, [0, 1]), (53, []), (58, [0, 2, 3]), (77, [0, 2, 3]), (85, [0, 2, 3])] 400 ⟨fun q0 => ((h).1 q0), fun q0 => ((h).2 q0)⟩
theorem kb_X10_floats_85 {d L : Nat} {fz t : Bool} {Q : pm_R → pm_H → Prop} {x2 : Int32} {x3 : Int32} {s0 : Int32} {r : Int32} {fz1 : Bool} {I : Nat → Nat → Int32} {J : Nat → Nat → Int64}
    (h : ((s0 ≤ r → t_X10_floats_58 d L fz t Q x2 (x3 + (nI 1)) I J) ∧ (¬ s0 ≤ r → t_X10_floats_58 d L fz t Q x3 (x3 + (nI 1)) I J))) :
    K_X10_floats_85 d fz t Q x2 x3 s0 (.inl (some (.int r))) (pm_hp L fz1 t I J) := b_X10_floats_85 h
def t_X10_stands_0 (d L : Nat) (fz t : Bool) (Q : pm_R → pm_H → Prop) (x1 : Int32) (x2 : Int32) (I : Nat → Nat → Int32) (J : Nat → Nat → Int64) : Prop := pm_T (pm_Ev d) 262 Q (0, [(0, .ref 0), (1, .int x1), (2, .int x2)], [], pm_hp L fz t I J, 0, 0)
def t_X10_stands_5 (d L : Nat) (fz t : Bool) (Q : pm_R → pm_H → Prop) (x1 : Int32) (x2 : Int32) (I : Nat → Nat → Int32) (J : Nat → Nat → Int64) : Prop := pm_T (pm_Ev d) 262 Q (5, [(0, .ref 0), (1, .int x1), (2, .int x2)], [], pm_hp L fz t I J, 1, 6)
def K_X10_stands_5 (d : Nat) (fz t : Bool) (Q : pm_R → pm_H → Prop) (x1 : Int32) (x2 : Int32) : pm_R → pm_H → Prop := pm_K d 262 Q 5 [(0, .ref 0), (1, .int x1), (2, .int x2)] [] 118 1 fz 1 6
def t_X10_stands_10 (d L : Nat) (fz t : Bool) (Q : pm_R → pm_H → Prop) (x1 : Int32) (x2 : Int32) (I : Nat → Nat → Int32) (J : Nat → Nat → Int64) : Prop := pm_T (pm_Ev d) 262 Q (10, [(0, .ref 0), (1, .int x1), (2, .int x2)], [], pm_hp L fz t I J, 2, 12)
def K_X10_stands_10 (d : Nat) (fz t : Bool) (Q : pm_R → pm_H → Prop) (x1 : Int32) (x2 : Int32) : pm_R → pm_H → Prop := pm_K d 262 Q 10 [(0, .ref 0), (1, .int x1), (2, .int x2)] [] 118 1 fz 2 12
def t_X10_stands_26 (d L : Nat) (fz t : Bool) (Q : pm_R → pm_H → Prop) (x1 : Int32) (x2 : Int32) (I : Nat → Nat → Int32) (J : Nat → Nat → Int64) : Prop := pm_T (pm_Ev d) 262 Q (26, [(0, .ref 0), (1, .int x1), (2, .int x2)], [], pm_hp L fz t I J, 2, 12)
def K_X10_stands_26 (d : Nat) (fz t : Bool) (Q : pm_R → pm_H → Prop) (x1 : Int32) (x2 : Int32) : pm_R → pm_H → Prop := pm_K d 262 Q 26 [(0, .ref 0), (1, .int x1), (2, .int x2)] [] 118 0 fz 2 12
def t_X10_stands_31 (d L : Nat) (fz t : Bool) (Q : pm_R → pm_H → Prop) (x1 : Int32) (x2 : Int32) (x3 : Int32) (x4 : Int32) (I : Nat → Nat → Int32) (J : Nat → Nat → Int64) : Prop := pm_T (pm_Ev d) 262 Q (31, [(0, .ref 0), (1, .int x1), (2, .int x2), (3, .int x3), (4, .int x4)], [], pm_hp L fz t I J, 2, 12)
def t_X10_stands_57 (d L : Nat) (fz t : Bool) (Q : pm_R → pm_H → Prop) (x1 : Int32) (x2 : Int32) (x3 : Int32) (x4 : Int32) (r : Int32) (I : Nat → Nat → Int32) (J : Nat → Nat → Int64) : Prop := pm_T (pm_Ev d) 262 Q (57, [(0, .ref 0), (1, .int x1), (2, .int x2), (3, .int x3), (4, .int x4)], [.int r], pm_hp L fz t I J, 2, 12)
def K_X10_stands_57 (d : Nat) (fz t : Bool) (Q : pm_R → pm_H → Prop) (x1 : Int32) (x2 : Int32) (x3 : Int32) (x4 : Int32) : pm_R → pm_H → Prop := pm_K d 262 Q 57 [(0, .ref 0), (1, .int x1), (2, .int x2), (3, .int x3), (4, .int x4)] [] 118 0 fz 2 12
def t_X10_stands_86 (d L : Nat) (fz t : Bool) (Q : pm_R → pm_H → Prop) (x1 : Int32) (x2 : Int32) (x4 : Int32) (s0 : Int32) (r : Int32) (I : Nat → Nat → Int32) (J : Nat → Nat → Int64) : Prop := pm_T (pm_Ev d) 262 Q (86, [(0, .ref 0), (1, .int x1), (2, .int x2), (4, .int x4)], [.int r, .int s0], pm_hp L fz t I J, 2, 12)
def K_X10_stands_86 (d : Nat) (fz t : Bool) (Q : pm_R → pm_H → Prop) (x1 : Int32) (x2 : Int32) (x4 : Int32) (s0 : Int32) : pm_R → pm_H → Prop := pm_K d 262 Q 86 [(0, .ref 0), (1, .int x1), (2, .int x2), (4, .int x4)] [.int s0] 118 0 fz 2 12
def t_X10_stands_78 (d L : Nat) (fz t : Bool) (Q : pm_R → pm_H → Prop) (s0 : Int32) (r : Int32) (I : Nat → Nat → Int32) (J : Nat → Nat → Int64) : Prop := pm_T (pm_Ev d) 262 Q (78, [], [.int r, .int s0], pm_hp L fz t I J, 2, 12)
def K_X10_stands_78 (d : Nat) (fz t : Bool) (Q : pm_R → pm_H → Prop) (s0 : Int32) : pm_R → pm_H → Prop := pm_K d 262 Q 78 [] [.int s0] 118 0 fz 2 12
set_option maxRecDepth 100000 in
theorem b_X10_stands_0 {d L : Nat} {fz t : Bool} {Q : pm_R → pm_H → Prop} {x1 : Int32} {x2 : Int32} {I : Nat → Nat → Int32} {J : Nat → Nat → Int64}
    (h : pm_Ev d 283 [.ref 0, .int x1] (pm_hp L fz t I J) (K_X10_stands_5 d fz t Q x1 x2)) :
    t_X10_stands_0 d L fz t Q x1 x2 I J := by
  exact pm_go d [(5, [0, 1, 2]), (10, [0, 1, 2]), (26, [0, 1, 2]), (31, [0, 1, 2, 3, 4]), (57, [0, 1, 2, 3, 4]), (78, []), (86, [0, 1, 2, 4])] 400 h
theorem e_X10_stands {d L : Nat} {fz t : Bool} {Q : pm_R → pm_H → Prop} {x1 : Int32} {x2 : Int32} {I : Nat → Nat → Int32} {J : Nat → Nat → Int64}
    (h : pm_Ev d 283 [.ref 0, .int x1] (pm_hp L fz t I J) (K_X10_stands_5 d fz t Q x1 x2)) :
    pm_Ev (d + 1) 262 [.ref 0, .int x1, .int x2] (pm_hp L fz t I J) Q := pm_Ev_in rfl (b_X10_stands_0 h)
set_option maxRecDepth 100000 in
theorem b_X10_stands_5 {d L : Nat} {fz t : Bool} {Q : pm_R → pm_H → Prop} {x1 : Int32} {x2 : Int32} {I : Nat → Nat → Int32} {J : Nat → Nat → Int64}
    (h : pm_Ev d 284 [.int x2, .int (nI 1)] (pm_hp L fz t I J) (K_X10_stands_10 d fz t Q x1 x2)) :
    t_X10_stands_5 d L fz t Q x1 x2 I J := by
  exact pm_go d [(5, [0, 1, 2]), (10, [0, 1, 2]), (26, [0, 1, 2]), (31, [0, 1, 2, 3, 4]), (57, [0, 1, 2, 3, 4]), (78, []), (86, [0, 1, 2, 4])] 400 h
theorem kb_X10_stands_5 {d L : Nat} {fz t : Bool} {Q : pm_R → pm_H → Prop} {x1 : Int32} {x2 : Int32} {fz1 : Bool} {I : Nat → Nat → Int32} {J : Nat → Nat → Int64}
    (h : pm_Ev d 284 [.int x2, .int (nI 1)] (pm_hp L true t I J) (K_X10_stands_10 d true t Q x1 x2)) :
    K_X10_stands_5 d fz t Q x1 x2 (.inl none) (pm_hp L fz1 t I J) := b_X10_stands_5 h
set_option maxRecDepth 100000 in
theorem b_X10_stands_10 {d L : Nat} {fz t : Bool} {Q : pm_R → pm_H → Prop} {x1 : Int32} {x2 : Int32} {I : Nat → Nat → Int32} {J : Nat → Nat → Int64}
    (h : pm_Ev d 12 [.ref 3, .ref (pm_td t), .ref 23, .int (nI 0)] (pm_hp L fz t I J) (K_X10_stands_26 d fz t Q x1 x2)) :
    t_X10_stands_10 d L fz t Q x1 x2 I J := by
  cases t <;> exact pm_go d [(5, [0, 1, 2]), (10, [0, 1, 2]), (26, [0, 1, 2]), (31, [0, 1, 2, 3, 4]), (57, [0, 1, 2, 3, 4]), (78, []), (86, [0, 1, 2, 4])] 400 h
theorem kb_X10_stands_10 {d L : Nat} {fz t : Bool} {Q : pm_R → pm_H → Prop} {x1 : Int32} {x2 : Int32} {fz1 : Bool} {I : Nat → Nat → Int32} {J : Nat → Nat → Int64}
    (h : pm_Ev d 12 [.ref 3, .ref (pm_td t), .ref 23, .int (nI 0)] (pm_hp L true t I J) (K_X10_stands_26 d true t Q x1 x2)) :
    K_X10_stands_10 d fz t Q x1 x2 (.inl none) (pm_hp L fz1 t I J) := b_X10_stands_10 h
set_option maxRecDepth 100000 in
theorem b_X10_stands_26 {d L : Nat} {fz t : Bool} {Q : pm_R → pm_H → Prop} {x1 : Int32} {x2 : Int32} {I : Nat → Nat → Int32} {J : Nat → Nat → Int64}
    (h : t_X10_stands_31 d L fz t Q x1 x2 (nI 0) (nI 0) I J) :
    t_X10_stands_26 d L fz t Q x1 x2 I J := by
  exact pm_go d [(5, [0, 1, 2]), (10, [0, 1, 2]), (26, [0, 1, 2]), (31, [0, 1, 2, 3, 4]), (57, [0, 1, 2, 3, 4]), (78, []), (86, [0, 1, 2, 4])] 400 h
theorem kb_X10_stands_26 {d L : Nat} {fz t : Bool} {Q : pm_R → pm_H → Prop} {x1 : Int32} {x2 : Int32} {fz1 : Bool} {I : Nat → Nat → Int32} {J : Nat → Nat → Int64}
    (h : t_X10_stands_31 d L fz t Q x1 x2 (nI 0) (nI 0) I J) :
    K_X10_stands_26 d fz t Q x1 x2 (.inl none) (pm_hp L fz1 t I J) := b_X10_stands_26 h
set_option maxRecDepth 100000 in
theorem b_X10_stands_31 {d L : Nat} {fz t : Bool} {Q : pm_R → pm_H → Prop} {x1 : Int32} {x2 : Int32} {x3 : Int32} {x4 : Int32} {I : Nat → Nat → Int32} {J : Nat → Nat → Int64}
    (h : (((I 3 1) ≤ x4 → ((¬ x2 = (nI 0) → Q (.inl (some (.int x3))) (pm_hp L fz t I J)) ∧ (x2 = (nI 0) → Q (.inl (some (.int (-1 : Int32)))) (pm_hp L fz t I J)))) ∧ (¬ (I 3 1) ≤ x4 → pm_Ev d 21 [.ref 3, .ref (pm_td t), .int x1, .int x4] (pm_hp L fz t I J) (K_X10_stands_57 d fz t Q x1 x2 x3 x4)))) :
    t_X10_stands_31 d L fz t Q x1 x2 x3 x4 I J := by
  cases t <;> exact pm_go d [(5, [0, 1, 2]), (10, [0, 1, 2]), (26, [0, 1, 2]), (31, [0, 1, 2, 3, 4]), (57, [0, 1, 2, 3, 4]), (78, []), (86, [0, 1, 2, 4])] 400 ⟨fun q0 => ⟨fun q1 => ((((h).1 q0)).1 q1), fun q1 => ((((h).1 q0)).2 q1)⟩, fun q0 => ((h).2 q0)⟩
set_option maxRecDepth 100000 in
theorem b_X10_stands_57 {d L : Nat} {fz t : Bool} {Q : pm_R → pm_H → Prop} {x1 : Int32} {x2 : Int32} {x3 : Int32} {x4 : Int32} {r : Int32} {I : Nat → Nat → Int32} {J : Nat → Nat → Int64}
    (h : ((¬ x2 = (nI 0) → pm_Ev d 236 [.int r] (pm_hp L fz t I J) (K_X10_stands_86 d fz t Q x1 x2 x4 x3)) ∧ (x2 = (nI 0) → ((r = (nI 0) → pm_Ev d 236 [.int r] (pm_hp L fz t I J) (K_X10_stands_86 d fz t Q x1 x2 x4 x3)) ∧ (¬ r = (nI 0) → pm_Ev d 97 [.int r] (pm_hp L fz t I J) (K_X10_stands_78 d fz t Q ((nI 100) * x4))))))) :
    t_X10_stands_57 d L fz t Q x1 x2 x3 x4 r I J := by
  exact pm_go d [(5, [0, 1, 2]), (10, [0, 1, 2]), (26, [0, 1, 2]), (31, [0, 1, 2, 3, 4]), (57, [0, 1, 2, 3, 4]), (78, []), (86, [0, 1, 2, 4])] 400 ⟨fun q0 => ((h).1 q0), fun q0 => ⟨fun q1 => ((((h).2 q0)).1 q1), fun q1 => ((((h).2 q0)).2 q1)⟩⟩
theorem kb_X10_stands_57 {d L : Nat} {fz t : Bool} {Q : pm_R → pm_H → Prop} {x1 : Int32} {x2 : Int32} {x3 : Int32} {x4 : Int32} {r : Int32} {fz1 : Bool} {I : Nat → Nat → Int32} {J : Nat → Nat → Int64}
    (h : ((¬ x2 = (nI 0) → pm_Ev d 236 [.int r] (pm_hp L fz t I J) (K_X10_stands_86 d fz t Q x1 x2 x4 x3)) ∧ (x2 = (nI 0) → ((r = (nI 0) → pm_Ev d 236 [.int r] (pm_hp L fz t I J) (K_X10_stands_86 d fz t Q x1 x2 x4 x3)) ∧ (¬ r = (nI 0) → pm_Ev d 97 [.int r] (pm_hp L fz t I J) (K_X10_stands_78 d fz t Q ((nI 100) * x4))))))) :
    K_X10_stands_57 d fz t Q x1 x2 x3 x4 (.inl (some (.int r))) (pm_hp L fz1 t I J) := b_X10_stands_57 h
set_option maxRecDepth 100000 in
theorem b_X10_stands_86 {d L : Nat} {fz t : Bool} {Q : pm_R → pm_H → Prop} {x1 : Int32} {x2 : Int32} {x4 : Int32} {s0 : Int32} {r : Int32} {I : Nat → Nat → Int32} {J : Nat → Nat → Int64}
    (h : t_X10_stands_31 d L fz t Q x1 x2 (s0 + r) (x4 + (nI 1)) I J) :
    t_X10_stands_86 d L fz t Q x1 x2 x4 s0 r I J := by
  exact pm_go d [(5, [0, 1, 2]), (10, [0, 1, 2]), (26, [0, 1, 2]), (31, [0, 1, 2, 3, 4]), (57, [0, 1, 2, 3, 4]), (78, []), (86, [0, 1, 2, 4])] 400 h
theorem kb_X10_stands_86 {d L : Nat} {fz t : Bool} {Q : pm_R → pm_H → Prop} {x1 : Int32} {x2 : Int32} {x4 : Int32} {s0 : Int32} {r : Int32} {fz1 : Bool} {I : Nat → Nat → Int32} {J : Nat → Nat → Int64}
    (h : t_X10_stands_31 d L fz t Q x1 x2 (s0 + r) (x4 + (nI 1)) I J) :
    K_X10_stands_86 d fz t Q x1 x2 x4 s0 (.inl (some (.int r))) (pm_hp L fz1 t I J) := b_X10_stands_86 h
set_option maxRecDepth 100000 in
theorem b_X10_stands_78 {d L : Nat} {fz t : Bool} {Q : pm_R → pm_H → Prop} {s0 : Int32} {r : Int32} {I : Nat → Nat → Int32} {J : Nat → Nat → Int64}
    (h : Q (.inl (some (.int (s0 + r)))) (pm_hp L fz t I J)) :
    t_X10_stands_78 d L fz t Q s0 r I J := by
  exact pm_go d [(5, [0, 1, 2]), (10, [0, 1, 2]), (26, [0, 1, 2]), (31, [0, 1, 2, 3, 4]), (57, [0, 1, 2, 3, 4]), (78, []), (86, [0, 1, 2, 4])] 400 h
theorem kb_X10_stands_78 {d L : Nat} {fz t : Bool} {Q : pm_R → pm_H → Prop} {s0 : Int32} {r : Int32} {fz1 : Bool} {I : Nat → Nat → Int32} {J : Nat → Nat → Int64}
    (h : Q (.inl (some (.int (s0 + r)))) (pm_hp L fz t I J)) :
    K_X10_stands_78 d fz t Q s0 (.inl (some (.int r))) (pm_hp L fz1 t I J) := b_X10_stands_78 h
def t_X10_order_0 (d L : Nat) (fz t : Bool) (Q : pm_R → pm_H → Prop) (x1 : Int32) (I : Nat → Nat → Int32) (J : Nat → Nat → Int64) : Prop := pm_T (pm_Ev d) 263 Q (0, [(0, .ref 0), (1, .int x1)], [], pm_hp L fz t I J, 0, 0)
def t_X10_order_55 (d L : Nat) (fz t : Bool) (Q : pm_R → pm_H → Prop) (r : Int32) (I : Nat → Nat → Int32) (J : Nat → Nat → Int64) : Prop := pm_T (pm_Ev d) 263 Q (55, [], [.int r], pm_hp L fz t I J, 0, 0)
def K_X10_order_55 (d : Nat) (fz t : Bool) (Q : pm_R → pm_H → Prop) : pm_R → pm_H → Prop := pm_K d 263 Q 55 [] [] 118 0 fz 0 0
def t_X10_order_10 (d L : Nat) (fz t : Bool) (Q : pm_R → pm_H → Prop) (x1 : Int32) (r : Int32) (I : Nat → Nat → Int32) (J : Nat → Nat → Int64) : Prop := pm_T (pm_Ev d) 263 Q (10, [(0, .ref 0), (1, .int x1)], [.int r], pm_hp L fz t I J, 0, 0)
def K_X10_order_10 (d : Nat) (fz t : Bool) (Q : pm_R → pm_H → Prop) (x1 : Int32) : pm_R → pm_H → Prop := pm_K d 263 Q 10 [(0, .ref 0), (1, .int x1)] [] 118 0 fz 0 0
set_option maxRecDepth 100000 in
theorem b_X10_order_0 {d L : Nat} {fz t : Bool} {Q : pm_R → pm_H → Prop} {x1 : Int32} {I : Nat → Nat → Int32} {J : Nat → Nat → Int64}
    (h : ((x1 = (-1 : Int32) → (((I 23 3) ≤ (nI 9) → pm_Ev d 65 [.ref 12, .ref (pm_td t), .ref 23, .int x1] (pm_hp L fz t I J) (K_X10_order_55 d fz t Q)) ∧ (¬ (I 23 3) ≤ (nI 9) → Q (.inl (some (.int (-2 : Int32)))) (pm_hp L fz t I J)))) ∧ (¬ x1 = (-1 : Int32) → pm_Ev d 95 [.ref 0, .int x1] (pm_hp L fz t I J) (K_X10_order_10 d fz t Q x1)))) :
    t_X10_order_0 d L fz t Q x1 I J := by
  cases t <;> exact pm_go d [(10, [0, 1]), (55, [])] 400 ⟨fun q0 => ⟨fun q1 => ((((h).1 q0)).1 q1), fun q1 => ((((h).1 q0)).2 q1)⟩, fun q0 => ((h).2 q0)⟩
theorem e_X10_order {d L : Nat} {fz t : Bool} {Q : pm_R → pm_H → Prop} {x1 : Int32} {I : Nat → Nat → Int32} {J : Nat → Nat → Int64}
    (h : ((x1 = (-1 : Int32) → (((I 23 3) ≤ (nI 9) → pm_Ev d 65 [.ref 12, .ref (pm_td t), .ref 23, .int x1] (pm_hp L fz t I J) (K_X10_order_55 d fz t Q)) ∧ (¬ (I 23 3) ≤ (nI 9) → Q (.inl (some (.int (-2 : Int32)))) (pm_hp L fz t I J)))) ∧ (¬ x1 = (-1 : Int32) → pm_Ev d 95 [.ref 0, .int x1] (pm_hp L fz t I J) (K_X10_order_10 d fz t Q x1)))) :
    pm_Ev (d + 1) 263 [.ref 0, .int x1] (pm_hp L fz t I J) Q := pm_Ev_in rfl (b_X10_order_0 h)
set_option maxRecDepth 100000 in
theorem b_X10_order_55 {d L : Nat} {fz t : Bool} {Q : pm_R → pm_H → Prop} {r : Int32} {I : Nat → Nat → Int32} {J : Nat → Nat → Int64}
    (h : Q (.inl (some (.int r))) (pm_hp L fz t I J)) :
    t_X10_order_55 d L fz t Q r I J := by
  exact pm_go d [(10, [0, 1]), (55, [])] 400 h
theorem kb_X10_order_55 {d L : Nat} {fz t : Bool} {Q : pm_R → pm_H → Prop} {r : Int32} {fz1 : Bool} {I : Nat → Nat → Int32} {J : Nat → Nat → Int64}
    (h : Q (.inl (some (.int r))) (pm_hp L fz t I J)) :
    K_X10_order_55 d fz t Q (.inl (some (.int r))) (pm_hp L fz1 t I J) := b_X10_order_55 h
set_option maxRecDepth 100000 in
theorem b_X10_order_10 {d L : Nat} {fz t : Bool} {Q : pm_R → pm_H → Prop} {x1 : Int32} {r : Int32} {I : Nat → Nat → Int32} {J : Nat → Nat → Int64}
    (h : ((¬ r = (nI 0) → (((I 23 3) ≤ (nI 9) → pm_Ev d 65 [.ref 12, .ref (pm_td t), .ref 23, .int x1] (pm_hp L fz t I J) (K_X10_order_55 d fz t Q)) ∧ (¬ (I 23 3) ≤ (nI 9) → Q (.inl (some (.int (-2 : Int32)))) (pm_hp L fz t I J)))) ∧ (r = (nI 0) → Q (.inr 1) (pm_hp L true t I J)))) :
    t_X10_order_10 d L fz t Q x1 r I J := by
  cases t <;> exact pm_go d [(10, [0, 1]), (55, [])] 400 ⟨fun q0 => ⟨fun q1 => ((((h).1 q0)).1 q1), fun q1 => ((((h).1 q0)).2 q1)⟩, fun q0 => ((h).2 q0)⟩
theorem kb_X10_order_10 {d L : Nat} {fz t : Bool} {Q : pm_R → pm_H → Prop} {x1 : Int32} {r : Int32} {fz1 : Bool} {I : Nat → Nat → Int32} {J : Nat → Nat → Int64}
    (h : ((¬ r = (nI 0) → (((I 23 3) ≤ (nI 9) → pm_Ev d 65 [.ref 12, .ref (pm_td t), .ref 23, .int x1] (pm_hp L fz t I J) (K_X10_order_55 d fz t Q)) ∧ (¬ (I 23 3) ≤ (nI 9) → Q (.inl (some (.int (-2 : Int32)))) (pm_hp L fz t I J)))) ∧ (r = (nI 0) → Q (.inr 1) (pm_hp L true t I J)))) :
    K_X10_order_10 d fz t Q x1 (.inl (some (.int r))) (pm_hp L fz1 t I J) := b_X10_order_10 h
def t_X10_punching_0 (d L : Nat) (fz t : Bool) (Q : pm_R → pm_H → Prop) (x1 : Int32) (x2 : Int32) (x3 : Int32) (I : Nat → Nat → Int32) (J : Nat → Nat → Int64) : Prop := pm_T (pm_Ev d) 264 Q (0, [(0, .ref 0), (1, .int x1), (2, .int x2), (3, .int x3)], [], pm_hp L fz t I J, 0, 0)
def t_X10_punching_5 (d L : Nat) (fz t : Bool) (Q : pm_R → pm_H → Prop) (x1 : Int32) (x2 : Int32) (x3 : Int32) (I : Nat → Nat → Int32) (J : Nat → Nat → Int64) : Prop := pm_T (pm_Ev d) 264 Q (5, [(0, .ref 0), (1, .int x1), (2, .int x2), (3, .int x3)], [], pm_hp L fz t I J, 1, 6)
def K_X10_punching_5 (d : Nat) (fz t : Bool) (Q : pm_R → pm_H → Prop) (x1 : Int32) (x2 : Int32) (x3 : Int32) : pm_R → pm_H → Prop := pm_K d 264 Q 5 [(0, .ref 0), (1, .int x1), (2, .int x2), (3, .int x3)] [] 118 1 fz 1 6
def t_X10_punching_10 (d L : Nat) (fz t : Bool) (Q : pm_R → pm_H → Prop) (x1 : Int32) (x2 : Int32) (x3 : Int32) (I : Nat → Nat → Int32) (J : Nat → Nat → Int64) : Prop := pm_T (pm_Ev d) 264 Q (10, [(0, .ref 0), (1, .int x1), (2, .int x2), (3, .int x3)], [], pm_hp L fz t I J, 2, 12)
def K_X10_punching_10 (d : Nat) (fz t : Bool) (Q : pm_R → pm_H → Prop) (x1 : Int32) (x2 : Int32) (x3 : Int32) : pm_R → pm_H → Prop := pm_K d 264 Q 10 [(0, .ref 0), (1, .int x1), (2, .int x2), (3, .int x3)] [] 118 1 fz 2 12
def t_X10_punching_15 (d L : Nat) (fz t : Bool) (Q : pm_R → pm_H → Prop) (x1 : Int32) (x2 : Int32) (x3 : Int32) (I : Nat → Nat → Int32) (J : Nat → Nat → Int64) : Prop := pm_T (pm_Ev d) 264 Q (15, [(0, .ref 0), (1, .int x1), (2, .int x2), (3, .int x3)], [], pm_hp L fz t I J, 3, 18)
def K_X10_punching_15 (d : Nat) (fz t : Bool) (Q : pm_R → pm_H → Prop) (x1 : Int32) (x2 : Int32) (x3 : Int32) : pm_R → pm_H → Prop := pm_K d 264 Q 15 [(0, .ref 0), (1, .int x1), (2, .int x2), (3, .int x3)] [] 118 1 fz 3 18
def t_X10_punching_44 (d L : Nat) (fz t : Bool) (Q : pm_R → pm_H → Prop) (x1 : Int32) (x2 : Int32) (x3 : Int32) (x4 : Int32) (x5 : Int32) (x6 : Int32) (I : Nat → Nat → Int32) (J : Nat → Nat → Int64) : Prop := pm_T (pm_Ev d) 264 Q (44, [(0, .ref 0), (1, .int x1), (2, .int x2), (3, .int x3), (4, .int x4), (5, .int x5), (6, .int x6)], [], pm_hp L fz t I J, 3, 18)
def K_X10_punching_44 (d : Nat) (fz t : Bool) (Q : pm_R → pm_H → Prop) (x1 : Int32) (x2 : Int32) (x3 : Int32) (x4 : Int32) (x5 : Int32) (x6 : Int32) : pm_R → pm_H → Prop := pm_K d 264 Q 44 [(0, .ref 0), (1, .int x1), (2, .int x2), (3, .int x3), (4, .int x4), (5, .int x5), (6, .int x6)] [] 118 0 fz 3 18
def t_X10_punching_47 (d L : Nat) (fz t : Bool) (Q : pm_R → pm_H → Prop) (x1 : Int32) (x2 : Int32) (x3 : Int32) (x4 : Int32) (x5 : Int32) (x6 : Int32) (x7 : Int32) (I : Nat → Nat → Int32) (J : Nat → Nat → Int64) : Prop := pm_T (pm_Ev d) 264 Q (47, [(0, .ref 0), (1, .int x1), (2, .int x2), (3, .int x3), (4, .int x4), (5, .int x5), (6, .int x6), (7, .int x7)], [], pm_hp L fz t I J, 3, 18)
def t_X10_punching_67 (d L : Nat) (fz t : Bool) (Q : pm_R → pm_H → Prop) (x1 : Int32) (x2 : Int32) (x3 : Int32) (x4 : Int32) (x5 : Int32) (x6 : Int32) (x7 : Int32) (r : Int32) (I : Nat → Nat → Int32) (J : Nat → Nat → Int64) : Prop := pm_T (pm_Ev d) 264 Q (67, [(0, .ref 0), (1, .int x1), (2, .int x2), (3, .int x3), (4, .int x4), (5, .int x5), (6, .int x6), (7, .int x7)], [.int r], pm_hp L fz t I J, 3, 18)
def K_X10_punching_67 (d : Nat) (fz t : Bool) (Q : pm_R → pm_H → Prop) (x1 : Int32) (x2 : Int32) (x3 : Int32) (x4 : Int32) (x5 : Int32) (x6 : Int32) (x7 : Int32) : pm_R → pm_H → Prop := pm_K d 264 Q 67 [(0, .ref 0), (1, .int x1), (2, .int x2), (3, .int x3), (4, .int x4), (5, .int x5), (6, .int x6), (7, .int x7)] [] 118 0 fz 3 18
def t_X10_punching_86 (d L : Nat) (fz t : Bool) (Q : pm_R → pm_H → Prop) (x1 : Int32) (x2 : Int32) (x3 : Int32) (x4 : Int32) (x5 : Int32) (x6 : Int32) (x7 : Int32) (x8 : Int32) (r : Int32) (I : Nat → Nat → Int32) (J : Nat → Nat → Int64) : Prop := pm_T (pm_Ev d) 264 Q (86, [(0, .ref 0), (1, .int x1), (2, .int x2), (3, .int x3), (4, .int x4), (5, .int x5), (6, .int x6), (7, .int x7), (8, .int x8)], [.int r], pm_hp L fz t I J, 3, 18)
def K_X10_punching_86 (d : Nat) (fz t : Bool) (Q : pm_R → pm_H → Prop) (x1 : Int32) (x2 : Int32) (x3 : Int32) (x4 : Int32) (x5 : Int32) (x6 : Int32) (x7 : Int32) (x8 : Int32) : pm_R → pm_H → Prop := pm_K d 264 Q 86 [(0, .ref 0), (1, .int x1), (2, .int x2), (3, .int x3), (4, .int x4), (5, .int x5), (6, .int x6), (7, .int x7), (8, .int x8)] [] 118 0 fz 3 18
def t_X10_punching_116 (d L : Nat) (fz t : Bool) (Q : pm_R → pm_H → Prop) (x1 : Int32) (x2 : Int32) (x3 : Int32) (x4 : Int32) (x5 : Int32) (x6 : Int32) (x7 : Int32) (x8 : Int32) (I : Nat → Nat → Int32) (J : Nat → Nat → Int64) : Prop := pm_T (pm_Ev d) 264 Q (116, [(0, .ref 0), (1, .int x1), (2, .int x2), (3, .int x3), (4, .int x4), (5, .int x5), (6, .int x6), (7, .int x7), (8, .int x8)], [], pm_hp L fz t I J, 3, 18)
def K_X10_punching_116 (d : Nat) (fz t : Bool) (Q : pm_R → pm_H → Prop) (x1 : Int32) (x2 : Int32) (x3 : Int32) (x4 : Int32) (x5 : Int32) (x6 : Int32) (x7 : Int32) (x8 : Int32) : pm_R → pm_H → Prop := pm_K d 264 Q 116 [(0, .ref 0), (1, .int x1), (2, .int x2), (3, .int x3), (4, .int x4), (5, .int x5), (6, .int x6), (7, .int x7), (8, .int x8)] [] 118 0 fz 3 18
def t_X10_punching_128 (d L : Nat) (fz t : Bool) (Q : pm_R → pm_H → Prop) (x1 : Int32) (x2 : Int32) (x3 : Int32) (x4 : Int32) (x5 : Int32) (x6 : Int32) (x7 : Int32) (x8 : Int32) (r : Int32) (I : Nat → Nat → Int32) (J : Nat → Nat → Int64) : Prop := pm_T (pm_Ev d) 264 Q (128, [(0, .ref 0), (1, .int x1), (2, .int x2), (3, .int x3), (4, .int x4), (5, .int x5), (6, .int x6), (7, .int x7), (8, .int x8)], [.int r], pm_hp L fz t I J, 3, 18)
def K_X10_punching_128 (d : Nat) (fz t : Bool) (Q : pm_R → pm_H → Prop) (x1 : Int32) (x2 : Int32) (x3 : Int32) (x4 : Int32) (x5 : Int32) (x6 : Int32) (x7 : Int32) (x8 : Int32) : pm_R → pm_H → Prop := pm_K d 264 Q 128 [(0, .ref 0), (1, .int x1), (2, .int x2), (3, .int x3), (4, .int x4), (5, .int x5), (6, .int x6), (7, .int x7), (8, .int x8)] [] 118 0 fz 3 18
set_option maxRecDepth 100000 in
theorem b_X10_punching_0 {d L : Nat} {fz t : Bool} {Q : pm_R → pm_H → Prop} {x1 : Int32} {x2 : Int32} {x3 : Int32} {I : Nat → Nat → Int32} {J : Nat → Nat → Int64}
    (h : pm_Ev d 281 [.ref 0, .int x1] (pm_hp L fz t I J) (K_X10_punching_5 d fz t Q x1 x2 x3)) :
    t_X10_punching_0 d L fz t Q x1 x2 x3 I J := by
  exact pm_go d [(5, [0, 1, 2, 3]), (10, [0, 1, 2, 3]), (15, [0, 1, 2, 3]), (44, [0, 1, 2, 3, 4, 5, 6]), (47, [0, 1, 2, 3, 4, 5, 6, 7]), (67, [0, 1, 2, 3, 4, 5, 6, 7]), (86, [0, 1, 2, 3, 4, 5, 6, 7, 8]), (116, [0, 1, 2, 3, 4, 5, 6, 7, 8]), (128, [0, 1, 2, 3, 4, 5, 6, 7, 8])] 400 h
theorem e_X10_punching {d L : Nat} {fz t : Bool} {Q : pm_R → pm_H → Prop} {x1 : Int32} {x2 : Int32} {x3 : Int32} {I : Nat → Nat → Int32} {J : Nat → Nat → Int64}
    (h : pm_Ev d 281 [.ref 0, .int x1] (pm_hp L fz t I J) (K_X10_punching_5 d fz t Q x1 x2 x3)) :
    pm_Ev (d + 1) 264 [.ref 0, .int x1, .int x2, .int x3] (pm_hp L fz t I J) Q := pm_Ev_in rfl (b_X10_punching_0 h)
set_option maxRecDepth 100000 in
theorem b_X10_punching_5 {d L : Nat} {fz t : Bool} {Q : pm_R → pm_H → Prop} {x1 : Int32} {x2 : Int32} {x3 : Int32} {I : Nat → Nat → Int32} {J : Nat → Nat → Int64}
    (h : pm_Ev d 283 [.ref 0, .int x2] (pm_hp L fz t I J) (K_X10_punching_10 d fz t Q x1 x2 x3)) :
    t_X10_punching_5 d L fz t Q x1 x2 x3 I J := by
  exact pm_go d [(5, [0, 1, 2, 3]), (10, [0, 1, 2, 3]), (15, [0, 1, 2, 3]), (44, [0, 1, 2, 3, 4, 5, 6]), (47, [0, 1, 2, 3, 4, 5, 6, 7]), (67, [0, 1, 2, 3, 4, 5, 6, 7]), (86, [0, 1, 2, 3, 4, 5, 6, 7, 8]), (116, [0, 1, 2, 3, 4, 5, 6, 7, 8]), (128, [0, 1, 2, 3, 4, 5, 6, 7, 8])] 400 h
theorem kb_X10_punching_5 {d L : Nat} {fz t : Bool} {Q : pm_R → pm_H → Prop} {x1 : Int32} {x2 : Int32} {x3 : Int32} {fz1 : Bool} {I : Nat → Nat → Int32} {J : Nat → Nat → Int64}
    (h : pm_Ev d 283 [.ref 0, .int x2] (pm_hp L true t I J) (K_X10_punching_10 d true t Q x1 x2 x3)) :
    K_X10_punching_5 d fz t Q x1 x2 x3 (.inl none) (pm_hp L fz1 t I J) := b_X10_punching_5 h
set_option maxRecDepth 100000 in
theorem b_X10_punching_10 {d L : Nat} {fz t : Bool} {Q : pm_R → pm_H → Prop} {x1 : Int32} {x2 : Int32} {x3 : Int32} {I : Nat → Nat → Int32} {J : Nat → Nat → Int64}
    (h : pm_Ev d 284 [.int x3, .int (nI 1)] (pm_hp L fz t I J) (K_X10_punching_15 d fz t Q x1 x2 x3)) :
    t_X10_punching_10 d L fz t Q x1 x2 x3 I J := by
  exact pm_go d [(5, [0, 1, 2, 3]), (10, [0, 1, 2, 3]), (15, [0, 1, 2, 3]), (44, [0, 1, 2, 3, 4, 5, 6]), (47, [0, 1, 2, 3, 4, 5, 6, 7]), (67, [0, 1, 2, 3, 4, 5, 6, 7]), (86, [0, 1, 2, 3, 4, 5, 6, 7, 8]), (116, [0, 1, 2, 3, 4, 5, 6, 7, 8]), (128, [0, 1, 2, 3, 4, 5, 6, 7, 8])] 400 h
theorem kb_X10_punching_10 {d L : Nat} {fz t : Bool} {Q : pm_R → pm_H → Prop} {x1 : Int32} {x2 : Int32} {x3 : Int32} {fz1 : Bool} {I : Nat → Nat → Int32} {J : Nat → Nat → Int64}
    (h : pm_Ev d 284 [.int x3, .int (nI 1)] (pm_hp L true t I J) (K_X10_punching_15 d true t Q x1 x2 x3)) :
    K_X10_punching_10 d fz t Q x1 x2 x3 (.inl none) (pm_hp L fz1 t I J) := b_X10_punching_10 h
set_option maxRecDepth 100000 in
theorem b_X10_punching_15 {d L : Nat} {fz t : Bool} {Q : pm_R → pm_H → Prop} {x1 : Int32} {x2 : Int32} {x3 : Int32} {I : Nat → Nat → Int32} {J : Nat → Nat → Int64}
    (h : (vp_in x1 10 ∧ pm_Ev d 78 [.ref 27, .ref 23] (pm_hp L fz t I J) (K_X10_punching_44 d fz t Q x1 x2 x3 (I 24 (x1).toNatClampNeg) (nI 13) (-1 : Int32)))) :
    t_X10_punching_15 d L fz t Q x1 x2 x3 I J := by
  exact pm_go d [(5, [0, 1, 2, 3]), (10, [0, 1, 2, 3]), (15, [0, 1, 2, 3]), (44, [0, 1, 2, 3, 4, 5, 6]), (47, [0, 1, 2, 3, 4, 5, 6, 7]), (67, [0, 1, 2, 3, 4, 5, 6, 7]), (86, [0, 1, 2, 3, 4, 5, 6, 7, 8]), (116, [0, 1, 2, 3, 4, 5, 6, 7, 8]), (128, [0, 1, 2, 3, 4, 5, 6, 7, 8])] 400 ⟨(h).1, (h).2⟩
theorem kb_X10_punching_15 {d L : Nat} {fz t : Bool} {Q : pm_R → pm_H → Prop} {x1 : Int32} {x2 : Int32} {x3 : Int32} {fz1 : Bool} {I : Nat → Nat → Int32} {J : Nat → Nat → Int64}
    (h : (vp_in x1 10 ∧ pm_Ev d 78 [.ref 27, .ref 23] (pm_hp L true t I J) (K_X10_punching_44 d true t Q x1 x2 x3 (I 24 (x1).toNatClampNeg) (nI 13) (-1 : Int32)))) :
    K_X10_punching_15 d fz t Q x1 x2 x3 (.inl none) (pm_hp L fz1 t I J) := b_X10_punching_15 h
set_option maxRecDepth 100000 in
theorem b_X10_punching_44 {d L : Nat} {fz t : Bool} {Q : pm_R → pm_H → Prop} {x1 : Int32} {x2 : Int32} {x3 : Int32} {x4 : Int32} {x5 : Int32} {x6 : Int32} {I : Nat → Nat → Int32} {J : Nat → Nat → Int64}
    (h : t_X10_punching_47 d L fz t Q x1 x2 x3 x4 x5 x6 (nI 0) I J) :
    t_X10_punching_44 d L fz t Q x1 x2 x3 x4 x5 x6 I J := by
  exact pm_go d [(5, [0, 1, 2, 3]), (10, [0, 1, 2, 3]), (15, [0, 1, 2, 3]), (44, [0, 1, 2, 3, 4, 5, 6]), (47, [0, 1, 2, 3, 4, 5, 6, 7]), (67, [0, 1, 2, 3, 4, 5, 6, 7]), (86, [0, 1, 2, 3, 4, 5, 6, 7, 8]), (116, [0, 1, 2, 3, 4, 5, 6, 7, 8]), (128, [0, 1, 2, 3, 4, 5, 6, 7, 8])] 400 h
theorem kb_X10_punching_44 {d L : Nat} {fz t : Bool} {Q : pm_R → pm_H → Prop} {x1 : Int32} {x2 : Int32} {x3 : Int32} {x4 : Int32} {x5 : Int32} {x6 : Int32} {fz1 : Bool} {I : Nat → Nat → Int32} {J : Nat → Nat → Int64}
    (h : t_X10_punching_47 d L fz t Q x1 x2 x3 x4 x5 x6 (nI 0) I J) :
    K_X10_punching_44 d fz t Q x1 x2 x3 x4 x5 x6 (.inl none) (pm_hp L fz1 t I J) := b_X10_punching_44 h
set_option maxRecDepth 100000 in
theorem b_X10_punching_47 {d L : Nat} {fz t : Bool} {Q : pm_R → pm_H → Prop} {x1 : Int32} {x2 : Int32} {x3 : Int32} {x4 : Int32} {x5 : Int32} {x6 : Int32} {x7 : Int32} {I : Nat → Nat → Int32} {J : Nat → Nat → Int64}
    (h : (((I (pm_td t) 12) < x7 → ((¬ x3 = (nI 0) → Q (.inl (some (.int x6))) (pm_hp L fz t I J)) ∧ (x3 = (nI 0) → ((x6 = (-1 : Int32) → Q (.inl (some (.int x6))) (pm_hp L fz t I J)) ∧ (¬ x6 = (-1 : Int32) → Q (.inl (some (.int x5))) (pm_hp L fz t I J)))))) ∧ (¬ (I (pm_td t) 12) < x7 → pm_Ev d 236 [.int (x7 ^^^ x4)] (pm_hp L fz t I J) (K_X10_punching_67 d fz t Q x1 x2 x3 x4 x5 x6 x7)))) :
    t_X10_punching_47 d L fz t Q x1 x2 x3 x4 x5 x6 x7 I J := by
  cases t <;> exact pm_go d [(5, [0, 1, 2, 3]), (10, [0, 1, 2, 3]), (15, [0, 1, 2, 3]), (44, [0, 1, 2, 3, 4, 5, 6]), (47, [0, 1, 2, 3, 4, 5, 6, 7]), (67, [0, 1, 2, 3, 4, 5, 6, 7]), (86, [0, 1, 2, 3, 4, 5, 6, 7, 8]), (116, [0, 1, 2, 3, 4, 5, 6, 7, 8]), (128, [0, 1, 2, 3, 4, 5, 6, 7, 8])] 400 ⟨fun q0 => ⟨fun q1 => ((((h).1 q0)).1 q1), fun q1 => ⟨fun q2 => ((((((h).1 q0)).2 q1)).1 q2), fun q2 => ((((((h).1 q0)).2 q1)).2 q2)⟩⟩, fun q0 => ((h).2 q0)⟩
set_option maxRecDepth 100000 in
theorem b_X10_punching_67 {d L : Nat} {fz t : Bool} {Q : pm_R → pm_H → Prop} {x1 : Int32} {x2 : Int32} {x3 : Int32} {x4 : Int32} {x5 : Int32} {x6 : Int32} {x7 : Int32} {r : Int32} {I : Nat → Nat → Int32} {J : Nat → Nat → Int64}
    (h : ((x5 ≤ r → t_X10_punching_47 d L fz t Q x1 x2 x3 x4 x5 x6 (x7 + (nI 1)) I J) ∧ (¬ x5 ≤ r → pm_Ev d 105 [.ref 0, .int (x7 ^^^ x4), .int x2] (pm_hp L fz t I J) (K_X10_punching_86 d fz t Q x1 x2 x3 x4 x5 x6 x7 r)))) :
    t_X10_punching_67 d L fz t Q x1 x2 x3 x4 x5 x6 x7 r I J := by
  exact pm_go d [(5, [0, 1, 2, 3]), (10, [0, 1, 2, 3]), (15, [0, 1, 2, 3]), (44, [0, 1, 2, 3, 4, 5, 6]), (47, [0, 1, 2, 3, 4, 5, 6, 7]), (67, [0, 1, 2, 3, 4, 5, 6, 7]), (86, [0, 1, 2, 3, 4, 5, 6, 7, 8]), (116, [0, 1, 2, 3, 4, 5, 6, 7, 8]), (128, [0, 1, 2, 3, 4, 5, 6, 7, 8])] 400 ⟨fun q0 => ((h).1 q0), fun q0 => ((h).2 q0)⟩
theorem kb_X10_punching_67 {d L : Nat} {fz t : Bool} {Q : pm_R → pm_H → Prop} {x1 : Int32} {x2 : Int32} {x3 : Int32} {x4 : Int32} {x5 : Int32} {x6 : Int32} {x7 : Int32} {r : Int32} {fz1 : Bool} {I : Nat → Nat → Int32} {J : Nat → Nat → Int64}
    (h : ((x5 ≤ r → t_X10_punching_47 d L fz t Q x1 x2 x3 x4 x5 x6 (x7 + (nI 1)) I J) ∧ (¬ x5 ≤ r → pm_Ev d 105 [.ref 0, .int (x7 ^^^ x4), .int x2] (pm_hp L fz t I J) (K_X10_punching_86 d fz t Q x1 x2 x3 x4 x5 x6 x7 r)))) :
    K_X10_punching_67 d fz t Q x1 x2 x3 x4 x5 x6 x7 (.inl (some (.int r))) (pm_hp L fz1 t I J) := b_X10_punching_67 h
set_option maxRecDepth 100000 in
theorem b_X10_punching_86 {d L : Nat} {fz t : Bool} {Q : pm_R → pm_H → Prop} {x1 : Int32} {x2 : Int32} {x3 : Int32} {x4 : Int32} {x5 : Int32} {x6 : Int32} {x7 : Int32} {x8 : Int32} {r : Int32} {I : Nat → Nat → Int32} {J : Nat → Nat → Int64}
    (h : ((r = (nI 0) → t_X10_punching_47 d L fz t Q x1 x2 x3 x4 x5 x6 (x7 + (nI 1)) I J) ∧ (¬ r = (nI 0) → (vp_in x1 10 ∧ pm_Ev d 12 [.ref 3, .ref (pm_td t), .ref 27, .int (nI 0)] (pm_hp L fz t (pm_u I 28 (x1).toNatClampNeg x7) J) (K_X10_punching_116 d fz t Q x1 x2 x3 x4 x5 x6 x7 x8))))) :
    t_X10_punching_86 d L fz t Q x1 x2 x3 x4 x5 x6 x7 x8 r I J := by
  cases t <;> exact pm_go d [(5, [0, 1, 2, 3]), (10, [0, 1, 2, 3]), (15, [0, 1, 2, 3]), (44, [0, 1, 2, 3, 4, 5, 6]), (47, [0, 1, 2, 3, 4, 5, 6, 7]), (67, [0, 1, 2, 3, 4, 5, 6, 7]), (86, [0, 1, 2, 3, 4, 5, 6, 7, 8]), (116, [0, 1, 2, 3, 4, 5, 6, 7, 8]), (128, [0, 1, 2, 3, 4, 5, 6, 7, 8])] 400 ⟨fun q0 => ((h).1 q0), fun q0 => ⟨(((h).2 q0)).1, (((h).2 q0)).2⟩⟩
theorem kb_X10_punching_86 {d L : Nat} {fz t : Bool} {Q : pm_R → pm_H → Prop} {x1 : Int32} {x2 : Int32} {x3 : Int32} {x4 : Int32} {x5 : Int32} {x6 : Int32} {x7 : Int32} {x8 : Int32} {r : Int32} {fz1 : Bool} {I : Nat → Nat → Int32} {J : Nat → Nat → Int64}
    (h : ((r = (nI 0) → t_X10_punching_47 d L fz t Q x1 x2 x3 x4 x5 x6 (x7 + (nI 1)) I J) ∧ (¬ r = (nI 0) → (vp_in x1 10 ∧ pm_Ev d 12 [.ref 3, .ref (pm_td t), .ref 27, .int (nI 0)] (pm_hp L fz t (pm_u I 28 (x1).toNatClampNeg x7) J) (K_X10_punching_116 d fz t Q x1 x2 x3 x4 x5 x6 x7 x8))))) :
    K_X10_punching_86 d fz t Q x1 x2 x3 x4 x5 x6 x7 x8 (.inl (some (.int r))) (pm_hp L fz1 t I J) := b_X10_punching_86 h
set_option maxRecDepth 100000 in
theorem b_X10_punching_116 {d L : Nat} {fz t : Bool} {Q : pm_R → pm_H → Prop} {x1 : Int32} {x2 : Int32} {x3 : Int32} {x4 : Int32} {x5 : Int32} {x6 : Int32} {x7 : Int32} {x8 : Int32} {I : Nat → Nat → Int32} {J : Nat → Nat → Int64}
    (h : pm_Ev d 22 [.ref 3, .ref (pm_td t), .int x2] (pm_hp L fz t I J) (K_X10_punching_128 d fz t Q x1 x2 x3 x4 x5 x6 x7 x8)) :
    t_X10_punching_116 d L fz t Q x1 x2 x3 x4 x5 x6 x7 x8 I J := by
  cases t <;> exact pm_go d [(5, [0, 1, 2, 3]), (10, [0, 1, 2, 3]), (15, [0, 1, 2, 3]), (44, [0, 1, 2, 3, 4, 5, 6]), (47, [0, 1, 2, 3, 4, 5, 6, 7]), (67, [0, 1, 2, 3, 4, 5, 6, 7]), (86, [0, 1, 2, 3, 4, 5, 6, 7, 8]), (116, [0, 1, 2, 3, 4, 5, 6, 7, 8]), (128, [0, 1, 2, 3, 4, 5, 6, 7, 8])] 400 h
theorem kb_X10_punching_116 {d L : Nat} {fz t : Bool} {Q : pm_R → pm_H → Prop} {x1 : Int32} {x2 : Int32} {x3 : Int32} {x4 : Int32} {x5 : Int32} {x6 : Int32} {x7 : Int32} {x8 : Int32} {fz1 : Bool} {I : Nat → Nat → Int32} {J : Nat → Nat → Int64}
    (h : pm_Ev d 22 [.ref 3, .ref (pm_td t), .int x2] (pm_hp L fz t I J) (K_X10_punching_128 d fz t Q x1 x2 x3 x4 x5 x6 x7 x8)) :
    K_X10_punching_116 d fz t Q x1 x2 x3 x4 x5 x6 x7 x8 (.inl none) (pm_hp L fz1 t I J) := b_X10_punching_116 h
set_option maxRecDepth 100000 in
theorem b_X10_punching_128 {d L : Nat} {fz t : Bool} {Q : pm_R → pm_H → Prop} {x1 : Int32} {x2 : Int32} {x3 : Int32} {x4 : Int32} {x5 : Int32} {x6 : Int32} {x7 : Int32} {x8 : Int32} {r : Int32} {I : Nat → Nat → Int32} {J : Nat → Nat → Int64}
    (h : ((r = (nI 0) → t_X10_punching_47 d L fz t Q x1 x2 x3 x4 x5 x6 (x7 + (nI 1)) I J) ∧ (¬ r = (nI 0) → t_X10_punching_47 d L fz t Q x1 x2 x3 x4 x8 x7 (x7 + (nI 1)) I J))) :
    t_X10_punching_128 d L fz t Q x1 x2 x3 x4 x5 x6 x7 x8 r I J := by
  exact pm_go d [(5, [0, 1, 2, 3]), (10, [0, 1, 2, 3]), (15, [0, 1, 2, 3]), (44, [0, 1, 2, 3, 4, 5, 6]), (47, [0, 1, 2, 3, 4, 5, 6, 7]), (67, [0, 1, 2, 3, 4, 5, 6, 7]), (86, [0, 1, 2, 3, 4, 5, 6, 7, 8]), (116, [0, 1, 2, 3, 4, 5, 6, 7, 8]), (128, [0, 1, 2, 3, 4, 5, 6, 7, 8])] 400 ⟨fun q0 => ((h).1 q0), fun q0 => ((h).2 q0)⟩
theorem kb_X10_punching_128 {d L : Nat} {fz t : Bool} {Q : pm_R → pm_H → Prop} {x1 : Int32} {x2 : Int32} {x3 : Int32} {x4 : Int32} {x5 : Int32} {x6 : Int32} {x7 : Int32} {x8 : Int32} {r : Int32} {fz1 : Bool} {I : Nat → Nat → Int32} {J : Nat → Nat → Int64}
    (h : ((r = (nI 0) → t_X10_punching_47 d L fz t Q x1 x2 x3 x4 x5 x6 (x7 + (nI 1)) I J) ∧ (¬ r = (nI 0) → t_X10_punching_47 d L fz t Q x1 x2 x3 x4 x8 x7 (x7 + (nI 1)) I J))) :
    K_X10_punching_128 d fz t Q x1 x2 x3 x4 x5 x6 x7 x8 (.inl (some (.int r))) (pm_hp L fz1 t I J) := b_X10_punching_128 h
def t_X10_same_0 (d L : Nat) (fz t : Bool) (Q : pm_R → pm_H → Prop) (x1 : Int32) (I : Nat → Nat → Int32) (J : Nat → Nat → Int64) : Prop := pm_T (pm_Ev d) 265 Q (0, [(0, .ref 0), (1, .int x1)], [], pm_hp L fz t I J, 0, 0)
def t_X10_same_5 (d L : Nat) (fz t : Bool) (Q : pm_R → pm_H → Prop) (x1 : Int32) (I : Nat → Nat → Int32) (J : Nat → Nat → Int64) : Prop := pm_T (pm_Ev d) 265 Q (5, [(0, .ref 0), (1, .int x1)], [], pm_hp L fz t I J, 1, 6)
def K_X10_same_5 (d : Nat) (fz t : Bool) (Q : pm_R → pm_H → Prop) (x1 : Int32) : pm_R → pm_H → Prop := pm_K d 265 Q 5 [(0, .ref 0), (1, .int x1)] [] 118 1 fz 1 6
def t_X10_same_21 (d L : Nat) (fz t : Bool) (Q : pm_R → pm_H → Prop) (x1 : Int32) (I : Nat → Nat → Int32) (J : Nat → Nat → Int64) : Prop := pm_T (pm_Ev d) 265 Q (21, [(0, .ref 0), (1, .int x1)], [], pm_hp L fz t I J, 1, 6)
def K_X10_same_21 (d : Nat) (fz t : Bool) (Q : pm_R → pm_H → Prop) (x1 : Int32) : pm_R → pm_H → Prop := pm_K d 265 Q 21 [(0, .ref 0), (1, .int x1)] [] 118 0 fz 1 6
def t_X10_same_28 (d L : Nat) (fz t : Bool) (Q : pm_R → pm_H → Prop) (x1 : Int32) (I : Nat → Nat → Int32) (J : Nat → Nat → Int64) : Prop := pm_T (pm_Ev d) 265 Q (28, [(0, .ref 0), (1, .int x1)], [], pm_hp L fz t I J, 1, 6)
def K_X10_same_28 (d : Nat) (fz t : Bool) (Q : pm_R → pm_H → Prop) (x1 : Int32) : pm_R → pm_H → Prop := pm_K d 265 Q 28 [(0, .ref 0), (1, .int x1)] [] 118 0 fz 1 6
def t_X10_same_39 (d L : Nat) (fz t : Bool) (Q : pm_R → pm_H → Prop) (x1 : Int32) (I : Nat → Nat → Int32) (J : Nat → Nat → Int64) : Prop := pm_T (pm_Ev d) 265 Q (39, [(0, .ref 0), (1, .int x1)], [], pm_hp L fz t I J, 1, 6)
def K_X10_same_39 (d : Nat) (fz t : Bool) (Q : pm_R → pm_H → Prop) (x1 : Int32) : pm_R → pm_H → Prop := pm_K d 265 Q 39 [(0, .ref 0), (1, .int x1)] [] 118 0 fz 1 6
def t_X10_same_53 (d L : Nat) (fz t : Bool) (Q : pm_R → pm_H → Prop) (x1 : Int32) (I : Nat → Nat → Int32) (J : Nat → Nat → Int64) : Prop := pm_T (pm_Ev d) 265 Q (53, [(0, .ref 0), (1, .int x1)], [], pm_hp L fz t I J, 1, 6)
def K_X10_same_53 (d : Nat) (fz t : Bool) (Q : pm_R → pm_H → Prop) (x1 : Int32) : pm_R → pm_H → Prop := pm_K d 265 Q 53 [(0, .ref 0), (1, .int x1)] [] 118 0 fz 1 6
def t_X10_same_55 (d L : Nat) (fz t : Bool) (Q : pm_R → pm_H → Prop) (x1 : Int32) (x2 : Int32) (I : Nat → Nat → Int32) (J : Nat → Nat → Int64) : Prop := pm_T (pm_Ev d) 265 Q (55, [(0, .ref 0), (1, .int x1), (2, .int x2)], [], pm_hp L fz t I J, 1, 6)
def t_X10_same_134 (d L : Nat) (fz t : Bool) (Q : pm_R → pm_H → Prop) (r : Int32) (I : Nat → Nat → Int32) (J : Nat → Nat → Int64) : Prop := pm_T (pm_Ev d) 265 Q (134, [], [.int r], pm_hp L fz t I J, 1, 6)
def K_X10_same_134 (d : Nat) (fz t : Bool) (Q : pm_R → pm_H → Prop) : pm_R → pm_H → Prop := pm_K d 265 Q 134 [] [] 118 0 fz 1 6
def t_X10_same_95 (d L : Nat) (fz t : Bool) (Q : pm_R → pm_H → Prop) (x1 : Int32) (x2 : Int32) (I : Nat → Nat → Int32) (J : Nat → Nat → Int64) : Prop := pm_T (pm_Ev d) 265 Q (95, [(0, .ref 0), (1, .int x1), (2, .int x2)], [], pm_hp L fz t I J, 1, 6)
def K_X10_same_95 (d : Nat) (fz t : Bool) (Q : pm_R → pm_H → Prop) (x1 : Int32) (x2 : Int32) : pm_R → pm_H → Prop := pm_K d 265 Q 95 [(0, .ref 0), (1, .int x1), (2, .int x2)] [] 118 0 fz 1 6
def t_X10_same_117 (d L : Nat) (fz t : Bool) (Q : pm_R → pm_H → Prop) (x1 : Int32) (x2 : Int32) (s1 : Int32) (s2 : Int32) (r : Int32) (I : Nat → Nat → Int32) (J : Nat → Nat → Int64) : Prop := pm_T (pm_Ev d) 265 Q (117, [(0, .ref 0), (1, .int x1), (2, .int x2)], [.int r, .int s2, .int s1, .ref 11], pm_hp L fz t I J, 1, 6)
def K_X10_same_117 (d : Nat) (fz t : Bool) (Q : pm_R → pm_H → Prop) (x1 : Int32) (x2 : Int32) (s1 : Int32) (s2 : Int32) : pm_R → pm_H → Prop := pm_K d 265 Q 117 [(0, .ref 0), (1, .int x1), (2, .int x2)] [.int s2, .int s1, .ref 11] 118 0 fz 1 6
set_option maxRecDepth 100000 in
theorem b_X10_same_0 {d L : Nat} {fz t : Bool} {Q : pm_R → pm_H → Prop} {x1 : Int32} {I : Nat → Nat → Int32} {J : Nat → Nat → Int64}
    (h : pm_Ev d 281 [.ref 0, .int x1] (pm_hp L fz t I J) (K_X10_same_5 d fz t Q x1)) :
    t_X10_same_0 d L fz t Q x1 I J := by
  exact pm_go d [(5, [0, 1]), (21, [0, 1]), (28, [0, 1]), (39, [0, 1]), (53, [0, 1]), (55, [0, 1, 2]), (95, [0, 1, 2]), (117, [0, 1, 2]), (134, [])] 400 h
theorem e_X10_same {d L : Nat} {fz t : Bool} {Q : pm_R → pm_H → Prop} {x1 : Int32} {I : Nat → Nat → Int32} {J : Nat → Nat → Int64}
    (h : pm_Ev d 281 [.ref 0, .int x1] (pm_hp L fz t I J) (K_X10_same_5 d fz t Q x1)) :
    pm_Ev (d + 1) 265 [.ref 0, .int x1] (pm_hp L fz t I J) Q := pm_Ev_in rfl (b_X10_same_0 h)
set_option maxRecDepth 100000 in
theorem b_X10_same_5 {d L : Nat} {fz t : Bool} {Q : pm_R → pm_H → Prop} {x1 : Int32} {I : Nat → Nat → Int32} {J : Nat → Nat → Int64}
    (h : pm_Ev d 12 [.ref 3, .ref (pm_td t), .ref 23, .int (nI 0)] (pm_hp L fz t I J) (K_X10_same_21 d fz t Q x1)) :
    t_X10_same_5 d L fz t Q x1 I J := by
  cases t <;> exact pm_go d [(5, [0, 1]), (21, [0, 1]), (28, [0, 1]), (39, [0, 1]), (53, [0, 1]), (55, [0, 1, 2]), (95, [0, 1, 2]), (117, [0, 1, 2]), (134, [])] 400 h
theorem kb_X10_same_5 {d L : Nat} {fz t : Bool} {Q : pm_R → pm_H → Prop} {x1 : Int32} {fz1 : Bool} {I : Nat → Nat → Int32} {J : Nat → Nat → Int64}
    (h : pm_Ev d 12 [.ref 3, .ref (pm_td t), .ref 23, .int (nI 0)] (pm_hp L true t I J) (K_X10_same_21 d true t Q x1)) :
    K_X10_same_5 d fz t Q x1 (.inl none) (pm_hp L fz1 t I J) := b_X10_same_5 h
set_option maxRecDepth 100000 in
theorem b_X10_same_21 {d L : Nat} {fz t : Bool} {Q : pm_R → pm_H → Prop} {x1 : Int32} {I : Nat → Nat → Int32} {J : Nat → Nat → Int64}
    (h : pm_Ev d 17 [.ref 3] (pm_hp L fz t I J) (K_X10_same_28 d fz t Q x1)) :
    t_X10_same_21 d L fz t Q x1 I J := by
  exact pm_go d [(5, [0, 1]), (21, [0, 1]), (28, [0, 1]), (39, [0, 1]), (53, [0, 1]), (55, [0, 1, 2]), (95, [0, 1, 2]), (117, [0, 1, 2]), (134, [])] 400 h
theorem kb_X10_same_21 {d L : Nat} {fz t : Bool} {Q : pm_R → pm_H → Prop} {x1 : Int32} {fz1 : Bool} {I : Nat → Nat → Int32} {J : Nat → Nat → Int64}
    (h : pm_Ev d 17 [.ref 3] (pm_hp L fz t I J) (K_X10_same_28 d fz t Q x1)) :
    K_X10_same_21 d fz t Q x1 (.inl none) (pm_hp L fz1 t I J) := b_X10_same_21 h
set_option maxRecDepth 100000 in
theorem b_X10_same_28 {d L : Nat} {fz t : Bool} {Q : pm_R → pm_H → Prop} {x1 : Int32} {I : Nat → Nat → Int32} {J : Nat → Nat → Int64}
    (h : pm_Ev d 78 [.ref 27, .ref 23] (pm_hp L fz t I J) (K_X10_same_39 d fz t Q x1)) :
    t_X10_same_28 d L fz t Q x1 I J := by
  exact pm_go d [(5, [0, 1]), (21, [0, 1]), (28, [0, 1]), (39, [0, 1]), (53, [0, 1]), (55, [0, 1, 2]), (95, [0, 1, 2]), (117, [0, 1, 2]), (134, [])] 400 h
theorem kb_X10_same_28 {d L : Nat} {fz t : Bool} {Q : pm_R → pm_H → Prop} {x1 : Int32} {fz1 : Bool} {I : Nat → Nat → Int32} {J : Nat → Nat → Int64}
    (h : pm_Ev d 78 [.ref 27, .ref 23] (pm_hp L fz t I J) (K_X10_same_39 d fz t Q x1)) :
    K_X10_same_28 d fz t Q x1 (.inl none) (pm_hp L fz1 t I J) := b_X10_same_28 h
set_option maxRecDepth 100000 in
theorem b_X10_same_39 {d L : Nat} {fz t : Bool} {Q : pm_R → pm_H → Prop} {x1 : Int32} {I : Nat → Nat → Int32} {J : Nat → Nat → Int64}
    (h : pm_Ev d 55 [.ref 9, .int (I (pm_td t) 12)] (pm_hp L fz t I J) (K_X10_same_53 d fz t Q x1)) :
    t_X10_same_39 d L fz t Q x1 I J := by
  cases t <;> exact pm_go d [(5, [0, 1]), (21, [0, 1]), (28, [0, 1]), (39, [0, 1]), (53, [0, 1]), (55, [0, 1, 2]), (95, [0, 1, 2]), (117, [0, 1, 2]), (134, [])] 400 h
theorem kb_X10_same_39 {d L : Nat} {fz t : Bool} {Q : pm_R → pm_H → Prop} {x1 : Int32} {fz1 : Bool} {I : Nat → Nat → Int32} {J : Nat → Nat → Int64}
    (h : pm_Ev d 55 [.ref 9, .int (I (pm_td t) 12)] (pm_hp L fz t I J) (K_X10_same_53 d fz t Q x1)) :
    K_X10_same_39 d fz t Q x1 (.inl none) (pm_hp L fz1 t I J) := b_X10_same_39 h
set_option maxRecDepth 100000 in
theorem b_X10_same_53 {d L : Nat} {fz t : Bool} {Q : pm_R → pm_H → Prop} {x1 : Int32} {I : Nat → Nat → Int32} {J : Nat → Nat → Int64}
    (h : t_X10_same_55 d L fz t Q x1 (nI 0) I J) :
    t_X10_same_53 d L fz t Q x1 I J := by
  exact pm_go d [(5, [0, 1]), (21, [0, 1]), (28, [0, 1]), (39, [0, 1]), (53, [0, 1]), (55, [0, 1, 2]), (95, [0, 1, 2]), (117, [0, 1, 2]), (134, [])] 400 h
theorem kb_X10_same_53 {d L : Nat} {fz t : Bool} {Q : pm_R → pm_H → Prop} {x1 : Int32} {fz1 : Bool} {I : Nat → Nat → Int32} {J : Nat → Nat → Int64}
    (h : t_X10_same_55 d L fz t Q x1 (nI 0) I J) :
    K_X10_same_53 d fz t Q x1 (.inl none) (pm_hp L fz1 t I J) := b_X10_same_53 h
set_option maxRecDepth 100000 in
theorem b_X10_same_55 {d L : Nat} {fz t : Bool} {Q : pm_R → pm_H → Prop} {x1 : Int32} {x2 : Int32} {I : Nat → Nat → Int32} {J : Nat → Nat → Int64}
    (h : (((nI 8) ≤ x2 → pm_Ev d 57 [.ref 9] (pm_hp L fz t I J) (K_X10_same_134 d fz t Q)) ∧ (¬ (nI 8) ≤ x2 → (vp_in x2 8 ∧ (vp_in x1 10 ∧ pm_Ev d 12 [.ref 3, .ref (pm_td t), .ref 27, .int (nI 0)] (pm_hp L fz t (pm_u I 28 (x1).toNatClampNeg (I 10 (x2).toNatClampNeg)) J) (K_X10_same_95 d fz t Q x1 x2)))))) :
    t_X10_same_55 d L fz t Q x1 x2 I J := by
  cases t <;> exact pm_go d [(5, [0, 1]), (21, [0, 1]), (28, [0, 1]), (39, [0, 1]), (53, [0, 1]), (55, [0, 1, 2]), (95, [0, 1, 2]), (117, [0, 1, 2]), (134, [])] 400 ⟨fun q0 => ((h).1 q0), fun q0 => ⟨(((h).2 q0)).1, ⟨((((h).2 q0)).2).1, ((((h).2 q0)).2).2⟩⟩⟩
set_option maxRecDepth 100000 in
theorem b_X10_same_134 {d L : Nat} {fz t : Bool} {Q : pm_R → pm_H → Prop} {r : Int32} {I : Nat → Nat → Int32} {J : Nat → Nat → Int64}
    (h : Q (.inl (some (.int r))) (pm_hp L fz t I J)) :
    t_X10_same_134 d L fz t Q r I J := by
  exact pm_go d [(5, [0, 1]), (21, [0, 1]), (28, [0, 1]), (39, [0, 1]), (53, [0, 1]), (55, [0, 1, 2]), (95, [0, 1, 2]), (117, [0, 1, 2]), (134, [])] 400 h
theorem kb_X10_same_134 {d L : Nat} {fz t : Bool} {Q : pm_R → pm_H → Prop} {r : Int32} {fz1 : Bool} {I : Nat → Nat → Int32} {J : Nat → Nat → Int64}
    (h : Q (.inl (some (.int r))) (pm_hp L fz t I J)) :
    K_X10_same_134 d fz t Q (.inl (some (.int r))) (pm_hp L fz1 t I J) := b_X10_same_134 h
set_option maxRecDepth 100000 in
theorem b_X10_same_95 {d L : Nat} {fz t : Bool} {Q : pm_R → pm_H → Prop} {x1 : Int32} {x2 : Int32} {I : Nat → Nat → Int32} {J : Nat → Nat → Int64}
    (h : pm_Ev d 18 [.ref 3] (pm_hp L fz t I J) (K_X10_same_117 d fz t Q x1 x2 x2 (I (pm_td t) 12))) :
    t_X10_same_95 d L fz t Q x1 x2 I J := by
  cases t <;> exact pm_go d [(5, [0, 1]), (21, [0, 1]), (28, [0, 1]), (39, [0, 1]), (53, [0, 1]), (55, [0, 1, 2]), (95, [0, 1, 2]), (117, [0, 1, 2]), (134, [])] 400 h
theorem kb_X10_same_95 {d L : Nat} {fz t : Bool} {Q : pm_R → pm_H → Prop} {x1 : Int32} {x2 : Int32} {fz1 : Bool} {I : Nat → Nat → Int32} {J : Nat → Nat → Int64}
    (h : pm_Ev d 18 [.ref 3] (pm_hp L fz t I J) (K_X10_same_117 d fz t Q x1 x2 x2 (I (pm_td t) 12))) :
    K_X10_same_95 d fz t Q x1 x2 (.inl none) (pm_hp L fz1 t I J) := b_X10_same_95 h
set_option maxRecDepth 100000 in
theorem b_X10_same_117 {d L : Nat} {fz t : Bool} {Q : pm_R → pm_H → Prop} {x1 : Int32} {x2 : Int32} {s1 : Int32} {s2 : Int32} {r : Int32} {I : Nat → Nat → Int32} {J : Nat → Nat → Int64}
    (h : (vp_in s1 8 ∧ t_X10_same_55 d L fz t Q x1 (x2 + (nI 1)) (pm_u I 11 (s1).toNatClampNeg (s2 &&& (r ^^^ (-1 : Int32)))) J)) :
    t_X10_same_117 d L fz t Q x1 x2 s1 s2 r I J := by
  exact pm_go d [(5, [0, 1]), (21, [0, 1]), (28, [0, 1]), (39, [0, 1]), (53, [0, 1]), (55, [0, 1, 2]), (95, [0, 1, 2]), (117, [0, 1, 2]), (134, [])] 400 ⟨(h).1, (h).2⟩
theorem kb_X10_same_117 {d L : Nat} {fz t : Bool} {Q : pm_R → pm_H → Prop} {x1 : Int32} {x2 : Int32} {s1 : Int32} {s2 : Int32} {r : Int32} {fz1 : Bool} {I : Nat → Nat → Int32} {J : Nat → Nat → Int64}
    (h : (vp_in s1 8 ∧ t_X10_same_55 d L fz t Q x1 (x2 + (nI 1)) (pm_u I 11 (s1).toNatClampNeg (s2 &&& (r ^^^ (-1 : Int32)))) J)) :
    K_X10_same_117 d fz t Q x1 x2 s1 s2 (.inl (some (.int r))) (pm_hp L fz1 t I J) := b_X10_same_117 h
def t_X10_see_0 (d L : Nat) (fz t : Bool) (Q : pm_R → pm_H → Prop) (x1 : Int32) (x2 : Int32) (x3 : Int32) (x4 : Int32) (I : Nat → Nat → Int32) (J : Nat → Nat → Int64) : Prop := pm_T (pm_Ev d) 266 Q (0, [(0, .ref 0), (1, .int x1), (2, .int x2), (3, .int x3), (4, .int x4)], [], pm_hp L fz t I J, 0, 0)
def t_X10_see_5 (d L : Nat) (fz t : Bool) (Q : pm_R → pm_H → Prop) (x1 : Int32) (x2 : Int32) (x3 : Int32) (x4 : Int32) (I : Nat → Nat → Int32) (J : Nat → Nat → Int64) : Prop := pm_T (pm_Ev d) 266 Q (5, [(0, .ref 0), (1, .int x1), (2, .int x2), (3, .int x3), (4, .int x4)], [], pm_hp L fz t I J, 1, 6)
def K_X10_see_5 (d : Nat) (fz t : Bool) (Q : pm_R → pm_H → Prop) (x1 : Int32) (x2 : Int32) (x3 : Int32) (x4 : Int32) : pm_R → pm_H → Prop := pm_K d 266 Q 5 [(0, .ref 0), (1, .int x1), (2, .int x2), (3, .int x3), (4, .int x4)] [] 118 1 fz 1 6
def t_X10_see_10 (d L : Nat) (fz t : Bool) (Q : pm_R → pm_H → Prop) (x1 : Int32) (x2 : Int32) (x3 : Int32) (x4 : Int32) (r : Int32) (I : Nat → Nat → Int32) (J : Nat → Nat → Int64) : Prop := pm_T (pm_Ev d) 266 Q (10, [(0, .ref 0), (1, .int x1), (2, .int x2), (3, .int x3), (4, .int x4)], [.int r], pm_hp L fz t I J, 1, 6)
def K_X10_see_10 (d : Nat) (fz t : Bool) (Q : pm_R → pm_H → Prop) (x1 : Int32) (x2 : Int32) (x3 : Int32) (x4 : Int32) : pm_R → pm_H → Prop := pm_K d 266 Q 10 [(0, .ref 0), (1, .int x1), (2, .int x2), (3, .int x3), (4, .int x4)] [] 118 0 fz 1 6
def t_X10_see_70 (d L : Nat) (fz t : Bool) (Q : pm_R → pm_H → Prop) (I : Nat → Nat → Int32) (J : Nat → Nat → Int64) : Prop := pm_T (pm_Ev d) 266 Q (70, [(0, .ref 0)], [], pm_hp L fz t I J, 1, 6)
def K_X10_see_70 (d : Nat) (fz t : Bool) (Q : pm_R → pm_H → Prop) : pm_R → pm_H → Prop := pm_K d 266 Q 70 [(0, .ref 0)] [] 118 0 fz 1 6
set_option maxRecDepth 100000 in
theorem b_X10_see_0 {d L : Nat} {fz t : Bool} {Q : pm_R → pm_H → Prop} {x1 : Int32} {x2 : Int32} {x3 : Int32} {x4 : Int32} {I : Nat → Nat → Int32} {J : Nat → Nat → Int64}
    (h : pm_Ev d 282 [.ref 0, .int x1] (pm_hp L fz t I J) (K_X10_see_5 d fz t Q x1 x2 x3 x4)) :
    t_X10_see_0 d L fz t Q x1 x2 x3 x4 I J := by
  exact pm_go d [(5, [0, 1, 2, 3, 4]), (10, [0, 1, 2, 3, 4]), (70, [0])] 400 h
theorem e_X10_see {d L : Nat} {fz t : Bool} {Q : pm_R → pm_H → Prop} {x1 : Int32} {x2 : Int32} {x3 : Int32} {x4 : Int32} {I : Nat → Nat → Int32} {J : Nat → Nat → Int64}
    (h : pm_Ev d 282 [.ref 0, .int x1] (pm_hp L fz t I J) (K_X10_see_5 d fz t Q x1 x2 x3 x4)) :
    pm_Ev (d + 1) 266 [.ref 0, .int x1, .int x2, .int x3, .int x4] (pm_hp L fz t I J) Q := pm_Ev_in rfl (b_X10_see_0 h)
set_option maxRecDepth 100000 in
theorem b_X10_see_5 {d L : Nat} {fz t : Bool} {Q : pm_R → pm_H → Prop} {x1 : Int32} {x2 : Int32} {x3 : Int32} {x4 : Int32} {I : Nat → Nat → Int32} {J : Nat → Nat → Int64}
    (h : pm_Ev d 96 [.ref 0, .int x2] (pm_hp L fz t I J) (K_X10_see_10 d fz t Q x1 x2 x3 x4)) :
    t_X10_see_5 d L fz t Q x1 x2 x3 x4 I J := by
  exact pm_go d [(5, [0, 1, 2, 3, 4]), (10, [0, 1, 2, 3, 4]), (70, [0])] 400 h
theorem kb_X10_see_5 {d L : Nat} {fz t : Bool} {Q : pm_R → pm_H → Prop} {x1 : Int32} {x2 : Int32} {x3 : Int32} {x4 : Int32} {fz1 : Bool} {I : Nat → Nat → Int32} {J : Nat → Nat → Int64}
    (h : pm_Ev d 96 [.ref 0, .int x2] (pm_hp L true t I J) (K_X10_see_10 d true t Q x1 x2 x3 x4)) :
    K_X10_see_5 d fz t Q x1 x2 x3 x4 (.inl none) (pm_hp L fz1 t I J) := b_X10_see_5 h
set_option maxRecDepth 100000 in
theorem b_X10_see_10 {d L : Nat} {fz t : Bool} {Q : pm_R → pm_H → Prop} {x1 : Int32} {x2 : Int32} {x3 : Int32} {x4 : Int32} {r : Int32} {I : Nat → Nat → Int32} {J : Nat → Nat → Int64}
    (h : ((¬ r = (nI 0) → (((nI 8) ≤ (I 45 4) → Q (.inl (some (.int (-1 : Int32)))) (pm_hp L fz t (pm_u I 20 2 ((I 20 2) + (nI 1))) J)) ∧ (¬ (nI 8) ≤ (I 45 4) → ((x3 < (nI 0) → Q (.inl (some (.int (-1 : Int32)))) (pm_hp L fz t (pm_u I 20 2 ((I 20 2) + (nI 1))) J)) ∧ (¬ x3 < (nI 0) → ((x3 ≤ (nI 20) → pm_Ev d 53 [.ref 45, .int x1, .int x2, .int x3, .int x4] (pm_hp L fz t I J) (K_X10_see_70 d fz t Q)) ∧ (¬ x3 ≤ (nI 20) → Q (.inl (some (.int (-1 : Int32)))) (pm_hp L fz t (pm_u I 20 2 ((I 20 2) + (nI 1))) J)))))))) ∧ (r = (nI 0) → Q (.inr 1) (pm_hp L true t I J)))) :
    t_X10_see_10 d L fz t Q x1 x2 x3 x4 r I J := by
  exact pm_go d [(5, [0, 1, 2, 3, 4]), (10, [0, 1, 2, 3, 4]), (70, [0])] 400 ⟨fun q0 => ⟨fun q1 => ⟨(vp_in_nI (by decide : 2 < 3) (by decide) : vp_in (nI 2) 3), ⟨(vp_in_nI (by decide : 2 < 3) (by decide) : vp_in (nI 2) 3), ((((h).1 q0)).1 q1)⟩⟩, fun q1 => ⟨fun q2 => ⟨(vp_in_nI (by decide : 2 < 3) (by decide) : vp_in (nI 2) 3), ⟨(vp_in_nI (by decide : 2 < 3) (by decide) : vp_in (nI 2) 3), ((((((h).1 q0)).2 q1)).1 q2)⟩⟩, fun q2 => ⟨fun q3 => ((((((((h).1 q0)).2 q1)).2 q2)).1 q3), fun q3 => ⟨(vp_in_nI (by decide : 2 < 3) (by decide) : vp_in (nI 2) 3), ⟨(vp_in_nI (by decide : 2 < 3) (by decide) : vp_in (nI 2) 3), ((((((((h).1 q0)).2 q1)).2 q2)).2 q3)⟩⟩⟩⟩⟩, fun q0 => ((h).2 q0)⟩
theorem kb_X10_see_10 {d L : Nat} {fz t : Bool} {Q : pm_R → pm_H → Prop} {x1 : Int32} {x2 : Int32} {x3 : Int32} {x4 : Int32} {r : Int32} {fz1 : Bool} {I : Nat → Nat → Int32} {J : Nat → Nat → Int64}
    (h : ((¬ r = (nI 0) → (((nI 8) ≤ (I 45 4) → Q (.inl (some (.int (-1 : Int32)))) (pm_hp L fz t (pm_u I 20 2 ((I 20 2) + (nI 1))) J)) ∧ (¬ (nI 8) ≤ (I 45 4) → ((x3 < (nI 0) → Q (.inl (some (.int (-1 : Int32)))) (pm_hp L fz t (pm_u I 20 2 ((I 20 2) + (nI 1))) J)) ∧ (¬ x3 < (nI 0) → ((x3 ≤ (nI 20) → pm_Ev d 53 [.ref 45, .int x1, .int x2, .int x3, .int x4] (pm_hp L fz t I J) (K_X10_see_70 d fz t Q)) ∧ (¬ x3 ≤ (nI 20) → Q (.inl (some (.int (-1 : Int32)))) (pm_hp L fz t (pm_u I 20 2 ((I 20 2) + (nI 1))) J)))))))) ∧ (r = (nI 0) → Q (.inr 1) (pm_hp L true t I J)))) :
    K_X10_see_10 d fz t Q x1 x2 x3 x4 (.inl (some (.int r))) (pm_hp L fz1 t I J) := b_X10_see_10 h
set_option maxRecDepth 100000 in
theorem b_X10_see_70 {d L : Nat} {fz t : Bool} {Q : pm_R → pm_H → Prop} {I : Nat → Nat → Int32} {J : Nat → Nat → Int64}
    (h : Q (.inl (some (.int (I 45 4)))) (pm_hp L fz t I J)) :
    t_X10_see_70 d L fz t Q I J := by
  exact pm_go d [(5, [0, 1, 2, 3, 4]), (10, [0, 1, 2, 3, 4]), (70, [0])] 400 h
theorem kb_X10_see_70 {d L : Nat} {fz t : Bool} {Q : pm_R → pm_H → Prop} {fz1 : Bool} {I : Nat → Nat → Int32} {J : Nat → Nat → Int64}
    (h : Q (.inl (some (.int (I 45 4)))) (pm_hp L fz t I J)) :
    K_X10_see_70 d fz t Q (.inl none) (pm_hp L fz1 t I J) := b_X10_see_70 h
def t_X10_backwards_0 (d L : Nat) (fz t : Bool) (Q : pm_R → pm_H → Prop) (x1 : Int32) (I : Nat → Nat → Int32) (J : Nat → Nat → Int64) : Prop := pm_T (pm_Ev d) 267 Q (0, [(0, .ref 0), (1, .int x1)], [], pm_hp L fz t I J, 0, 0)
def t_X10_backwards_5 (d L : Nat) (fz t : Bool) (Q : pm_R → pm_H → Prop) (x1 : Int32) (I : Nat → Nat → Int32) (J : Nat → Nat → Int64) : Prop := pm_T (pm_Ev d) 267 Q (5, [(0, .ref 0), (1, .int x1)], [], pm_hp L fz t I J, 1, 6)
def K_X10_backwards_5 (d : Nat) (fz t : Bool) (Q : pm_R → pm_H → Prop) (x1 : Int32) : pm_R → pm_H → Prop := pm_K d 267 Q 5 [(0, .ref 0), (1, .int x1)] [] 118 1 fz 1 6
def t_X10_backwards_31 (d L : Nat) (fz t : Bool) (Q : pm_R → pm_H → Prop) (x1 : Int32) (x2 : Int32) (x3 : Int32) (I : Nat → Nat → Int32) (J : Nat → Nat → Int64) : Prop := pm_T (pm_Ev d) 267 Q (31, [(0, .ref 0), (1, .int x1), (2, .int x2), (3, .int x3)], [], pm_hp L fz t I J, 1, 6)
def t_X10_backwards_18 (d L : Nat) (fz t : Bool) (Q : pm_R → pm_H → Prop) (r : Int32) (I : Nat → Nat → Int32) (J : Nat → Nat → Int64) : Prop := pm_T (pm_Ev d) 267 Q (18, [], [.int r], pm_hp L fz t I J, 1, 6)
def K_X10_backwards_18 (d : Nat) (fz t : Bool) (Q : pm_R → pm_H → Prop) : pm_R → pm_H → Prop := pm_K d 267 Q 18 [] [] 118 0 fz 1 6
def t_X10_backwards_47 (d L : Nat) (fz t : Bool) (Q : pm_R → pm_H → Prop) (x1 : Int32) (x2 : Int32) (x3 : Int32) (I : Nat → Nat → Int32) (J : Nat → Nat → Int64) : Prop := pm_T (pm_Ev d) 267 Q (47, [(0, .ref 0), (1, .int x1), (2, .int x2), (3, .int x3)], [], pm_hp L fz t I J, 1, 6)
def K_X10_backwards_47 (d : Nat) (fz t : Bool) (Q : pm_R → pm_H → Prop) (x1 : Int32) (x2 : Int32) (x3 : Int32) : pm_R → pm_H → Prop := pm_K d 267 Q 47 [(0, .ref 0), (1, .int x1), (2, .int x2), (3, .int x3)] [] 118 0 fz 1 6
def t_X10_backwards_55 (d L : Nat) (fz t : Bool) (Q : pm_R → pm_H → Prop) (x1 : Int32) (x2 : Int32) (x3 : Int32) (r : Int32) (I : Nat → Nat → Int32) (J : Nat → Nat → Int64) : Prop := pm_T (pm_Ev d) 267 Q (55, [(0, .ref 0), (1, .int x1), (2, .int x2), (3, .int x3)], [.int r], pm_hp L fz t I J, 1, 6)
def K_X10_backwards_55 (d : Nat) (fz t : Bool) (Q : pm_R → pm_H → Prop) (x1 : Int32) (x2 : Int32) (x3 : Int32) : pm_R → pm_H → Prop := pm_K d 267 Q 55 [(0, .ref 0), (1, .int x1), (2, .int x2), (3, .int x3)] [] 118 0 fz 1 6
set_option maxRecDepth 100000 in
theorem b_X10_backwards_0 {d L : Nat} {fz t : Bool} {Q : pm_R → pm_H → Prop} {x1 : Int32} {I : Nat → Nat → Int32} {J : Nat → Nat → Int64}
    (h : pm_Ev d 284 [.int x1, .int (nI 2)] (pm_hp L fz t I J) (K_X10_backwards_5 d fz t Q x1)) :
    t_X10_backwards_0 d L fz t Q x1 I J := by
  exact pm_go d [(5, [0, 1]), (18, []), (31, [0, 1, 2, 3]), (47, [0, 1, 2, 3]), (55, [0, 1, 2, 3])] 400 h
theorem e_X10_backwards {d L : Nat} {fz t : Bool} {Q : pm_R → pm_H → Prop} {x1 : Int32} {I : Nat → Nat → Int32} {J : Nat → Nat → Int64}
    (h : pm_Ev d 284 [.int x1, .int (nI 2)] (pm_hp L fz t I J) (K_X10_backwards_5 d fz t Q x1)) :
    pm_Ev (d + 1) 267 [.ref 0, .int x1] (pm_hp L fz t I J) Q := pm_Ev_in rfl (b_X10_backwards_0 h)
set_option maxRecDepth 100000 in
theorem b_X10_backwards_5 {d L : Nat} {fz t : Bool} {Q : pm_R → pm_H → Prop} {x1 : Int32} {I : Nat → Nat → Int32} {J : Nat → Nat → Int64}
    (h : ((¬ x1 = (nI 2) → t_X10_backwards_31 d L fz t Q x1 (nI 0) (nI 0) I J) ∧ (x1 = (nI 2) → pm_Ev d 104 [.ref 0, .ref 23] (pm_hp L fz t I J) (K_X10_backwards_18 d fz t Q)))) :
    t_X10_backwards_5 d L fz t Q x1 I J := by
  exact pm_go d [(5, [0, 1]), (18, []), (31, [0, 1, 2, 3]), (47, [0, 1, 2, 3]), (55, [0, 1, 2, 3])] 400 ⟨fun q0 => ((h).1 q0), fun q0 => ((h).2 q0)⟩
theorem kb_X10_backwards_5 {d L : Nat} {fz t : Bool} {Q : pm_R → pm_H → Prop} {x1 : Int32} {fz1 : Bool} {I : Nat → Nat → Int32} {J : Nat → Nat → Int64}
    (h : ((¬ x1 = (nI 2) → t_X10_backwards_31 d L true t Q x1 (nI 0) (nI 0) I J) ∧ (x1 = (nI 2) → pm_Ev d 104 [.ref 0, .ref 23] (pm_hp L true t I J) (K_X10_backwards_18 d true t Q)))) :
    K_X10_backwards_5 d fz t Q x1 (.inl none) (pm_hp L fz1 t I J) := b_X10_backwards_5 h
set_option maxRecDepth 100000 in
theorem b_X10_backwards_31 {d L : Nat} {fz t : Bool} {Q : pm_R → pm_H → Prop} {x1 : Int32} {x2 : Int32} {x3 : Int32} {I : Nat → Nat → Int32} {J : Nat → Nat → Int64}
    (h : (((I (pm_td t) 13) ≤ x3 → ((¬ x1 = (nI 1) → Q (.inl (some (.int x2))) (pm_hp L fz t I J)) ∧ (x1 = (nI 1) → Q (.inl (some (.int (-1 : Int32)))) (pm_hp L fz t I J)))) ∧ (¬ (I (pm_td t) 13) ≤ x3 → pm_Ev d 103 [.ref 0, .int x3] (pm_hp L fz t I J) (K_X10_backwards_47 d fz t Q x1 x2 x3)))) :
    t_X10_backwards_31 d L fz t Q x1 x2 x3 I J := by
  cases t <;> exact pm_go d [(5, [0, 1]), (18, []), (31, [0, 1, 2, 3]), (47, [0, 1, 2, 3]), (55, [0, 1, 2, 3])] 400 ⟨fun q0 => ⟨fun q1 => ((((h).1 q0)).1 q1), fun q1 => ((((h).1 q0)).2 q1)⟩, fun q0 => ((h).2 q0)⟩
set_option maxRecDepth 100000 in
theorem b_X10_backwards_18 {d L : Nat} {fz t : Bool} {Q : pm_R → pm_H → Prop} {r : Int32} {I : Nat → Nat → Int32} {J : Nat → Nat → Int64}
    (h : ((¬ r = (nI 0) → Q (.inl (some (.int (nI 0)))) (pm_hp L fz t I J)) ∧ (r = (nI 0) → Q (.inl (some (.int (nI 1)))) (pm_hp L fz t I J)))) :
    t_X10_backwards_18 d L fz t Q r I J := by
  exact pm_go d [(5, [0, 1]), (18, []), (31, [0, 1, 2, 3]), (47, [0, 1, 2, 3]), (55, [0, 1, 2, 3])] 400 ⟨fun q0 => ((h).1 q0), fun q0 => ((h).2 q0)⟩
theorem kb_X10_backwards_18 {d L : Nat} {fz t : Bool} {Q : pm_R → pm_H → Prop} {r : Int32} {fz1 : Bool} {I : Nat → Nat → Int32} {J : Nat → Nat → Int64}
    (h : ((¬ r = (nI 0) → Q (.inl (some (.int (nI 0)))) (pm_hp L fz t I J)) ∧ (r = (nI 0) → Q (.inl (some (.int (nI 1)))) (pm_hp L fz t I J)))) :
    K_X10_backwards_18 d fz t Q (.inl (some (.int r))) (pm_hp L fz1 t I J) := b_X10_backwards_18 h
set_option maxRecDepth 100000 in
theorem b_X10_backwards_47 {d L : Nat} {fz t : Bool} {Q : pm_R → pm_H → Prop} {x1 : Int32} {x2 : Int32} {x3 : Int32} {I : Nat → Nat → Int32} {J : Nat → Nat → Int64}
    (h : pm_Ev d 104 [.ref 0, .ref 27] (pm_hp L fz t I J) (K_X10_backwards_55 d fz t Q x1 x2 x3)) :
    t_X10_backwards_47 d L fz t Q x1 x2 x3 I J := by
  exact pm_go d [(5, [0, 1]), (18, []), (31, [0, 1, 2, 3]), (47, [0, 1, 2, 3]), (55, [0, 1, 2, 3])] 400 h
theorem kb_X10_backwards_47 {d L : Nat} {fz t : Bool} {Q : pm_R → pm_H → Prop} {x1 : Int32} {x2 : Int32} {x3 : Int32} {fz1 : Bool} {I : Nat → Nat → Int32} {J : Nat → Nat → Int64}
    (h : pm_Ev d 104 [.ref 0, .ref 27] (pm_hp L fz t I J) (K_X10_backwards_55 d fz t Q x1 x2 x3)) :
    K_X10_backwards_47 d fz t Q x1 x2 x3 (.inl none) (pm_hp L fz1 t I J) := b_X10_backwards_47 h
set_option maxRecDepth 100000 in
theorem b_X10_backwards_55 {d L : Nat} {fz t : Bool} {Q : pm_R → pm_H → Prop} {x1 : Int32} {x2 : Int32} {x3 : Int32} {r : Int32} {I : Nat → Nat → Int32} {J : Nat → Nat → Int64}
    (h : ((¬ r = (nI 0) → t_X10_backwards_31 d L fz t Q x1 x2 (x3 + (nI 1)) I J) ∧ (r = (nI 0) → ((¬ x1 = (nI 1) → t_X10_backwards_31 d L fz t Q x1 (x2 + (nI 1)) (x3 + (nI 1)) I J) ∧ (x1 = (nI 1) → Q (.inl (some (.int x3))) (pm_hp L fz t I J)))))) :
    t_X10_backwards_55 d L fz t Q x1 x2 x3 r I J := by
  exact pm_go d [(5, [0, 1]), (18, []), (31, [0, 1, 2, 3]), (47, [0, 1, 2, 3]), (55, [0, 1, 2, 3])] 400 ⟨fun q0 => ((h).1 q0), fun q0 => ⟨fun q1 => ((((h).2 q0)).1 q1), fun q1 => ((((h).2 q0)).2 q1)⟩⟩
theorem kb_X10_backwards_55 {d L : Nat} {fz t : Bool} {Q : pm_R → pm_H → Prop} {x1 : Int32} {x2 : Int32} {x3 : Int32} {r : Int32} {fz1 : Bool} {I : Nat → Nat → Int32} {J : Nat → Nat → Int64}
    (h : ((¬ r = (nI 0) → t_X10_backwards_31 d L fz t Q x1 x2 (x3 + (nI 1)) I J) ∧ (r = (nI 0) → ((¬ x1 = (nI 1) → t_X10_backwards_31 d L fz t Q x1 (x2 + (nI 1)) (x3 + (nI 1)) I J) ∧ (x1 = (nI 1) → Q (.inl (some (.int x3))) (pm_hp L fz t I J)))))) :
    K_X10_backwards_55 d fz t Q x1 x2 x3 (.inl (some (.int r))) (pm_hp L fz1 t I J) := b_X10_backwards_55 h
def t_X10_punched_0 (d L : Nat) (fz t : Bool) (Q : pm_R → pm_H → Prop) (x1 : Int32) (x2 : Int32) (I : Nat → Nat → Int32) (J : Nat → Nat → Int64) : Prop := pm_T (pm_Ev d) 268 Q (0, [(0, .ref 0), (1, .int x1), (2, .int x2)], [], pm_hp L fz t I J, 0, 0)
def t_X10_punched_5 (d L : Nat) (fz t : Bool) (Q : pm_R → pm_H → Prop) (x1 : Int32) (x2 : Int32) (I : Nat → Nat → Int32) (J : Nat → Nat → Int64) : Prop := pm_T (pm_Ev d) 268 Q (5, [(0, .ref 0), (1, .int x1), (2, .int x2)], [], pm_hp L fz t I J, 1, 6)
def K_X10_punched_5 (d : Nat) (fz t : Bool) (Q : pm_R → pm_H → Prop) (x1 : Int32) (x2 : Int32) : pm_R → pm_H → Prop := pm_K d 268 Q 5 [(0, .ref 0), (1, .int x1), (2, .int x2)] [] 118 1 fz 1 6
def t_X10_punched_10 (d L : Nat) (fz t : Bool) (Q : pm_R → pm_H → Prop) (x1 : Int32) (x2 : Int32) (I : Nat → Nat → Int32) (J : Nat → Nat → Int64) : Prop := pm_T (pm_Ev d) 268 Q (10, [(0, .ref 0), (1, .int x1), (2, .int x2)], [], pm_hp L fz t I J, 2, 12)
def K_X10_punched_10 (d : Nat) (fz t : Bool) (Q : pm_R → pm_H → Prop) (x1 : Int32) (x2 : Int32) : pm_R → pm_H → Prop := pm_K d 268 Q 10 [(0, .ref 0), (1, .int x1), (2, .int x2)] [] 118 1 fz 2 12
def t_X10_punched_21 (d L : Nat) (fz t : Bool) (Q : pm_R → pm_H → Prop) (x1 : Int32) (x2 : Int32) (I : Nat → Nat → Int32) (J : Nat → Nat → Int64) : Prop := pm_T (pm_Ev d) 268 Q (21, [(0, .ref 0), (1, .int x1), (2, .int x2)], [], pm_hp L fz t I J, 2, 12)
def K_X10_punched_21 (d : Nat) (fz t : Bool) (Q : pm_R → pm_H → Prop) (x1 : Int32) (x2 : Int32) : pm_R → pm_H → Prop := pm_K d 268 Q 21 [(0, .ref 0), (1, .int x1), (2, .int x2)] [] 118 0 fz 2 12
def t_X10_punched_35 (d L : Nat) (fz t : Bool) (Q : pm_R → pm_H → Prop) (x1 : Int32) (x2 : Int32) (I : Nat → Nat → Int32) (J : Nat → Nat → Int64) : Prop := pm_T (pm_Ev d) 268 Q (35, [(0, .ref 0), (1, .int x1), (2, .int x2)], [], pm_hp L fz t I J, 2, 12)
def K_X10_punched_35 (d : Nat) (fz t : Bool) (Q : pm_R → pm_H → Prop) (x1 : Int32) (x2 : Int32) : pm_R → pm_H → Prop := pm_K d 268 Q 35 [(0, .ref 0), (1, .int x1), (2, .int x2)] [] 118 0 fz 2 12
def t_X10_punched_37 (d L : Nat) (fz t : Bool) (Q : pm_R → pm_H → Prop) (x1 : Int32) (x2 : Int32) (x3 : Int32) (I : Nat → Nat → Int32) (J : Nat → Nat → Int64) : Prop := pm_T (pm_Ev d) 268 Q (37, [(0, .ref 0), (1, .int x1), (2, .int x2), (3, .int x3)], [], pm_hp L fz t I J, 2, 12)
def t_X10_punched_115 (d L : Nat) (fz t : Bool) (Q : pm_R → pm_H → Prop) (r : Int32) (I : Nat → Nat → Int32) (J : Nat → Nat → Int64) : Prop := pm_T (pm_Ev d) 268 Q (115, [], [.int r], pm_hp L fz t I J, 2, 12)
def K_X10_punched_115 (d : Nat) (fz t : Bool) (Q : pm_R → pm_H → Prop) : pm_R → pm_H → Prop := pm_K d 268 Q 115 [] [] 118 0 fz 2 12
def t_X10_punched_105 (d L : Nat) (fz t : Bool) (Q : pm_R → pm_H → Prop) (r : Int32) (I : Nat → Nat → Int32) (J : Nat → Nat → Int64) : Prop := pm_T (pm_Ev d) 268 Q (105, [], [.int r], pm_hp L fz t I J, 2, 12)
def K_X10_punched_105 (d : Nat) (fz t : Bool) (Q : pm_R → pm_H → Prop) : pm_R → pm_H → Prop := pm_K d 268 Q 105 [] [] 118 0 fz 2 12
def t_X10_punched_84 (d L : Nat) (fz t : Bool) (Q : pm_R → pm_H → Prop) (x1 : Int32) (x2 : Int32) (x3 : Int32) (s1 : Int32) (s2 : Int32) (r : Int32) (I : Nat → Nat → Int32) (J : Nat → Nat → Int64) : Prop := pm_T (pm_Ev d) 268 Q (84, [(0, .ref 0), (1, .int x1), (2, .int x2), (3, .int x3)], [.int r, .int s2, .int s1, .ref 11], pm_hp L fz t I J, 2, 12)
def K_X10_punched_84 (d : Nat) (fz t : Bool) (Q : pm_R → pm_H → Prop) (x1 : Int32) (x2 : Int32) (x3 : Int32) (s1 : Int32) (s2 : Int32) : pm_R → pm_H → Prop := pm_K d 268 Q 84 [(0, .ref 0), (1, .int x1), (2, .int x2), (3, .int x3)] [.int s2, .int s1, .ref 11] 118 0 fz 2 12
set_option maxRecDepth 100000 in
theorem b_X10_punched_0 {d L : Nat} {fz t : Bool} {Q : pm_R → pm_H → Prop} {x1 : Int32} {x2 : Int32} {I : Nat → Nat → Int32} {J : Nat → Nat → Int64}
    (h : pm_Ev d 281 [.ref 0, .int x1] (pm_hp L fz t I J) (K_X10_punched_5 d fz t Q x1 x2)) :
    t_X10_punched_0 d L fz t Q x1 x2 I J := by
  exact pm_go d [(5, [0, 1, 2]), (10, [0, 1, 2]), (21, [0, 1, 2]), (35, [0, 1, 2]), (37, [0, 1, 2, 3]), (84, [0, 1, 2, 3]), (105, []), (115, [])] 400 h
theorem e_X10_punched {d L : Nat} {fz t : Bool} {Q : pm_R → pm_H → Prop} {x1 : Int32} {x2 : Int32} {I : Nat → Nat → Int32} {J : Nat → Nat → Int64}
    (h : pm_Ev d 281 [.ref 0, .int x1] (pm_hp L fz t I J) (K_X10_punched_5 d fz t Q x1 x2)) :
    pm_Ev (d + 1) 268 [.ref 0, .int x1, .int x2] (pm_hp L fz t I J) Q := pm_Ev_in rfl (b_X10_punched_0 h)
set_option maxRecDepth 100000 in
theorem b_X10_punched_5 {d L : Nat} {fz t : Bool} {Q : pm_R → pm_H → Prop} {x1 : Int32} {x2 : Int32} {I : Nat → Nat → Int32} {J : Nat → Nat → Int64}
    (h : pm_Ev d 284 [.int x2, .int (nI 1)] (pm_hp L fz t I J) (K_X10_punched_10 d fz t Q x1 x2)) :
    t_X10_punched_5 d L fz t Q x1 x2 I J := by
  exact pm_go d [(5, [0, 1, 2]), (10, [0, 1, 2]), (21, [0, 1, 2]), (35, [0, 1, 2]), (37, [0, 1, 2, 3]), (84, [0, 1, 2, 3]), (105, []), (115, [])] 400 h
theorem kb_X10_punched_5 {d L : Nat} {fz t : Bool} {Q : pm_R → pm_H → Prop} {x1 : Int32} {x2 : Int32} {fz1 : Bool} {I : Nat → Nat → Int32} {J : Nat → Nat → Int64}
    (h : pm_Ev d 284 [.int x2, .int (nI 1)] (pm_hp L true t I J) (K_X10_punched_10 d true t Q x1 x2)) :
    K_X10_punched_5 d fz t Q x1 x2 (.inl none) (pm_hp L fz1 t I J) := b_X10_punched_5 h
set_option maxRecDepth 100000 in
theorem b_X10_punched_10 {d L : Nat} {fz t : Bool} {Q : pm_R → pm_H → Prop} {x1 : Int32} {x2 : Int32} {I : Nat → Nat → Int32} {J : Nat → Nat → Int64}
    (h : pm_Ev d 78 [.ref 27, .ref 23] (pm_hp L fz t I J) (K_X10_punched_21 d fz t Q x1 x2)) :
    t_X10_punched_10 d L fz t Q x1 x2 I J := by
  exact pm_go d [(5, [0, 1, 2]), (10, [0, 1, 2]), (21, [0, 1, 2]), (35, [0, 1, 2]), (37, [0, 1, 2, 3]), (84, [0, 1, 2, 3]), (105, []), (115, [])] 400 h
theorem kb_X10_punched_10 {d L : Nat} {fz t : Bool} {Q : pm_R → pm_H → Prop} {x1 : Int32} {x2 : Int32} {fz1 : Bool} {I : Nat → Nat → Int32} {J : Nat → Nat → Int64}
    (h : pm_Ev d 78 [.ref 27, .ref 23] (pm_hp L true t I J) (K_X10_punched_21 d true t Q x1 x2)) :
    K_X10_punched_10 d fz t Q x1 x2 (.inl none) (pm_hp L fz1 t I J) := b_X10_punched_10 h
set_option maxRecDepth 100000 in
theorem b_X10_punched_21 {d L : Nat} {fz t : Bool} {Q : pm_R → pm_H → Prop} {x1 : Int32} {x2 : Int32} {I : Nat → Nat → Int32} {J : Nat → Nat → Int64}
    (h : pm_Ev d 55 [.ref 9, .int (I (pm_td t) 12)] (pm_hp L fz t I J) (K_X10_punched_35 d fz t Q x1 x2)) :
    t_X10_punched_21 d L fz t Q x1 x2 I J := by
  cases t <;> exact pm_go d [(5, [0, 1, 2]), (10, [0, 1, 2]), (21, [0, 1, 2]), (35, [0, 1, 2]), (37, [0, 1, 2, 3]), (84, [0, 1, 2, 3]), (105, []), (115, [])] 400 h
theorem kb_X10_punched_21 {d L : Nat} {fz t : Bool} {Q : pm_R → pm_H → Prop} {x1 : Int32} {x2 : Int32} {fz1 : Bool} {I : Nat → Nat → Int32} {J : Nat → Nat → Int64}
    (h : pm_Ev d 55 [.ref 9, .int (I (pm_td t) 12)] (pm_hp L fz t I J) (K_X10_punched_35 d fz t Q x1 x2)) :
    K_X10_punched_21 d fz t Q x1 x2 (.inl none) (pm_hp L fz1 t I J) := b_X10_punched_21 h
set_option maxRecDepth 100000 in
theorem b_X10_punched_35 {d L : Nat} {fz t : Bool} {Q : pm_R → pm_H → Prop} {x1 : Int32} {x2 : Int32} {I : Nat → Nat → Int32} {J : Nat → Nat → Int64}
    (h : t_X10_punched_37 d L fz t Q x1 x2 (nI 0) I J) :
    t_X10_punched_35 d L fz t Q x1 x2 I J := by
  exact pm_go d [(5, [0, 1, 2]), (10, [0, 1, 2]), (21, [0, 1, 2]), (35, [0, 1, 2]), (37, [0, 1, 2, 3]), (84, [0, 1, 2, 3]), (105, []), (115, [])] 400 h
theorem kb_X10_punched_35 {d L : Nat} {fz t : Bool} {Q : pm_R → pm_H → Prop} {x1 : Int32} {x2 : Int32} {fz1 : Bool} {I : Nat → Nat → Int32} {J : Nat → Nat → Int64}
    (h : t_X10_punched_37 d L fz t Q x1 x2 (nI 0) I J) :
    K_X10_punched_35 d fz t Q x1 x2 (.inl none) (pm_hp L fz1 t I J) := b_X10_punched_35 h
set_option maxRecDepth 100000 in
theorem b_X10_punched_37 {d L : Nat} {fz t : Bool} {Q : pm_R → pm_H → Prop} {x1 : Int32} {x2 : Int32} {x3 : Int32} {I : Nat → Nat → Int32} {J : Nat → Nat → Int64}
    (h : (((nI 8) ≤ x3 → ((¬ x2 = (nI 0) → pm_Ev d 58 [.ref 9] (pm_hp L fz t I J) (K_X10_punched_115 d fz t Q)) ∧ (x2 = (nI 0) → pm_Ev d 57 [.ref 9] (pm_hp L fz t I J) (K_X10_punched_105 d fz t Q)))) ∧ (¬ (nI 8) ≤ x3 → (vp_in x3 8 ∧ (vp_in x1 10 ∧ pm_Ev d 104 [.ref 0, .ref 27] (pm_hp L fz t (pm_u I 28 (x1).toNatClampNeg (I 10 (x3).toNatClampNeg)) J) (K_X10_punched_84 d fz t Q x1 x2 x3 x3 (I (pm_td t) 12))))))) :
    t_X10_punched_37 d L fz t Q x1 x2 x3 I J := by
  cases t <;> exact pm_go d [(5, [0, 1, 2]), (10, [0, 1, 2]), (21, [0, 1, 2]), (35, [0, 1, 2]), (37, [0, 1, 2, 3]), (84, [0, 1, 2, 3]), (105, []), (115, [])] 400 ⟨fun q0 => ⟨fun q1 => ((((h).1 q0)).1 q1), fun q1 => ((((h).1 q0)).2 q1)⟩, fun q0 => ⟨(((h).2 q0)).1, ⟨((((h).2 q0)).2).1, ((((h).2 q0)).2).2⟩⟩⟩
set_option maxRecDepth 100000 in
theorem b_X10_punched_115 {d L : Nat} {fz t : Bool} {Q : pm_R → pm_H → Prop} {r : Int32} {I : Nat → Nat → Int32} {J : Nat → Nat → Int64}
    (h : Q (.inl (some (.int r))) (pm_hp L fz t I J)) :
    t_X10_punched_115 d L fz t Q r I J := by
  exact pm_go d [(5, [0, 1, 2]), (10, [0, 1, 2]), (21, [0, 1, 2]), (35, [0, 1, 2]), (37, [0, 1, 2, 3]), (84, [0, 1, 2, 3]), (105, []), (115, [])] 400 h
theorem kb_X10_punched_115 {d L : Nat} {fz t : Bool} {Q : pm_R → pm_H → Prop} {r : Int32} {fz1 : Bool} {I : Nat → Nat → Int32} {J : Nat → Nat → Int64}
    (h : Q (.inl (some (.int r))) (pm_hp L fz t I J)) :
    K_X10_punched_115 d fz t Q (.inl (some (.int r))) (pm_hp L fz1 t I J) := b_X10_punched_115 h
set_option maxRecDepth 100000 in
theorem b_X10_punched_105 {d L : Nat} {fz t : Bool} {Q : pm_R → pm_H → Prop} {r : Int32} {I : Nat → Nat → Int32} {J : Nat → Nat → Int64}
    (h : t_X10_punched_115 d L fz t Q r I J) :
    t_X10_punched_105 d L fz t Q r I J := by
  exact pm_go d [(5, [0, 1, 2]), (10, [0, 1, 2]), (21, [0, 1, 2]), (35, [0, 1, 2]), (37, [0, 1, 2, 3]), (84, [0, 1, 2, 3]), (105, []), (115, [])] 400 h
theorem kb_X10_punched_105 {d L : Nat} {fz t : Bool} {Q : pm_R → pm_H → Prop} {r : Int32} {fz1 : Bool} {I : Nat → Nat → Int32} {J : Nat → Nat → Int64}
    (h : t_X10_punched_115 d L fz t Q r I J) :
    K_X10_punched_105 d fz t Q (.inl (some (.int r))) (pm_hp L fz1 t I J) := b_X10_punched_105 h
set_option maxRecDepth 100000 in
theorem b_X10_punched_84 {d L : Nat} {fz t : Bool} {Q : pm_R → pm_H → Prop} {x1 : Int32} {x2 : Int32} {x3 : Int32} {s1 : Int32} {s2 : Int32} {r : Int32} {I : Nat → Nat → Int32} {J : Nat → Nat → Int64}
    (h : (vp_in s1 8 ∧ t_X10_punched_37 d L fz t Q x1 x2 (x3 + (nI 1)) (pm_u I 11 (s1).toNatClampNeg (s2 &&& (r ^^^ (-1 : Int32)))) J)) :
    t_X10_punched_84 d L fz t Q x1 x2 x3 s1 s2 r I J := by
  exact pm_go d [(5, [0, 1, 2]), (10, [0, 1, 2]), (21, [0, 1, 2]), (35, [0, 1, 2]), (37, [0, 1, 2, 3]), (84, [0, 1, 2, 3]), (105, []), (115, [])] 400 ⟨(h).1, (h).2⟩
theorem kb_X10_punched_84 {d L : Nat} {fz t : Bool} {Q : pm_R → pm_H → Prop} {x1 : Int32} {x2 : Int32} {x3 : Int32} {s1 : Int32} {s2 : Int32} {r : Int32} {fz1 : Bool} {I : Nat → Nat → Int32} {J : Nat → Nat → Int64}
    (h : (vp_in s1 8 ∧ t_X10_punched_37 d L fz t Q x1 x2 (x3 + (nI 1)) (pm_u I 11 (s1).toNatClampNeg (s2 &&& (r ^^^ (-1 : Int32)))) J)) :
    K_X10_punched_84 d fz t Q x1 x2 x3 s1 s2 (.inl (some (.int r))) (pm_hp L fz1 t I J) := b_X10_punched_84 h
def t_X10_next_0 (d L : Nat) (fz t : Bool) (Q : pm_R → pm_H → Prop) (x1 : Int32) (I : Nat → Nat → Int32) (J : Nat → Nat → Int64) : Prop := pm_T (pm_Ev d) 269 Q (0, [(0, .ref 0), (1, .int x1)], [], pm_hp L fz t I J, 0, 0)
def t_X10_next_5 (d L : Nat) (fz t : Bool) (Q : pm_R → pm_H → Prop) (x1 : Int32) (I : Nat → Nat → Int32) (J : Nat → Nat → Int64) : Prop := pm_T (pm_Ev d) 269 Q (5, [(0, .ref 0), (1, .int x1)], [], pm_hp L fz t I J, 1, 6)
def K_X10_next_5 (d : Nat) (fz t : Bool) (Q : pm_R → pm_H → Prop) (x1 : Int32) : pm_R → pm_H → Prop := pm_K d 269 Q 5 [(0, .ref 0), (1, .int x1)] [] 118 1 fz 1 6
def t_X10_next_9 (d L : Nat) (fz t : Bool) (Q : pm_R → pm_H → Prop) (x1 : Int32) (r : Int32) (I : Nat → Nat → Int32) (J : Nat → Nat → Int64) : Prop := pm_T (pm_Ev d) 269 Q (9, [(0, .ref 0), (1, .int x1)], [.int r], pm_hp L fz t I J, 1, 6)
def K_X10_next_9 (d : Nat) (fz t : Bool) (Q : pm_R → pm_H → Prop) (x1 : Int32) : pm_R → pm_H → Prop := pm_K d 269 Q 9 [(0, .ref 0), (1, .int x1)] [] 118 0 fz 1 6
def t_X10_next_18 (d L : Nat) (fz t : Bool) (Q : pm_R → pm_H → Prop) (x1 : Int32) (x2 : Int32) (x3 : Int32) (x4 : Int32) (x5 : Int32) (I : Nat → Nat → Int32) (J : Nat → Nat → Int64) : Prop := pm_T (pm_Ev d) 269 Q (18, [(0, .ref 0), (1, .int x1), (2, .int x2), (3, .int x3), (4, .int x4), (5, .int x5)], [], pm_hp L fz t I J, 1, 6)
def t_X10_next_37 (d L : Nat) (fz t : Bool) (Q : pm_R → pm_H → Prop) (x1 : Int32) (x2 : Int32) (x3 : Int32) (x4 : Int32) (x5 : Int32) (r : Int32) (I : Nat → Nat → Int32) (J : Nat → Nat → Int64) : Prop := pm_T (pm_Ev d) 269 Q (37, [(0, .ref 0), (1, .int x1), (2, .int x2), (3, .int x3), (4, .int x4), (5, .int x5)], [.int r], pm_hp L fz t I J, 1, 6)
def K_X10_next_37 (d : Nat) (fz t : Bool) (Q : pm_R → pm_H → Prop) (x1 : Int32) (x2 : Int32) (x3 : Int32) (x4 : Int32) (x5 : Int32) : pm_R → pm_H → Prop := pm_K d 269 Q 37 [(0, .ref 0), (1, .int x1), (2, .int x2), (3, .int x3), (4, .int x4), (5, .int x5)] [] 118 0 fz 1 6
set_option maxRecDepth 100000 in
theorem b_X10_next_0 {d L : Nat} {fz t : Bool} {Q : pm_R → pm_H → Prop} {x1 : Int32} {I : Nat → Nat → Int32} {J : Nat → Nat → Int64}
    (h : pm_Ev d 284 [.int x1, .int (nI 1)] (pm_hp L fz t I J) (K_X10_next_5 d fz t Q x1)) :
    t_X10_next_0 d L fz t Q x1 I J := by
  exact pm_go d [(5, [0, 1]), (9, [0, 1]), (18, [0, 1, 2, 3, 4, 5]), (37, [0, 1, 2, 3, 4, 5])] 400 h
theorem e_X10_next {d L : Nat} {fz t : Bool} {Q : pm_R → pm_H → Prop} {x1 : Int32} {I : Nat → Nat → Int32} {J : Nat → Nat → Int64}
    (h : pm_Ev d 284 [.int x1, .int (nI 1)] (pm_hp L fz t I J) (K_X10_next_5 d fz t Q x1)) :
    pm_Ev (d + 1) 269 [.ref 0, .int x1] (pm_hp L fz t I J) Q := pm_Ev_in rfl (b_X10_next_0 h)
set_option maxRecDepth 100000 in
theorem b_X10_next_5 {d L : Nat} {fz t : Bool} {Q : pm_R → pm_H → Prop} {x1 : Int32} {I : Nat → Nat → Int32} {J : Nat → Nat → Int64}
    (h : pm_Ev d 106 [.ref 0] (pm_hp L fz t I J) (K_X10_next_9 d fz t Q x1)) :
    t_X10_next_5 d L fz t Q x1 I J := by
  exact pm_go d [(5, [0, 1]), (9, [0, 1]), (18, [0, 1, 2, 3, 4, 5]), (37, [0, 1, 2, 3, 4, 5])] 400 h
theorem kb_X10_next_5 {d L : Nat} {fz t : Bool} {Q : pm_R → pm_H → Prop} {x1 : Int32} {fz1 : Bool} {I : Nat → Nat → Int32} {J : Nat → Nat → Int64}
    (h : pm_Ev d 106 [.ref 0] (pm_hp L true t I J) (K_X10_next_9 d true t Q x1)) :
    K_X10_next_5 d fz t Q x1 (.inl none) (pm_hp L fz1 t I J) := b_X10_next_5 h
set_option maxRecDepth 100000 in
theorem b_X10_next_9 {d L : Nat} {fz t : Bool} {Q : pm_R → pm_H → Prop} {x1 : Int32} {r : Int32} {I : Nat → Nat → Int32} {J : Nat → Nat → Int64}
    (h : t_X10_next_18 d L fz t Q x1 r (-1 : Int32) (nI 0) (nI 0) I J) :
    t_X10_next_9 d L fz t Q x1 r I J := by
  exact pm_go d [(5, [0, 1]), (9, [0, 1]), (18, [0, 1, 2, 3, 4, 5]), (37, [0, 1, 2, 3, 4, 5])] 400 h
theorem kb_X10_next_9 {d L : Nat} {fz t : Bool} {Q : pm_R → pm_H → Prop} {x1 : Int32} {r : Int32} {fz1 : Bool} {I : Nat → Nat → Int32} {J : Nat → Nat → Int64}
    (h : t_X10_next_18 d L fz t Q x1 r (-1 : Int32) (nI 0) (nI 0) I J) :
    K_X10_next_9 d fz t Q x1 (.inl (some (.int r))) (pm_hp L fz1 t I J) := b_X10_next_9 h
set_option maxRecDepth 100000 in
theorem b_X10_next_18 {d L : Nat} {fz t : Bool} {Q : pm_R → pm_H → Prop} {x1 : Int32} {x2 : Int32} {x3 : Int32} {x4 : Int32} {x5 : Int32} {I : Nat → Nat → Int32} {J : Nat → Nat → Int64}
    (h : (((I 23 3) ≤ x5 → ((¬ x1 = (nI 0) → Q (.inl (some (.int x4))) (pm_hp L fz t I J)) ∧ (x1 = (nI 0) → Q (.inl (some (.int x3))) (pm_hp L fz t I J)))) ∧ (¬ (I 23 3) ≤ x5 → pm_Ev d 107 [.ref 0, .int x5, .int x2] (pm_hp L fz t I J) (K_X10_next_37 d fz t Q x1 x2 x3 x4 x5)))) :
    t_X10_next_18 d L fz t Q x1 x2 x3 x4 x5 I J := by
  exact pm_go d [(5, [0, 1]), (9, [0, 1]), (18, [0, 1, 2, 3, 4, 5]), (37, [0, 1, 2, 3, 4, 5])] 400 ⟨fun q0 => ⟨fun q1 => ((((h).1 q0)).1 q1), fun q1 => ((((h).1 q0)).2 q1)⟩, fun q0 => ((h).2 q0)⟩
set_option maxRecDepth 100000 in
theorem b_X10_next_37 {d L : Nat} {fz t : Bool} {Q : pm_R → pm_H → Prop} {x1 : Int32} {x2 : Int32} {x3 : Int32} {x4 : Int32} {x5 : Int32} {r : Int32} {I : Nat → Nat → Int32} {J : Nat → Nat → Int64}
    (h : ((r ≤ x4 → t_X10_next_18 d L fz t Q x1 x2 x3 x4 (x5 + (nI 1)) I J) ∧ (¬ r ≤ x4 → t_X10_next_18 d L fz t Q x1 x2 x5 r (x5 + (nI 1)) I J))) :
    t_X10_next_37 d L fz t Q x1 x2 x3 x4 x5 r I J := by
  exact pm_go d [(5, [0, 1]), (9, [0, 1]), (18, [0, 1, 2, 3, 4, 5]), (37, [0, 1, 2, 3, 4, 5])] 400 ⟨fun q0 => ((h).1 q0), fun q0 => ((h).2 q0)⟩
theorem kb_X10_next_37 {d L : Nat} {fz t : Bool} {Q : pm_R → pm_H → Prop} {x1 : Int32} {x2 : Int32} {x3 : Int32} {x4 : Int32} {x5 : Int32} {r : Int32} {fz1 : Bool} {I : Nat → Nat → Int32} {J : Nat → Nat → Int64}
    (h : ((r ≤ x4 → t_X10_next_18 d L fz t Q x1 x2 x3 x4 (x5 + (nI 1)) I J) ∧ (¬ r ≤ x4 → t_X10_next_18 d L fz t Q x1 x2 x5 r (x5 + (nI 1)) I J))) :
    K_X10_next_37 d fz t Q x1 x2 x3 x4 x5 (.inl (some (.int r))) (pm_hp L fz1 t I J) := b_X10_next_37 h
def t_X10_toCut_0 (d L : Nat) (fz t : Bool) (Q : pm_R → pm_H → Prop) (x1 : Int32) (x2 : Int32) (x3 : Int32) (x4 : Int32) (I : Nat → Nat → Int32) (J : Nat → Nat → Int64) : Prop := pm_T (pm_Ev d) 270 Q (0, [(0, .ref 0), (1, .int x1), (2, .int x2), (3, .int x3), (4, .int x4)], [], pm_hp L fz t I J, 0, 0)
def t_X10_toCut_6 (d L : Nat) (fz t : Bool) (Q : pm_R → pm_H → Prop) (x1 : Int32) (x2 : Int32) (x3 : Int32) (x4 : Int32) (I : Nat → Nat → Int32) (J : Nat → Nat → Int64) : Prop := pm_T (pm_Ev d) 270 Q (6, [(0, .ref 0), (1, .int x1), (2, .int x2), (3, .int x3), (4, .int x4)], [], pm_hp L fz t I J, 1, 6)
def K_X10_toCut_6 (d : Nat) (fz t : Bool) (Q : pm_R → pm_H → Prop) (x1 : Int32) (x2 : Int32) (x3 : Int32) (x4 : Int32) : pm_R → pm_H → Prop := pm_K d 270 Q 6 [(0, .ref 0), (1, .int x1), (2, .int x2), (3, .int x3), (4, .int x4)] [] 118 1 fz 1 6
def t_X10_toCut_56 (d L : Nat) (fz t : Bool) (Q : pm_R → pm_H → Prop) (x1 : Int32) (x2 : Int32) (x3 : Int32) (x4 : Int32) (I : Nat → Nat → Int32) (J : Nat → Nat → Int64) : Prop := pm_T (pm_Ev d) 270 Q (56, [(0, .ref 0), (1, .int x1), (2, .int x2), (3, .int x3), (4, .int x4)], [], pm_hp L fz t I J, 1, 6)
def K_X10_toCut_56 (d : Nat) (fz t : Bool) (Q : pm_R → pm_H → Prop) (x1 : Int32) (x2 : Int32) (x3 : Int32) (x4 : Int32) : pm_R → pm_H → Prop := pm_K d 270 Q 56 [(0, .ref 0), (1, .int x1), (2, .int x2), (3, .int x3), (4, .int x4)] [] 118 0 fz 1 6
def t_X10_toCut_59 (d L : Nat) (fz t : Bool) (Q : pm_R → pm_H → Prop) (x1 : Int32) (x2 : Int32) (x3 : Int32) (x4 : Int32) (x5 : Int32) (I : Nat → Nat → Int32) (J : Nat → Nat → Int64) : Prop := pm_T (pm_Ev d) 270 Q (59, [(0, .ref 0), (1, .int x1), (2, .int x2), (3, .int x3), (4, .int x4), (5, .int x5)], [], pm_hp L fz t I J, 1, 6)
def t_X10_toCut_70 (d L : Nat) (fz t : Bool) (Q : pm_R → pm_H → Prop) (x1 : Int32) (x2 : Int32) (x3 : Int32) (x4 : Int32) (x5 : Int32) (I : Nat → Nat → Int32) (J : Nat → Nat → Int64) : Prop := pm_T (pm_Ev d) 270 Q (70, [(0, .ref 0), (1, .int x1), (2, .int x2), (3, .int x3), (4, .int x4), (5, .int x5)], [], pm_hp L fz t I J, 1, 6)
def K_X10_toCut_70 (d : Nat) (fz t : Bool) (Q : pm_R → pm_H → Prop) (x1 : Int32) (x2 : Int32) (x3 : Int32) (x4 : Int32) (x5 : Int32) : pm_R → pm_H → Prop := pm_K d 270 Q 70 [(0, .ref 0), (1, .int x1), (2, .int x2), (3, .int x3), (4, .int x4), (5, .int x5)] [] 118 0 fz 1 6
set_option maxRecDepth 100000 in
theorem b_X10_toCut_0 {d L : Nat} {fz t : Bool} {Q : pm_R → pm_H → Prop} {x1 : Int32} {x2 : Int32} {x3 : Int32} {x4 : Int32} {I : Nat → Nat → Int32} {J : Nat → Nat → Int64}
    (h : pm_Ev d 284 [.int x4, .int (nI 1)] (pm_hp L fz t I J) (K_X10_toCut_6 d fz t Q x1 x2 x3 x4)) :
    t_X10_toCut_0 d L fz t Q x1 x2 x3 x4 I J := by
  exact pm_go d [(6, [0, 1, 2, 3, 4]), (56, [0, 1, 2, 3, 4]), (59, [0, 1, 2, 3, 4, 5]), (70, [0, 1, 2, 3, 4, 5])] 400 h
theorem e_X10_toCut {d L : Nat} {fz t : Bool} {Q : pm_R → pm_H → Prop} {x1 : Int32} {x2 : Int32} {x3 : Int32} {x4 : Int32} {I : Nat → Nat → Int32} {J : Nat → Nat → Int64}
    (h : pm_Ev d 284 [.int x4, .int (nI 1)] (pm_hp L fz t I J) (K_X10_toCut_6 d fz t Q x1 x2 x3 x4)) :
    pm_Ev (d + 1) 270 [.ref 0, .int x1, .int x2, .int x3, .int x4] (pm_hp L fz t I J) Q := pm_Ev_in rfl (b_X10_toCut_0 h)
set_option maxRecDepth 100000 in
theorem b_X10_toCut_6 {d L : Nat} {fz t : Bool} {Q : pm_R → pm_H → Prop} {x1 : Int32} {x2 : Int32} {x3 : Int32} {x4 : Int32} {I : Nat → Nat → Int32} {J : Nat → Nat → Int64}
    (h : ((x1 < (nI 1) → Q (.inr 2) (pm_hp L true t I J)) ∧ (¬ x1 < (nI 1) → (((nI 30) < x1 → Q (.inr 2) (pm_hp L true t I J)) ∧ (¬ (nI 30) < x1 → ((x2 < (nI 0) → Q (.inr 2) (pm_hp L true t I J)) ∧ (¬ x2 < (nI 0) → (((nI 9) < x2 → Q (.inr 2) (pm_hp L true t I J)) ∧ (¬ (nI 9) < x2 → ((x3 < (nI 0) → Q (.inr 2) (pm_hp L true t I J)) ∧ (¬ x3 < (nI 0) → ((x3 ≤ (nI 50) → pm_Ev d 237 [.ref 22, .int (nI 0)] (pm_hp L fz t I J) (K_X10_toCut_56 d fz t Q x1 x2 x3 x4)) ∧ (¬ x3 ≤ (nI 50) → Q (.inr 2) (pm_hp L true t I J)))))))))))))) :
    t_X10_toCut_6 d L fz t Q x1 x2 x3 x4 I J := by
  exact pm_go d [(6, [0, 1, 2, 3, 4]), (56, [0, 1, 2, 3, 4]), (59, [0, 1, 2, 3, 4, 5]), (70, [0, 1, 2, 3, 4, 5])] 400 ⟨fun q0 => ((h).1 q0), fun q0 => ⟨fun q1 => ((((h).2 q0)).1 q1), fun q1 => ⟨fun q2 => ((((((h).2 q0)).2 q1)).1 q2), fun q2 => ⟨fun q3 => ((((((((h).2 q0)).2 q1)).2 q2)).1 q3), fun q3 => ⟨fun q4 => ((((((((((h).2 q0)).2 q1)).2 q2)).2 q3)).1 q4), fun q4 => ⟨fun q5 => ((((((((((((h).2 q0)).2 q1)).2 q2)).2 q3)).2 q4)).1 q5), fun q5 => ((((((((((((h).2 q0)).2 q1)).2 q2)).2 q3)).2 q4)).2 q5)⟩⟩⟩⟩⟩⟩
theorem kb_X10_toCut_6 {d L : Nat} {fz t : Bool} {Q : pm_R → pm_H → Prop} {x1 : Int32} {x2 : Int32} {x3 : Int32} {x4 : Int32} {fz1 : Bool} {I : Nat → Nat → Int32} {J : Nat → Nat → Int64}
    (h : ((x1 < (nI 1) → Q (.inr 2) (pm_hp L true t I J)) ∧ (¬ x1 < (nI 1) → (((nI 30) < x1 → Q (.inr 2) (pm_hp L true t I J)) ∧ (¬ (nI 30) < x1 → ((x2 < (nI 0) → Q (.inr 2) (pm_hp L true t I J)) ∧ (¬ x2 < (nI 0) → (((nI 9) < x2 → Q (.inr 2) (pm_hp L true t I J)) ∧ (¬ (nI 9) < x2 → ((x3 < (nI 0) → Q (.inr 2) (pm_hp L true t I J)) ∧ (¬ x3 < (nI 0) → ((x3 ≤ (nI 50) → pm_Ev d 237 [.ref 22, .int (nI 0)] (pm_hp L true t I J) (K_X10_toCut_56 d true t Q x1 x2 x3 x4)) ∧ (¬ x3 ≤ (nI 50) → Q (.inr 2) (pm_hp L true t I J)))))))))))))) :
    K_X10_toCut_6 d fz t Q x1 x2 x3 x4 (.inl none) (pm_hp L fz1 t I J) := b_X10_toCut_6 h
set_option maxRecDepth 100000 in
theorem b_X10_toCut_56 {d L : Nat} {fz t : Bool} {Q : pm_R → pm_H → Prop} {x1 : Int32} {x2 : Int32} {x3 : Int32} {x4 : Int32} {I : Nat → Nat → Int32} {J : Nat → Nat → Int64}
    (h : t_X10_toCut_59 d L fz t Q x1 x2 x3 x4 (nI 1) I J) :
    t_X10_toCut_56 d L fz t Q x1 x2 x3 x4 I J := by
  exact pm_go d [(6, [0, 1, 2, 3, 4]), (56, [0, 1, 2, 3, 4]), (59, [0, 1, 2, 3, 4, 5]), (70, [0, 1, 2, 3, 4, 5])] 400 h
theorem kb_X10_toCut_56 {d L : Nat} {fz t : Bool} {Q : pm_R → pm_H → Prop} {x1 : Int32} {x2 : Int32} {x3 : Int32} {x4 : Int32} {fz1 : Bool} {I : Nat → Nat → Int32} {J : Nat → Nat → Int64}
    (h : t_X10_toCut_59 d L fz t Q x1 x2 x3 x4 (nI 1) I J) :
    K_X10_toCut_56 d fz t Q x1 x2 x3 x4 (.inl none) (pm_hp L fz1 t I J) := b_X10_toCut_56 h
set_option maxRecDepth 100000 in
theorem b_X10_toCut_59 {d L : Nat} {fz t : Bool} {Q : pm_R → pm_H → Prop} {x1 : Int32} {x2 : Int32} {x3 : Int32} {x4 : Int32} {x5 : Int32} {I : Nat → Nat → Int32} {J : Nat → Nat → Int64}
    (h : ((x1 ≤ x5 → (vp_in (if (nI 9) < (x2 + (nI 1)) then (nI 9) else (x2 + (nI 1))) 10 ∧ ((¬ x4 = (nI 0) → (((x2 + (I 22 ((if (nI 9) < (x2 + (nI 1)) then (nI 9) else (x2 + (nI 1)))).toNatClampNeg)) ≤ (x3 + (I 22 1)) → Q (.inl (some (.int (nI 0)))) (pm_hp L fz t I J)) ∧ (¬ (x2 + (I 22 ((if (nI 9) < (x2 + (nI 1)) then (nI 9) else (x2 + (nI 1)))).toNatClampNeg)) ≤ (x3 + (I 22 1)) → Q (.inl (some (.int (nI 1)))) (pm_hp L fz t I J)))) ∧ (x4 = (nI 0) → Q (.inl (some (.int (if (x3 + (I 22 1)) < (x2 + (I 22 ((if (nI 9) < (x2 + (nI 1)) then (nI 9) else (x2 + (nI 1)))).toNatClampNeg)) then (x3 + (I 22 1)) else (x2 + (I 22 ((if (nI 9) < (x2 + (nI 1)) then (nI 9) else (x2 + (nI 1)))).toNatClampNeg)))))) (pm_hp L fz t I J))))) ∧ (¬ x1 ≤ x5 → pm_Ev d 108 [.ref 0, .int x3] (pm_hp L fz t I J) (K_X10_toCut_70 d fz t Q x1 x2 x3 x4 x5)))) :
    t_X10_toCut_59 d L fz t Q x1 x2 x3 x4 x5 I J := by
  exact pm_go d [(6, [0, 1, 2, 3, 4]), (56, [0, 1, 2, 3, 4]), (59, [0, 1, 2, 3, 4, 5]), (70, [0, 1, 2, 3, 4, 5])] 400 ⟨fun q0 => ⟨(((h).1 q0)).1, ⟨(vp_in_nI (by decide : 1 < 10) (by decide) : vp_in (nI 1) 10), ⟨fun q1 => ⟨fun q2 => (((((((h).1 q0)).2).1 q1)).1 q2), fun q2 => (((((((h).1 q0)).2).1 q1)).2 q2)⟩, fun q1 => (((((h).1 q0)).2).2 q1)⟩⟩⟩, fun q0 => ((h).2 q0)⟩
set_option maxRecDepth 100000 in
theorem b_X10_toCut_70 {d L : Nat} {fz t : Bool} {Q : pm_R → pm_H → Prop} {x1 : Int32} {x2 : Int32} {x3 : Int32} {x4 : Int32} {x5 : Int32} {I : Nat → Nat → Int32} {J : Nat → Nat → Int64}
    (h : t_X10_toCut_59 d L fz t Q x1 x2 x3 x4 (x5 + (nI 1)) I J) :
    t_X10_toCut_70 d L fz t Q x1 x2 x3 x4 x5 I J := by
  exact pm_go d [(6, [0, 1, 2, 3, 4]), (56, [0, 1, 2, 3, 4]), (59, [0, 1, 2, 3, 4, 5]), (70, [0, 1, 2, 3, 4, 5])] 400 h
theorem kb_X10_toCut_70 {d L : Nat} {fz t : Bool} {Q : pm_R → pm_H → Prop} {x1 : Int32} {x2 : Int32} {x3 : Int32} {x4 : Int32} {x5 : Int32} {fz1 : Bool} {I : Nat → Nat → Int32} {J : Nat → Nat → Int64}
    (h : t_X10_toCut_59 d L fz t Q x1 x2 x3 x4 (x5 + (nI 1)) I J) :
    K_X10_toCut_70 d fz t Q x1 x2 x3 x4 x5 (.inl none) (pm_hp L fz1 t I J) := b_X10_toCut_70 h
def t_X10_coats_0 (d L : Nat) (fz t : Bool) (Q : pm_R → pm_H → Prop) (x1 : Int32) (I : Nat → Nat → Int32) (J : Nat → Nat → Int64) : Prop := pm_T (pm_Ev d) 271 Q (0, [(0, .ref 0), (1, .int x1)], [], pm_hp L fz t I J, 0, 0)
def t_X10_coats_10 (d L : Nat) (fz t : Bool) (Q : pm_R → pm_H → Prop) (x1 : Int32) (I : Nat → Nat → Int32) (J : Nat → Nat → Int64) : Prop := pm_T (pm_Ev d) 271 Q (10, [(0, .ref 0), (1, .int x1)], [], pm_hp L fz t I J, 0, 0)
def t_X10_coats_10v1 (d L : Nat) (fz t : Bool) (Q : pm_R → pm_H → Prop) (x1 : Int32) (I : Nat → Nat → Int32) (J : Nat → Nat → Int64) : Prop := pm_T (pm_Ev d) 271 Q (10, [(0, .ref 0), (1, .int x1)], [], pm_hp L fz t I J, 1, 6)
def K_X10_coats_10v1 (d : Nat) (fz t : Bool) (Q : pm_R → pm_H → Prop) (x1 : Int32) : pm_R → pm_H → Prop := pm_K d 271 Q 10 [(0, .ref 0), (1, .int x1)] [] 118 1 fz 1 6
def t_X10_coats_26 (d L : Nat) (fz t : Bool) (Q : pm_R → pm_H → Prop) (x1 : Int32) (I : Nat → Nat → Int32) (J : Nat → Nat → Int64) : Prop := pm_T (pm_Ev d) 271 Q (26, [(0, .ref 0), (1, .int x1)], [], pm_hp L fz t I J, 0, 0)
def K_X10_coats_26 (d : Nat) (fz t : Bool) (Q : pm_R → pm_H → Prop) (x1 : Int32) : pm_R → pm_H → Prop := pm_K d 271 Q 26 [(0, .ref 0), (1, .int x1)] [] 118 0 fz 0 0
def t_X10_coats_26v1 (d L : Nat) (fz t : Bool) (Q : pm_R → pm_H → Prop) (x1 : Int32) (I : Nat → Nat → Int32) (J : Nat → Nat → Int64) : Prop := pm_T (pm_Ev d) 271 Q (26, [(0, .ref 0), (1, .int x1)], [], pm_hp L fz t I J, 1, 6)
def K_X10_coats_26v1 (d : Nat) (fz t : Bool) (Q : pm_R → pm_H → Prop) (x1 : Int32) : pm_R → pm_H → Prop := pm_K d 271 Q 26 [(0, .ref 0), (1, .int x1)] [] 118 0 fz 1 6
def t_X10_coats_40 (d L : Nat) (fz t : Bool) (Q : pm_R → pm_H → Prop) (x1 : Int32) (I : Nat → Nat → Int32) (J : Nat → Nat → Int64) : Prop := pm_T (pm_Ev d) 271 Q (40, [(0, .ref 0), (1, .int x1)], [], pm_hp L fz t I J, 0, 0)
def K_X10_coats_40 (d : Nat) (fz t : Bool) (Q : pm_R → pm_H → Prop) (x1 : Int32) : pm_R → pm_H → Prop := pm_K d 271 Q 40 [(0, .ref 0), (1, .int x1)] [] 118 0 fz 0 0
def t_X10_coats_40v1 (d L : Nat) (fz t : Bool) (Q : pm_R → pm_H → Prop) (x1 : Int32) (I : Nat → Nat → Int32) (J : Nat → Nat → Int64) : Prop := pm_T (pm_Ev d) 271 Q (40, [(0, .ref 0), (1, .int x1)], [], pm_hp L fz t I J, 1, 6)
def K_X10_coats_40v1 (d : Nat) (fz t : Bool) (Q : pm_R → pm_H → Prop) (x1 : Int32) : pm_R → pm_H → Prop := pm_K d 271 Q 40 [(0, .ref 0), (1, .int x1)] [] 118 0 fz 1 6
def t_X10_coats_42 (d L : Nat) (fz t : Bool) (Q : pm_R → pm_H → Prop) (x1 : Int32) (x2 : Int32) (I : Nat → Nat → Int32) (J : Nat → Nat → Int64) : Prop := pm_T (pm_Ev d) 271 Q (42, [(0, .ref 0), (1, .int x1), (2, .int x2)], [], pm_hp L fz t I J, 0, 0)
def t_X10_coats_42v1 (d L : Nat) (fz t : Bool) (Q : pm_R → pm_H → Prop) (x1 : Int32) (x2 : Int32) (I : Nat → Nat → Int32) (J : Nat → Nat → Int64) : Prop := pm_T (pm_Ev d) 271 Q (42, [(0, .ref 0), (1, .int x1), (2, .int x2)], [], pm_hp L fz t I J, 1, 6)
def t_X10_coats_94 (d L : Nat) (fz t : Bool) (Q : pm_R → pm_H → Prop) (x1 : Int32) (r : Int32) (I : Nat → Nat → Int32) (J : Nat → Nat → Int64) : Prop := pm_T (pm_Ev d) 271 Q (94, [(0, .ref 0), (1, .int x1)], [.int r], pm_hp L fz t I J, 0, 0)
def K_X10_coats_94 (d : Nat) (fz t : Bool) (Q : pm_R → pm_H → Prop) (x1 : Int32) : pm_R → pm_H → Prop := pm_K d 271 Q 94 [(0, .ref 0), (1, .int x1)] [] 118 0 fz 0 0
def t_X10_coats_77 (d L : Nat) (fz t : Bool) (Q : pm_R → pm_H → Prop) (x1 : Int32) (x2 : Int32) (s1 : Int32) (r : Int32) (I : Nat → Nat → Int32) (J : Nat → Nat → Int64) : Prop := pm_T (pm_Ev d) 271 Q (77, [(0, .ref 0), (1, .int x1), (2, .int x2)], [.int r, .ref 3, .int s1, .ref 17], pm_hp L fz t I J, 0, 0)
def K_X10_coats_77 (d : Nat) (fz t : Bool) (Q : pm_R → pm_H → Prop) (x1 : Int32) (x2 : Int32) (s1 : Int32) : pm_R → pm_H → Prop := pm_K d 271 Q 77 [(0, .ref 0), (1, .int x1), (2, .int x2)] [.ref 3, .int s1, .ref 17] 118 0 fz 0 0
def t_X10_coats_94v1 (d L : Nat) (fz t : Bool) (Q : pm_R → pm_H → Prop) (x1 : Int32) (r : Int32) (I : Nat → Nat → Int32) (J : Nat → Nat → Int64) : Prop := pm_T (pm_Ev d) 271 Q (94, [(0, .ref 0), (1, .int x1)], [.int r], pm_hp L fz t I J, 1, 6)
def K_X10_coats_94v1 (d : Nat) (fz t : Bool) (Q : pm_R → pm_H → Prop) (x1 : Int32) : pm_R → pm_H → Prop := pm_K d 271 Q 94 [(0, .ref 0), (1, .int x1)] [] 118 0 fz 1 6
def t_X10_coats_77v1 (d L : Nat) (fz t : Bool) (Q : pm_R → pm_H → Prop) (x1 : Int32) (x2 : Int32) (s1 : Int32) (r : Int32) (I : Nat → Nat → Int32) (J : Nat → Nat → Int64) : Prop := pm_T (pm_Ev d) 271 Q (77, [(0, .ref 0), (1, .int x1), (2, .int x2)], [.int r, .ref 3, .int s1, .ref 17], pm_hp L fz t I J, 1, 6)
def K_X10_coats_77v1 (d : Nat) (fz t : Bool) (Q : pm_R → pm_H → Prop) (x1 : Int32) (x2 : Int32) (s1 : Int32) : pm_R → pm_H → Prop := pm_K d 271 Q 77 [(0, .ref 0), (1, .int x1), (2, .int x2)] [.ref 3, .int s1, .ref 17] 118 0 fz 1 6
def t_X10_coats_80 (d L : Nat) (fz t : Bool) (Q : pm_R → pm_H → Prop) (x1 : Int32) (x2 : Int32) (s1 : Int32) (r : Int32) (I : Nat → Nat → Int32) (J : Nat → Nat → Int64) : Prop := pm_T (pm_Ev d) 271 Q (80, [(0, .ref 0), (1, .int x1), (2, .int x2)], [.int r, .int s1, .ref 17], pm_hp L fz t I J, 0, 0)
def K_X10_coats_80 (d : Nat) (fz t : Bool) (Q : pm_R → pm_H → Prop) (x1 : Int32) (x2 : Int32) (s1 : Int32) : pm_R → pm_H → Prop := pm_K d 271 Q 80 [(0, .ref 0), (1, .int x1), (2, .int x2)] [.int s1, .ref 17] 118 0 fz 0 0
def t_X10_coats_80v1 (d L : Nat) (fz t : Bool) (Q : pm_R → pm_H → Prop) (x1 : Int32) (x2 : Int32) (s1 : Int32) (r : Int32) (I : Nat → Nat → Int32) (J : Nat → Nat → Int64) : Prop := pm_T (pm_Ev d) 271 Q (80, [(0, .ref 0), (1, .int x1), (2, .int x2)], [.int r, .int s1, .ref 17], pm_hp L fz t I J, 1, 6)
def K_X10_coats_80v1 (d : Nat) (fz t : Bool) (Q : pm_R → pm_H → Prop) (x1 : Int32) (x2 : Int32) (s1 : Int32) : pm_R → pm_H → Prop := pm_K d 271 Q 80 [(0, .ref 0), (1, .int x1), (2, .int x2)] [.int s1, .ref 17] 118 0 fz 1 6
set_option maxRecDepth 100000 in
theorem b_X10_coats_0 {d L : Nat} {fz t : Bool} {Q : pm_R → pm_H → Prop} {x1 : Int32} {I : Nat → Nat → Int32} {J : Nat → Nat → Int64}
    (h : ((x1 = (-1 : Int32) → t_X10_coats_10 d L fz t Q x1 I J) ∧ (¬ x1 = (-1 : Int32) → pm_Ev d 281 [.ref 0, .int x1] (pm_hp L fz t I J) (K_X10_coats_10v1 d fz t Q x1)))) :
    t_X10_coats_0 d L fz t Q x1 I J := by
  exact pm_go d [(10, [0, 1]), (26, [0, 1]), (40, [0, 1]), (42, [0, 1, 2]), (77, [0, 1, 2]), (80, [0, 1, 2]), (94, [0, 1])] 400 ⟨fun q0 => ((h).1 q0), fun q0 => ((h).2 q0)⟩
theorem e_X10_coats {d L : Nat} {fz t : Bool} {Q : pm_R → pm_H → Prop} {x1 : Int32} {I : Nat → Nat → Int32} {J : Nat → Nat → Int64}
    (h : ((x1 = (-1 : Int32) → t_X10_coats_10 d L fz t Q x1 I J) ∧ (¬ x1 = (-1 : Int32) → pm_Ev d 281 [.ref 0, .int x1] (pm_hp L fz t I J) (K_X10_coats_10v1 d fz t Q x1)))) :
    pm_Ev (d + 1) 271 [.ref 0, .int x1] (pm_hp L fz t I J) Q := pm_Ev_in rfl (b_X10_coats_0 h)
set_option maxRecDepth 100000 in
theorem b_X10_coats_10 {d L : Nat} {fz t : Bool} {Q : pm_R → pm_H → Prop} {x1 : Int32} {I : Nat → Nat → Int32} {J : Nat → Nat → Int64}
    (h : pm_Ev d 12 [.ref 3, .ref (pm_td t), .ref 23, .int (nI 0)] (pm_hp L fz t I J) (K_X10_coats_26 d fz t Q x1)) :
    t_X10_coats_10 d L fz t Q x1 I J := by
  cases t <;> exact pm_go d [(10, [0, 1]), (26, [0, 1]), (40, [0, 1]), (42, [0, 1, 2]), (77, [0, 1, 2]), (80, [0, 1, 2]), (94, [0, 1])] 400 h
set_option maxRecDepth 100000 in
theorem b_X10_coats_10v1 {d L : Nat} {fz t : Bool} {Q : pm_R → pm_H → Prop} {x1 : Int32} {I : Nat → Nat → Int32} {J : Nat → Nat → Int64}
    (h : pm_Ev d 12 [.ref 3, .ref (pm_td t), .ref 23, .int (nI 0)] (pm_hp L fz t I J) (K_X10_coats_26v1 d fz t Q x1)) :
    t_X10_coats_10v1 d L fz t Q x1 I J := by
  cases t <;> exact pm_go d [(10, [0, 1]), (26, [0, 1]), (40, [0, 1]), (42, [0, 1, 2]), (77, [0, 1, 2]), (80, [0, 1, 2]), (94, [0, 1])] 400 h
theorem kb_X10_coats_10v1 {d L : Nat} {fz t : Bool} {Q : pm_R → pm_H → Prop} {x1 : Int32} {fz1 : Bool} {I : Nat → Nat → Int32} {J : Nat → Nat → Int64}
    (h : pm_Ev d 12 [.ref 3, .ref (pm_td t), .ref 23, .int (nI 0)] (pm_hp L true t I J) (K_X10_coats_26v1 d true t Q x1)) :
    K_X10_coats_10v1 d fz t Q x1 (.inl none) (pm_hp L fz1 t I J) := b_X10_coats_10v1 h
set_option maxRecDepth 100000 in
theorem b_X10_coats_26 {d L : Nat} {fz t : Bool} {Q : pm_R → pm_H → Prop} {x1 : Int32} {I : Nat → Nat → Int32} {J : Nat → Nat → Int64}
    (h : pm_Ev d 73 [.ref 16, .int (I (pm_td t) 13)] (pm_hp L fz t I J) (K_X10_coats_40 d fz t Q x1)) :
    t_X10_coats_26 d L fz t Q x1 I J := by
  cases t <;> exact pm_go d [(10, [0, 1]), (26, [0, 1]), (40, [0, 1]), (42, [0, 1, 2]), (77, [0, 1, 2]), (80, [0, 1, 2]), (94, [0, 1])] 400 h
theorem kb_X10_coats_26 {d L : Nat} {fz t : Bool} {Q : pm_R → pm_H → Prop} {x1 : Int32} {fz1 : Bool} {I : Nat → Nat → Int32} {J : Nat → Nat → Int64}
    (h : pm_Ev d 73 [.ref 16, .int (I (pm_td t) 13)] (pm_hp L fz t I J) (K_X10_coats_40 d fz t Q x1)) :
    K_X10_coats_26 d fz t Q x1 (.inl none) (pm_hp L fz1 t I J) := b_X10_coats_26 h
set_option maxRecDepth 100000 in
theorem b_X10_coats_26v1 {d L : Nat} {fz t : Bool} {Q : pm_R → pm_H → Prop} {x1 : Int32} {I : Nat → Nat → Int32} {J : Nat → Nat → Int64}
    (h : pm_Ev d 73 [.ref 16, .int (I (pm_td t) 13)] (pm_hp L fz t I J) (K_X10_coats_40v1 d fz t Q x1)) :
    t_X10_coats_26v1 d L fz t Q x1 I J := by
  cases t <;> exact pm_go d [(10, [0, 1]), (26, [0, 1]), (40, [0, 1]), (42, [0, 1, 2]), (77, [0, 1, 2]), (80, [0, 1, 2]), (94, [0, 1])] 400 h
theorem kb_X10_coats_26v1 {d L : Nat} {fz t : Bool} {Q : pm_R → pm_H → Prop} {x1 : Int32} {fz1 : Bool} {I : Nat → Nat → Int32} {J : Nat → Nat → Int64}
    (h : pm_Ev d 73 [.ref 16, .int (I (pm_td t) 13)] (pm_hp L fz t I J) (K_X10_coats_40v1 d fz t Q x1)) :
    K_X10_coats_26v1 d fz t Q x1 (.inl none) (pm_hp L fz1 t I J) := b_X10_coats_26v1 h
set_option maxRecDepth 100000 in
theorem b_X10_coats_40 {d L : Nat} {fz t : Bool} {Q : pm_R → pm_H → Prop} {x1 : Int32} {I : Nat → Nat → Int32} {J : Nat → Nat → Int64}
    (h : t_X10_coats_42 d L fz t Q x1 (nI 0) I J) :
    t_X10_coats_40 d L fz t Q x1 I J := by
  exact pm_go d [(10, [0, 1]), (26, [0, 1]), (40, [0, 1]), (42, [0, 1, 2]), (77, [0, 1, 2]), (80, [0, 1, 2]), (94, [0, 1])] 400 h
theorem kb_X10_coats_40 {d L : Nat} {fz t : Bool} {Q : pm_R → pm_H → Prop} {x1 : Int32} {fz1 : Bool} {I : Nat → Nat → Int32} {J : Nat → Nat → Int64}
    (h : t_X10_coats_42 d L fz t Q x1 (nI 0) I J) :
    K_X10_coats_40 d fz t Q x1 (.inl none) (pm_hp L fz1 t I J) := b_X10_coats_40 h
set_option maxRecDepth 100000 in
theorem b_X10_coats_40v1 {d L : Nat} {fz t : Bool} {Q : pm_R → pm_H → Prop} {x1 : Int32} {I : Nat → Nat → Int32} {J : Nat → Nat → Int64}
    (h : t_X10_coats_42v1 d L fz t Q x1 (nI 0) I J) :
    t_X10_coats_40v1 d L fz t Q x1 I J := by
  exact pm_go d [(10, [0, 1]), (26, [0, 1]), (40, [0, 1]), (42, [0, 1, 2]), (77, [0, 1, 2]), (80, [0, 1, 2]), (94, [0, 1])] 400 h
theorem kb_X10_coats_40v1 {d L : Nat} {fz t : Bool} {Q : pm_R → pm_H → Prop} {x1 : Int32} {fz1 : Bool} {I : Nat → Nat → Int32} {J : Nat → Nat → Int64}
    (h : t_X10_coats_42v1 d L fz t Q x1 (nI 0) I J) :
    K_X10_coats_40v1 d fz t Q x1 (.inl none) (pm_hp L fz1 t I J) := b_X10_coats_40v1 h
set_option maxRecDepth 100000 in
theorem b_X10_coats_42 {d L : Nat} {fz t : Bool} {Q : pm_R → pm_H → Prop} {x1 : Int32} {x2 : Int32} {I : Nat → Nat → Int32} {J : Nat → Nat → Int64}
    (h : (((I (pm_td t) 13) ≤ x2 → pm_Ev d 74 [.ref 16] (pm_hp L fz t I J) (K_X10_coats_94 d fz t Q x1)) ∧ (¬ (I (pm_td t) 13) ≤ x2 → pm_Ev d 72 [.ref (pm_td t), .ref 23, .int x2] (pm_hp L fz t I J) (K_X10_coats_77 d fz t Q x1 x2 x2)))) :
    t_X10_coats_42 d L fz t Q x1 x2 I J := by
  cases t <;> exact pm_go d [(10, [0, 1]), (26, [0, 1]), (40, [0, 1]), (42, [0, 1, 2]), (77, [0, 1, 2]), (80, [0, 1, 2]), (94, [0, 1])] 400 ⟨fun q0 => ((h).1 q0), fun q0 => ((h).2 q0)⟩
set_option maxRecDepth 100000 in
theorem b_X10_coats_42v1 {d L : Nat} {fz t : Bool} {Q : pm_R → pm_H → Prop} {x1 : Int32} {x2 : Int32} {I : Nat → Nat → Int32} {J : Nat → Nat → Int64}
    (h : (((I (pm_td t) 13) ≤ x2 → pm_Ev d 74 [.ref 16] (pm_hp L fz t I J) (K_X10_coats_94v1 d fz t Q x1)) ∧ (¬ (I (pm_td t) 13) ≤ x2 → pm_Ev d 72 [.ref (pm_td t), .ref 23, .int x2] (pm_hp L fz t I J) (K_X10_coats_77v1 d fz t Q x1 x2 x2)))) :
    t_X10_coats_42v1 d L fz t Q x1 x2 I J := by
  cases t <;> exact pm_go d [(10, [0, 1]), (26, [0, 1]), (40, [0, 1]), (42, [0, 1, 2]), (77, [0, 1, 2]), (80, [0, 1, 2]), (94, [0, 1])] 400 ⟨fun q0 => ((h).1 q0), fun q0 => ((h).2 q0)⟩
set_option maxRecDepth 100000 in
theorem b_X10_coats_94 {d L : Nat} {fz t : Bool} {Q : pm_R → pm_H → Prop} {x1 : Int32} {r : Int32} {I : Nat → Nat → Int32} {J : Nat → Nat → Int64}
    (h : ((¬ x1 = (-1 : Int32) → (vp_in x1 10 ∧ Q (.inl (some (.int (I 18 (x1).toNatClampNeg)))) (pm_hp L fz t I J))) ∧ (x1 = (-1 : Int32) → Q (.inl (some (.int r))) (pm_hp L fz t I J)))) :
    t_X10_coats_94 d L fz t Q x1 r I J := by
  exact pm_go d [(10, [0, 1]), (26, [0, 1]), (40, [0, 1]), (42, [0, 1, 2]), (77, [0, 1, 2]), (80, [0, 1, 2]), (94, [0, 1])] 400 ⟨fun q0 => ⟨(((h).1 q0)).1, (((h).1 q0)).2⟩, fun q0 => ((h).2 q0)⟩
theorem kb_X10_coats_94 {d L : Nat} {fz t : Bool} {Q : pm_R → pm_H → Prop} {x1 : Int32} {r : Int32} {fz1 : Bool} {I : Nat → Nat → Int32} {J : Nat → Nat → Int64}
    (h : ((¬ x1 = (-1 : Int32) → (vp_in x1 10 ∧ Q (.inl (some (.int (I 18 (x1).toNatClampNeg)))) (pm_hp L fz t I J))) ∧ (x1 = (-1 : Int32) → Q (.inl (some (.int r))) (pm_hp L fz t I J)))) :
    K_X10_coats_94 d fz t Q x1 (.inl (some (.int r))) (pm_hp L fz1 t I J) := b_X10_coats_94 h
set_option maxRecDepth 100000 in
theorem b_X10_coats_77 {d L : Nat} {fz t : Bool} {Q : pm_R → pm_H → Prop} {x1 : Int32} {x2 : Int32} {s1 : Int32} {r : Int32} {I : Nat → Nat → Int32} {J : Nat → Nat → Int64}
    (h : pm_Ev d 24 [.ref 3, .int r] (pm_hp L fz t I J) (K_X10_coats_80 d fz t Q x1 x2 s1)) :
    t_X10_coats_77 d L fz t Q x1 x2 s1 r I J := by
  exact pm_go d [(10, [0, 1]), (26, [0, 1]), (40, [0, 1]), (42, [0, 1, 2]), (77, [0, 1, 2]), (80, [0, 1, 2]), (94, [0, 1])] 400 h
theorem kb_X10_coats_77 {d L : Nat} {fz t : Bool} {Q : pm_R → pm_H → Prop} {x1 : Int32} {x2 : Int32} {s1 : Int32} {r : Int32} {fz1 : Bool} {I : Nat → Nat → Int32} {J : Nat → Nat → Int64}
    (h : pm_Ev d 24 [.ref 3, .int r] (pm_hp L fz t I J) (K_X10_coats_80 d fz t Q x1 x2 s1)) :
    K_X10_coats_77 d fz t Q x1 x2 s1 (.inl (some (.int r))) (pm_hp L fz1 t I J) := b_X10_coats_77 h
set_option maxRecDepth 100000 in
theorem b_X10_coats_94v1 {d L : Nat} {fz t : Bool} {Q : pm_R → pm_H → Prop} {x1 : Int32} {r : Int32} {I : Nat → Nat → Int32} {J : Nat → Nat → Int64}
    (h : ((¬ x1 = (-1 : Int32) → (vp_in x1 10 ∧ Q (.inl (some (.int (I 18 (x1).toNatClampNeg)))) (pm_hp L fz t I J))) ∧ (x1 = (-1 : Int32) → Q (.inl (some (.int r))) (pm_hp L fz t I J)))) :
    t_X10_coats_94v1 d L fz t Q x1 r I J := by
  exact pm_go d [(10, [0, 1]), (26, [0, 1]), (40, [0, 1]), (42, [0, 1, 2]), (77, [0, 1, 2]), (80, [0, 1, 2]), (94, [0, 1])] 400 ⟨fun q0 => ⟨(((h).1 q0)).1, (((h).1 q0)).2⟩, fun q0 => ((h).2 q0)⟩
theorem kb_X10_coats_94v1 {d L : Nat} {fz t : Bool} {Q : pm_R → pm_H → Prop} {x1 : Int32} {r : Int32} {fz1 : Bool} {I : Nat → Nat → Int32} {J : Nat → Nat → Int64}
    (h : ((¬ x1 = (-1 : Int32) → (vp_in x1 10 ∧ Q (.inl (some (.int (I 18 (x1).toNatClampNeg)))) (pm_hp L fz t I J))) ∧ (x1 = (-1 : Int32) → Q (.inl (some (.int r))) (pm_hp L fz t I J)))) :
    K_X10_coats_94v1 d fz t Q x1 (.inl (some (.int r))) (pm_hp L fz1 t I J) := b_X10_coats_94v1 h
set_option maxRecDepth 100000 in
theorem b_X10_coats_77v1 {d L : Nat} {fz t : Bool} {Q : pm_R → pm_H → Prop} {x1 : Int32} {x2 : Int32} {s1 : Int32} {r : Int32} {I : Nat → Nat → Int32} {J : Nat → Nat → Int64}
    (h : pm_Ev d 24 [.ref 3, .int r] (pm_hp L fz t I J) (K_X10_coats_80v1 d fz t Q x1 x2 s1)) :
    t_X10_coats_77v1 d L fz t Q x1 x2 s1 r I J := by
  exact pm_go d [(10, [0, 1]), (26, [0, 1]), (40, [0, 1]), (42, [0, 1, 2]), (77, [0, 1, 2]), (80, [0, 1, 2]), (94, [0, 1])] 400 h
theorem kb_X10_coats_77v1 {d L : Nat} {fz t : Bool} {Q : pm_R → pm_H → Prop} {x1 : Int32} {x2 : Int32} {s1 : Int32} {r : Int32} {fz1 : Bool} {I : Nat → Nat → Int32} {J : Nat → Nat → Int64}
    (h : pm_Ev d 24 [.ref 3, .int r] (pm_hp L fz t I J) (K_X10_coats_80v1 d fz t Q x1 x2 s1)) :
    K_X10_coats_77v1 d fz t Q x1 x2 s1 (.inl (some (.int r))) (pm_hp L fz1 t I J) := b_X10_coats_77v1 h
set_option maxRecDepth 100000 in
theorem b_X10_coats_80 {d L : Nat} {fz t : Bool} {Q : pm_R → pm_H → Prop} {x1 : Int32} {x2 : Int32} {s1 : Int32} {r : Int32} {I : Nat → Nat → Int32} {J : Nat → Nat → Int64}
    (h : (vp_in s1 10 ∧ t_X10_coats_42 d L fz t Q x1 (x2 + (nI 1)) (pm_u I 17 (s1).toNatClampNeg r) J)) :
    t_X10_coats_80 d L fz t Q x1 x2 s1 r I J := by
  exact pm_go d [(10, [0, 1]), (26, [0, 1]), (40, [0, 1]), (42, [0, 1, 2]), (77, [0, 1, 2]), (80, [0, 1, 2]), (94, [0, 1])] 400 ⟨(h).1, (h).2⟩
theorem kb_X10_coats_80 {d L : Nat} {fz t : Bool} {Q : pm_R → pm_H → Prop} {x1 : Int32} {x2 : Int32} {s1 : Int32} {r : Int32} {fz1 : Bool} {I : Nat → Nat → Int32} {J : Nat → Nat → Int64}
    (h : (vp_in s1 10 ∧ t_X10_coats_42 d L fz t Q x1 (x2 + (nI 1)) (pm_u I 17 (s1).toNatClampNeg r) J)) :
    K_X10_coats_80 d fz t Q x1 x2 s1 (.inl (some (.int r))) (pm_hp L fz1 t I J) := b_X10_coats_80 h
set_option maxRecDepth 100000 in
theorem b_X10_coats_80v1 {d L : Nat} {fz t : Bool} {Q : pm_R → pm_H → Prop} {x1 : Int32} {x2 : Int32} {s1 : Int32} {r : Int32} {I : Nat → Nat → Int32} {J : Nat → Nat → Int64}
    (h : (vp_in s1 10 ∧ t_X10_coats_42v1 d L fz t Q x1 (x2 + (nI 1)) (pm_u I 17 (s1).toNatClampNeg r) J)) :
    t_X10_coats_80v1 d L fz t Q x1 x2 s1 r I J := by
  exact pm_go d [(10, [0, 1]), (26, [0, 1]), (40, [0, 1]), (42, [0, 1, 2]), (77, [0, 1, 2]), (80, [0, 1, 2]), (94, [0, 1])] 400 ⟨(h).1, (h).2⟩
theorem kb_X10_coats_80v1 {d L : Nat} {fz t : Bool} {Q : pm_R → pm_H → Prop} {x1 : Int32} {x2 : Int32} {s1 : Int32} {r : Int32} {fz1 : Bool} {I : Nat → Nat → Int32} {J : Nat → Nat → Int64}
    (h : (vp_in s1 10 ∧ t_X10_coats_42v1 d L fz t Q x1 (x2 + (nI 1)) (pm_u I 17 (s1).toNatClampNeg r) J)) :
    K_X10_coats_80v1 d fz t Q x1 x2 s1 (.inl (some (.int r))) (pm_hp L fz1 t I J) := b_X10_coats_80v1 h
def t_X10_game_0 (d L : Nat) (fz t : Bool) (Q : pm_R → pm_H → Prop) (x1 : Int32) (x2 : Int32) (x3 : Int32) (I : Nat → Nat → Int32) (J : Nat → Nat → Int64) : Prop := pm_T (pm_Ev d) 272 Q (0, [(0, .ref 0), (1, .int x1), (2, .int x2), (3, .int x3)], [], pm_hp L fz t I J, 0, 0)
def t_X10_game_5 (d L : Nat) (fz t : Bool) (Q : pm_R → pm_H → Prop) (x1 : Int32) (x2 : Int32) (x3 : Int32) (I : Nat → Nat → Int32) (J : Nat → Nat → Int64) : Prop := pm_T (pm_Ev d) 272 Q (5, [(0, .ref 0), (1, .int x1), (2, .int x2), (3, .int x3)], [], pm_hp L fz t I J, 1, 6)
def K_X10_game_5 (d : Nat) (fz t : Bool) (Q : pm_R → pm_H → Prop) (x1 : Int32) (x2 : Int32) (x3 : Int32) : pm_R → pm_H → Prop := pm_K d 272 Q 5 [(0, .ref 0), (1, .int x1), (2, .int x2), (3, .int x3)] [] 118 1 fz 1 6
def t_X10_game_10 (d L : Nat) (fz t : Bool) (Q : pm_R → pm_H → Prop) (x1 : Int32) (x2 : Int32) (x3 : Int32) (I : Nat → Nat → Int32) (J : Nat → Nat → Int64) : Prop := pm_T (pm_Ev d) 272 Q (10, [(0, .ref 0), (1, .int x1), (2, .int x2), (3, .int x3)], [], pm_hp L fz t I J, 2, 12)
def K_X10_game_10 (d : Nat) (fz t : Bool) (Q : pm_R → pm_H → Prop) (x1 : Int32) (x2 : Int32) (x3 : Int32) : pm_R → pm_H → Prop := pm_K d 272 Q 10 [(0, .ref 0), (1, .int x1), (2, .int x2), (3, .int x3)] [] 118 1 fz 2 12
def t_X10_game_15 (d L : Nat) (fz t : Bool) (Q : pm_R → pm_H → Prop) (x1 : Int32) (x2 : Int32) (x3 : Int32) (I : Nat → Nat → Int32) (J : Nat → Nat → Int64) : Prop := pm_T (pm_Ev d) 272 Q (15, [(0, .ref 0), (1, .int x1), (2, .int x2), (3, .int x3)], [], pm_hp L fz t I J, 3, 18)
def K_X10_game_15 (d : Nat) (fz t : Bool) (Q : pm_R → pm_H → Prop) (x1 : Int32) (x2 : Int32) (x3 : Int32) : pm_R → pm_H → Prop := pm_K d 272 Q 15 [(0, .ref 0), (1, .int x1), (2, .int x2), (3, .int x3)] [] 118 1 fz 3 18
def t_X10_game_37 (d L : Nat) (fz t : Bool) (Q : pm_R → pm_H → Prop) (x1 : Int32) (x2 : Int32) (x3 : Int32) (x4 : Int32) (x5 : Int32) (I : Nat → Nat → Int32) (J : Nat → Nat → Int64) : Prop := pm_T (pm_Ev d) 272 Q (37, [(0, .ref 0), (1, .int x1), (2, .int x2), (3, .int x3), (4, .int x4), (5, .int x5)], [], pm_hp L fz t I J, 3, 18)
def t_X10_game_65 (d L : Nat) (fz t : Bool) (Q : pm_R → pm_H → Prop) (x1 : Int32) (x2 : Int32) (x3 : Int32) (x4 : Int32) (x5 : Int32) (x6 : Int32) (x7 : Int32) (r : Int32) (I : Nat → Nat → Int32) (J : Nat → Nat → Int64) : Prop := pm_T (pm_Ev d) 272 Q (65, [(0, .ref 0), (1, .int x1), (2, .int x2), (3, .int x3), (4, .int x4), (5, .int x5), (6, .int x6), (7, .int x7)], [.int r], pm_hp L fz t I J, 3, 18)
def K_X10_game_65 (d : Nat) (fz t : Bool) (Q : pm_R → pm_H → Prop) (x1 : Int32) (x2 : Int32) (x3 : Int32) (x4 : Int32) (x5 : Int32) (x6 : Int32) (x7 : Int32) : pm_R → pm_H → Prop := pm_K d 272 Q 65 [(0, .ref 0), (1, .int x1), (2, .int x2), (3, .int x3), (4, .int x4), (5, .int x5), (6, .int x6), (7, .int x7)] [] 118 0 fz 3 18
set_option maxRecDepth 100000 in
theorem b_X10_game_0 {d L : Nat} {fz t : Bool} {Q : pm_R → pm_H → Prop} {x1 : Int32} {x2 : Int32} {x3 : Int32} {I : Nat → Nat → Int32} {J : Nat → Nat → Int64}
    (h : pm_Ev d 281 [.ref 0, .int x1] (pm_hp L fz t I J) (K_X10_game_5 d fz t Q x1 x2 x3)) :
    t_X10_game_0 d L fz t Q x1 x2 x3 I J := by
  exact pm_go d [(5, [0, 1, 2, 3]), (10, [0, 1, 2, 3]), (15, [0, 1, 2, 3]), (37, [0, 1, 2, 3, 4, 5]), (65, [0, 1, 2, 3, 4, 5, 6, 7])] 400 h
theorem e_X10_game {d L : Nat} {fz t : Bool} {Q : pm_R → pm_H → Prop} {x1 : Int32} {x2 : Int32} {x3 : Int32} {I : Nat → Nat → Int32} {J : Nat → Nat → Int64}
    (h : pm_Ev d 281 [.ref 0, .int x1] (pm_hp L fz t I J) (K_X10_game_5 d fz t Q x1 x2 x3)) :
    pm_Ev (d + 1) 272 [.ref 0, .int x1, .int x2, .int x3] (pm_hp L fz t I J) Q := pm_Ev_in rfl (b_X10_game_0 h)
set_option maxRecDepth 100000 in
theorem b_X10_game_5 {d L : Nat} {fz t : Bool} {Q : pm_R → pm_H → Prop} {x1 : Int32} {x2 : Int32} {x3 : Int32} {I : Nat → Nat → Int32} {J : Nat → Nat → Int64}
    (h : pm_Ev d 281 [.ref 0, .int x2] (pm_hp L fz t I J) (K_X10_game_10 d fz t Q x1 x2 x3)) :
    t_X10_game_5 d L fz t Q x1 x2 x3 I J := by
  exact pm_go d [(5, [0, 1, 2, 3]), (10, [0, 1, 2, 3]), (15, [0, 1, 2, 3]), (37, [0, 1, 2, 3, 4, 5]), (65, [0, 1, 2, 3, 4, 5, 6, 7])] 400 h
theorem kb_X10_game_5 {d L : Nat} {fz t : Bool} {Q : pm_R → pm_H → Prop} {x1 : Int32} {x2 : Int32} {x3 : Int32} {fz1 : Bool} {I : Nat → Nat → Int32} {J : Nat → Nat → Int64}
    (h : pm_Ev d 281 [.ref 0, .int x2] (pm_hp L true t I J) (K_X10_game_10 d true t Q x1 x2 x3)) :
    K_X10_game_5 d fz t Q x1 x2 x3 (.inl none) (pm_hp L fz1 t I J) := b_X10_game_5 h
set_option maxRecDepth 100000 in
theorem b_X10_game_10 {d L : Nat} {fz t : Bool} {Q : pm_R → pm_H → Prop} {x1 : Int32} {x2 : Int32} {x3 : Int32} {I : Nat → Nat → Int32} {J : Nat → Nat → Int64}
    (h : pm_Ev d 284 [.int x3, .int (nI 1)] (pm_hp L fz t I J) (K_X10_game_15 d fz t Q x1 x2 x3)) :
    t_X10_game_10 d L fz t Q x1 x2 x3 I J := by
  exact pm_go d [(5, [0, 1, 2, 3]), (10, [0, 1, 2, 3]), (15, [0, 1, 2, 3]), (37, [0, 1, 2, 3, 4, 5]), (65, [0, 1, 2, 3, 4, 5, 6, 7])] 400 h
theorem kb_X10_game_10 {d L : Nat} {fz t : Bool} {Q : pm_R → pm_H → Prop} {x1 : Int32} {x2 : Int32} {x3 : Int32} {fz1 : Bool} {I : Nat → Nat → Int32} {J : Nat → Nat → Int64}
    (h : pm_Ev d 284 [.int x3, .int (nI 1)] (pm_hp L true t I J) (K_X10_game_15 d true t Q x1 x2 x3)) :
    K_X10_game_10 d fz t Q x1 x2 x3 (.inl none) (pm_hp L fz1 t I J) := b_X10_game_10 h
set_option maxRecDepth 100000 in
theorem b_X10_game_15 {d L : Nat} {fz t : Bool} {Q : pm_R → pm_H → Prop} {x1 : Int32} {x2 : Int32} {x3 : Int32} {I : Nat → Nat → Int32} {J : Nat → Nat → Int64}
    (h : ((¬ x1 = x2 → t_X10_game_37 d L fz t Q x1 x2 x3 (nI 0) (nI 0) I J) ∧ (x1 = x2 → Q (.inr 2) (pm_hp L true t I J)))) :
    t_X10_game_15 d L fz t Q x1 x2 x3 I J := by
  exact pm_go d [(5, [0, 1, 2, 3]), (10, [0, 1, 2, 3]), (15, [0, 1, 2, 3]), (37, [0, 1, 2, 3, 4, 5]), (65, [0, 1, 2, 3, 4, 5, 6, 7])] 400 ⟨fun q0 => ((h).1 q0), fun q0 => ((h).2 q0)⟩
theorem kb_X10_game_15 {d L : Nat} {fz t : Bool} {Q : pm_R → pm_H → Prop} {x1 : Int32} {x2 : Int32} {x3 : Int32} {fz1 : Bool} {I : Nat → Nat → Int32} {J : Nat → Nat → Int64}
    (h : ((¬ x1 = x2 → t_X10_game_37 d L true t Q x1 x2 x3 (nI 0) (nI 0) I J) ∧ (x1 = x2 → Q (.inr 2) (pm_hp L true t I J)))) :
    K_X10_game_15 d fz t Q x1 x2 x3 (.inl none) (pm_hp L fz1 t I J) := b_X10_game_15 h
set_option maxRecDepth 100000 in
theorem b_X10_game_37 {d L : Nat} {fz t : Bool} {Q : pm_R → pm_H → Prop} {x1 : Int32} {x2 : Int32} {x3 : Int32} {x4 : Int32} {x5 : Int32} {I : Nat → Nat → Int32} {J : Nat → Nat → Int64}
    (h : (((nI 4) ≤ x5 → ((¬ x3 = (nI 1) → Q (.inl (some (.int x4))) (pm_hp L fz t I J)) ∧ (x3 = (nI 1) → Q (.inl (some (.int (-1 : Int32)))) (pm_hp L fz t I J)))) ∧ (¬ (nI 4) ≤ x5 → pm_Ev d 111 [.ref 0, .int x1, .int x2, .int (x5 >>> ((nI 1) &&& 31)), .int (x5 &&& (nI 1))] (pm_hp L fz t I J) (K_X10_game_65 d fz t Q x1 x2 x3 x4 x5 (x5 >>> ((nI 1) &&& 31)) (x5 &&& (nI 1)))))) :
    t_X10_game_37 d L fz t Q x1 x2 x3 x4 x5 I J := by
  exact pm_go d [(5, [0, 1, 2, 3]), (10, [0, 1, 2, 3]), (15, [0, 1, 2, 3]), (37, [0, 1, 2, 3, 4, 5]), (65, [0, 1, 2, 3, 4, 5, 6, 7])] 400 ⟨fun q0 => ⟨fun q1 => ((((h).1 q0)).1 q1), fun q1 => ((((h).1 q0)).2 q1)⟩, fun q0 => ((h).2 q0)⟩
set_option maxRecDepth 100000 in
theorem b_X10_game_65 {d L : Nat} {fz t : Bool} {Q : pm_R → pm_H → Prop} {x1 : Int32} {x2 : Int32} {x3 : Int32} {x4 : Int32} {x5 : Int32} {x6 : Int32} {x7 : Int32} {r : Int32} {I : Nat → Nat → Int32} {J : Nat → Nat → Int64}
    (h : ((r = (nI 0) → t_X10_game_37 d L fz t Q x1 x2 x3 x4 (x5 + (nI 1)) I J) ∧ (¬ r = (nI 0) → ((¬ x3 = (nI 1) → t_X10_game_37 d L fz t Q x1 x2 x3 (x4 + (nI 1)) (x5 + (nI 1)) I J) ∧ (x3 = (nI 1) → Q (.inl (some (.int (((nI 10) * x6) + x7)))) (pm_hp L fz t I J)))))) :
    t_X10_game_65 d L fz t Q x1 x2 x3 x4 x5 x6 x7 r I J := by
  exact pm_go d [(5, [0, 1, 2, 3]), (10, [0, 1, 2, 3]), (15, [0, 1, 2, 3]), (37, [0, 1, 2, 3, 4, 5]), (65, [0, 1, 2, 3, 4, 5, 6, 7])] 400 ⟨fun q0 => ((h).1 q0), fun q0 => ⟨fun q1 => ((((h).2 q0)).1 q1), fun q1 => ((((h).2 q0)).2 q1)⟩⟩
theorem kb_X10_game_65 {d L : Nat} {fz t : Bool} {Q : pm_R → pm_H → Prop} {x1 : Int32} {x2 : Int32} {x3 : Int32} {x4 : Int32} {x5 : Int32} {x6 : Int32} {x7 : Int32} {r : Int32} {fz1 : Bool} {I : Nat → Nat → Int32} {J : Nat → Nat → Int64}
    (h : ((r = (nI 0) → t_X10_game_37 d L fz t Q x1 x2 x3 x4 (x5 + (nI 1)) I J) ∧ (¬ r = (nI 0) → ((¬ x3 = (nI 1) → t_X10_game_37 d L fz t Q x1 x2 x3 (x4 + (nI 1)) (x5 + (nI 1)) I J) ∧ (x3 = (nI 1) → Q (.inl (some (.int (((nI 10) * x6) + x7)))) (pm_hp L fz t I J)))))) :
    K_X10_game_65 d fz t Q x1 x2 x3 x4 x5 x6 x7 (.inl (some (.int r))) (pm_hp L fz1 t I J) := b_X10_game_65 h
def t_X10_drawn_0 (d L : Nat) (fz t : Bool) (Q : pm_R → pm_H → Prop) (x1 : Int32) (x2 : Int32) (x3 : Int32) (I : Nat → Nat → Int32) (J : Nat → Nat → Int64) : Prop := pm_T (pm_Ev d) 273 Q (0, [(0, .ref 0), (1, .int x1), (2, .int x2), (3, .int x3)], [], pm_hp L fz t I J, 0, 0)
def t_X10_drawn_5 (d L : Nat) (fz t : Bool) (Q : pm_R → pm_H → Prop) (x1 : Int32) (x2 : Int32) (x3 : Int32) (I : Nat → Nat → Int32) (J : Nat → Nat → Int64) : Prop := pm_T (pm_Ev d) 273 Q (5, [(0, .ref 0), (1, .int x1), (2, .int x2), (3, .int x3)], [], pm_hp L fz t I J, 1, 6)
def K_X10_drawn_5 (d : Nat) (fz t : Bool) (Q : pm_R → pm_H → Prop) (x1 : Int32) (x2 : Int32) (x3 : Int32) : pm_R → pm_H → Prop := pm_K d 273 Q 5 [(0, .ref 0), (1, .int x1), (2, .int x2), (3, .int x3)] [] 118 1 fz 1 6
def t_X10_drawn_36 (d L : Nat) (fz t : Bool) (Q : pm_R → pm_H → Prop) (x1 : Int32) (x2 : Int32) (x3 : Int32) (I : Nat → Nat → Int32) (J : Nat → Nat → Int64) : Prop := pm_T (pm_Ev d) 273 Q (36, [(0, .ref 0), (1, .int x1), (2, .int x2), (3, .int x3)], [], pm_hp L fz t I J, 1, 6)
def K_X10_drawn_36 (d : Nat) (fz t : Bool) (Q : pm_R → pm_H → Prop) (x1 : Int32) (x2 : Int32) (x3 : Int32) : pm_R → pm_H → Prop := pm_K d 273 Q 36 [(0, .ref 0), (1, .int x1), (2, .int x2), (3, .int x3)] [] 118 0 fz 1 6
def t_X10_drawn_42 (d L : Nat) (fz t : Bool) (Q : pm_R → pm_H → Prop) (x2 : Int32) (x3 : Int32) (x4 : Int32) (x5 : Int32) (I : Nat → Nat → Int32) (J : Nat → Nat → Int64) : Prop := pm_T (pm_Ev d) 273 Q (42, [(0, .ref 0), (2, .int x2), (3, .int x3), (4, .int x4), (5, .int x5)], [], pm_hp L fz t I J, 1, 6)
def t_X10_drawn_106 (d L : Nat) (fz t : Bool) (Q : pm_R → pm_H → Prop) (r : Int32) (I : Nat → Nat → Int32) (J : Nat → Nat → Int64) : Prop := pm_T (pm_Ev d) 273 Q (106, [], [.int r], pm_hp L fz t I J, 1, 6)
def K_X10_drawn_106 (d : Nat) (fz t : Bool) (Q : pm_R → pm_H → Prop) : pm_R → pm_H → Prop := pm_K d 273 Q 106 [] [] 118 0 fz 1 6
def t_X10_drawn_95 (d L : Nat) (fz t : Bool) (Q : pm_R → pm_H → Prop) (r : Int32) (I : Nat → Nat → Int32) (J : Nat → Nat → Int64) : Prop := pm_T (pm_Ev d) 273 Q (95, [], [.int r], pm_hp L fz t I J, 1, 6)
def K_X10_drawn_95 (d : Nat) (fz t : Bool) (Q : pm_R → pm_H → Prop) : pm_R → pm_H → Prop := pm_K d 273 Q 95 [] [] 118 0 fz 1 6
def t_X10_drawn_54 (d L : Nat) (fz t : Bool) (Q : pm_R → pm_H → Prop) (x2 : Int32) (x3 : Int32) (x5 : Int32) (r : Int32) (I : Nat → Nat → Int32) (J : Nat → Nat → Int64) : Prop := pm_T (pm_Ev d) 273 Q (54, [(0, .ref 0), (2, .int x2), (3, .int x3), (5, .int x5)], [.int r], pm_hp L fz t I J, 1, 6)
def K_X10_drawn_54 (d : Nat) (fz t : Bool) (Q : pm_R → pm_H → Prop) (x2 : Int32) (x3 : Int32) (x5 : Int32) : pm_R → pm_H → Prop := pm_K d 273 Q 54 [(0, .ref 0), (2, .int x2), (3, .int x3), (5, .int x5)] [] 118 0 fz 1 6
def t_X10_drawn_64 (d L : Nat) (fz t : Bool) (Q : pm_R → pm_H → Prop) (x2 : Int32) (x3 : Int32) (x4 : Int32) (x5 : Int32) (I : Nat → Nat → Int32) (J : Nat → Nat → Int64) : Prop := pm_T (pm_Ev d) 273 Q (64, [(0, .ref 0), (2, .int x2), (3, .int x3), (4, .int x4), (5, .int x5)], [], pm_hp L fz t I J, 1, 6)
def K_X10_drawn_64 (d : Nat) (fz t : Bool) (Q : pm_R → pm_H → Prop) (x2 : Int32) (x3 : Int32) (x4 : Int32) (x5 : Int32) : pm_R → pm_H → Prop := pm_K d 273 Q 64 [(0, .ref 0), (2, .int x2), (3, .int x3), (4, .int x4), (5, .int x5)] [] 118 0 fz 1 6
set_option maxRecDepth 100000 in
theorem b_X10_drawn_0 {d L : Nat} {fz t : Bool} {Q : pm_R → pm_H → Prop} {x1 : Int32} {x2 : Int32} {x3 : Int32} {I : Nat → Nat → Int32} {J : Nat → Nat → Int64}
    (h : pm_Ev d 284 [.int x3, .int (nI 2)] (pm_hp L fz t I J) (K_X10_drawn_5 d fz t Q x1 x2 x3)) :
    t_X10_drawn_0 d L fz t Q x1 x2 x3 I J := by
  exact pm_go d [(5, [0, 1, 2, 3]), (36, [0, 1, 2, 3]), (42, [0, 2, 3, 4, 5]), (54, [0, 2, 3, 5]), (64, [0, 2, 3, 4, 5]), (95, []), (106, [])] 400 h
theorem e_X10_drawn {d L : Nat} {fz t : Bool} {Q : pm_R → pm_H → Prop} {x1 : Int32} {x2 : Int32} {x3 : Int32} {I : Nat → Nat → Int32} {J : Nat → Nat → Int64}
    (h : pm_Ev d 284 [.int x3, .int (nI 2)] (pm_hp L fz t I J) (K_X10_drawn_5 d fz t Q x1 x2 x3)) :
    pm_Ev (d + 1) 273 [.ref 0, .int x1, .int x2, .int x3] (pm_hp L fz t I J) Q := pm_Ev_in rfl (b_X10_drawn_0 h)
set_option maxRecDepth 100000 in
theorem b_X10_drawn_5 {d L : Nat} {fz t : Bool} {Q : pm_R → pm_H → Prop} {x1 : Int32} {x2 : Int32} {x3 : Int32} {I : Nat → Nat → Int32} {J : Nat → Nat → Int64}
    (h : ((x2 < (nI 0) → Q (.inr 2) (pm_hp L true t I J)) ∧ (¬ x2 < (nI 0) → ((x2 ≤ (nI 30) → pm_Ev d 78 [.ref 27, .ref 23] (pm_hp L fz t I J) (K_X10_drawn_36 d fz t Q x1 x2 x3)) ∧ (¬ x2 ≤ (nI 30) → Q (.inr 2) (pm_hp L true t I J)))))) :
    t_X10_drawn_5 d L fz t Q x1 x2 x3 I J := by
  exact pm_go d [(5, [0, 1, 2, 3]), (36, [0, 1, 2, 3]), (42, [0, 2, 3, 4, 5]), (54, [0, 2, 3, 5]), (64, [0, 2, 3, 4, 5]), (95, []), (106, [])] 400 ⟨fun q0 => ((h).1 q0), fun q0 => ⟨fun q1 => ((((h).2 q0)).1 q1), fun q1 => ((((h).2 q0)).2 q1)⟩⟩
theorem kb_X10_drawn_5 {d L : Nat} {fz t : Bool} {Q : pm_R → pm_H → Prop} {x1 : Int32} {x2 : Int32} {x3 : Int32} {fz1 : Bool} {I : Nat → Nat → Int32} {J : Nat → Nat → Int64}
    (h : ((x2 < (nI 0) → Q (.inr 2) (pm_hp L true t I J)) ∧ (¬ x2 < (nI 0) → ((x2 ≤ (nI 30) → pm_Ev d 78 [.ref 27, .ref 23] (pm_hp L true t I J) (K_X10_drawn_36 d true t Q x1 x2 x3)) ∧ (¬ x2 ≤ (nI 30) → Q (.inr 2) (pm_hp L true t I J)))))) :
    K_X10_drawn_5 d fz t Q x1 x2 x3 (.inl none) (pm_hp L fz1 t I J) := b_X10_drawn_5 h
set_option maxRecDepth 100000 in
theorem b_X10_drawn_36 {d L : Nat} {fz t : Bool} {Q : pm_R → pm_H → Prop} {x1 : Int32} {x2 : Int32} {x3 : Int32} {I : Nat → Nat → Int32} {J : Nat → Nat → Int64}
    (h : t_X10_drawn_42 d L fz t Q x2 x3 x1 (nI 0) I J) :
    t_X10_drawn_36 d L fz t Q x1 x2 x3 I J := by
  exact pm_go d [(5, [0, 1, 2, 3]), (36, [0, 1, 2, 3]), (42, [0, 2, 3, 4, 5]), (54, [0, 2, 3, 5]), (64, [0, 2, 3, 4, 5]), (95, []), (106, [])] 400 h
theorem kb_X10_drawn_36 {d L : Nat} {fz t : Bool} {Q : pm_R → pm_H → Prop} {x1 : Int32} {x2 : Int32} {x3 : Int32} {fz1 : Bool} {I : Nat → Nat → Int32} {J : Nat → Nat → Int64}
    (h : t_X10_drawn_42 d L fz t Q x2 x3 x1 (nI 0) I J) :
    K_X10_drawn_36 d fz t Q x1 x2 x3 (.inl none) (pm_hp L fz1 t I J) := b_X10_drawn_36 h
set_option maxRecDepth 100000 in
theorem b_X10_drawn_42 {d L : Nat} {fz t : Bool} {Q : pm_R → pm_H → Prop} {x2 : Int32} {x3 : Int32} {x4 : Int32} {x5 : Int32} {I : Nat → Nat → Int32} {J : Nat → Nat → Int64}
    (h : ((x2 ≤ x5 → ((¬ x3 = (nI 0) → ((¬ x3 = (nI 1) → pm_Ev d 116 [.ref 0, .ref 27] (pm_hp L fz t I J) (K_X10_drawn_106 d fz t Q)) ∧ (x3 = (nI 1) → pm_Ev d 115 [.ref 0, .ref 27] (pm_hp L fz t I J) (K_X10_drawn_95 d fz t Q)))) ∧ (x3 = (nI 0) → Q (.inl (some (.int (I 27 5)))) (pm_hp L fz t I J)))) ∧ (¬ x2 ≤ x5 → pm_Ev d 114 [.ref 0, .int x4] (pm_hp L fz t I J) (K_X10_drawn_54 d fz t Q x2 x3 x5)))) :
    t_X10_drawn_42 d L fz t Q x2 x3 x4 x5 I J := by
  exact pm_go d [(5, [0, 1, 2, 3]), (36, [0, 1, 2, 3]), (42, [0, 2, 3, 4, 5]), (54, [0, 2, 3, 5]), (64, [0, 2, 3, 4, 5]), (95, []), (106, [])] 400 ⟨fun q0 => ⟨fun q1 => ⟨fun q2 => ((((((h).1 q0)).1 q1)).1 q2), fun q2 => ((((((h).1 q0)).1 q1)).2 q2)⟩, fun q1 => ((((h).1 q0)).2 q1)⟩, fun q0 => ((h).2 q0)⟩
set_option maxRecDepth 100000 in
theorem b_X10_drawn_106 {d L : Nat} {fz t : Bool} {Q : pm_R → pm_H → Prop} {r : Int32} {I : Nat → Nat → Int32} {J : Nat → Nat → Int64}
    (h : Q (.inl (some (.int r))) (pm_hp L fz t I J)) :
    t_X10_drawn_106 d L fz t Q r I J := by
  exact pm_go d [(5, [0, 1, 2, 3]), (36, [0, 1, 2, 3]), (42, [0, 2, 3, 4, 5]), (54, [0, 2, 3, 5]), (64, [0, 2, 3, 4, 5]), (95, []), (106, [])] 400 h
theorem kb_X10_drawn_106 {d L : Nat} {fz t : Bool} {Q : pm_R → pm_H → Prop} {r : Int32} {fz1 : Bool} {I : Nat → Nat → Int32} {J : Nat → Nat → Int64}
    (h : Q (.inl (some (.int r))) (pm_hp L fz t I J)) :
    K_X10_drawn_106 d fz t Q (.inl (some (.int r))) (pm_hp L fz1 t I J) := b_X10_drawn_106 h
set_option maxRecDepth 100000 in
theorem b_X10_drawn_95 {d L : Nat} {fz t : Bool} {Q : pm_R → pm_H → Prop} {r : Int32} {I : Nat → Nat → Int32} {J : Nat → Nat → Int64}
    (h : t_X10_drawn_106 d L fz t Q r I J) :
    t_X10_drawn_95 d L fz t Q r I J := by
  exact pm_go d [(5, [0, 1, 2, 3]), (36, [0, 1, 2, 3]), (42, [0, 2, 3, 4, 5]), (54, [0, 2, 3, 5]), (64, [0, 2, 3, 4, 5]), (95, []), (106, [])] 400 h
theorem kb_X10_drawn_95 {d L : Nat} {fz t : Bool} {Q : pm_R → pm_H → Prop} {r : Int32} {fz1 : Bool} {I : Nat → Nat → Int32} {J : Nat → Nat → Int64}
    (h : t_X10_drawn_106 d L fz t Q r I J) :
    K_X10_drawn_95 d fz t Q (.inl (some (.int r))) (pm_hp L fz1 t I J) := b_X10_drawn_95 h
set_option maxRecDepth 100000 in
theorem b_X10_drawn_54 {d L : Nat} {fz t : Bool} {Q : pm_R → pm_H → Prop} {x2 : Int32} {x3 : Int32} {x5 : Int32} {r : Int32} {I : Nat → Nat → Int32} {J : Nat → Nat → Int64}
    (h : pm_Ev d 101 [.ref 0, .ref 27] (pm_hp L fz t I J) (K_X10_drawn_64 d fz t Q x2 x3 r x5)) :
    t_X10_drawn_54 d L fz t Q x2 x3 x5 r I J := by
  exact pm_go d [(5, [0, 1, 2, 3]), (36, [0, 1, 2, 3]), (42, [0, 2, 3, 4, 5]), (54, [0, 2, 3, 5]), (64, [0, 2, 3, 4, 5]), (95, []), (106, [])] 400 h
theorem kb_X10_drawn_54 {d L : Nat} {fz t : Bool} {Q : pm_R → pm_H → Prop} {x2 : Int32} {x3 : Int32} {x5 : Int32} {r : Int32} {fz1 : Bool} {I : Nat → Nat → Int32} {J : Nat → Nat → Int64}
    (h : pm_Ev d 101 [.ref 0, .ref 27] (pm_hp L fz t I J) (K_X10_drawn_64 d fz t Q x2 x3 r x5)) :
    K_X10_drawn_54 d fz t Q x2 x3 x5 (.inl (some (.int r))) (pm_hp L fz1 t I J) := b_X10_drawn_54 h
set_option maxRecDepth 100000 in
theorem b_X10_drawn_64 {d L : Nat} {fz t : Bool} {Q : pm_R → pm_H → Prop} {x2 : Int32} {x3 : Int32} {x4 : Int32} {x5 : Int32} {I : Nat → Nat → Int32} {J : Nat → Nat → Int64}
    (h : t_X10_drawn_42 d L fz t Q x2 x3 x4 (x5 + (nI 1)) I J) :
    t_X10_drawn_64 d L fz t Q x2 x3 x4 x5 I J := by
  exact pm_go d [(5, [0, 1, 2, 3]), (36, [0, 1, 2, 3]), (42, [0, 2, 3, 4, 5]), (54, [0, 2, 3, 5]), (64, [0, 2, 3, 4, 5]), (95, []), (106, [])] 400 h
theorem kb_X10_drawn_64 {d L : Nat} {fz t : Bool} {Q : pm_R → pm_H → Prop} {x2 : Int32} {x3 : Int32} {x4 : Int32} {x5 : Int32} {fz1 : Bool} {I : Nat → Nat → Int32} {J : Nat → Nat → Int64}
    (h : t_X10_drawn_42 d L fz t Q x2 x3 x4 (x5 + (nI 1)) I J) :
    K_X10_drawn_64 d fz t Q x2 x3 x4 x5 (.inl none) (pm_hp L fz1 t I J) := b_X10_drawn_64 h
def t_X10_gap_0 (d L : Nat) (fz t : Bool) (Q : pm_R → pm_H → Prop) (x1 : Int32) (x2 : Int32) (I : Nat → Nat → Int32) (J : Nat → Nat → Int64) : Prop := pm_T (pm_Ev d) 274 Q (0, [(0, .ref 0), (1, .int x1), (2, .int x2)], [], pm_hp L fz t I J, 0, 0)
def t_X10_gap_5 (d L : Nat) (fz t : Bool) (Q : pm_R → pm_H → Prop) (x1 : Int32) (x2 : Int32) (I : Nat → Nat → Int32) (J : Nat → Nat → Int64) : Prop := pm_T (pm_Ev d) 274 Q (5, [(0, .ref 0), (1, .int x1), (2, .int x2)], [], pm_hp L fz t I J, 1, 6)
def K_X10_gap_5 (d : Nat) (fz t : Bool) (Q : pm_R → pm_H → Prop) (x1 : Int32) (x2 : Int32) : pm_R → pm_H → Prop := pm_K d 274 Q 5 [(0, .ref 0), (1, .int x1), (2, .int x2)] [] 118 1 fz 1 6
def t_X10_gap_10 (d L : Nat) (fz t : Bool) (Q : pm_R → pm_H → Prop) (x1 : Int32) (x2 : Int32) (I : Nat → Nat → Int32) (J : Nat → Nat → Int64) : Prop := pm_T (pm_Ev d) 274 Q (10, [(0, .ref 0), (1, .int x1), (2, .int x2)], [], pm_hp L fz t I J, 2, 12)
def K_X10_gap_10 (d : Nat) (fz t : Bool) (Q : pm_R → pm_H → Prop) (x1 : Int32) (x2 : Int32) : pm_R → pm_H → Prop := pm_K d 274 Q 10 [(0, .ref 0), (1, .int x1), (2, .int x2)] [] 118 1 fz 2 12
def t_X10_gap_26 (d L : Nat) (fz t : Bool) (Q : pm_R → pm_H → Prop) (x1 : Int32) (x2 : Int32) (I : Nat → Nat → Int32) (J : Nat → Nat → Int64) : Prop := pm_T (pm_Ev d) 274 Q (26, [(0, .ref 0), (1, .int x1), (2, .int x2)], [], pm_hp L fz t I J, 2, 12)
def K_X10_gap_26 (d : Nat) (fz t : Bool) (Q : pm_R → pm_H → Prop) (x1 : Int32) (x2 : Int32) : pm_R → pm_H → Prop := pm_K d 274 Q 26 [(0, .ref 0), (1, .int x1), (2, .int x2)] [] 118 0 fz 2 12
def t_X10_gap_48 (d L : Nat) (fz t : Bool) (Q : pm_R → pm_H → Prop) (x2 : Int32) (x3 : Int32) (x4 : Int32) (x5 : Int32) (x6 : Int32) (x7 : Int32) (I : Nat → Nat → Int32) (J : Nat → Nat → Int64) : Prop := pm_T (pm_Ev d) 274 Q (48, [(0, .ref 0), (2, .int x2), (3, .int x3), (4, .int x4), (5, .int x5), (6, .int x6), (7, .int x7)], [], pm_hp L fz t I J, 2, 12)
set_option maxRecDepth 100000 in
theorem b_X10_gap_0 {d L : Nat} {fz t : Bool} {Q : pm_R → pm_H → Prop} {x1 : Int32} {x2 : Int32} {I : Nat → Nat → Int32} {J : Nat → Nat → Int64}
    (h : pm_Ev d 282 [.ref 0, .int x1] (pm_hp L fz t I J) (K_X10_gap_5 d fz t Q x1 x2)) :
    t_X10_gap_0 d L fz t Q x1 x2 I J := by
  exact pm_go d [(5, [0, 1, 2]), (10, [0, 1, 2]), (26, [0, 1, 2]), (48, [0, 2, 3, 4, 5, 6, 7])] 400 h
theorem e_X10_gap {d L : Nat} {fz t : Bool} {Q : pm_R → pm_H → Prop} {x1 : Int32} {x2 : Int32} {I : Nat → Nat → Int32} {J : Nat → Nat → Int64}
    (h : pm_Ev d 282 [.ref 0, .int x1] (pm_hp L fz t I J) (K_X10_gap_5 d fz t Q x1 x2)) :
    pm_Ev (d + 1) 274 [.ref 0, .int x1, .int x2] (pm_hp L fz t I J) Q := pm_Ev_in rfl (b_X10_gap_0 h)
set_option maxRecDepth 100000 in
theorem b_X10_gap_5 {d L : Nat} {fz t : Bool} {Q : pm_R → pm_H → Prop} {x1 : Int32} {x2 : Int32} {I : Nat → Nat → Int32} {J : Nat → Nat → Int64}
    (h : pm_Ev d 284 [.int x2, .int (nI 1)] (pm_hp L fz t I J) (K_X10_gap_10 d fz t Q x1 x2)) :
    t_X10_gap_5 d L fz t Q x1 x2 I J := by
  exact pm_go d [(5, [0, 1, 2]), (10, [0, 1, 2]), (26, [0, 1, 2]), (48, [0, 2, 3, 4, 5, 6, 7])] 400 h
theorem kb_X10_gap_5 {d L : Nat} {fz t : Bool} {Q : pm_R → pm_H → Prop} {x1 : Int32} {x2 : Int32} {fz1 : Bool} {I : Nat → Nat → Int32} {J : Nat → Nat → Int64}
    (h : pm_Ev d 284 [.int x2, .int (nI 1)] (pm_hp L true t I J) (K_X10_gap_10 d true t Q x1 x2)) :
    K_X10_gap_5 d fz t Q x1 x2 (.inl none) (pm_hp L fz1 t I J) := b_X10_gap_5 h
set_option maxRecDepth 100000 in
theorem b_X10_gap_10 {d L : Nat} {fz t : Bool} {Q : pm_R → pm_H → Prop} {x1 : Int32} {x2 : Int32} {I : Nat → Nat → Int32} {J : Nat → Nat → Int64}
    (h : pm_Ev d 12 [.ref 3, .ref (pm_td t), .ref 23, .int (nI 0)] (pm_hp L fz t I J) (K_X10_gap_26 d fz t Q x1 x2)) :
    t_X10_gap_10 d L fz t Q x1 x2 I J := by
  cases t <;> exact pm_go d [(5, [0, 1, 2]), (10, [0, 1, 2]), (26, [0, 1, 2]), (48, [0, 2, 3, 4, 5, 6, 7])] 400 h
theorem kb_X10_gap_10 {d L : Nat} {fz t : Bool} {Q : pm_R → pm_H → Prop} {x1 : Int32} {x2 : Int32} {fz1 : Bool} {I : Nat → Nat → Int32} {J : Nat → Nat → Int64}
    (h : pm_Ev d 12 [.ref 3, .ref (pm_td t), .ref 23, .int (nI 0)] (pm_hp L true t I J) (K_X10_gap_26 d true t Q x1 x2)) :
    K_X10_gap_10 d fz t Q x1 x2 (.inl none) (pm_hp L fz1 t I J) := b_X10_gap_10 h
set_option maxRecDepth 100000 in
theorem b_X10_gap_26 {d L : Nat} {fz t : Bool} {Q : pm_R → pm_H → Prop} {x1 : Int32} {x2 : Int32} {I : Nat → Nat → Int32} {J : Nat → Nat → Int64}
    (h : (vp_in x1 12 ∧ t_X10_gap_48 d L fz t Q x2 (I 4 (x1).toNatClampNeg) (nI 0) (-1 : Int32) (nI 0) (nI 0) I J)) :
    t_X10_gap_26 d L fz t Q x1 x2 I J := by
  exact pm_go d [(5, [0, 1, 2]), (10, [0, 1, 2]), (26, [0, 1, 2]), (48, [0, 2, 3, 4, 5, 6, 7])] 400 ⟨(h).1, (h).2⟩
theorem kb_X10_gap_26 {d L : Nat} {fz t : Bool} {Q : pm_R → pm_H → Prop} {x1 : Int32} {x2 : Int32} {fz1 : Bool} {I : Nat → Nat → Int32} {J : Nat → Nat → Int64}
    (h : (vp_in x1 12 ∧ t_X10_gap_48 d L fz t Q x2 (I 4 (x1).toNatClampNeg) (nI 0) (-1 : Int32) (nI 0) (nI 0) I J)) :
    K_X10_gap_26 d fz t Q x1 x2 (.inl none) (pm_hp L fz1 t I J) := b_X10_gap_26 h
set_option maxRecDepth 100000 in
theorem b_X10_gap_48 {d L : Nat} {fz t : Bool} {Q : pm_R → pm_H → Prop} {x2 : Int32} {x3 : Int32} {x4 : Int32} {x5 : Int32} {x6 : Int32} {x7 : Int32} {I : Nat → Nat → Int32} {J : Nat → Nat → Int64}
    (h : (((I (pm_td t) 11) ≤ x7 → ((¬ x2 = (nI 0) → Q (.inl (some (.int x5))) (pm_hp L fz t I J)) ∧ (x2 = (nI 0) → Q (.inl (some (.int x4))) (pm_hp L fz t I J)))) ∧ (¬ (I (pm_td t) 11) ≤ x7 → ((¬ ((x3 >>> (x7 &&& 31)) &&& (nI 1)) = (nI 1) → (((x6 + (nI 1)) ≤ x4 → t_X10_gap_48 d L fz t Q x2 x3 x4 x5 (x6 + (nI 1)) (x7 + (nI 1)) I J) ∧ (¬ (x6 + (nI 1)) ≤ x4 → t_X10_gap_48 d L fz t Q x2 x3 (x6 + (nI 1)) ((x7 - (x6 + (nI 1))) + (nI 1)) (x6 + (nI 1)) (x7 + (nI 1)) I J))) ∧ (((x3 >>> (x7 &&& 31)) &&& (nI 1)) = (nI 1) → (((nI 0) ≤ x4 → t_X10_gap_48 d L fz t Q x2 x3 x4 x5 (nI 0) (x7 + (nI 1)) I J) ∧ (¬ (nI 0) ≤ x4 → t_X10_gap_48 d L fz t Q x2 x3 (nI 0) ((x7 - (nI 0)) + (nI 1)) (nI 0) (x7 + (nI 1)) I J))))))) :
    t_X10_gap_48 d L fz t Q x2 x3 x4 x5 x6 x7 I J := by
  cases t <;> exact pm_go d [(5, [0, 1, 2]), (10, [0, 1, 2]), (26, [0, 1, 2]), (48, [0, 2, 3, 4, 5, 6, 7])] 400 ⟨fun q0 => ⟨fun q1 => ((((h).1 q0)).1 q1), fun q1 => ((((h).1 q0)).2 q1)⟩, fun q0 => ⟨fun q1 => ⟨fun q2 => ((((((h).2 q0)).1 q1)).1 q2), fun q2 => ((((((h).2 q0)).1 q1)).2 q2)⟩, fun q1 => ⟨fun q2 => ((((((h).2 q0)).2 q1)).1 q2), fun q2 => ((((((h).2 q0)).2 q1)).2 q2)⟩⟩⟩
def t_X10_unlike_0 (d L : Nat) (fz t : Bool) (Q : pm_R → pm_H → Prop) (x1 : Int32) (x2 : Int32) (I : Nat → Nat → Int32) (J : Nat → Nat → Int64) : Prop := pm_T (pm_Ev d) 275 Q (0, [(0, .ref 0), (1, .int x1), (2, .int x2)], [], pm_hp L fz t I J, 0, 0)
def t_X10_unlike_5 (d L : Nat) (fz t : Bool) (Q : pm_R → pm_H → Prop) (x1 : Int32) (x2 : Int32) (I : Nat → Nat → Int32) (J : Nat → Nat → Int64) : Prop := pm_T (pm_Ev d) 275 Q (5, [(0, .ref 0), (1, .int x1), (2, .int x2)], [], pm_hp L fz t I J, 1, 6)
def K_X10_unlike_5 (d : Nat) (fz t : Bool) (Q : pm_R → pm_H → Prop) (x1 : Int32) (x2 : Int32) : pm_R → pm_H → Prop := pm_K d 275 Q 5 [(0, .ref 0), (1, .int x1), (2, .int x2)] [] 118 1 fz 1 6
def t_X10_unlike_10 (d L : Nat) (fz t : Bool) (Q : pm_R → pm_H → Prop) (x1 : Int32) (x2 : Int32) (I : Nat → Nat → Int32) (J : Nat → Nat → Int64) : Prop := pm_T (pm_Ev d) 275 Q (10, [(0, .ref 0), (1, .int x1), (2, .int x2)], [], pm_hp L fz t I J, 2, 12)
def K_X10_unlike_10 (d : Nat) (fz t : Bool) (Q : pm_R → pm_H → Prop) (x1 : Int32) (x2 : Int32) : pm_R → pm_H → Prop := pm_K d 275 Q 10 [(0, .ref 0), (1, .int x1), (2, .int x2)] [] 118 1 fz 2 12
def t_X10_unlike_22 (d L : Nat) (fz t : Bool) (Q : pm_R → pm_H → Prop) (x2 : Int32) (r : Int32) (I : Nat → Nat → Int32) (J : Nat → Nat → Int64) : Prop := pm_T (pm_Ev d) 275 Q (22, [(0, .ref 0), (2, .int x2)], [.int r], pm_hp L fz t I J, 2, 12)
def K_X10_unlike_22 (d : Nat) (fz t : Bool) (Q : pm_R → pm_H → Prop) (x2 : Int32) : pm_R → pm_H → Prop := pm_K d 275 Q 22 [(0, .ref 0), (2, .int x2)] [] 118 0 fz 2 12
def t_X10_unlike_35 (d L : Nat) (fz t : Bool) (Q : pm_R → pm_H → Prop) (x3 : Int32) (r : Int32) (I : Nat → Nat → Int32) (J : Nat → Nat → Int64) : Prop := pm_T (pm_Ev d) 275 Q (35, [(0, .ref 0), (3, .int x3)], [.int r], pm_hp L fz t I J, 2, 12)
def K_X10_unlike_35 (d : Nat) (fz t : Bool) (Q : pm_R → pm_H → Prop) (x3 : Int32) : pm_R → pm_H → Prop := pm_K d 275 Q 35 [(0, .ref 0), (3, .int x3)] [] 118 0 fz 2 12
def t_X10_unlike_44 (d L : Nat) (fz t : Bool) (Q : pm_R → pm_H → Prop) (x3 : Int32) (x4 : Int32) (r : Int32) (I : Nat → Nat → Int32) (J : Nat → Nat → Int64) : Prop := pm_T (pm_Ev d) 275 Q (44, [(0, .ref 0), (3, .int x3), (4, .int x4)], [.int r], pm_hp L fz t I J, 2, 12)
def K_X10_unlike_44 (d : Nat) (fz t : Bool) (Q : pm_R → pm_H → Prop) (x3 : Int32) (x4 : Int32) : pm_R → pm_H → Prop := pm_K d 275 Q 44 [(0, .ref 0), (3, .int x3), (4, .int x4)] [] 118 0 fz 2 12
def t_X10_unlike_52 (d L : Nat) (fz t : Bool) (Q : pm_R → pm_H → Prop) (x4 : Int32) (s0 : Int32) (r : Int32) (I : Nat → Nat → Int32) (J : Nat → Nat → Int64) : Prop := pm_T (pm_Ev d) 275 Q (52, [(4, .int x4)], [.int r, .int s0], pm_hp L fz t I J, 2, 12)
def K_X10_unlike_52 (d : Nat) (fz t : Bool) (Q : pm_R → pm_H → Prop) (x4 : Int32) (s0 : Int32) : pm_R → pm_H → Prop := pm_K d 275 Q 52 [(4, .int x4)] [.int s0] 118 0 fz 2 12
def t_X10_unlike_58 (d L : Nat) (fz t : Bool) (Q : pm_R → pm_H → Prop) (s0 : Int32) (r : Int32) (I : Nat → Nat → Int32) (J : Nat → Nat → Int64) : Prop := pm_T (pm_Ev d) 275 Q (58, [], [.int r, .int s0], pm_hp L fz t I J, 2, 12)
def K_X10_unlike_58 (d : Nat) (fz t : Bool) (Q : pm_R → pm_H → Prop) (s0 : Int32) : pm_R → pm_H → Prop := pm_K d 275 Q 58 [] [.int s0] 118 0 fz 2 12
set_option maxRecDepth 100000 in
theorem b_X10_unlike_0 {d L : Nat} {fz t : Bool} {Q : pm_R → pm_H → Prop} {x1 : Int32} {x2 : Int32} {I : Nat → Nat → Int32} {J : Nat → Nat → Int64}
    (h : pm_Ev d 281 [.ref 0, .int x1] (pm_hp L fz t I J) (K_X10_unlike_5 d fz t Q x1 x2)) :
    t_X10_unlike_0 d L fz t Q x1 x2 I J := by
  exact pm_go d [(5, [0, 1, 2]), (10, [0, 1, 2]), (22, [0, 2]), (35, [0, 3]), (44, [0, 3, 4]), (52, [4]), (58, [])] 400 h
theorem e_X10_unlike {d L : Nat} {fz t : Bool} {Q : pm_R → pm_H → Prop} {x1 : Int32} {x2 : Int32} {I : Nat → Nat → Int32} {J : Nat → Nat → Int64}
    (h : pm_Ev d 281 [.ref 0, .int x1] (pm_hp L fz t I J) (K_X10_unlike_5 d fz t Q x1 x2)) :
    pm_Ev (d + 1) 275 [.ref 0, .int x1, .int x2] (pm_hp L fz t I J) Q := pm_Ev_in rfl (b_X10_unlike_0 h)
set_option maxRecDepth 100000 in
theorem b_X10_unlike_5 {d L : Nat} {fz t : Bool} {Q : pm_R → pm_H → Prop} {x1 : Int32} {x2 : Int32} {I : Nat → Nat → Int32} {J : Nat → Nat → Int64}
    (h : pm_Ev d 281 [.ref 0, .int x2] (pm_hp L fz t I J) (K_X10_unlike_10 d fz t Q x1 x2)) :
    t_X10_unlike_5 d L fz t Q x1 x2 I J := by
  exact pm_go d [(5, [0, 1, 2]), (10, [0, 1, 2]), (22, [0, 2]), (35, [0, 3]), (44, [0, 3, 4]), (52, [4]), (58, [])] 400 h
theorem kb_X10_unlike_5 {d L : Nat} {fz t : Bool} {Q : pm_R → pm_H → Prop} {x1 : Int32} {x2 : Int32} {fz1 : Bool} {I : Nat → Nat → Int32} {J : Nat → Nat → Int64}
    (h : pm_Ev d 281 [.ref 0, .int x2] (pm_hp L true t I J) (K_X10_unlike_10 d true t Q x1 x2)) :
    K_X10_unlike_5 d fz t Q x1 x2 (.inl none) (pm_hp L fz1 t I J) := b_X10_unlike_5 h
set_option maxRecDepth 100000 in
theorem b_X10_unlike_10 {d L : Nat} {fz t : Bool} {Q : pm_R → pm_H → Prop} {x1 : Int32} {x2 : Int32} {I : Nat → Nat → Int32} {J : Nat → Nat → Int64}
    (h : pm_Ev d 72 [.ref (pm_td t), .ref 23, .int x1] (pm_hp L fz t I J) (K_X10_unlike_22 d fz t Q x2)) :
    t_X10_unlike_10 d L fz t Q x1 x2 I J := by
  cases t <;> exact pm_go d [(5, [0, 1, 2]), (10, [0, 1, 2]), (22, [0, 2]), (35, [0, 3]), (44, [0, 3, 4]), (52, [4]), (58, [])] 400 h
theorem kb_X10_unlike_10 {d L : Nat} {fz t : Bool} {Q : pm_R → pm_H → Prop} {x1 : Int32} {x2 : Int32} {fz1 : Bool} {I : Nat → Nat → Int32} {J : Nat → Nat → Int64}
    (h : pm_Ev d 72 [.ref (pm_td t), .ref 23, .int x1] (pm_hp L true t I J) (K_X10_unlike_22 d true t Q x2)) :
    K_X10_unlike_10 d fz t Q x1 x2 (.inl none) (pm_hp L fz1 t I J) := b_X10_unlike_10 h
set_option maxRecDepth 100000 in
theorem b_X10_unlike_22 {d L : Nat} {fz t : Bool} {Q : pm_R → pm_H → Prop} {x2 : Int32} {r : Int32} {I : Nat → Nat → Int32} {J : Nat → Nat → Int64}
    (h : pm_Ev d 72 [.ref (pm_td t), .ref 23, .int x2] (pm_hp L fz t I J) (K_X10_unlike_35 d fz t Q r)) :
    t_X10_unlike_22 d L fz t Q x2 r I J := by
  cases t <;> exact pm_go d [(5, [0, 1, 2]), (10, [0, 1, 2]), (22, [0, 2]), (35, [0, 3]), (44, [0, 3, 4]), (52, [4]), (58, [])] 400 h
theorem kb_X10_unlike_22 {d L : Nat} {fz t : Bool} {Q : pm_R → pm_H → Prop} {x2 : Int32} {r : Int32} {fz1 : Bool} {I : Nat → Nat → Int32} {J : Nat → Nat → Int64}
    (h : pm_Ev d 72 [.ref (pm_td t), .ref 23, .int x2] (pm_hp L fz t I J) (K_X10_unlike_35 d fz t Q r)) :
    K_X10_unlike_22 d fz t Q x2 (.inl (some (.int r))) (pm_hp L fz1 t I J) := b_X10_unlike_22 h
set_option maxRecDepth 100000 in
theorem b_X10_unlike_35 {d L : Nat} {fz t : Bool} {Q : pm_R → pm_H → Prop} {x3 : Int32} {r : Int32} {I : Nat → Nat → Int32} {J : Nat → Nat → Int64}
    (h : pm_Ev d 236 [.int (x3 ^^^ r)] (pm_hp L fz t I J) (K_X10_unlike_44 d fz t Q x3 r)) :
    t_X10_unlike_35 d L fz t Q x3 r I J := by
  exact pm_go d [(5, [0, 1, 2]), (10, [0, 1, 2]), (22, [0, 2]), (35, [0, 3]), (44, [0, 3, 4]), (52, [4]), (58, [])] 400 h
theorem kb_X10_unlike_35 {d L : Nat} {fz t : Bool} {Q : pm_R → pm_H → Prop} {x3 : Int32} {r : Int32} {fz1 : Bool} {I : Nat → Nat → Int32} {J : Nat → Nat → Int64}
    (h : pm_Ev d 236 [.int (x3 ^^^ r)] (pm_hp L fz t I J) (K_X10_unlike_44 d fz t Q x3 r)) :
    K_X10_unlike_35 d fz t Q x3 (.inl (some (.int r))) (pm_hp L fz1 t I J) := b_X10_unlike_35 h
set_option maxRecDepth 100000 in
theorem b_X10_unlike_44 {d L : Nat} {fz t : Bool} {Q : pm_R → pm_H → Prop} {x3 : Int32} {x4 : Int32} {r : Int32} {I : Nat → Nat → Int32} {J : Nat → Nat → Int64}
    (h : pm_Ev d 71 [.ref (pm_td t), .int x3] (pm_hp L fz t I J) (K_X10_unlike_52 d fz t Q x4 r)) :
    t_X10_unlike_44 d L fz t Q x3 x4 r I J := by
  cases t <;> exact pm_go d [(5, [0, 1, 2]), (10, [0, 1, 2]), (22, [0, 2]), (35, [0, 3]), (44, [0, 3, 4]), (52, [4]), (58, [])] 400 h
theorem kb_X10_unlike_44 {d L : Nat} {fz t : Bool} {Q : pm_R → pm_H → Prop} {x3 : Int32} {x4 : Int32} {r : Int32} {fz1 : Bool} {I : Nat → Nat → Int32} {J : Nat → Nat → Int64}
    (h : pm_Ev d 71 [.ref (pm_td t), .int x3] (pm_hp L fz t I J) (K_X10_unlike_52 d fz t Q x4 r)) :
    K_X10_unlike_44 d fz t Q x3 x4 (.inl (some (.int r))) (pm_hp L fz1 t I J) := b_X10_unlike_44 h
set_option maxRecDepth 100000 in
theorem b_X10_unlike_52 {d L : Nat} {fz t : Bool} {Q : pm_R → pm_H → Prop} {x4 : Int32} {s0 : Int32} {r : Int32} {I : Nat → Nat → Int32} {J : Nat → Nat → Int64}
    (h : pm_Ev d 236 [.int (r ^^^ x4)] (pm_hp L fz t I J) (K_X10_unlike_58 d fz t Q s0)) :
    t_X10_unlike_52 d L fz t Q x4 s0 r I J := by
  exact pm_go d [(5, [0, 1, 2]), (10, [0, 1, 2]), (22, [0, 2]), (35, [0, 3]), (44, [0, 3, 4]), (52, [4]), (58, [])] 400 h
theorem kb_X10_unlike_52 {d L : Nat} {fz t : Bool} {Q : pm_R → pm_H → Prop} {x4 : Int32} {s0 : Int32} {r : Int32} {fz1 : Bool} {I : Nat → Nat → Int32} {J : Nat → Nat → Int64}
    (h : pm_Ev d 236 [.int (r ^^^ x4)] (pm_hp L fz t I J) (K_X10_unlike_58 d fz t Q s0)) :
    K_X10_unlike_52 d fz t Q x4 s0 (.inl (some (.int r))) (pm_hp L fz1 t I J) := b_X10_unlike_52 h
set_option maxRecDepth 100000 in
theorem b_X10_unlike_58 {d L : Nat} {fz t : Bool} {Q : pm_R → pm_H → Prop} {s0 : Int32} {r : Int32} {I : Nat → Nat → Int32} {J : Nat → Nat → Int64}
    (h : Q (.inl (some (.int (if r < s0 then r else s0)))) (pm_hp L fz t I J)) :
    t_X10_unlike_58 d L fz t Q s0 r I J := by
  exact pm_go d [(5, [0, 1, 2]), (10, [0, 1, 2]), (22, [0, 2]), (35, [0, 3]), (44, [0, 3, 4]), (52, [4]), (58, [])] 400 h
theorem kb_X10_unlike_58 {d L : Nat} {fz t : Bool} {Q : pm_R → pm_H → Prop} {s0 : Int32} {r : Int32} {fz1 : Bool} {I : Nat → Nat → Int32} {J : Nat → Nat → Int64}
    (h : Q (.inl (some (.int (if r < s0 then r else s0)))) (pm_hp L fz t I J)) :
    K_X10_unlike_58 d fz t Q s0 (.inl (some (.int r))) (pm_hp L fz1 t I J) := b_X10_unlike_58 h
def t_X10_family_0 (d L : Nat) (fz t : Bool) (Q : pm_R → pm_H → Prop) (x1 : Int32) (I : Nat → Nat → Int32) (J : Nat → Nat → Int64) : Prop := pm_T (pm_Ev d) 276 Q (0, [(0, .ref 0), (1, .int x1)], [], pm_hp L fz t I J, 0, 0)
def t_X10_family_5 (d L : Nat) (fz t : Bool) (Q : pm_R → pm_H → Prop) (x1 : Int32) (I : Nat → Nat → Int32) (J : Nat → Nat → Int64) : Prop := pm_T (pm_Ev d) 276 Q (5, [(0, .ref 0), (1, .int x1)], [], pm_hp L fz t I J, 1, 6)
def K_X10_family_5 (d : Nat) (fz t : Bool) (Q : pm_R → pm_H → Prop) (x1 : Int32) : pm_R → pm_H → Prop := pm_K d 276 Q 5 [(0, .ref 0), (1, .int x1)] [] 118 1 fz 1 6
def t_X10_family_17 (d L : Nat) (fz t : Bool) (Q : pm_R → pm_H → Prop) (r : Int32) (I : Nat → Nat → Int32) (J : Nat → Nat → Int64) : Prop := pm_T (pm_Ev d) 276 Q (17, [(0, .ref 0)], [.int r], pm_hp L fz t I J, 1, 6)
def K_X10_family_17 (d : Nat) (fz t : Bool) (Q : pm_R → pm_H → Prop) : pm_R → pm_H → Prop := pm_K d 276 Q 17 [(0, .ref 0)] [] 118 0 fz 1 6
def t_X10_family_26 (d L : Nat) (fz t : Bool) (Q : pm_R → pm_H → Prop) (x2 : Int32) (r : Int32) (I : Nat → Nat → Int32) (J : Nat → Nat → Int64) : Prop := pm_T (pm_Ev d) 276 Q (26, [(0, .ref 0), (2, .int x2)], [.int r], pm_hp L fz t I J, 1, 6)
def K_X10_family_26 (d : Nat) (fz t : Bool) (Q : pm_R → pm_H → Prop) (x2 : Int32) : pm_R → pm_H → Prop := pm_K d 276 Q 26 [(0, .ref 0), (2, .int x2)] [] 118 0 fz 1 6
def t_X10_family_33 (d L : Nat) (fz t : Bool) (Q : pm_R → pm_H → Prop) (x2 : Int32) (x3 : Int32) (x4 : Int32) (x5 : Int32) (I : Nat → Nat → Int32) (J : Nat → Nat → Int64) : Prop := pm_T (pm_Ev d) 276 Q (33, [(0, .ref 0), (2, .int x2), (3, .int x3), (4, .int x4), (5, .int x5)], [], pm_hp L fz t I J, 1, 6)
def t_X10_family_58 (d L : Nat) (fz t : Bool) (Q : pm_R → pm_H → Prop) (x2 : Int32) (x3 : Int32) (x4 : Int32) (x5 : Int32) (r : Int32) (I : Nat → Nat → Int32) (J : Nat → Nat → Int64) : Prop := pm_T (pm_Ev d) 276 Q (58, [(0, .ref 0), (2, .int x2), (3, .int x3), (4, .int x4), (5, .int x5)], [.int r], pm_hp L fz t I J, 1, 6)
def K_X10_family_58 (d : Nat) (fz t : Bool) (Q : pm_R → pm_H → Prop) (x2 : Int32) (x3 : Int32) (x4 : Int32) (x5 : Int32) : pm_R → pm_H → Prop := pm_K d 276 Q 58 [(0, .ref 0), (2, .int x2), (3, .int x3), (4, .int x4), (5, .int x5)] [] 118 0 fz 1 6
set_option maxRecDepth 100000 in
theorem b_X10_family_0 {d L : Nat} {fz t : Bool} {Q : pm_R → pm_H → Prop} {x1 : Int32} {I : Nat → Nat → Int32} {J : Nat → Nat → Int64}
    (h : pm_Ev d 281 [.ref 0, .int x1] (pm_hp L fz t I J) (K_X10_family_5 d fz t Q x1)) :
    t_X10_family_0 d L fz t Q x1 I J := by
  exact pm_go d [(5, [0, 1]), (17, [0]), (26, [0, 2]), (33, [0, 2, 3, 4, 5]), (58, [0, 2, 3, 4, 5])] 400 h
theorem e_X10_family {d L : Nat} {fz t : Bool} {Q : pm_R → pm_H → Prop} {x1 : Int32} {I : Nat → Nat → Int32} {J : Nat → Nat → Int64}
    (h : pm_Ev d 281 [.ref 0, .int x1] (pm_hp L fz t I J) (K_X10_family_5 d fz t Q x1)) :
    pm_Ev (d + 1) 276 [.ref 0, .int x1] (pm_hp L fz t I J) Q := pm_Ev_in rfl (b_X10_family_0 h)
set_option maxRecDepth 100000 in
theorem b_X10_family_5 {d L : Nat} {fz t : Bool} {Q : pm_R → pm_H → Prop} {x1 : Int32} {I : Nat → Nat → Int32} {J : Nat → Nat → Int64}
    (h : pm_Ev d 72 [.ref (pm_td t), .ref 23, .int x1] (pm_hp L fz t I J) (K_X10_family_17 d fz t Q)) :
    t_X10_family_5 d L fz t Q x1 I J := by
  cases t <;> exact pm_go d [(5, [0, 1]), (17, [0]), (26, [0, 2]), (33, [0, 2, 3, 4, 5]), (58, [0, 2, 3, 4, 5])] 400 h
theorem kb_X10_family_5 {d L : Nat} {fz t : Bool} {Q : pm_R → pm_H → Prop} {x1 : Int32} {fz1 : Bool} {I : Nat → Nat → Int32} {J : Nat → Nat → Int64}
    (h : pm_Ev d 72 [.ref (pm_td t), .ref 23, .int x1] (pm_hp L true t I J) (K_X10_family_17 d true t Q)) :
    K_X10_family_5 d fz t Q x1 (.inl none) (pm_hp L fz1 t I J) := b_X10_family_5 h
set_option maxRecDepth 100000 in
theorem b_X10_family_17 {d L : Nat} {fz t : Bool} {Q : pm_R → pm_H → Prop} {r : Int32} {I : Nat → Nat → Int32} {J : Nat → Nat → Int64}
    (h : pm_Ev d 71 [.ref (pm_td t), .int r] (pm_hp L fz t I J) (K_X10_family_26 d fz t Q r)) :
    t_X10_family_17 d L fz t Q r I J := by
  cases t <;> exact pm_go d [(5, [0, 1]), (17, [0]), (26, [0, 2]), (33, [0, 2, 3, 4, 5]), (58, [0, 2, 3, 4, 5])] 400 h
theorem kb_X10_family_17 {d L : Nat} {fz t : Bool} {Q : pm_R → pm_H → Prop} {r : Int32} {fz1 : Bool} {I : Nat → Nat → Int32} {J : Nat → Nat → Int64}
    (h : pm_Ev d 71 [.ref (pm_td t), .int r] (pm_hp L fz t I J) (K_X10_family_26 d fz t Q r)) :
    K_X10_family_17 d fz t Q (.inl (some (.int r))) (pm_hp L fz1 t I J) := b_X10_family_17 h
set_option maxRecDepth 100000 in
theorem b_X10_family_26 {d L : Nat} {fz t : Bool} {Q : pm_R → pm_H → Prop} {x2 : Int32} {r : Int32} {I : Nat → Nat → Int32} {J : Nat → Nat → Int64}
    (h : t_X10_family_33 d L fz t Q x2 r (nI 0) (nI 0) I J) :
    t_X10_family_26 d L fz t Q x2 r I J := by
  exact pm_go d [(5, [0, 1]), (17, [0]), (26, [0, 2]), (33, [0, 2, 3, 4, 5]), (58, [0, 2, 3, 4, 5])] 400 h
theorem kb_X10_family_26 {d L : Nat} {fz t : Bool} {Q : pm_R → pm_H → Prop} {x2 : Int32} {r : Int32} {fz1 : Bool} {I : Nat → Nat → Int32} {J : Nat → Nat → Int64}
    (h : t_X10_family_33 d L fz t Q x2 r (nI 0) (nI 0) I J) :
    K_X10_family_26 d fz t Q x2 (.inl (some (.int r))) (pm_hp L fz1 t I J) := b_X10_family_26 h
set_option maxRecDepth 100000 in
theorem b_X10_family_33 {d L : Nat} {fz t : Bool} {Q : pm_R → pm_H → Prop} {x2 : Int32} {x3 : Int32} {x4 : Int32} {x5 : Int32} {I : Nat → Nat → Int32} {J : Nat → Nat → Int64}
    (h : (((I (pm_td t) 13) ≤ x5 → Q (.inl (some (.int x4))) (pm_hp L fz t I J)) ∧ (¬ (I (pm_td t) 13) ≤ x5 → pm_Ev d 72 [.ref (pm_td t), .ref 23, .int x5] (pm_hp L fz t I J) (K_X10_family_58 d fz t Q x2 x3 x4 x5)))) :
    t_X10_family_33 d L fz t Q x2 x3 x4 x5 I J := by
  cases t <;> exact pm_go d [(5, [0, 1]), (17, [0]), (26, [0, 2]), (33, [0, 2, 3, 4, 5]), (58, [0, 2, 3, 4, 5])] 400 ⟨fun q0 => ((h).1 q0), fun q0 => ((h).2 q0)⟩
set_option maxRecDepth 100000 in
theorem b_X10_family_58 {d L : Nat} {fz t : Bool} {Q : pm_R → pm_H → Prop} {x2 : Int32} {x3 : Int32} {x4 : Int32} {x5 : Int32} {r : Int32} {I : Nat → Nat → Int32} {J : Nat → Nat → Int64}
    (h : ((r = x2 → t_X10_family_33 d L fz t Q x2 x3 (x4 ||| ((nI 1) <<< (x5 &&& 31))) (x5 + (nI 1)) I J) ∧ (¬ r = x2 → ((¬ r = x3 → t_X10_family_33 d L fz t Q x2 x3 x4 (x5 + (nI 1)) I J) ∧ (r = x3 → t_X10_family_33 d L fz t Q x2 x3 (x4 ||| ((nI 1) <<< (x5 &&& 31))) (x5 + (nI 1)) I J))))) :
    t_X10_family_58 d L fz t Q x2 x3 x4 x5 r I J := by
  exact pm_go d [(5, [0, 1]), (17, [0]), (26, [0, 2]), (33, [0, 2, 3, 4, 5]), (58, [0, 2, 3, 4, 5])] 400 ⟨fun q0 => ((h).1 q0), fun q0 => ⟨fun q1 => ((((h).2 q0)).1 q1), fun q1 => ((((h).2 q0)).2 q1)⟩⟩
theorem kb_X10_family_58 {d L : Nat} {fz t : Bool} {Q : pm_R → pm_H → Prop} {x2 : Int32} {x3 : Int32} {x4 : Int32} {x5 : Int32} {r : Int32} {fz1 : Bool} {I : Nat → Nat → Int32} {J : Nat → Nat → Int64}
    (h : ((r = x2 → t_X10_family_33 d L fz t Q x2 x3 (x4 ||| ((nI 1) <<< (x5 &&& 31))) (x5 + (nI 1)) I J) ∧ (¬ r = x2 → ((¬ r = x3 → t_X10_family_33 d L fz t Q x2 x3 x4 (x5 + (nI 1)) I J) ∧ (r = x3 → t_X10_family_33 d L fz t Q x2 x3 (x4 ||| ((nI 1) <<< (x5 &&& 31))) (x5 + (nI 1)) I J))))) :
    K_X10_family_58 d fz t Q x2 x3 x4 x5 (.inl (some (.int r))) (pm_hp L fz1 t I J) := b_X10_family_58 h
def t_X10_turning_0 (d L : Nat) (fz t : Bool) (Q : pm_R → pm_H → Prop) (x1 : Int32) (I : Nat → Nat → Int32) (J : Nat → Nat → Int64) : Prop := pm_T (pm_Ev d) 277 Q (0, [(0, .ref 0), (1, .int x1)], [], pm_hp L fz t I J, 0, 0)
def t_X10_turning_5 (d L : Nat) (fz t : Bool) (Q : pm_R → pm_H → Prop) (x1 : Int32) (I : Nat → Nat → Int32) (J : Nat → Nat → Int64) : Prop := pm_T (pm_Ev d) 277 Q (5, [(0, .ref 0), (1, .int x1)], [], pm_hp L fz t I J, 1, 6)
def K_X10_turning_5 (d : Nat) (fz t : Bool) (Q : pm_R → pm_H → Prop) (x1 : Int32) : pm_R → pm_H → Prop := pm_K d 277 Q 5 [(0, .ref 0), (1, .int x1)] [] 118 1 fz 1 6
def t_X10_turning_9 (d L : Nat) (fz t : Bool) (Q : pm_R → pm_H → Prop) (x1 : Int32) (x2 : Int32) (x3 : Int32) (I : Nat → Nat → Int32) (J : Nat → Nat → Int64) : Prop := pm_T (pm_Ev d) 277 Q (9, [(0, .ref 0), (1, .int x1), (2, .int x2), (3, .int x3)], [], pm_hp L fz t I J, 1, 6)
def t_X10_turning_25 (d L : Nat) (fz t : Bool) (Q : pm_R → pm_H → Prop) (x1 : Int32) (x2 : Int32) (x3 : Int32) (I : Nat → Nat → Int32) (J : Nat → Nat → Int64) : Prop := pm_T (pm_Ev d) 277 Q (25, [(0, .ref 0), (1, .int x1), (2, .int x2), (3, .int x3)], [], pm_hp L fz t I J, 1, 6)
def K_X10_turning_25 (d : Nat) (fz t : Bool) (Q : pm_R → pm_H → Prop) (x1 : Int32) (x2 : Int32) (x3 : Int32) : pm_R → pm_H → Prop := pm_K d 277 Q 25 [(0, .ref 0), (1, .int x1), (2, .int x2), (3, .int x3)] [] 118 0 fz 1 6
def t_X10_turning_41 (d L : Nat) (fz t : Bool) (Q : pm_R → pm_H → Prop) (x1 : Int32) (x2 : Int32) (x3 : Int32) (I : Nat → Nat → Int32) (J : Nat → Nat → Int64) : Prop := pm_T (pm_Ev d) 277 Q (41, [(0, .ref 0), (1, .int x1), (2, .int x2), (3, .int x3)], [], pm_hp L fz t I J, 1, 6)
def K_X10_turning_41 (d : Nat) (fz t : Bool) (Q : pm_R → pm_H → Prop) (x1 : Int32) (x2 : Int32) (x3 : Int32) : pm_R → pm_H → Prop := pm_K d 277 Q 41 [(0, .ref 0), (1, .int x1), (2, .int x2), (3, .int x3)] [] 118 0 fz 1 6
def t_X10_turning_53 (d L : Nat) (fz t : Bool) (Q : pm_R → pm_H → Prop) (x1 : Int32) (x2 : Int32) (x3 : Int32) (r : Int32) (I : Nat → Nat → Int32) (J : Nat → Nat → Int64) : Prop := pm_T (pm_Ev d) 277 Q (53, [(0, .ref 0), (1, .int x1), (2, .int x2), (3, .int x3)], [.int r], pm_hp L fz t I J, 1, 6)
def K_X10_turning_53 (d : Nat) (fz t : Bool) (Q : pm_R → pm_H → Prop) (x1 : Int32) (x2 : Int32) (x3 : Int32) : pm_R → pm_H → Prop := pm_K d 277 Q 53 [(0, .ref 0), (1, .int x1), (2, .int x2), (3, .int x3)] [] 118 0 fz 1 6
set_option maxRecDepth 100000 in
theorem b_X10_turning_0 {d L : Nat} {fz t : Bool} {Q : pm_R → pm_H → Prop} {x1 : Int32} {I : Nat → Nat → Int32} {J : Nat → Nat → Int64}
    (h : pm_Ev d 283 [.ref 0, .int x1] (pm_hp L fz t I J) (K_X10_turning_5 d fz t Q x1)) :
    t_X10_turning_0 d L fz t Q x1 I J := by
  exact pm_go d [(5, [0, 1]), (9, [0, 1, 2, 3]), (25, [0, 1, 2, 3]), (41, [0, 1, 2, 3]), (53, [0, 1, 2, 3])] 400 h
theorem e_X10_turning {d L : Nat} {fz t : Bool} {Q : pm_R → pm_H → Prop} {x1 : Int32} {I : Nat → Nat → Int32} {J : Nat → Nat → Int64}
    (h : pm_Ev d 283 [.ref 0, .int x1] (pm_hp L fz t I J) (K_X10_turning_5 d fz t Q x1)) :
    pm_Ev (d + 1) 277 [.ref 0, .int x1] (pm_hp L fz t I J) Q := pm_Ev_in rfl (b_X10_turning_0 h)
set_option maxRecDepth 100000 in
theorem b_X10_turning_5 {d L : Nat} {fz t : Bool} {Q : pm_R → pm_H → Prop} {x1 : Int32} {I : Nat → Nat → Int32} {J : Nat → Nat → Int64}
    (h : t_X10_turning_9 d L fz t Q x1 (nI 0) (nI 0) I J) :
    t_X10_turning_5 d L fz t Q x1 I J := by
  exact pm_go d [(5, [0, 1]), (9, [0, 1, 2, 3]), (25, [0, 1, 2, 3]), (41, [0, 1, 2, 3]), (53, [0, 1, 2, 3])] 400 h
theorem kb_X10_turning_5 {d L : Nat} {fz t : Bool} {Q : pm_R → pm_H → Prop} {x1 : Int32} {fz1 : Bool} {I : Nat → Nat → Int32} {J : Nat → Nat → Int64}
    (h : t_X10_turning_9 d L true t Q x1 (nI 0) (nI 0) I J) :
    K_X10_turning_5 d fz t Q x1 (.inl none) (pm_hp L fz1 t I J) := b_X10_turning_5 h
set_option maxRecDepth 100000 in
theorem b_X10_turning_9 {d L : Nat} {fz t : Bool} {Q : pm_R → pm_H → Prop} {x1 : Int32} {x2 : Int32} {x3 : Int32} {I : Nat → Nat → Int32} {J : Nat → Nat → Int64}
    (h : (((I (pm_td t) 13) ≤ x3 → Q (.inl (some (.int x2))) (pm_hp L fz t I J)) ∧ (¬ (I (pm_td t) 13) ≤ x3 → pm_Ev d 103 [.ref 0, .int x3] (pm_hp L fz t I J) (K_X10_turning_25 d fz t Q x1 x2 x3)))) :
    t_X10_turning_9 d L fz t Q x1 x2 x3 I J := by
  cases t <;> exact pm_go d [(5, [0, 1]), (9, [0, 1, 2, 3]), (25, [0, 1, 2, 3]), (41, [0, 1, 2, 3]), (53, [0, 1, 2, 3])] 400 ⟨fun q0 => ((h).1 q0), fun q0 => ((h).2 q0)⟩
set_option maxRecDepth 100000 in
theorem b_X10_turning_25 {d L : Nat} {fz t : Bool} {Q : pm_R → pm_H → Prop} {x1 : Int32} {x2 : Int32} {x3 : Int32} {I : Nat → Nat → Int32} {J : Nat → Nat → Int64}
    (h : pm_Ev d 12 [.ref 3, .ref (pm_td t), .ref 27, .int (nI 0)] (pm_hp L fz t I J) (K_X10_turning_41 d fz t Q x1 x2 x3)) :
    t_X10_turning_25 d L fz t Q x1 x2 x3 I J := by
  cases t <;> exact pm_go d [(5, [0, 1]), (9, [0, 1, 2, 3]), (25, [0, 1, 2, 3]), (41, [0, 1, 2, 3]), (53, [0, 1, 2, 3])] 400 h
theorem kb_X10_turning_25 {d L : Nat} {fz t : Bool} {Q : pm_R → pm_H → Prop} {x1 : Int32} {x2 : Int32} {x3 : Int32} {fz1 : Bool} {I : Nat → Nat → Int32} {J : Nat → Nat → Int64}
    (h : pm_Ev d 12 [.ref 3, .ref (pm_td t), .ref 27, .int (nI 0)] (pm_hp L fz t I J) (K_X10_turning_41 d fz t Q x1 x2 x3)) :
    K_X10_turning_25 d fz t Q x1 x2 x3 (.inl none) (pm_hp L fz1 t I J) := b_X10_turning_25 h
set_option maxRecDepth 100000 in
theorem b_X10_turning_41 {d L : Nat} {fz t : Bool} {Q : pm_R → pm_H → Prop} {x1 : Int32} {x2 : Int32} {x3 : Int32} {I : Nat → Nat → Int32} {J : Nat → Nat → Int64}
    (h : pm_Ev d 22 [.ref 3, .ref (pm_td t), .int x1] (pm_hp L fz t I J) (K_X10_turning_53 d fz t Q x1 x2 x3)) :
    t_X10_turning_41 d L fz t Q x1 x2 x3 I J := by
  cases t <;> exact pm_go d [(5, [0, 1]), (9, [0, 1, 2, 3]), (25, [0, 1, 2, 3]), (41, [0, 1, 2, 3]), (53, [0, 1, 2, 3])] 400 h
theorem kb_X10_turning_41 {d L : Nat} {fz t : Bool} {Q : pm_R → pm_H → Prop} {x1 : Int32} {x2 : Int32} {x3 : Int32} {fz1 : Bool} {I : Nat → Nat → Int32} {J : Nat → Nat → Int64}
    (h : pm_Ev d 22 [.ref 3, .ref (pm_td t), .int x1] (pm_hp L fz t I J) (K_X10_turning_53 d fz t Q x1 x2 x3)) :
    K_X10_turning_41 d fz t Q x1 x2 x3 (.inl none) (pm_hp L fz1 t I J) := b_X10_turning_41 h
set_option maxRecDepth 100000 in
theorem b_X10_turning_53 {d L : Nat} {fz t : Bool} {Q : pm_R → pm_H → Prop} {x1 : Int32} {x2 : Int32} {x3 : Int32} {r : Int32} {I : Nat → Nat → Int32} {J : Nat → Nat → Int64}
    (h : ((r = (nI 0) → t_X10_turning_9 d L fz t Q x1 x2 (x3 + (nI 1)) I J) ∧ (¬ r = (nI 0) → t_X10_turning_9 d L fz t Q x1 (x2 ||| ((nI 1) <<< (x3 &&& 31))) (x3 + (nI 1)) I J))) :
    t_X10_turning_53 d L fz t Q x1 x2 x3 r I J := by
  exact pm_go d [(5, [0, 1]), (9, [0, 1, 2, 3]), (25, [0, 1, 2, 3]), (41, [0, 1, 2, 3]), (53, [0, 1, 2, 3])] 400 ⟨fun q0 => ((h).1 q0), fun q0 => ((h).2 q0)⟩
theorem kb_X10_turning_53 {d L : Nat} {fz t : Bool} {Q : pm_R → pm_H → Prop} {x1 : Int32} {x2 : Int32} {x3 : Int32} {r : Int32} {fz1 : Bool} {I : Nat → Nat → Int32} {J : Nat → Nat → Int64}
    (h : ((r = (nI 0) → t_X10_turning_9 d L fz t Q x1 x2 (x3 + (nI 1)) I J) ∧ (¬ r = (nI 0) → t_X10_turning_9 d L fz t Q x1 (x2 ||| ((nI 1) <<< (x3 &&& 31))) (x3 + (nI 1)) I J))) :
    K_X10_turning_53 d fz t Q x1 x2 x3 (.inl (some (.int r))) (pm_hp L fz1 t I J) := b_X10_turning_53 h
def t_X10_leftOut_0 (d L : Nat) (fz t : Bool) (Q : pm_R → pm_H → Prop) (x1 : Int32) (I : Nat → Nat → Int32) (J : Nat → Nat → Int64) : Prop := pm_T (pm_Ev d) 278 Q (0, [(0, .ref 0), (1, .int x1)], [], pm_hp L fz t I J, 0, 0)
def t_X10_leftOut_5 (d L : Nat) (fz t : Bool) (Q : pm_R → pm_H → Prop) (x1 : Int32) (I : Nat → Nat → Int32) (J : Nat → Nat → Int64) : Prop := pm_T (pm_Ev d) 278 Q (5, [(0, .ref 0), (1, .int x1)], [], pm_hp L fz t I J, 1, 6)
def K_X10_leftOut_5 (d : Nat) (fz t : Bool) (Q : pm_R → pm_H → Prop) (x1 : Int32) : pm_R → pm_H → Prop := pm_K d 278 Q 5 [(0, .ref 0), (1, .int x1)] [] 118 1 fz 1 6
def t_X10_leftOut_16 (d L : Nat) (fz t : Bool) (Q : pm_R → pm_H → Prop) (x1 : Int32) (I : Nat → Nat → Int32) (J : Nat → Nat → Int64) : Prop := pm_T (pm_Ev d) 278 Q (16, [(0, .ref 0), (1, .int x1)], [], pm_hp L fz t I J, 1, 6)
def K_X10_leftOut_16 (d : Nat) (fz t : Bool) (Q : pm_R → pm_H → Prop) (x1 : Int32) : pm_R → pm_H → Prop := pm_K d 278 Q 16 [(0, .ref 0), (1, .int x1)] [] 118 0 fz 1 6
def t_X10_leftOut_24 (d L : Nat) (fz t : Bool) (Q : pm_R → pm_H → Prop) (I : Nat → Nat → Int32) (J : Nat → Nat → Int64) : Prop := pm_T (pm_Ev d) 278 Q (24, [(0, .ref 0)], [], pm_hp L fz t I J, 1, 6)
def K_X10_leftOut_24 (d : Nat) (fz t : Bool) (Q : pm_R → pm_H → Prop) : pm_R → pm_H → Prop := pm_K d 278 Q 24 [(0, .ref 0)] [] 118 0 fz 1 6
def t_X10_leftOut_40 (d L : Nat) (fz t : Bool) (Q : pm_R → pm_H → Prop) (I : Nat → Nat → Int32) (J : Nat → Nat → Int64) : Prop := pm_T (pm_Ev d) 278 Q (40, [(0, .ref 0)], [], pm_hp L fz t I J, 1, 6)
def K_X10_leftOut_40 (d : Nat) (fz t : Bool) (Q : pm_R → pm_H → Prop) : pm_R → pm_H → Prop := pm_K d 278 Q 40 [(0, .ref 0)] [] 118 0 fz 1 6
def t_X10_leftOut_51 (d L : Nat) (fz t : Bool) (Q : pm_R → pm_H → Prop) (r : Int32) (I : Nat → Nat → Int32) (J : Nat → Nat → Int64) : Prop := pm_T (pm_Ev d) 278 Q (51, [], [.int r], pm_hp L fz t I J, 1, 6)
def K_X10_leftOut_51 (d : Nat) (fz t : Bool) (Q : pm_R → pm_H → Prop) : pm_R → pm_H → Prop := pm_K d 278 Q 51 [] [] 118 0 fz 1 6
set_option maxRecDepth 100000 in
theorem b_X10_leftOut_0 {d L : Nat} {fz t : Bool} {Q : pm_R → pm_H → Prop} {x1 : Int32} {I : Nat → Nat → Int32} {J : Nat → Nat → Int64}
    (h : pm_Ev d 282 [.ref 0, .int x1] (pm_hp L fz t I J) (K_X10_leftOut_5 d fz t Q x1)) :
    t_X10_leftOut_0 d L fz t Q x1 I J := by
  exact pm_go d [(5, [0, 1]), (16, [0, 1]), (24, [0]), (40, [0]), (51, [])] 400 h
theorem e_X10_leftOut {d L : Nat} {fz t : Bool} {Q : pm_R → pm_H → Prop} {x1 : Int32} {I : Nat → Nat → Int32} {J : Nat → Nat → Int64}
    (h : pm_Ev d 282 [.ref 0, .int x1] (pm_hp L fz t I J) (K_X10_leftOut_5 d fz t Q x1)) :
    pm_Ev (d + 1) 278 [.ref 0, .int x1] (pm_hp L fz t I J) Q := pm_Ev_in rfl (b_X10_leftOut_0 h)
set_option maxRecDepth 100000 in
theorem b_X10_leftOut_5 {d L : Nat} {fz t : Bool} {Q : pm_R → pm_H → Prop} {x1 : Int32} {I : Nat → Nat → Int32} {J : Nat → Nat → Int64}
    (h : pm_Ev d 78 [.ref 27, .ref 23] (pm_hp L fz t I J) (K_X10_leftOut_16 d fz t Q x1)) :
    t_X10_leftOut_5 d L fz t Q x1 I J := by
  exact pm_go d [(5, [0, 1]), (16, [0, 1]), (24, [0]), (40, [0]), (51, [])] 400 h
theorem kb_X10_leftOut_5 {d L : Nat} {fz t : Bool} {Q : pm_R → pm_H → Prop} {x1 : Int32} {fz1 : Bool} {I : Nat → Nat → Int32} {J : Nat → Nat → Int64}
    (h : pm_Ev d 78 [.ref 27, .ref 23] (pm_hp L true t I J) (K_X10_leftOut_16 d true t Q x1)) :
    K_X10_leftOut_5 d fz t Q x1 (.inl none) (pm_hp L fz1 t I J) := b_X10_leftOut_5 h
set_option maxRecDepth 100000 in
theorem b_X10_leftOut_16 {d L : Nat} {fz t : Bool} {Q : pm_R → pm_H → Prop} {x1 : Int32} {I : Nat → Nat → Int32} {J : Nat → Nat → Int64}
    (h : pm_Ev d 82 [.ref 27, .int x1] (pm_hp L fz t I J) (K_X10_leftOut_24 d fz t Q)) :
    t_X10_leftOut_16 d L fz t Q x1 I J := by
  exact pm_go d [(5, [0, 1]), (16, [0, 1]), (24, [0]), (40, [0]), (51, [])] 400 h
theorem kb_X10_leftOut_16 {d L : Nat} {fz t : Bool} {Q : pm_R → pm_H → Prop} {x1 : Int32} {fz1 : Bool} {I : Nat → Nat → Int32} {J : Nat → Nat → Int64}
    (h : pm_Ev d 82 [.ref 27, .int x1] (pm_hp L fz t I J) (K_X10_leftOut_24 d fz t Q)) :
    K_X10_leftOut_16 d fz t Q x1 (.inl none) (pm_hp L fz1 t I J) := b_X10_leftOut_16 h
set_option maxRecDepth 100000 in
theorem b_X10_leftOut_24 {d L : Nat} {fz t : Bool} {Q : pm_R → pm_H → Prop} {I : Nat → Nat → Int32} {J : Nat → Nat → Int64}
    (h : pm_Ev d 12 [.ref 3, .ref (pm_td t), .ref 27, .int (nI 0)] (pm_hp L fz t I J) (K_X10_leftOut_40 d fz t Q)) :
    t_X10_leftOut_24 d L fz t Q I J := by
  cases t <;> exact pm_go d [(5, [0, 1]), (16, [0, 1]), (24, [0]), (40, [0]), (51, [])] 400 h
theorem kb_X10_leftOut_24 {d L : Nat} {fz t : Bool} {Q : pm_R → pm_H → Prop} {fz1 : Bool} {I : Nat → Nat → Int32} {J : Nat → Nat → Int64}
    (h : pm_Ev d 12 [.ref 3, .ref (pm_td t), .ref 27, .int (nI 0)] (pm_hp L fz t I J) (K_X10_leftOut_40 d fz t Q)) :
    K_X10_leftOut_24 d fz t Q (.inl none) (pm_hp L fz1 t I J) := b_X10_leftOut_24 h
set_option maxRecDepth 100000 in
theorem b_X10_leftOut_40 {d L : Nat} {fz t : Bool} {Q : pm_R → pm_H → Prop} {I : Nat → Nat → Int32} {J : Nat → Nat → Int64}
    (h : pm_Ev d 23 [.ref 3, .ref (pm_td t)] (pm_hp L fz t I J) (K_X10_leftOut_51 d fz t Q)) :
    t_X10_leftOut_40 d L fz t Q I J := by
  cases t <;> exact pm_go d [(5, [0, 1]), (16, [0, 1]), (24, [0]), (40, [0]), (51, [])] 400 h
theorem kb_X10_leftOut_40 {d L : Nat} {fz t : Bool} {Q : pm_R → pm_H → Prop} {fz1 : Bool} {I : Nat → Nat → Int32} {J : Nat → Nat → Int64}
    (h : pm_Ev d 23 [.ref 3, .ref (pm_td t)] (pm_hp L fz t I J) (K_X10_leftOut_51 d fz t Q)) :
    K_X10_leftOut_40 d fz t Q (.inl none) (pm_hp L fz1 t I J) := b_X10_leftOut_40 h
set_option maxRecDepth 100000 in
theorem b_X10_leftOut_51 {d L : Nat} {fz t : Bool} {Q : pm_R → pm_H → Prop} {r : Int32} {I : Nat → Nat → Int32} {J : Nat → Nat → Int64}
    (h : Q (.inl (some (.int r))) (pm_hp L fz t I J)) :
    t_X10_leftOut_51 d L fz t Q r I J := by
  exact pm_go d [(5, [0, 1]), (16, [0, 1]), (24, [0]), (40, [0]), (51, [])] 400 h
theorem kb_X10_leftOut_51 {d L : Nat} {fz t : Bool} {Q : pm_R → pm_H → Prop} {r : Int32} {fz1 : Bool} {I : Nat → Nat → Int32} {J : Nat → Nat → Int64}
    (h : Q (.inl (some (.int r))) (pm_hp L fz t I J)) :
    K_X10_leftOut_51 d fz t Q (.inl (some (.int r))) (pm_hp L fz1 t I J) := b_X10_leftOut_51 h
def t_X10_cutting_0 (d L : Nat) (fz t : Bool) (Q : pm_R → pm_H → Prop) (x1 : Int32) (I : Nat → Nat → Int32) (J : Nat → Nat → Int64) : Prop := pm_T (pm_Ev d) 279 Q (0, [(0, .ref 0), (1, .int x1)], [], pm_hp L fz t I J, 0, 0)
def t_X10_cutting_31 (d L : Nat) (fz t : Bool) (Q : pm_R → pm_H → Prop) (x1 : Int32) (r : Int32) (I : Nat → Nat → Int32) (J : Nat → Nat → Int64) : Prop := pm_T (pm_Ev d) 279 Q (31, [(0, .ref 0), (1, .int x1)], [.int r], pm_hp L fz t I J, 0, 0)
def K_X10_cutting_31 (d : Nat) (fz t : Bool) (Q : pm_R → pm_H → Prop) (x1 : Int32) : pm_R → pm_H → Prop := pm_K d 279 Q 31 [(0, .ref 0), (1, .int x1)] [] 118 0 fz 0 0
def t_X10_cutting_37 (d L : Nat) (fz t : Bool) (Q : pm_R → pm_H → Prop) (x1 : Int32) (x2 : Int32) (x3 : Int32) (x4 : Int32) (I : Nat → Nat → Int32) (J : Nat → Nat → Int64) : Prop := pm_T (pm_Ev d) 279 Q (37, [(0, .ref 0), (1, .int x1), (2, .int x2), (3, .int x3), (4, .int x4)], [], pm_hp L fz t I J, 0, 0)
def t_X10_cutting_60 (d L : Nat) (fz t : Bool) (Q : pm_R → pm_H → Prop) (x1 : Int32) (x2 : Int32) (x3 : Int32) (x4 : Int32) (I : Nat → Nat → Int32) (J : Nat → Nat → Int64) : Prop := pm_T (pm_Ev d) 279 Q (60, [(0, .ref 0), (1, .int x1), (2, .int x2), (3, .int x3), (4, .int x4)], [], pm_hp L fz t I J, 0, 0)
def K_X10_cutting_60 (d : Nat) (fz t : Bool) (Q : pm_R → pm_H → Prop) (x1 : Int32) (x2 : Int32) (x3 : Int32) (x4 : Int32) : pm_R → pm_H → Prop := pm_K d 279 Q 60 [(0, .ref 0), (1, .int x1), (2, .int x2), (3, .int x3), (4, .int x4)] [] 118 0 fz 0 0
def t_X10_cutting_80 (d L : Nat) (fz t : Bool) (Q : pm_R → pm_H → Prop) (x1 : Int32) (x2 : Int32) (x3 : Int32) (x4 : Int32) (r : Int32) (I : Nat → Nat → Int32) (J : Nat → Nat → Int64) : Prop := pm_T (pm_Ev d) 279 Q (80, [(0, .ref 0), (1, .int x1), (2, .int x2), (3, .int x3), (4, .int x4)], [.int r], pm_hp L fz t I J, 0, 0)
def K_X10_cutting_80 (d : Nat) (fz t : Bool) (Q : pm_R → pm_H → Prop) (x1 : Int32) (x2 : Int32) (x3 : Int32) (x4 : Int32) : pm_R → pm_H → Prop := pm_K d 279 Q 80 [(0, .ref 0), (1, .int x1), (2, .int x2), (3, .int x3), (4, .int x4)] [] 118 0 fz 0 0
set_option maxRecDepth 100000 in
theorem b_X10_cutting_0 {d L : Nat} {fz t : Bool} {Q : pm_R → pm_H → Prop} {x1 : Int32} {I : Nat → Nat → Int32} {J : Nat → Nat → Int64}
    (h : ((x1 < (nI 1) → Q (.inr 2) (pm_hp L true t I J)) ∧ (¬ x1 < (nI 1) → ((x1 ≤ (nI 30) → pm_Ev d 102 [.ref 0, .ref 23, .int x1] (pm_hp L fz t I J) (K_X10_cutting_31 d fz t Q x1)) ∧ (¬ x1 ≤ (nI 30) → Q (.inr 2) (pm_hp L true t I J)))))) :
    t_X10_cutting_0 d L fz t Q x1 I J := by
  exact pm_go d [(31, [0, 1]), (37, [0, 1, 2, 3, 4]), (60, [0, 1, 2, 3, 4]), (80, [0, 1, 2, 3, 4])] 400 ⟨fun q0 => ((h).1 q0), fun q0 => ⟨fun q1 => ((((h).2 q0)).1 q1), fun q1 => ((((h).2 q0)).2 q1)⟩⟩
theorem e_X10_cutting {d L : Nat} {fz t : Bool} {Q : pm_R → pm_H → Prop} {x1 : Int32} {I : Nat → Nat → Int32} {J : Nat → Nat → Int64}
    (h : ((x1 < (nI 1) → Q (.inr 2) (pm_hp L true t I J)) ∧ (¬ x1 < (nI 1) → ((x1 ≤ (nI 30) → pm_Ev d 102 [.ref 0, .ref 23, .int x1] (pm_hp L fz t I J) (K_X10_cutting_31 d fz t Q x1)) ∧ (¬ x1 ≤ (nI 30) → Q (.inr 2) (pm_hp L true t I J)))))) :
    pm_Ev (d + 1) 279 [.ref 0, .int x1] (pm_hp L fz t I J) Q := pm_Ev_in rfl (b_X10_cutting_0 h)
set_option maxRecDepth 100000 in
theorem b_X10_cutting_31 {d L : Nat} {fz t : Bool} {Q : pm_R → pm_H → Prop} {x1 : Int32} {r : Int32} {I : Nat → Nat → Int32} {J : Nat → Nat → Int64}
    (h : t_X10_cutting_37 d L fz t Q x1 r (-1 : Int32) (nI 0) I J) :
    t_X10_cutting_31 d L fz t Q x1 r I J := by
  exact pm_go d [(31, [0, 1]), (37, [0, 1, 2, 3, 4]), (60, [0, 1, 2, 3, 4]), (80, [0, 1, 2, 3, 4])] 400 h
theorem kb_X10_cutting_31 {d L : Nat} {fz t : Bool} {Q : pm_R → pm_H → Prop} {x1 : Int32} {r : Int32} {fz1 : Bool} {I : Nat → Nat → Int32} {J : Nat → Nat → Int64}
    (h : t_X10_cutting_37 d L fz t Q x1 r (-1 : Int32) (nI 0) I J) :
    K_X10_cutting_31 d fz t Q x1 (.inl (some (.int r))) (pm_hp L fz1 t I J) := b_X10_cutting_31 h
set_option maxRecDepth 100000 in
theorem b_X10_cutting_37 {d L : Nat} {fz t : Bool} {Q : pm_R → pm_H → Prop} {x1 : Int32} {x2 : Int32} {x3 : Int32} {x4 : Int32} {I : Nat → Nat → Int32} {J : Nat → Nat → Int64}
    (h : (((I (pm_td t) 13) ≤ x4 → Q (.inl (some (.int x3))) (pm_hp L fz t I J)) ∧ (¬ (I (pm_td t) 13) ≤ x4 → pm_Ev d 78 [.ref 27, .ref 23] (pm_hp L fz t I J) (K_X10_cutting_60 d fz t Q x1 x2 x3 x4)))) :
    t_X10_cutting_37 d L fz t Q x1 x2 x3 x4 I J := by
  cases t <;> exact pm_go d [(31, [0, 1]), (37, [0, 1, 2, 3, 4]), (60, [0, 1, 2, 3, 4]), (80, [0, 1, 2, 3, 4])] 400 ⟨fun q0 => ((h).1 q0), fun q0 => ((h).2 q0)⟩
set_option maxRecDepth 100000 in
theorem b_X10_cutting_60 {d L : Nat} {fz t : Bool} {Q : pm_R → pm_H → Prop} {x1 : Int32} {x2 : Int32} {x3 : Int32} {x4 : Int32} {I : Nat → Nat → Int32} {J : Nat → Nat → Int64}
    (h : (vp_in x4 10 ∧ pm_Ev d 102 [.ref 0, .ref 27, .int x1] (pm_hp L fz t (pm_u I 29 (x4).toNatClampNeg (nI 0)) J) (K_X10_cutting_80 d fz t Q x1 x2 x3 x4))) :
    t_X10_cutting_60 d L fz t Q x1 x2 x3 x4 I J := by
  exact pm_go d [(31, [0, 1]), (37, [0, 1, 2, 3, 4]), (60, [0, 1, 2, 3, 4]), (80, [0, 1, 2, 3, 4])] 400 ⟨(h).1, (h).2⟩
theorem kb_X10_cutting_60 {d L : Nat} {fz t : Bool} {Q : pm_R → pm_H → Prop} {x1 : Int32} {x2 : Int32} {x3 : Int32} {x4 : Int32} {fz1 : Bool} {I : Nat → Nat → Int32} {J : Nat → Nat → Int64}
    (h : (vp_in x4 10 ∧ pm_Ev d 102 [.ref 0, .ref 27, .int x1] (pm_hp L fz t (pm_u I 29 (x4).toNatClampNeg (nI 0)) J) (K_X10_cutting_80 d fz t Q x1 x2 x3 x4))) :
    K_X10_cutting_60 d fz t Q x1 x2 x3 x4 (.inl none) (pm_hp L fz1 t I J) := b_X10_cutting_60 h
set_option maxRecDepth 100000 in
theorem b_X10_cutting_80 {d L : Nat} {fz t : Bool} {Q : pm_R → pm_H → Prop} {x1 : Int32} {x2 : Int32} {x3 : Int32} {x4 : Int32} {r : Int32} {I : Nat → Nat → Int32} {J : Nat → Nat → Int64}
    (h : ((r ≤ x2 → t_X10_cutting_37 d L fz t Q x1 x2 x3 (x4 + (nI 1)) I J) ∧ (¬ r ≤ x2 → t_X10_cutting_37 d L fz t Q x1 r x4 (x4 + (nI 1)) I J))) :
    t_X10_cutting_80 d L fz t Q x1 x2 x3 x4 r I J := by
  exact pm_go d [(31, [0, 1]), (37, [0, 1, 2, 3, 4]), (60, [0, 1, 2, 3, 4]), (80, [0, 1, 2, 3, 4])] 400 ⟨fun q0 => ((h).1 q0), fun q0 => ((h).2 q0)⟩
theorem kb_X10_cutting_80 {d L : Nat} {fz t : Bool} {Q : pm_R → pm_H → Prop} {x1 : Int32} {x2 : Int32} {x3 : Int32} {x4 : Int32} {r : Int32} {fz1 : Bool} {I : Nat → Nat → Int32} {J : Nat → Nat → Int64}
    (h : ((r ≤ x2 → t_X10_cutting_37 d L fz t Q x1 x2 x3 (x4 + (nI 1)) I J) ∧ (¬ r ≤ x2 → t_X10_cutting_37 d L fz t Q x1 r x4 (x4 + (nI 1)) I J))) :
    K_X10_cutting_80 d fz t Q x1 x2 x3 x4 (.inl (some (.int r))) (pm_hp L fz1 t I J) := b_X10_cutting_80 h
def t_X10_mirrored_0 (d L : Nat) (fz t : Bool) (Q : pm_R → pm_H → Prop) (x1 : Int32) (I : Nat → Nat → Int32) (J : Nat → Nat → Int64) : Prop := pm_T (pm_Ev d) 280 Q (0, [(0, .ref 0), (1, .int x1)], [], pm_hp L fz t I J, 0, 0)
def t_X10_mirrored_5 (d L : Nat) (fz t : Bool) (Q : pm_R → pm_H → Prop) (x1 : Int32) (I : Nat → Nat → Int32) (J : Nat → Nat → Int64) : Prop := pm_T (pm_Ev d) 280 Q (5, [(0, .ref 0), (1, .int x1)], [], pm_hp L fz t I J, 1, 6)
def K_X10_mirrored_5 (d : Nat) (fz t : Bool) (Q : pm_R → pm_H → Prop) (x1 : Int32) : pm_R → pm_H → Prop := pm_K d 280 Q 5 [(0, .ref 0), (1, .int x1)] [] 118 1 fz 1 6
def t_X10_mirrored_21 (d L : Nat) (fz t : Bool) (Q : pm_R → pm_H → Prop) (x1 : Int32) (I : Nat → Nat → Int32) (J : Nat → Nat → Int64) : Prop := pm_T (pm_Ev d) 280 Q (21, [(0, .ref 0), (1, .int x1)], [], pm_hp L fz t I J, 1, 6)
def K_X10_mirrored_21 (d : Nat) (fz t : Bool) (Q : pm_R → pm_H → Prop) (x1 : Int32) : pm_R → pm_H → Prop := pm_K d 280 Q 21 [(0, .ref 0), (1, .int x1)] [] 118 0 fz 1 6
def t_X10_mirrored_23 (d L : Nat) (fz t : Bool) (Q : pm_R → pm_H → Prop) (x1 : Int32) (x2 : Int32) (I : Nat → Nat → Int32) (J : Nat → Nat → Int64) : Prop := pm_T (pm_Ev d) 280 Q (23, [(0, .ref 0), (1, .int x1), (2, .int x2)], [], pm_hp L fz t I J, 1, 6)
def t_X10_mirrored_78 (d L : Nat) (fz t : Bool) (Q : pm_R → pm_H → Prop) (x1 : Int32) (x2 : Int32) (x3 : Int32) (r : Int32) (I : Nat → Nat → Int32) (J : Nat → Nat → Int64) : Prop := pm_T (pm_Ev d) 280 Q (78, [(0, .ref 0), (1, .int x1), (2, .int x2), (3, .int x3)], [.int r], pm_hp L fz t I J, 1, 6)
def K_X10_mirrored_78 (d : Nat) (fz t : Bool) (Q : pm_R → pm_H → Prop) (x1 : Int32) (x2 : Int32) (x3 : Int32) : pm_R → pm_H → Prop := pm_K d 280 Q 78 [(0, .ref 0), (1, .int x1), (2, .int x2), (3, .int x3)] [] 118 0 fz 1 6
set_option maxRecDepth 100000 in
theorem b_X10_mirrored_0 {d L : Nat} {fz t : Bool} {Q : pm_R → pm_H → Prop} {x1 : Int32} {I : Nat → Nat → Int32} {J : Nat → Nat → Int64}
    (h : pm_Ev d 284 [.int x1, .int (nI 1)] (pm_hp L fz t I J) (K_X10_mirrored_5 d fz t Q x1)) :
    t_X10_mirrored_0 d L fz t Q x1 I J := by
  exact pm_go d [(5, [0, 1]), (21, [0, 1]), (23, [0, 1, 2]), (78, [0, 1, 2, 3])] 400 h
theorem e_X10_mirrored {d L : Nat} {fz t : Bool} {Q : pm_R → pm_H → Prop} {x1 : Int32} {I : Nat → Nat → Int32} {J : Nat → Nat → Int64}
    (h : pm_Ev d 284 [.int x1, .int (nI 1)] (pm_hp L fz t I J) (K_X10_mirrored_5 d fz t Q x1)) :
    pm_Ev (d + 1) 280 [.ref 0, .int x1] (pm_hp L fz t I J) Q := pm_Ev_in rfl (b_X10_mirrored_0 h)
set_option maxRecDepth 100000 in
theorem b_X10_mirrored_5 {d L : Nat} {fz t : Bool} {Q : pm_R → pm_H → Prop} {x1 : Int32} {I : Nat → Nat → Int32} {J : Nat → Nat → Int64}
    (h : pm_Ev d 12 [.ref 3, .ref (pm_td t), .ref 23, .int (nI 0)] (pm_hp L fz t I J) (K_X10_mirrored_21 d fz t Q x1)) :
    t_X10_mirrored_5 d L fz t Q x1 I J := by
  cases t <;> exact pm_go d [(5, [0, 1]), (21, [0, 1]), (23, [0, 1, 2]), (78, [0, 1, 2, 3])] 400 h
theorem kb_X10_mirrored_5 {d L : Nat} {fz t : Bool} {Q : pm_R → pm_H → Prop} {x1 : Int32} {fz1 : Bool} {I : Nat → Nat → Int32} {J : Nat → Nat → Int64}
    (h : pm_Ev d 12 [.ref 3, .ref (pm_td t), .ref 23, .int (nI 0)] (pm_hp L true t I J) (K_X10_mirrored_21 d true t Q x1)) :
    K_X10_mirrored_5 d fz t Q x1 (.inl none) (pm_hp L fz1 t I J) := b_X10_mirrored_5 h
set_option maxRecDepth 100000 in
theorem b_X10_mirrored_21 {d L : Nat} {fz t : Bool} {Q : pm_R → pm_H → Prop} {x1 : Int32} {I : Nat → Nat → Int32} {J : Nat → Nat → Int64}
    (h : t_X10_mirrored_23 d L fz t Q x1 (nI 0) I J) :
    t_X10_mirrored_21 d L fz t Q x1 I J := by
  exact pm_go d [(5, [0, 1]), (21, [0, 1]), (23, [0, 1, 2]), (78, [0, 1, 2, 3])] 400 h
theorem kb_X10_mirrored_21 {d L : Nat} {fz t : Bool} {Q : pm_R → pm_H → Prop} {x1 : Int32} {fz1 : Bool} {I : Nat → Nat → Int32} {J : Nat → Nat → Int64}
    (h : t_X10_mirrored_23 d L fz t Q x1 (nI 0) I J) :
    K_X10_mirrored_21 d fz t Q x1 (.inl none) (pm_hp L fz1 t I J) := b_X10_mirrored_21 h
set_option maxRecDepth 100000 in
theorem b_X10_mirrored_23 {d L : Nat} {fz t : Bool} {Q : pm_R → pm_H → Prop} {x1 : Int32} {x2 : Int32} {I : Nat → Nat → Int32} {J : Nat → Nat → Int64}
    (h : (((I 3 1) ≤ x2 → Q (.inl (some (.int (nI 1)))) (pm_hp L fz t I J)) ∧ (¬ (I 3 1) ≤ x2 → (vp_in x2 12 ∧ ((¬ x1 = (nI 0) → pm_Ev d 71 [.ref (pm_td t), .int (I 4 (x2).toNatClampNeg)] (pm_hp L fz t I J) (K_X10_mirrored_78 d fz t Q x1 x2 (I 4 (x2).toNatClampNeg))) ∧ (x1 = (nI 0) → (vp_in (((I 3 1) - (nI 1)) - x2) 12 ∧ t_X10_mirrored_78 d L fz t Q x1 x2 (I 4 (x2).toNatClampNeg) (I 4 ((((I 3 1) - (nI 1)) - x2)).toNatClampNeg) I J))))))) :
    t_X10_mirrored_23 d L fz t Q x1 x2 I J := by
  cases t <;> exact pm_go d [(5, [0, 1]), (21, [0, 1]), (23, [0, 1, 2]), (78, [0, 1, 2, 3])] 400 ⟨fun q0 => ⟨Or.inr rfl, ((h).1 q0)⟩, fun q0 => ⟨(((h).2 q0)).1, ⟨fun q1 => (((((h).2 q0)).2).1 q1), fun q1 => ⟨((((((h).2 q0)).2).2 q1)).1, ((((((h).2 q0)).2).2 q1)).2⟩⟩⟩⟩
set_option maxRecDepth 100000 in
theorem b_X10_mirrored_78 {d L : Nat} {fz t : Bool} {Q : pm_R → pm_H → Prop} {x1 : Int32} {x2 : Int32} {x3 : Int32} {r : Int32} {I : Nat → Nat → Int32} {J : Nat → Nat → Int64}
    (h : ((x3 = r → t_X10_mirrored_23 d L fz t Q x1 (x2 + (nI 1)) I J) ∧ (¬ x3 = r → Q (.inl (some (.int (nI 0)))) (pm_hp L fz t I J)))) :
    t_X10_mirrored_78 d L fz t Q x1 x2 x3 r I J := by
  exact pm_go d [(5, [0, 1]), (21, [0, 1]), (23, [0, 1, 2]), (78, [0, 1, 2, 3])] 400 ⟨fun q0 => ((h).1 q0), fun q0 => ⟨Or.inl rfl, ((h).2 q0)⟩⟩
theorem kb_X10_mirrored_78 {d L : Nat} {fz t : Bool} {Q : pm_R → pm_H → Prop} {x1 : Int32} {x2 : Int32} {x3 : Int32} {r : Int32} {fz1 : Bool} {I : Nat → Nat → Int32} {J : Nat → Nat → Int64}
    (h : ((x3 = r → t_X10_mirrored_23 d L fz t Q x1 (x2 + (nI 1)) I J) ∧ (¬ x3 = r → Q (.inl (some (.int (nI 0)))) (pm_hp L fz t I J)))) :
    K_X10_mirrored_78 d fz t Q x1 x2 x3 (.inl (some (.int r))) (pm_hp L fz1 t I J) := b_X10_mirrored_78 h
def t_X10_needCard_0 (d L : Nat) (fz t : Bool) (Q : pm_R → pm_H → Prop) (x1 : Int32) (I : Nat → Nat → Int32) (J : Nat → Nat → Int64) : Prop := pm_T (pm_Ev d) 281 Q (0, [(0, .ref 0), (1, .int x1)], [], pm_hp L fz t I J, 0, 0)
set_option maxRecDepth 100000 in
theorem b_X10_needCard_0 {d L : Nat} {fz t : Bool} {Q : pm_R → pm_H → Prop} {x1 : Int32} {I : Nat → Nat → Int32} {J : Nat → Nat → Int64}
    (h : ((x1 < (nI 0) → Q (.inr 1) (pm_hp L true t I J)) ∧ (¬ x1 < (nI 0) → ((x1 < (I (pm_td t) 13) → Q (.inl none) (pm_hp L fz t I J)) ∧ (¬ x1 < (I (pm_td t) 13) → Q (.inr 1) (pm_hp L true t I J)))))) :
    t_X10_needCard_0 d L fz t Q x1 I J := by
  cases t <;> exact pm_go d [] 400 ⟨fun q0 => ((h).1 q0), fun q0 => ⟨fun q1 => ((((h).2 q0)).1 q1), fun q1 => ((((h).2 q0)).2 q1)⟩⟩
theorem e_X10_needCard {d L : Nat} {fz t : Bool} {Q : pm_R → pm_H → Prop} {x1 : Int32} {I : Nat → Nat → Int32} {J : Nat → Nat → Int64}
    (h : ((x1 < (nI 0) → Q (.inr 1) (pm_hp L true t I J)) ∧ (¬ x1 < (nI 0) → ((x1 < (I (pm_td t) 13) → Q (.inl none) (pm_hp L fz t I J)) ∧ (¬ x1 < (I (pm_td t) 13) → Q (.inr 1) (pm_hp L true t I J)))))) :
    pm_Ev (d + 1) 281 [.ref 0, .int x1] (pm_hp L fz t I J) Q := pm_Ev_in rfl (b_X10_needCard_0 h)
def t_X10_needPick_0 (d L : Nat) (fz t : Bool) (Q : pm_R → pm_H → Prop) (x1 : Int32) (I : Nat → Nat → Int32) (J : Nat → Nat → Int64) : Prop := pm_T (pm_Ev d) 282 Q (0, [(0, .ref 0), (1, .int x1)], [], pm_hp L fz t I J, 0, 0)
def t_X10_needPick_5 (d L : Nat) (fz t : Bool) (Q : pm_R → pm_H → Prop) (r : Int32) (I : Nat → Nat → Int32) (J : Nat → Nat → Int64) : Prop := pm_T (pm_Ev d) 282 Q (5, [], [.int r], pm_hp L fz t I J, 0, 0)
def K_X10_needPick_5 (d : Nat) (fz t : Bool) (Q : pm_R → pm_H → Prop) : pm_R → pm_H → Prop := pm_K d 282 Q 5 [] [] 118 0 fz 0 0
set_option maxRecDepth 100000 in
theorem b_X10_needPick_0 {d L : Nat} {fz t : Bool} {Q : pm_R → pm_H → Prop} {x1 : Int32} {I : Nat → Nat → Int32} {J : Nat → Nat → Int64}
    (h : pm_Ev d 95 [.ref 0, .int x1] (pm_hp L fz t I J) (K_X10_needPick_5 d fz t Q)) :
    t_X10_needPick_0 d L fz t Q x1 I J := by
  exact pm_go d [(5, [])] 400 h
theorem e_X10_needPick {d L : Nat} {fz t : Bool} {Q : pm_R → pm_H → Prop} {x1 : Int32} {I : Nat → Nat → Int32} {J : Nat → Nat → Int64}
    (h : pm_Ev d 95 [.ref 0, .int x1] (pm_hp L fz t I J) (K_X10_needPick_5 d fz t Q)) :
    pm_Ev (d + 1) 282 [.ref 0, .int x1] (pm_hp L fz t I J) Q := pm_Ev_in rfl (b_X10_needPick_0 h)
set_option maxRecDepth 100000 in
theorem b_X10_needPick_5 {d L : Nat} {fz t : Bool} {Q : pm_R → pm_H → Prop} {r : Int32} {I : Nat → Nat → Int32} {J : Nat → Nat → Int64}
    (h : ((¬ r = (nI 0) → Q (.inl none) (pm_hp L fz t I J)) ∧ (r = (nI 0) → Q (.inr 1) (pm_hp L true t I J)))) :
    t_X10_needPick_5 d L fz t Q r I J := by
  exact pm_go d [(5, [])] 400 ⟨fun q0 => ((h).1 q0), fun q0 => ((h).2 q0)⟩
theorem kb_X10_needPick_5 {d L : Nat} {fz t : Bool} {Q : pm_R → pm_H → Prop} {r : Int32} {fz1 : Bool} {I : Nat → Nat → Int32} {J : Nat → Nat → Int64}
    (h : ((¬ r = (nI 0) → Q (.inl none) (pm_hp L fz t I J)) ∧ (r = (nI 0) → Q (.inr 1) (pm_hp L true t I J)))) :
    K_X10_needPick_5 d fz t Q (.inl (some (.int r))) (pm_hp L fz1 t I J) := b_X10_needPick_5 h
def t_X10_needFigure_0 (d L : Nat) (fz t : Bool) (Q : pm_R → pm_H → Prop) (x1 : Int32) (I : Nat → Nat → Int32) (J : Nat → Nat → Int64) : Prop := pm_T (pm_Ev d) 283 Q (0, [(0, .ref 0), (1, .int x1)], [], pm_hp L fz t I J, 0, 0)
set_option maxRecDepth 100000 in
theorem b_X10_needFigure_0 {d L : Nat} {fz t : Bool} {Q : pm_R → pm_H → Prop} {x1 : Int32} {I : Nat → Nat → Int32} {J : Nat → Nat → Int64}
    (h : ((x1 < (nI 0) → Q (.inr 1) (pm_hp L true t I J)) ∧ (¬ x1 < (nI 0) → ((x1 < (I (pm_td t) 15) → Q (.inl none) (pm_hp L fz t I J)) ∧ (¬ x1 < (I (pm_td t) 15) → Q (.inr 1) (pm_hp L true t I J)))))) :
    t_X10_needFigure_0 d L fz t Q x1 I J := by
  cases t <;> exact pm_go d [] 400 ⟨fun q0 => ((h).1 q0), fun q0 => ⟨fun q1 => ((((h).2 q0)).1 q1), fun q1 => ((((h).2 q0)).2 q1)⟩⟩
theorem e_X10_needFigure {d L : Nat} {fz t : Bool} {Q : pm_R → pm_H → Prop} {x1 : Int32} {I : Nat → Nat → Int32} {J : Nat → Nat → Int64}
    (h : ((x1 < (nI 0) → Q (.inr 1) (pm_hp L true t I J)) ∧ (¬ x1 < (nI 0) → ((x1 < (I (pm_td t) 15) → Q (.inl none) (pm_hp L fz t I J)) ∧ (¬ x1 < (I (pm_td t) 15) → Q (.inr 1) (pm_hp L true t I J)))))) :
    pm_Ev (d + 1) 283 [.ref 0, .int x1] (pm_hp L fz t I J) Q := pm_Ev_in rfl (b_X10_needFigure_0 h)
def t_X10_needWhat_0 (d L : Nat) (fz t : Bool) (Q : pm_R → pm_H → Prop) (x0 : Int32) (x1 : Int32) (I : Nat → Nat → Int32) (J : Nat → Nat → Int64) : Prop := pm_T (pm_Ev d) 284 Q (0, [(0, .int x0), (1, .int x1)], [], pm_hp L fz t I J, 0, 0)
set_option maxRecDepth 100000 in
theorem b_X10_needWhat_0 {d L : Nat} {fz t : Bool} {Q : pm_R → pm_H → Prop} {x0 : Int32} {x1 : Int32} {I : Nat → Nat → Int32} {J : Nat → Nat → Int64}
    (h : ((x0 < (nI 0) → Q (.inr 1) (pm_hp L true t I J)) ∧ (¬ x0 < (nI 0) → ((x0 ≤ x1 → Q (.inl none) (pm_hp L fz t I J)) ∧ (¬ x0 ≤ x1 → Q (.inr 1) (pm_hp L true t I J)))))) :
    t_X10_needWhat_0 d L fz t Q x0 x1 I J := by
  exact pm_go d [] 400 ⟨fun q0 => ((h).1 q0), fun q0 => ⟨fun q1 => ((((h).2 q0)).1 q1), fun q1 => ((((h).2 q0)).2 q1)⟩⟩
theorem e_X10_needWhat {d L : Nat} {fz t : Bool} {Q : pm_R → pm_H → Prop} {x0 : Int32} {x1 : Int32} {I : Nat → Nat → Int32} {J : Nat → Nat → Int64}
    (h : ((x0 < (nI 0) → Q (.inr 1) (pm_hp L true t I J)) ∧ (¬ x0 < (nI 0) → ((x0 ≤ x1 → Q (.inl none) (pm_hp L fz t I J)) ∧ (¬ x0 ≤ x1 → Q (.inr 1) (pm_hp L true t I J)))))) :
    pm_Ev (d + 1) 284 [.int x0, .int x1] (pm_hp L fz t I J) Q := pm_Ev_in rfl (b_X10_needWhat_0 h)
