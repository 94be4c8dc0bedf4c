def t_X3_append_0 (d L : Nat) (fz t : Bool) (Q : pm_R → pm_H → Prop) (x1 : Int32) (I : Nat → Nat → Int32) (J : Nat → Nat → Int64) : Prop := pm_T (pm_Ev d) 25 Q (0, [(0, .ref 1), (1, .int x1)], [], pm_hp L fz t I J, 0, 0)
def t_X3_append_3 (d L : Nat) (fz t : Bool) (Q : pm_R → pm_H → Prop) (x1 : Int32) (x2 : Int32) (I : Nat → Nat → Int32) (J : Nat → Nat → Int64) : Prop := pm_T (pm_Ev d) 25 Q (3, [(0, .ref 1), (1, .int x1), (2, .int x2)], [], pm_hp L fz t I J, 0, 0)
set_option maxRecDepth 100000 in
theorem b_X3_append_0 {d L : Nat} {fz t : Bool} {Q : pm_R → pm_H → Prop} {x1 : Int32} {I : Nat → Nat → Int32} {J : Nat → Nat → Int64}
    (h : t_X3_append_3 d L fz t Q x1 (nI 24) I J) :
    t_X3_append_0 d L fz t Q x1 I J := by
  exact pm_go d [(3, [0, 1, 2])] 400 h
theorem e_X3_append {d L : Nat} {fz t : Bool} {Q : pm_R → pm_H → Prop} {x1 : Int32} {I : Nat → Nat → Int32} {J : Nat → Nat → Int64}
    (h : t_X3_append_3 d L fz t Q x1 (nI 24) I J) :
    pm_Ev (d + 1) 25 [.ref 1, .int x1] (pm_hp L fz t I J) Q := pm_Ev_in rfl (b_X3_append_0 h)
set_option maxRecDepth 100000 in
theorem b_X3_append_3 {d L : Nat} {fz t : Bool} {Q : pm_R → pm_H → Prop} {x1 : Int32} {x2 : Int32} {I : Nat → Nat → Int32} {J : Nat → Nat → Int64}
    (h : ((x2 < (nI 0) → Q (.inl none) (pm_hp L fz t I J)) ∧ (¬ x2 < (nI 0) → (((nI 700) ≤ (I 1 1) → Q (.inl none) (pm_hp L fz t I J)) ∧ (¬ (nI 700) ≤ (I 1 1) → (vp_in (I 1 1) 700 ∧ t_X3_append_3 d L fz t Q x1 (x2 + (-8 : Int32)) (pm_u (pm_u I 2 ((I 1 1)).toNatClampNeg (vp_nar .byte (Int8.toInt32 (Int32.toInt8 (x1 >>> (x2 &&& 31)))))) 1 1 ((I 1 1) + (nI 1))) J)))))) :
    t_X3_append_3 d L fz t Q x1 x2 I J := by
  exact pm_go d [(3, [0, 1, 2])] 400 ⟨fun q0 => ((h).1 q0), fun q0 => ⟨fun q1 => ((((h).2 q0)).1 q1), fun q1 => ⟨(((((h).2 q0)).2 q1)).1, (((((h).2 q0)).2 q1)).2⟩⟩⟩
def t_X3_read_0 (d L : Nat) (fz t : Bool) (Q : pm_R → pm_H → Prop) (a2 : Nat) (x1 : Int32) (I : Nat → Nat → Int32) (J : Nat → Nat → Int64) : Prop := pm_T (pm_Ev d) 26 Q (0, [(0, .ref 1), (1, .int x1), (2, .ref a2)], [], pm_hp L fz t I J, 0, 0)
def t_X3_read_34 (d L : Nat) (fz t : Bool) (Q : pm_R → pm_H → Prop) (a2 : Nat) (I : Nat → Nat → Int32) (J : Nat → Nat → Int64) : Prop := pm_T (pm_Ev d) 26 Q (34, [(0, .ref 1), (2, .ref a2)], [], pm_hp L fz t I J, 0, 0)
def K_X3_read_34 (d : Nat) (fz t : Bool) (Q : pm_R → pm_H → Prop) (a2 : Nat) : pm_R → pm_H → Prop := pm_K d 26 Q 34 [(0, .ref 1), (2, .ref a2)] [] 118 0 fz 0 0
def t_X3_read_38 (d L : Nat) (fz t : Bool) (Q : pm_R → pm_H → Prop) (a2 : Nat) (I : Nat → Nat → Int32) (J : Nat → Nat → Int64) : Prop := pm_T (pm_Ev d) 26 Q (38, [(0, .ref 1), (2, .ref a2)], [], pm_hp L fz t I J, 0, 0)
def K_X3_read_38 (d : Nat) (fz t : Bool) (Q : pm_R → pm_H → Prop) (a2 : Nat) : pm_R → pm_H → Prop := pm_K d 26 Q 38 [(0, .ref 1), (2, .ref a2)] [] 118 0 fz 0 0
def t_X3_read_40 (d L : Nat) (fz t : Bool) (Q : pm_R → pm_H → Prop) (a2 : Nat) (x3 : Int32) (I : Nat → Nat → Int32) (J : Nat → Nat → Int64) : Prop := pm_T (pm_Ev d) 26 Q (40, [(0, .ref 1), (2, .ref a2), (3, .int x3)], [], pm_hp L fz t I J, 0, 0)
def t_X3_read_66 (d L : Nat) (fz t : Bool) (Q : pm_R → pm_H → Prop) (a2 : Nat) (x3 : Int32) (I : Nat → Nat → Int32) (J : Nat → Nat → Int64) : Prop := pm_T (pm_Ev d) 26 Q (66, [(0, .ref 1), (2, .ref a2), (3, .int x3)], [], pm_hp L fz t I J, 0, 0)
def K_X3_read_66 (d : Nat) (fz t : Bool) (Q : pm_R → pm_H → Prop) (a2 : Nat) (x3 : Int32) : pm_R → pm_H → Prop := pm_K d 26 Q 66 [(0, .ref 1), (2, .ref a2), (3, .int x3)] [] 118 0 fz 0 0
set_option maxRecDepth 100000 in
theorem b_X3_read_0 {d L : Nat} {fz t : Bool} {Q : pm_R → pm_H → Prop} {a2 : Nat} {x1 : Int32} {I : Nat → Nat → Int32} {J : Nat → Nat → Int64} (ha2 : a2 = 55 ∨ a2 = 70)
    (h : pm_Ev d 69 [.ref a2] (pm_hp L fz t (pm_u (pm_u (pm_u (pm_u I 1 2 (if (nI 0) < (if (nI 700) < x1 then (nI 700) else x1) then (if (nI 700) < x1 then (nI 700) else x1) else (nI 0))) 1 4 (nI 0)) 1 8 (nI 0)) 1 9 (-1 : Int32)) J) (K_X3_read_34 d fz t Q a2)) :
    t_X3_read_0 d L fz t Q a2 x1 I J := by
  rcases ha2 with rfl | rfl <;> exact pm_go d [(34, [0, 2]), (38, [0, 2]), (40, [0, 2, 3]), (66, [0, 2, 3])] 400 h
theorem e_X3_read {d L : Nat} {fz t : Bool} {Q : pm_R → pm_H → Prop} {a2 : Nat} {x1 : Int32} {I : Nat → Nat → Int32} {J : Nat → Nat → Int64} (ha2 : a2 = 55 ∨ a2 = 70)
    (h : pm_Ev d 69 [.ref a2] (pm_hp L fz t (pm_u (pm_u (pm_u (pm_u I 1 2 (if (nI 0) < (if (nI 700) < x1 then (nI 700) else x1) then (if (nI 700) < x1 then (nI 700) else x1) else (nI 0))) 1 4 (nI 0)) 1 8 (nI 0)) 1 9 (-1 : Int32)) J) (K_X3_read_34 d fz t Q a2)) :
    pm_Ev (d + 1) 26 [.ref 1, .int x1, .ref a2] (pm_hp L fz t I J) Q := pm_Ev_in rfl (b_X3_read_0 ha2 h)
set_option maxRecDepth 100000 in
theorem b_X3_read_34 {d L : Nat} {fz t : Bool} {Q : pm_R → pm_H → Prop} {a2 : Nat} {I : Nat → Nat → Int32} {J : Nat → Nat → Int64} (ha2 : a2 = 55 ∨ a2 = 70)
    (h : pm_Ev d 28 [.ref 1] (pm_hp L fz t I J) (K_X3_read_38 d fz t Q a2)) :
    t_X3_read_34 d L fz t Q a2 I J := by
  rcases ha2 with rfl | rfl <;> exact pm_go d [(34, [0, 2]), (38, [0, 2]), (40, [0, 2, 3]), (66, [0, 2, 3])] 400 h
theorem kb_X3_read_34 {d L : Nat} {fz t : Bool} {Q : pm_R → pm_H → Prop} {a2 : Nat} {fz1 : Bool} {I : Nat → Nat → Int32} {J : Nat → Nat → Int64} (ha2 : a2 = 55 ∨ a2 = 70)
    (h : pm_Ev d 28 [.ref 1] (pm_hp L fz t I J) (K_X3_read_38 d fz t Q a2)) :
    K_X3_read_34 d fz t Q a2 (.inl none) (pm_hp L fz1 t I J) := b_X3_read_34 ha2 h
set_option maxRecDepth 100000 in
theorem b_X3_read_38 {d L : Nat} {fz t : Bool} {Q : pm_R → pm_H → Prop} {a2 : Nat} {I : Nat → Nat → Int32} {J : Nat → Nat → Int64} (ha2 : a2 = 55 ∨ a2 = 70)
    (h : t_X3_read_40 d L fz t Q a2 (nI 0) I J) :
    t_X3_read_38 d L fz t Q a2 I J := by
  rcases ha2 with rfl | rfl <;> exact pm_go d [(34, [0, 2]), (38, [0, 2]), (40, [0, 2, 3]), (66, [0, 2, 3])] 400 h
theorem kb_X3_read_38 {d L : Nat} {fz t : Bool} {Q : pm_R → pm_H → Prop} {a2 : Nat} {fz1 : Bool} {I : Nat → Nat → Int32} {J : Nat → Nat → Int64} (ha2 : a2 = 55 ∨ a2 = 70)
    (h : t_X3_read_40 d L fz t Q a2 (nI 0) I J) :
    K_X3_read_38 d fz t Q a2 (.inl none) (pm_hp L fz1 t I J) := b_X3_read_38 ha2 h
set_option maxRecDepth 100000 in
theorem b_X3_read_40 {d L : Nat} {fz t : Bool} {Q : pm_R → pm_H → Prop} {a2 : Nat} {x3 : Int32} {I : Nat → Nat → Int32} {J : Nat → Nat → Int64} (ha2 : a2 = 55 ∨ a2 = 70)
    (h : (((nI 700) ≤ x3 → Q (.inl (some (.int (I 1 8)))) (pm_hp L fz t I J)) ∧ (¬ (nI 700) ≤ x3 → ((¬ (I 1 8) = (nI 0) → Q (.inl (some (.int (I 1 8)))) (pm_hp L fz t I J)) ∧ ((I 1 8) = (nI 0) → (((I 1 5) = (nI 0) → Q (.inl (some (.int (I 1 8)))) (pm_hp L fz t I J)) ∧ (¬ (I 1 5) = (nI 0) → pm_Ev d 37 [.ref 1, .ref a2] (pm_hp L fz t I J) (K_X3_read_66 d fz t Q a2 x3)))))))) :
    t_X3_read_40 d L fz t Q a2 x3 I J := by
  rcases ha2 with rfl | rfl <;> exact pm_go d [(34, [0, 2]), (38, [0, 2]), (40, [0, 2, 3]), (66, [0, 2, 3])] 400 ⟨fun q0 => ((h).1 q0), fun q0 => ⟨fun q1 => ((((h).2 q0)).1 q1), fun q1 => ⟨fun q2 => ((((((h).2 q0)).2 q1)).1 q2), fun q2 => ((((((h).2 q0)).2 q1)).2 q2)⟩⟩⟩
set_option maxRecDepth 100000 in
theorem b_X3_read_66 {d L : Nat} {fz t : Bool} {Q : pm_R → pm_H → Prop} {a2 : Nat} {x3 : Int32} {I : Nat → Nat → Int32} {J : Nat → Nat → Int64} (ha2 : a2 = 55 ∨ a2 = 70)
    (h : t_X3_read_40 d L fz t Q a2 (x3 + (nI 1)) I J) :
    t_X3_read_66 d L fz t Q a2 x3 I J := by
  rcases ha2 with rfl | rfl <;> exact pm_go d [(34, [0, 2]), (38, [0, 2]), (40, [0, 2, 3]), (66, [0, 2, 3])] 400 h
theorem kb_X3_read_66 {d L : Nat} {fz t : Bool} {Q : pm_R → pm_H → Prop} {a2 : Nat} {x3 : Int32} {fz1 : Bool} {I : Nat → Nat → Int32} {J : Nat → Nat → Int64} (ha2 : a2 = 55 ∨ a2 = 70)
    (h : t_X3_read_40 d L fz t Q a2 (x3 + (nI 1)) I J) :
    K_X3_read_66 d fz t Q a2 x3 (.inl none) (pm_hp L fz1 t I J) := b_X3_read_66 ha2 h
def t_X3_fail_0 (d L : Nat) (fz t : Bool) (Q : pm_R → pm_H → Prop) (x1 : Int32) (I : Nat → Nat → Int32) (J : Nat → Nat → Int64) : Prop := pm_T (pm_Ev d) 27 Q (0, [(0, .ref 1), (1, .int x1)], [], pm_hp L fz t I J, 0, 0)
set_option maxRecDepth 100000 in
theorem b_X3_fail_0 {d L : Nat} {fz t : Bool} {Q : pm_R → pm_H → Prop} {x1 : Int32} {I : Nat → Nat → Int32} {J : Nat → Nat → Int64}
    (h : ((¬ (I 1 8) = (nI 0) → Q (.inl none) (pm_hp L fz t I J)) ∧ ((I 1 8) = (nI 0) → Q (.inl none) (pm_hp L fz t (pm_u (pm_u I 1 8 x1) 1 9 (I 1 3)) J)))) :
    t_X3_fail_0 d L fz t Q x1 I J := by
  exact pm_go d [] 400 ⟨fun q0 => ((h).1 q0), fun q0 => ((h).2 q0)⟩
theorem e_X3_fail {d L : Nat} {fz t : Bool} {Q : pm_R → pm_H → Prop} {x1 : Int32} {I : Nat → Nat → Int32} {J : Nat → Nat → Int64}
    (h : ((¬ (I 1 8) = (nI 0) → Q (.inl none) (pm_hp L fz t I J)) ∧ ((I 1 8) = (nI 0) → Q (.inl none) (pm_hp L fz t (pm_u (pm_u I 1 8 x1) 1 9 (I 1 3)) J)))) :
    pm_Ev (d + 1) 27 [.ref 1, .int x1] (pm_hp L fz t I J) Q := pm_Ev_in rfl (b_X3_fail_0 h)
def t_X3_advance_0 (d L : Nat) (fz t : Bool) (Q : pm_R → pm_H → Prop) (I : Nat → Nat → Int32) (J : Nat → Nat → Int64) : Prop := pm_T (pm_Ev d) 28 Q (0, [(0, .ref 1)], [], pm_hp L fz t I J, 0, 0)
def t_X3_advance_5 (d L : Nat) (fz t : Bool) (Q : pm_R → pm_H → Prop) (x1 : Int32) (I : Nat → Nat → Int32) (J : Nat → Nat → Int64) : Prop := pm_T (pm_Ev d) 28 Q (5, [(0, .ref 1), (1, .int x1)], [], pm_hp L fz t I J, 0, 0)
def t_X3_advance_64 (d L : Nat) (fz t : Bool) (Q : pm_R → pm_H → Prop) (x1 : Int32) (r : Int32) (I : Nat → Nat → Int32) (J : Nat → Nat → Int64) : Prop := pm_T (pm_Ev d) 28 Q (64, [(0, .ref 1), (1, .int x1)], [.int r], pm_hp L fz t I J, 0, 0)
def K_X3_advance_64 (d : Nat) (fz t : Bool) (Q : pm_R → pm_H → Prop) (x1 : Int32) : pm_R → pm_H → Prop := pm_K d 28 Q 64 [(0, .ref 1), (1, .int x1)] [] 118 0 fz 0 0
def t_X3_advance_80 (d L : Nat) (fz t : Bool) (Q : pm_R → pm_H → Prop) (x1 : Int32) (r : Int32) (I : Nat → Nat → Int32) (J : Nat → Nat → Int64) : Prop := pm_T (pm_Ev d) 28 Q (80, [(0, .ref 1), (1, .int x1)], [.int r], pm_hp L fz t I J, 0, 0)
def K_X3_advance_80 (d : Nat) (fz t : Bool) (Q : pm_R → pm_H → Prop) (x1 : Int32) : pm_R → pm_H → Prop := pm_K d 28 Q 80 [(0, .ref 1), (1, .int x1)] [] 118 0 fz 0 0
def t_X3_advance_72 (d L : Nat) (fz t : Bool) (Q : pm_R → pm_H → Prop) (r : Int32) (I : Nat → Nat → Int32) (J : Nat → Nat → Int64) : Prop := pm_T (pm_Ev d) 28 Q (72, [(0, .ref 1)], [.int r], pm_hp L fz t I J, 0, 0)
def K_X3_advance_72 (d : Nat) (fz t : Bool) (Q : pm_R → pm_H → Prop) : pm_R → pm_H → Prop := pm_K d 28 Q 72 [(0, .ref 1)] [] 118 0 fz 0 0
def t_X3_advance_88 (d L : Nat) (fz t : Bool) (Q : pm_R → pm_H → Prop) (r : Int32) (I : Nat → Nat → Int32) (J : Nat → Nat → Int64) : Prop := pm_T (pm_Ev d) 28 Q (88, [(0, .ref 1)], [.int r], pm_hp L fz t I J, 0, 0)
def K_X3_advance_88 (d : Nat) (fz t : Bool) (Q : pm_R → pm_H → Prop) : pm_R → pm_H → Prop := pm_K d 28 Q 88 [(0, .ref 1)] [] 118 0 fz 0 0
set_option maxRecDepth 100000 in
theorem b_X3_advance_0 {d L : Nat} {fz t : Bool} {Q : pm_R → pm_H → Prop} {I : Nat → Nat → Int32} {J : Nat → Nat → Int64}
    (h : t_X3_advance_5 d L fz t Q (I 1 4) I J) :
    t_X3_advance_0 d L fz t Q I J := by
  exact pm_go d [(5, [0, 1]), (64, [0, 1]), (72, [0]), (80, [0, 1]), (88, [0])] 400 h
theorem e_X3_advance {d L : Nat} {fz t : Bool} {Q : pm_R → pm_H → Prop} {I : Nat → Nat → Int32} {J : Nat → Nat → Int64}
    (h : t_X3_advance_5 d L fz t Q (I 1 4) I J) :
    pm_Ev (d + 1) 28 [.ref 1] (pm_hp L fz t I J) Q := pm_Ev_in rfl (b_X3_advance_0 h)
set_option maxRecDepth 100000 in
theorem b_X3_advance_5 {d L : Nat} {fz t : Bool} {Q : pm_R → pm_H → Prop} {x1 : Int32} {I : Nat → Nat → Int32} {J : Nat → Nat → Int64}
    (h : (((I 1 2) ≤ x1 → Q (.inl none) (pm_hp L fz t (pm_u (pm_u (pm_u I 1 3 x1) 1 5 (nI 0)) 1 4 x1) J)) ∧ (¬ (I 1 2) ≤ x1 → (vp_in x1 700 ∧ (((I 2 (x1).toNatClampNeg) = (nI 32) → t_X3_advance_5 d L fz t Q (x1 + (nI 1)) I J) ∧ (¬ (I 2 (x1).toNatClampNeg) = (nI 32) → (vp_in x1 700 ∧ ((¬ (I 2 (x1).toNatClampNeg) = (nI 10) → pm_Ev d 29 [.ref 1, .int x1] (pm_hp L fz t (pm_u (pm_u I 1 3 x1) 1 5 (nI 0)) J) (K_X3_advance_64 d fz t Q x1)) ∧ ((I 2 (x1).toNatClampNeg) = (nI 10) → t_X3_advance_5 d L fz t Q (x1 + (nI 1)) I J))))))))) :
    t_X3_advance_5 d L fz t Q x1 I J := by
  exact pm_go d [(5, [0, 1]), (64, [0, 1]), (72, [0]), (80, [0, 1]), (88, [0])] 400 ⟨fun q0 => ⟨fun _ => ((h).1 q0), fun n => absurd q0 n⟩, fun q0 => ⟨(((h).2 q0)).1, ⟨fun q1 => (((((h).2 q0)).2).1 q1), fun q1 => ⟨((((((h).2 q0)).2).2 q1)).1, ⟨fun q2 => ⟨fun n => absurd n q0, fun _ => ((((((((h).2 q0)).2).2 q1)).2).1 q2)⟩, fun q2 => ((((((((h).2 q0)).2).2 q1)).2).2 q2)⟩⟩⟩⟩⟩
set_option maxRecDepth 100000 in
theorem b_X3_advance_64 {d L : Nat} {fz t : Bool} {Q : pm_R → pm_H → Prop} {x1 : Int32} {r : Int32} {I : Nat → Nat → Int32} {J : Nat → Nat → Int64}
    (h : ((r = (nI 0) → pm_Ev d 30 [.ref 1, .int x1] (pm_hp L fz t I J) (K_X3_advance_80 d fz t Q x1)) ∧ (¬ r = (nI 0) → pm_Ev d 31 [.ref 1, .int x1] (pm_hp L fz t I J) (K_X3_advance_72 d fz t Q)))) :
    t_X3_advance_64 d L fz t Q x1 r I J := by
  exact pm_go d [(5, [0, 1]), (64, [0, 1]), (72, [0]), (80, [0, 1]), (88, [0])] 400 ⟨fun q0 => ((h).1 q0), fun q0 => ((h).2 q0)⟩
theorem kb_X3_advance_64 {d L : Nat} {fz t : Bool} {Q : pm_R → pm_H → Prop} {x1 : Int32} {r : Int32} {fz1 : Bool} {I : Nat → Nat → Int32} {J : Nat → Nat → Int64}
    (h : ((r = (nI 0) → pm_Ev d 30 [.ref 1, .int x1] (pm_hp L fz t I J) (K_X3_advance_80 d fz t Q x1)) ∧ (¬ r = (nI 0) → pm_Ev d 31 [.ref 1, .int x1] (pm_hp L fz t I J) (K_X3_advance_72 d fz t Q)))) :
    K_X3_advance_64 d fz t Q x1 (.inl (some (.int r))) (pm_hp L fz1 t I J) := b_X3_advance_64 h
set_option maxRecDepth 100000 in
theorem b_X3_advance_80 {d L : Nat} {fz t : Bool} {Q : pm_R → pm_H → Prop} {x1 : Int32} {r : Int32} {I : Nat → Nat → Int32} {J : Nat → Nat → Int64}
    (h : ((r = (nI 0) → ((¬ (I 1 5) = (nI 0) → Q (.inl none) (pm_hp L fz t (pm_u I 1 4 (x1 + (nI 1))) J)) ∧ ((I 1 5) = (nI 0) → Q (.inl none) (pm_hp L fz t (pm_u (pm_u I 1 5 (nI 3)) 1 4 (x1 + (nI 1))) J)))) ∧ (¬ r = (nI 0) → pm_Ev d 32 [.ref 1, .int x1] (pm_hp L fz t I J) (K_X3_advance_88 d fz t Q)))) :
    t_X3_advance_80 d L fz t Q x1 r I J := by
  exact pm_go d [(5, [0, 1]), (64, [0, 1]), (72, [0]), (80, [0, 1]), (88, [0])] 400 ⟨fun q0 => ⟨fun q1 => ((((h).1 q0)).1 q1), fun q1 => ((((h).1 q0)).2 q1)⟩, fun q0 => ((h).2 q0)⟩
theorem kb_X3_advance_80 {d L : Nat} {fz t : Bool} {Q : pm_R → pm_H → Prop} {x1 : Int32} {r : Int32} {fz1 : Bool} {I : Nat → Nat → Int32} {J : Nat → Nat → Int64}
    (h : ((r = (nI 0) → ((¬ (I 1 5) = (nI 0) → Q (.inl none) (pm_hp L fz t (pm_u I 1 4 (x1 + (nI 1))) J)) ∧ ((I 1 5) = (nI 0) → Q (.inl none) (pm_hp L fz t (pm_u (pm_u I 1 5 (nI 3)) 1 4 (x1 + (nI 1))) J)))) ∧ (¬ r = (nI 0) → pm_Ev d 32 [.ref 1, .int x1] (pm_hp L fz t I J) (K_X3_advance_88 d fz t Q)))) :
    K_X3_advance_80 d fz t Q x1 (.inl (some (.int r))) (pm_hp L fz1 t I J) := b_X3_advance_80 h
set_option maxRecDepth 100000 in
theorem b_X3_advance_72 {d L : Nat} {fz t : Bool} {Q : pm_R → pm_H → Prop} {r : Int32} {I : Nat → Nat → Int32} {J : Nat → Nat → Int64}
    (h : ((¬ (I 1 5) = (nI 0) → Q (.inl none) (pm_hp L fz t (pm_u I 1 4 r) J)) ∧ ((I 1 5) = (nI 0) → Q (.inl none) (pm_hp L fz t (pm_u (pm_u I 1 5 (nI 3)) 1 4 r) J)))) :
    t_X3_advance_72 d L fz t Q r I J := by
  exact pm_go d [(5, [0, 1]), (64, [0, 1]), (72, [0]), (80, [0, 1]), (88, [0])] 400 ⟨fun q0 => ((h).1 q0), fun q0 => ((h).2 q0)⟩
theorem kb_X3_advance_72 {d L : Nat} {fz t : Bool} {Q : pm_R → pm_H → Prop} {r : Int32} {fz1 : Bool} {I : Nat → Nat → Int32} {J : Nat → Nat → Int64}
    (h : ((¬ (I 1 5) = (nI 0) → Q (.inl none) (pm_hp L fz t (pm_u I 1 4 r) J)) ∧ ((I 1 5) = (nI 0) → Q (.inl none) (pm_hp L fz t (pm_u (pm_u I 1 5 (nI 3)) 1 4 r) J)))) :
    K_X3_advance_72 d fz t Q (.inl (some (.int r))) (pm_hp L fz1 t I J) := b_X3_advance_72 h
set_option maxRecDepth 100000 in
theorem b_X3_advance_88 {d L : Nat} {fz t : Bool} {Q : pm_R → pm_H → Prop} {r : Int32} {I : Nat → Nat → Int32} {J : Nat → Nat → Int64}
    (h : ((¬ (I 1 5) = (nI 0) → Q (.inl none) (pm_hp L fz t (pm_u I 1 4 r) J)) ∧ ((I 1 5) = (nI 0) → Q (.inl none) (pm_hp L fz t (pm_u (pm_u I 1 5 (nI 3)) 1 4 r) J)))) :
    t_X3_advance_88 d L fz t Q r I J := by
  exact pm_go d [(5, [0, 1]), (64, [0, 1]), (72, [0]), (80, [0, 1]), (88, [0])] 400 ⟨fun q0 => ((h).1 q0), fun q0 => ((h).2 q0)⟩
theorem kb_X3_advance_88 {d L : Nat} {fz t : Bool} {Q : pm_R → pm_H → Prop} {r : Int32} {fz1 : Bool} {I : Nat → Nat → Int32} {J : Nat → Nat → Int64}
    (h : ((¬ (I 1 5) = (nI 0) → Q (.inl none) (pm_hp L fz t (pm_u I 1 4 r) J)) ∧ ((I 1 5) = (nI 0) → Q (.inl none) (pm_hp L fz t (pm_u (pm_u I 1 5 (nI 3)) 1 4 r) J)))) :
    K_X3_advance_88 d fz t Q (.inl (some (.int r))) (pm_hp L fz1 t I J) := b_X3_advance_88 h
def t_X3_isLetter_0 (d L : Nat) (fz t : Bool) (Q : pm_R → pm_H → Prop) (x1 : Int32) (I : Nat → Nat → Int32) (J : Nat → Nat → Int64) : Prop := pm_T (pm_Ev d) 29 Q (0, [(0, .ref 1), (1, .int x1)], [], pm_hp L fz t I J, 0, 0)
set_option maxRecDepth 100000 in
theorem b_X3_isLetter_0 {d L : Nat} {fz t : Bool} {Q : pm_R → pm_H → Prop} {x1 : Int32} {I : Nat → Nat → Int32} {J : Nat → Nat → Int64}
    (h : (((I 1 2) ≤ x1 → Q (.inl (some (.int (nI 0)))) (pm_hp L fz t I J)) ∧ (¬ (I 1 2) ≤ x1 → (vp_in x1 700 ∧ (((I 2 (x1).toNatClampNeg) < (nI 97) → Q (.inl (some (.int (nI 0)))) (pm_hp L fz t I J)) ∧ (¬ (I 2 (x1).toNatClampNeg) < (nI 97) → (vp_in x1 700 ∧ (((nI 122) < (I 2 (x1).toNatClampNeg) → Q (.inl (some (.int (nI 0)))) (pm_hp L fz t I J)) ∧ (¬ (nI 122) < (I 2 (x1).toNatClampNeg) → Q (.inl (some (.int (nI 1)))) (pm_hp L fz t I J)))))))))) :
    t_X3_isLetter_0 d L fz t Q x1 I J := by
  exact pm_go d [] 400 ⟨fun q0 => ⟨Or.inl rfl, ((h).1 q0)⟩, fun q0 => ⟨(((h).2 q0)).1, ⟨fun q1 => ⟨Or.inl rfl, (((((h).2 q0)).2).1 q1)⟩, fun q1 => ⟨((((((h).2 q0)).2).2 q1)).1, ⟨fun q2 => ⟨Or.inl rfl, ((((((((h).2 q0)).2).2 q1)).2).1 q2)⟩, fun q2 => ⟨Or.inr rfl, ((((((((h).2 q0)).2).2 q1)).2).2 q2)⟩⟩⟩⟩⟩⟩
theorem e_X3_isLetter {d L : Nat} {fz t : Bool} {Q : pm_R → pm_H → Prop} {x1 : Int32} {I : Nat → Nat → Int32} {J : Nat → Nat → Int64}
    (h : (((I 1 2) ≤ x1 → Q (.inl (some (.int (nI 0)))) (pm_hp L fz t I J)) ∧ (¬ (I 1 2) ≤ x1 → (vp_in x1 700 ∧ (((I 2 (x1).toNatClampNeg) < (nI 97) → Q (.inl (some (.int (nI 0)))) (pm_hp L fz t I J)) ∧ (¬ (I 2 (x1).toNatClampNeg) < (nI 97) → (vp_in x1 700 ∧ (((nI 122) < (I 2 (x1).toNatClampNeg) → Q (.inl (some (.int (nI 0)))) (pm_hp L fz t I J)) ∧ (¬ (nI 122) < (I 2 (x1).toNatClampNeg) → Q (.inl (some (.int (nI 1)))) (pm_hp L fz t I J)))))))))) :
    pm_Ev (d + 1) 29 [.ref 1, .int x1] (pm_hp L fz t I J) Q := pm_Ev_in rfl (b_X3_isLetter_0 h)
def t_X3_isDigit_0 (d L : Nat) (fz t : Bool) (Q : pm_R → pm_H → Prop) (x1 : Int32) (I : Nat → Nat → Int32) (J : Nat → Nat → Int64) : Prop := pm_T (pm_Ev d) 30 Q (0, [(0, .ref 1), (1, .int x1)], [], pm_hp L fz t I J, 0, 0)
set_option maxRecDepth 100000 in
theorem b_X3_isDigit_0 {d L : Nat} {fz t : Bool} {Q : pm_R → pm_H → Prop} {x1 : Int32} {I : Nat → Nat → Int32} {J : Nat → Nat → Int64}
    (h : (((I 1 2) ≤ x1 → Q (.inl (some (.int (nI 0)))) (pm_hp L fz t I J)) ∧ (¬ (I 1 2) ≤ x1 → (vp_in x1 700 ∧ (((I 2 (x1).toNatClampNeg) < (nI 48) → Q (.inl (some (.int (nI 0)))) (pm_hp L fz t I J)) ∧ (¬ (I 2 (x1).toNatClampNeg) < (nI 48) → (vp_in x1 700 ∧ (((nI 57) < (I 2 (x1).toNatClampNeg) → Q (.inl (some (.int (nI 0)))) (pm_hp L fz t I J)) ∧ (¬ (nI 57) < (I 2 (x1).toNatClampNeg) → Q (.inl (some (.int (nI 1)))) (pm_hp L fz t I J)))))))))) :
    t_X3_isDigit_0 d L fz t Q x1 I J := by
  exact pm_go d [] 400 ⟨fun q0 => ⟨Or.inl rfl, ((h).1 q0)⟩, fun q0 => ⟨(((h).2 q0)).1, ⟨fun q1 => ⟨Or.inl rfl, (((((h).2 q0)).2).1 q1)⟩, fun q1 => ⟨((((((h).2 q0)).2).2 q1)).1, ⟨fun q2 => ⟨Or.inl rfl, ((((((((h).2 q0)).2).2 q1)).2).1 q2)⟩, fun q2 => ⟨Or.inr rfl, ((((((((h).2 q0)).2).2 q1)).2).2 q2)⟩⟩⟩⟩⟩⟩
theorem e_X3_isDigit {d L : Nat} {fz t : Bool} {Q : pm_R → pm_H → Prop} {x1 : Int32} {I : Nat → Nat → Int32} {J : Nat → Nat → Int64}
    (h : (((I 1 2) ≤ x1 → Q (.inl (some (.int (nI 0)))) (pm_hp L fz t I J)) ∧ (¬ (I 1 2) ≤ x1 → (vp_in x1 700 ∧ (((I 2 (x1).toNatClampNeg) < (nI 48) → Q (.inl (some (.int (nI 0)))) (pm_hp L fz t I J)) ∧ (¬ (I 2 (x1).toNatClampNeg) < (nI 48) → (vp_in x1 700 ∧ (((nI 57) < (I 2 (x1).toNatClampNeg) → Q (.inl (some (.int (nI 0)))) (pm_hp L fz t I J)) ∧ (¬ (nI 57) < (I 2 (x1).toNatClampNeg) → Q (.inl (some (.int (nI 1)))) (pm_hp L fz t I J)))))))))) :
    pm_Ev (d + 1) 30 [.ref 1, .int x1] (pm_hp L fz t I J) Q := pm_Ev_in rfl (b_X3_isDigit_0 h)
def t_X3_scanWord_0 (d L : Nat) (fz t : Bool) (Q : pm_R → pm_H → Prop) (x1 : Int32) (I : Nat → Nat → Int32) (J : Nat → Nat → Int64) : Prop := pm_T (pm_Ev d) 31 Q (0, [(0, .ref 1), (1, .int x1)], [], pm_hp L fz t I J, 0, 0)
def t_X3_scanWord_2 (d L : Nat) (fz t : Bool) (Q : pm_R → pm_H → Prop) (x2 : Int32) (I : Nat → Nat → Int32) (J : Nat → Nat → Int64) : Prop := pm_T (pm_Ev d) 31 Q (2, [(0, .ref 1), (2, .int x2)], [], pm_hp L fz t I J, 0, 0)
def t_X3_scanWord_15 (d L : Nat) (fz t : Bool) (Q : pm_R → pm_H → Prop) (x2 : Int32) (r : Int32) (I : Nat → Nat → Int32) (J : Nat → Nat → Int64) : Prop := pm_T (pm_Ev d) 31 Q (15, [(0, .ref 1), (2, .int x2)], [.int r], pm_hp L fz t I J, 0, 0)
def K_X3_scanWord_15 (d : Nat) (fz t : Bool) (Q : pm_R → pm_H → Prop) (x2 : Int32) : pm_R → pm_H → Prop := pm_K d 31 Q 15 [(0, .ref 1), (2, .int x2)] [] 118 0 fz 0 0
set_option maxRecDepth 100000 in
theorem b_X3_scanWord_0 {d L : Nat} {fz t : Bool} {Q : pm_R → pm_H → Prop} {x1 : Int32} {I : Nat → Nat → Int32} {J : Nat → Nat → Int64}
    (h : t_X3_scanWord_2 d L fz t Q x1 I J) :
    t_X3_scanWord_0 d L fz t Q x1 I J := by
  exact pm_go d [(2, [0, 2]), (15, [0, 2])] 400 h
theorem e_X3_scanWord {d L : Nat} {fz t : Bool} {Q : pm_R → pm_H → Prop} {x1 : Int32} {I : Nat → Nat → Int32} {J : Nat → Nat → Int64}
    (h : t_X3_scanWord_2 d L fz t Q x1 I J) :
    pm_Ev (d + 1) 31 [.ref 1, .int x1] (pm_hp L fz t I J) Q := pm_Ev_in rfl (b_X3_scanWord_0 h)
set_option maxRecDepth 100000 in
theorem b_X3_scanWord_2 {d L : Nat} {fz t : Bool} {Q : pm_R → pm_H → Prop} {x2 : Int32} {I : Nat → Nat → Int32} {J : Nat → Nat → Int64}
    (h : (((I 1 2) ≤ x2 → Q (.inl (some (.int x2))) (pm_hp L fz t (pm_u I 1 5 (nI 1)) J)) ∧ (¬ (I 1 2) ≤ x2 → pm_Ev d 29 [.ref 1, .int x2] (pm_hp L fz t I J) (K_X3_scanWord_15 d fz t Q x2)))) :
    t_X3_scanWord_2 d L fz t Q x2 I J := by
  exact pm_go d [(2, [0, 2]), (15, [0, 2])] 400 ⟨fun q0 => ((h).1 q0), fun q0 => ((h).2 q0)⟩
set_option maxRecDepth 100000 in
theorem b_X3_scanWord_15 {d L : Nat} {fz t : Bool} {Q : pm_R → pm_H → Prop} {x2 : Int32} {r : Int32} {I : Nat → Nat → Int32} {J : Nat → Nat → Int64}
    (h : ((r = (nI 0) → Q (.inl (some (.int x2))) (pm_hp L fz t (pm_u I 1 5 (nI 1)) J)) ∧ (¬ r = (nI 0) → t_X3_scanWord_2 d L fz t Q (x2 + (nI 1)) I J))) :
    t_X3_scanWord_15 d L fz t Q x2 r I J := by
  exact pm_go d [(2, [0, 2]), (15, [0, 2])] 400 ⟨fun q0 => ((h).1 q0), fun q0 => ((h).2 q0)⟩
theorem kb_X3_scanWord_15 {d L : Nat} {fz t : Bool} {Q : pm_R → pm_H → Prop} {x2 : Int32} {r : Int32} {fz1 : Bool} {I : Nat → Nat → Int32} {J : Nat → Nat → Int64}
    (h : ((r = (nI 0) → Q (.inl (some (.int x2))) (pm_hp L fz t (pm_u I 1 5 (nI 1)) J)) ∧ (¬ r = (nI 0) → t_X3_scanWord_2 d L fz t Q (x2 + (nI 1)) I J))) :
    K_X3_scanWord_15 d fz t Q x2 (.inl (some (.int r))) (pm_hp L fz1 t I J) := b_X3_scanWord_15 h
def t_X3_scanNumber_0 (d L : Nat) (fz t : Bool) (Q : pm_R → pm_H → Prop) (x1 : Int32) (I : Nat → Nat → Int32) (J : Nat → Nat → Int64) : Prop := pm_T (pm_Ev d) 32 Q (0, [(0, .ref 1), (1, .int x1)], [], pm_hp L fz t I J, 0, 0)
def t_X3_scanNumber_7 (d L : Nat) (fz t : Bool) (Q : pm_R → pm_H → Prop) (x1 : Int32) (x2 : Int32) (I : Nat → Nat → Int32) (J : Nat → Nat → Int64) : Prop := pm_T (pm_Ev d) 32 Q (7, [(0, .ref 1), (1, .int x1), (2, .int x2)], [], pm_hp L fz t I J, 0, 0)
def t_X3_scanNumber_20 (d L : Nat) (fz t : Bool) (Q : pm_R → pm_H → Prop) (x1 : Int32) (x2 : Int32) (r : Int32) (I : Nat → Nat → Int32) (J : Nat → Nat → Int64) : Prop := pm_T (pm_Ev d) 32 Q (20, [(0, .ref 1), (1, .int x1), (2, .int x2)], [.int r], pm_hp L fz t I J, 0, 0)
def K_X3_scanNumber_20 (d : Nat) (fz t : Bool) (Q : pm_R → pm_H → Prop) (x1 : Int32) (x2 : Int32) : pm_R → pm_H → Prop := pm_K d 32 Q 20 [(0, .ref 1), (1, .int x1), (2, .int x2)] [] 118 0 fz 0 0
set_option maxRecDepth 100000 in
theorem b_X3_scanNumber_0 {d L : Nat} {fz t : Bool} {Q : pm_R → pm_H → Prop} {x1 : Int32} {I : Nat → Nat → Int32} {J : Nat → Nat → Int64}
    (h : t_X3_scanNumber_7 d L fz t Q x1 x1 (pm_u I 1 6 (nI 0)) J) :
    t_X3_scanNumber_0 d L fz t Q x1 I J := by
  exact pm_go d [(7, [0, 1, 2]), (20, [0, 1, 2])] 400 h
theorem e_X3_scanNumber {d L : Nat} {fz t : Bool} {Q : pm_R → pm_H → Prop} {x1 : Int32} {I : Nat → Nat → Int32} {J : Nat → Nat → Int64}
    (h : t_X3_scanNumber_7 d L fz t Q x1 x1 (pm_u I 1 6 (nI 0)) J) :
    pm_Ev (d + 1) 32 [.ref 1, .int x1] (pm_hp L fz t I J) Q := pm_Ev_in rfl (b_X3_scanNumber_0 h)
set_option maxRecDepth 100000 in
theorem b_X3_scanNumber_7 {d L : Nat} {fz t : Bool} {Q : pm_R → pm_H → Prop} {x1 : Int32} {x2 : Int32} {I : Nat → Nat → Int32} {J : Nat → Nat → Int64}
    (h : (((I 1 2) ≤ x2 → Q (.inl (some (.int x2))) (pm_hp L fz t (pm_u (pm_u I 1 7 (x2 - x1)) 1 5 (nI 2)) J)) ∧ (¬ (I 1 2) ≤ x2 → pm_Ev d 30 [.ref 1, .int x2] (pm_hp L fz t I J) (K_X3_scanNumber_20 d fz t Q x1 x2)))) :
    t_X3_scanNumber_7 d L fz t Q x1 x2 I J := by
  exact pm_go d [(7, [0, 1, 2]), (20, [0, 1, 2])] 400 ⟨fun q0 => ((h).1 q0), fun q0 => ((h).2 q0)⟩
set_option maxRecDepth 100000 in
theorem b_X3_scanNumber_20 {d L : Nat} {fz t : Bool} {Q : pm_R → pm_H → Prop} {x1 : Int32} {x2 : Int32} {r : Int32} {I : Nat → Nat → Int32} {J : Nat → Nat → Int64}
    (h : ((r = (nI 0) → Q (.inl (some (.int x2))) (pm_hp L fz t (pm_u (pm_u I 1 7 (x2 - x1)) 1 5 (nI 2)) J)) ∧ (¬ r = (nI 0) → (vp_in x2 700 ∧ t_X3_scanNumber_7 d L fz t Q x1 (x2 + (nI 1)) (pm_u I 1 6 ((((I 1 6) * (nI 10)) + (I 2 (x2).toNatClampNeg)) - (nI 48))) J)))) :
    t_X3_scanNumber_20 d L fz t Q x1 x2 r I J := by
  exact pm_go d [(7, [0, 1, 2]), (20, [0, 1, 2])] 400 ⟨fun q0 => ((h).1 q0), fun q0 => ⟨(((h).2 q0)).1, (((h).2 q0)).2⟩⟩
theorem kb_X3_scanNumber_20 {d L : Nat} {fz t : Bool} {Q : pm_R → pm_H → Prop} {x1 : Int32} {x2 : Int32} {r : Int32} {fz1 : Bool} {I : Nat → Nat → Int32} {J : Nat → Nat → Int64}
    (h : ((r = (nI 0) → Q (.inl (some (.int x2))) (pm_hp L fz t (pm_u (pm_u I 1 7 (x2 - x1)) 1 5 (nI 2)) J)) ∧ (¬ r = (nI 0) → (vp_in x2 700 ∧ t_X3_scanNumber_7 d L fz t Q x1 (x2 + (nI 1)) (pm_u I 1 6 ((((I 1 6) * (nI 10)) + (I 2 (x2).toNatClampNeg)) - (nI 48))) J)))) :
    K_X3_scanNumber_20 d fz t Q x1 x2 (.inl (some (.int r))) (pm_hp L fz1 t I J) := b_X3_scanNumber_20 h
def t_X3_isSign_0 (d L : Nat) (fz t : Bool) (Q : pm_R → pm_H → Prop) (x1 : Int32) (I : Nat → Nat → Int32) (J : Nat → Nat → Int64) : Prop := pm_T (pm_Ev d) 33 Q (0, [(0, .ref 1), (1, .int x1)], [], pm_hp L fz t I J, 0, 0)
set_option maxRecDepth 100000 in
theorem b_X3_isSign_0 {d L : Nat} {fz t : Bool} {Q : pm_R → pm_H → Prop} {x1 : Int32} {I : Nat → Nat → Int32} {J : Nat → Nat → Int64}
    (h : ((¬ (I 1 5) = (nI 3) → Q (.inl (some (.int (nI 0)))) (pm_hp L fz t I J)) ∧ ((I 1 5) = (nI 3) → (((I 1 2) ≤ (I 1 3) → Q (.inl (some (.int (nI 0)))) (pm_hp L fz t I J)) ∧ (¬ (I 1 2) ≤ (I 1 3) → (vp_in (I 1 3) 700 ∧ ((¬ (I 2 ((I 1 3)).toNatClampNeg) = x1 → Q (.inl (some (.int (nI 0)))) (pm_hp L fz t I J)) ∧ ((I 2 ((I 1 3)).toNatClampNeg) = x1 → Q (.inl (some (.int (nI 1)))) (pm_hp L fz t I J))))))))) :
    t_X3_isSign_0 d L fz t Q x1 I J := by
  exact pm_go d [] 400 ⟨fun q0 => ⟨Or.inl rfl, ((h).1 q0)⟩, fun q0 => ⟨fun q1 => ⟨Or.inl rfl, ((((h).2 q0)).1 q1)⟩, fun q1 => ⟨(((((h).2 q0)).2 q1)).1, ⟨fun q2 => ⟨Or.inl rfl, (((((((h).2 q0)).2 q1)).2).1 q2)⟩, fun q2 => ⟨Or.inr rfl, (((((((h).2 q0)).2 q1)).2).2 q2)⟩⟩⟩⟩⟩
theorem e_X3_isSign {d L : Nat} {fz t : Bool} {Q : pm_R → pm_H → Prop} {x1 : Int32} {I : Nat → Nat → Int32} {J : Nat → Nat → Int64}
    (h : ((¬ (I 1 5) = (nI 3) → Q (.inl (some (.int (nI 0)))) (pm_hp L fz t I J)) ∧ ((I 1 5) = (nI 3) → (((I 1 2) ≤ (I 1 3) → Q (.inl (some (.int (nI 0)))) (pm_hp L fz t I J)) ∧ (¬ (I 1 2) ≤ (I 1 3) → (vp_in (I 1 3) 700 ∧ ((¬ (I 2 ((I 1 3)).toNatClampNeg) = x1 → Q (.inl (some (.int (nI 0)))) (pm_hp L fz t I J)) ∧ ((I 2 ((I 1 3)).toNatClampNeg) = x1 → Q (.inl (some (.int (nI 1)))) (pm_hp L fz t I J))))))))) :
    pm_Ev (d + 1) 33 [.ref 1, .int x1] (pm_hp L fz t I J) Q := pm_Ev_in rfl (b_X3_isSign_0 h)
def t_X3_isWord_0 (d L : Nat) (fz t : Bool) (Q : pm_R → pm_H → Prop) (a1 : Nat) (I : Nat → Nat → Int32) (J : Nat → Nat → Int64) : Prop := pm_T (pm_Ev d) 34 Q (0, [(0, .ref 1), (1, .ref a1)], [], pm_hp L fz t I J, 0, 0)
def t_X3_isWord_28 (d L : Nat) (fz t : Bool) (Q : pm_R → pm_H → Prop) (a1 : Nat) (x2 : Int32) (I : Nat → Nat → Int32) (J : Nat → Nat → Int64) : Prop := pm_T (pm_Ev d) 34 Q (28, [(0, .ref 1), (1, .ref a1), (2, .int x2)], [], pm_hp L fz t I J, 0, 0)
set_option maxRecDepth 100000 in
theorem b_X3_isWord_0 {d L : Nat} {fz t : Bool} {Q : pm_R → pm_H → Prop} {a1 : Nat} {I : Nat → Nat → Int32} {J : Nat → Nat → Int64} (ha1 : a1 = 1000014 ∨ a1 = 1000015 ∨ a1 = 1000016 ∨ a1 = 1000017 ∨ a1 = 1000018 ∨ a1 = 1000019 ∨ a1 = 1000020 ∨ a1 = 1000021 ∨ a1 = 1000022 ∨ a1 = 1000023 ∨ a1 = 1000024 ∨ a1 = 1000025 ∨ a1 = 1000026 ∨ a1 = 1000027 ∨ a1 = 1000028 ∨ a1 = 1000029 ∨ a1 = 1000030 ∨ a1 = 1000031 ∨ a1 = 1000032)
    (h : ((¬ (I 1 5) = (nI 1) → Q (.inl (some (.int (nI 0)))) (pm_hp L fz t I J)) ∧ ((I 1 5) = (nI 1) → ((((I 1 4) - (I 1 3)) = (nI (pm_slen (pm_sx a1))) → t_X3_isWord_28 d L fz t Q a1 (nI 0) I J) ∧ (¬ ((I 1 4) - (I 1 3)) = (nI (pm_slen (pm_sx a1))) → Q (.inl (some (.int (nI 0)))) (pm_hp L fz t I J)))))) :
    t_X3_isWord_0 d L fz t Q a1 I J := by
  rcases ha1 with rfl | rfl | rfl | rfl | rfl | rfl | rfl | rfl | rfl | rfl | rfl | rfl | rfl | rfl | rfl | rfl | rfl | rfl | rfl <;> exact pm_go d [(28, [0, 1, 2])] 400 ⟨fun q0 => ⟨Or.inl rfl, ((h).1 q0)⟩, fun q0 => ⟨fun q1 => ((((h).2 q0)).1 q1), fun q1 => ⟨Or.inl rfl, ((((h).2 q0)).2 q1)⟩⟩⟩
theorem e_X3_isWord {d L : Nat} {fz t : Bool} {Q : pm_R → pm_H → Prop} {a1 : Nat} {I : Nat → Nat → Int32} {J : Nat → Nat → Int64} (ha1 : a1 = 1000014 ∨ a1 = 1000015 ∨ a1 = 1000016 ∨ a1 = 1000017 ∨ a1 = 1000018 ∨ a1 = 1000019 ∨ a1 = 1000020 ∨ a1 = 1000021 ∨ a1 = 1000022 ∨ a1 = 1000023 ∨ a1 = 1000024 ∨ a1 = 1000025 ∨ a1 = 1000026 ∨ a1 = 1000027 ∨ a1 = 1000028 ∨ a1 = 1000029 ∨ a1 = 1000030 ∨ a1 = 1000031 ∨ a1 = 1000032)
    (h : ((¬ (I 1 5) = (nI 1) → Q (.inl (some (.int (nI 0)))) (pm_hp L fz t I J)) ∧ ((I 1 5) = (nI 1) → ((((I 1 4) - (I 1 3)) = (nI (pm_slen (pm_sx a1))) → t_X3_isWord_28 d L fz t Q a1 (nI 0) I J) ∧ (¬ ((I 1 4) - (I 1 3)) = (nI (pm_slen (pm_sx a1))) → Q (.inl (some (.int (nI 0)))) (pm_hp L fz t I J)))))) :
    pm_Ev (d + 1) 34 [.ref 1, .ref a1] (pm_hp L fz t I J) Q := pm_Ev_in rfl (b_X3_isWord_0 ha1 h)
set_option maxRecDepth 100000 in
theorem b_X3_isWord_28 {d L : Nat} {fz t : Bool} {Q : pm_R → pm_H → Prop} {a1 : Nat} {x2 : Int32} {I : Nat → Nat → Int32} {J : Nat → Nat → Int64} (ha1 : a1 = 1000014 ∨ a1 = 1000015 ∨ a1 = 1000016 ∨ a1 = 1000017 ∨ a1 = 1000018 ∨ a1 = 1000019 ∨ a1 = 1000020 ∨ a1 = 1000021 ∨ a1 = 1000022 ∨ a1 = 1000023 ∨ a1 = 1000024 ∨ a1 = 1000025 ∨ a1 = 1000026 ∨ a1 = 1000027 ∨ a1 = 1000028 ∨ a1 = 1000029 ∨ a1 = 1000030 ∨ a1 = 1000031 ∨ a1 = 1000032)
    (h : (((nI (pm_slen (pm_sx a1))) ≤ x2 → Q (.inl (some (.int (nI 1)))) (pm_hp L fz t I J)) ∧ (¬ (nI (pm_slen (pm_sx a1))) ≤ x2 → (((I 1 2) ≤ ((I 1 3) + x2) → Q (.inl (some (.int (nI 0)))) (pm_hp L fz t I J)) ∧ (¬ (I 1 2) ≤ ((I 1 3) + x2) → (vp_in ((I 1 3) + x2) 700 ∧ (vp_in x2 (pm_slen (pm_sx a1)) ∧ (((I 2 (((I 1 3) + x2)).toNatClampNeg) = (pm_sb (pm_sx a1) (x2).toNatClampNeg) → t_X3_isWord_28 d L fz t Q a1 (x2 + (nI 1)) I J) ∧ (¬ (I 2 (((I 1 3) + x2)).toNatClampNeg) = (pm_sb (pm_sx a1) (x2).toNatClampNeg) → Q (.inl (some (.int (nI 0)))) (pm_hp L fz t I J)))))))))) :
    t_X3_isWord_28 d L fz t Q a1 x2 I J := by
  rcases ha1 with rfl | rfl | rfl | rfl | rfl | rfl | rfl | rfl | rfl | rfl | rfl | rfl | rfl | rfl | rfl | rfl | rfl | rfl | rfl <;> exact pm_go d [(28, [0, 1, 2])] 400 ⟨fun q0 => ⟨Or.inr rfl, ((h).1 q0)⟩, fun q0 => ⟨fun q1 => ⟨Or.inl rfl, ((((h).2 q0)).1 q1)⟩, fun q1 => ⟨(((((h).2 q0)).2 q1)).1, ⟨((((((h).2 q0)).2 q1)).2).1, ⟨fun q2 => ((((((((h).2 q0)).2 q1)).2).2).1 q2), fun q2 => ⟨Or.inl rfl, ((((((((h).2 q0)).2 q1)).2).2).2 q2)⟩⟩⟩⟩⟩⟩
def t_X3_needSign_0 (d L : Nat) (fz t : Bool) (Q : pm_R → pm_H → Prop) (x1 : Int32) (I : Nat → Nat → Int32) (J : Nat → Nat → Int64) : Prop := pm_T (pm_Ev d) 35 Q (0, [(0, .ref 1), (1, .int x1)], [], pm_hp L fz t I J, 0, 0)
def t_X3_needSign_13 (d L : Nat) (fz t : Bool) (Q : pm_R → pm_H → Prop) (r : Int32) (I : Nat → Nat → Int32) (J : Nat → Nat → Int64) : Prop := pm_T (pm_Ev d) 35 Q (13, [(0, .ref 1)], [.int r], pm_hp L fz t I J, 0, 0)
def K_X3_needSign_13 (d : Nat) (fz t : Bool) (Q : pm_R → pm_H → Prop) : pm_R → pm_H → Prop := pm_K d 35 Q 13 [(0, .ref 1)] [] 118 0 fz 0 0
def t_X3_needSign_28 (d L : Nat) (fz t : Bool) (Q : pm_R → pm_H → Prop) (I : Nat → Nat → Int32) (J : Nat → Nat → Int64) : Prop := pm_T (pm_Ev d) 35 Q (28, [], [], pm_hp L fz t I J, 0, 0)
def K_X3_needSign_28 (d : Nat) (fz t : Bool) (Q : pm_R → pm_H → Prop) : pm_R → pm_H → Prop := pm_K d 35 Q 28 [] [] 118 0 fz 0 0
def t_X3_needSign_20 (d L : Nat) (fz t : Bool) (Q : pm_R → pm_H → Prop) (I : Nat → Nat → Int32) (J : Nat → Nat → Int64) : Prop := pm_T (pm_Ev d) 35 Q (20, [], [], pm_hp L fz t I J, 0, 0)
def K_X3_needSign_20 (d : Nat) (fz t : Bool) (Q : pm_R → pm_H → Prop) : pm_R → pm_H → Prop := pm_K d 35 Q 20 [] [] 118 0 fz 0 0
set_option maxRecDepth 100000 in
theorem b_X3_needSign_0 {d L : Nat} {fz t : Bool} {Q : pm_R → pm_H → Prop} {x1 : Int32} {I : Nat → Nat → Int32} {J : Nat → Nat → Int64}
    (h : (((I 1 8) = (nI 0) → pm_Ev d 33 [.ref 1, .int x1] (pm_hp L fz t I J) (K_X3_needSign_13 d fz t Q)) ∧ (¬ (I 1 8) = (nI 0) → Q (.inl none) (pm_hp L fz t I J)))) :
    t_X3_needSign_0 d L fz t Q x1 I J := by
  exact pm_go d [(13, [0]), (20, []), (28, [])] 400 ⟨fun q0 => ((h).1 q0), fun q0 => ((h).2 q0)⟩
theorem e_X3_needSign {d L : Nat} {fz t : Bool} {Q : pm_R → pm_H → Prop} {x1 : Int32} {I : Nat → Nat → Int32} {J : Nat → Nat → Int64}
    (h : (((I 1 8) = (nI 0) → pm_Ev d 33 [.ref 1, .int x1] (pm_hp L fz t I J) (K_X3_needSign_13 d fz t Q)) ∧ (¬ (I 1 8) = (nI 0) → Q (.inl none) (pm_hp L fz t I J)))) :
    pm_Ev (d + 1) 35 [.ref 1, .int x1] (pm_hp L fz t I J) Q := pm_Ev_in rfl (b_X3_needSign_0 h)
set_option maxRecDepth 100000 in
theorem b_X3_needSign_13 {d L : Nat} {fz t : Bool} {Q : pm_R → pm_H → Prop} {r : Int32} {I : Nat → Nat → Int32} {J : Nat → Nat → Int64}
    (h : ((r = (nI 0) → pm_Ev d 27 [.ref 1, .int (nI 1)] (pm_hp L fz t I J) (K_X3_needSign_28 d fz t Q)) ∧ (¬ r = (nI 0) → pm_Ev d 28 [.ref 1] (pm_hp L fz t I J) (K_X3_needSign_20 d fz t Q)))) :
    t_X3_needSign_13 d L fz t Q r I J := by
  exact pm_go d [(13, [0]), (20, []), (28, [])] 400 ⟨fun q0 => ((h).1 q0), fun q0 => ((h).2 q0)⟩
theorem kb_X3_needSign_13 {d L : Nat} {fz t : Bool} {Q : pm_R → pm_H → Prop} {r : Int32} {fz1 : Bool} {I : Nat → Nat → Int32} {J : Nat → Nat → Int64}
    (h : ((r = (nI 0) → pm_Ev d 27 [.ref 1, .int (nI 1)] (pm_hp L fz t I J) (K_X3_needSign_28 d fz t Q)) ∧ (¬ r = (nI 0) → pm_Ev d 28 [.ref 1] (pm_hp L fz t I J) (K_X3_needSign_20 d fz t Q)))) :
    K_X3_needSign_13 d fz t Q (.inl (some (.int r))) (pm_hp L fz1 t I J) := b_X3_needSign_13 h
set_option maxRecDepth 100000 in
theorem b_X3_needSign_28 {d L : Nat} {fz t : Bool} {Q : pm_R → pm_H → Prop} {I : Nat → Nat → Int32} {J : Nat → Nat → Int64}
    (h : Q (.inl none) (pm_hp L fz t I J)) :
    t_X3_needSign_28 d L fz t Q I J := by
  exact pm_go d [(13, [0]), (20, []), (28, [])] 400 h
theorem kb_X3_needSign_28 {d L : Nat} {fz t : Bool} {Q : pm_R → pm_H → Prop} {fz1 : Bool} {I : Nat → Nat → Int32} {J : Nat → Nat → Int64}
    (h : Q (.inl none) (pm_hp L fz t I J)) :
    K_X3_needSign_28 d fz t Q (.inl none) (pm_hp L fz1 t I J) := b_X3_needSign_28 h
set_option maxRecDepth 100000 in
theorem b_X3_needSign_20 {d L : Nat} {fz t : Bool} {Q : pm_R → pm_H → Prop} {I : Nat → Nat → Int32} {J : Nat → Nat → Int64}
    (h : t_X3_needSign_28 d L fz t Q I J) :
    t_X3_needSign_20 d L fz t Q I J := by
  exact pm_go d [(13, [0]), (20, []), (28, [])] 400 h
theorem kb_X3_needSign_20 {d L : Nat} {fz t : Bool} {Q : pm_R → pm_H → Prop} {fz1 : Bool} {I : Nat → Nat → Int32} {J : Nat → Nat → Int64}
    (h : t_X3_needSign_28 d L fz t Q I J) :
    K_X3_needSign_20 d fz t Q (.inl none) (pm_hp L fz1 t I J) := b_X3_needSign_20 h
def t_X3_readNumber_0 (d L : Nat) (fz t : Bool) (Q : pm_R → pm_H → Prop) (x1 : Int32) (x2 : Int32) (I : Nat → Nat → Int32) (J : Nat → Nat → Int64) : Prop := pm_T (pm_Ev d) 36 Q (0, [(0, .ref 1), (1, .int x1), (2, .int x2)], [], pm_hp L fz t I J, 0, 0)
def t_X3_readNumber_53 (d L : Nat) (fz t : Bool) (Q : pm_R → pm_H → Prop) (x1 : Int32) (I : Nat → Nat → Int32) (J : Nat → Nat → Int64) : Prop := pm_T (pm_Ev d) 36 Q (53, [(1, .int x1)], [], pm_hp L fz t I J, 0, 0)
def K_X3_readNumber_53 (d : Nat) (fz t : Bool) (Q : pm_R → pm_H → Prop) (x1 : Int32) : pm_R → pm_H → Prop := pm_K d 36 Q 53 [(1, .int x1)] [] 118 0 fz 0 0
def t_X3_readNumber_60 (d L : Nat) (fz t : Bool) (Q : pm_R → pm_H → Prop) (x3 : Int32) (I : Nat → Nat → Int32) (J : Nat → Nat → Int64) : Prop := pm_T (pm_Ev d) 36 Q (60, [(3, .int x3)], [], pm_hp L fz t I J, 0, 0)
def K_X3_readNumber_60 (d : Nat) (fz t : Bool) (Q : pm_R → pm_H → Prop) (x3 : Int32) : pm_R → pm_H → Prop := pm_K d 36 Q 60 [(3, .int x3)] [] 118 0 fz 0 0
def t_X3_readNumber_27 (d L : Nat) (fz t : Bool) (Q : pm_R → pm_H → Prop) (x1 : Int32) (I : Nat → Nat → Int32) (J : Nat → Nat → Int64) : Prop := pm_T (pm_Ev d) 36 Q (27, [(1, .int x1)], [], pm_hp L fz t I J, 0, 0)
def K_X3_readNumber_27 (d : Nat) (fz t : Bool) (Q : pm_R → pm_H → Prop) (x1 : Int32) : pm_R → pm_H → Prop := pm_K d 36 Q 27 [(1, .int x1)] [] 118 0 fz 0 0
set_option maxRecDepth 100000 in
theorem b_X3_readNumber_0 {d L : Nat} {fz t : Bool} {Q : pm_R → pm_H → Prop} {x1 : Int32} {x2 : Int32} {I : Nat → Nat → Int32} {J : Nat → Nat → Int64}
    (h : (((I 1 8) = (nI 0) → (((I 1 5) = (nI 2) → (((nI 4) < (I 1 7) → pm_Ev d 27 [.ref 1, .int (nI 2)] (pm_hp L fz t I J) (K_X3_readNumber_53 d fz t Q x1)) ∧ (¬ (nI 4) < (I 1 7) → (((I 1 6) < x1 → pm_Ev d 27 [.ref 1, .int (nI 2)] (pm_hp L fz t I J) (K_X3_readNumber_53 d fz t Q x1)) ∧ (¬ (I 1 6) < x1 → (((I 1 6) ≤ x2 → pm_Ev d 28 [.ref 1] (pm_hp L fz t I J) (K_X3_readNumber_60 d fz t Q (I 1 6))) ∧ (¬ (I 1 6) ≤ x2 → pm_Ev d 27 [.ref 1, .int (nI 2)] (pm_hp L fz t I J) (K_X3_readNumber_53 d fz t Q x1)))))))) ∧ (¬ (I 1 5) = (nI 2) → pm_Ev d 27 [.ref 1, .int (nI 1)] (pm_hp L fz t I J) (K_X3_readNumber_27 d fz t Q x1)))) ∧ (¬ (I 1 8) = (nI 0) → Q (.inl (some (.int x1))) (pm_hp L fz t I J)))) :
    t_X3_readNumber_0 d L fz t Q x1 x2 I J := by
  exact pm_go d [(27, [1]), (53, [1]), (60, [3])] 400 ⟨fun q0 => ⟨fun q1 => ⟨fun q2 => ((((((h).1 q0)).1 q1)).1 q2), fun q2 => ⟨fun q3 => ((((((((h).1 q0)).1 q1)).2 q2)).1 q3), fun q3 => ⟨fun q4 => ((((((((((h).1 q0)).1 q1)).2 q2)).2 q3)).1 q4), fun q4 => ((((((((((h).1 q0)).1 q1)).2 q2)).2 q3)).2 q4)⟩⟩⟩, fun q1 => ((((h).1 q0)).2 q1)⟩, fun q0 => ((h).2 q0)⟩
theorem e_X3_readNumber {d L : Nat} {fz t : Bool} {Q : pm_R → pm_H → Prop} {x1 : Int32} {x2 : Int32} {I : Nat → Nat → Int32} {J : Nat → Nat → Int64}
    (h : (((I 1 8) = (nI 0) → (((I 1 5) = (nI 2) → (((nI 4) < (I 1 7) → pm_Ev d 27 [.ref 1, .int (nI 2)] (pm_hp L fz t I J) (K_X3_readNumber_53 d fz t Q x1)) ∧ (¬ (nI 4) < (I 1 7) → (((I 1 6) < x1 → pm_Ev d 27 [.ref 1, .int (nI 2)] (pm_hp L fz t I J) (K_X3_readNumber_53 d fz t Q x1)) ∧ (¬ (I 1 6) < x1 → (((I 1 6) ≤ x2 → pm_Ev d 28 [.ref 1] (pm_hp L fz t I J) (K_X3_readNumber_60 d fz t Q (I 1 6))) ∧ (¬ (I 1 6) ≤ x2 → pm_Ev d 27 [.ref 1, .int (nI 2)] (pm_hp L fz t I J) (K_X3_readNumber_53 d fz t Q x1)))))))) ∧ (¬ (I 1 5) = (nI 2) → pm_Ev d 27 [.ref 1, .int (nI 1)] (pm_hp L fz t I J) (K_X3_readNumber_27 d fz t Q x1)))) ∧ (¬ (I 1 8) = (nI 0) → Q (.inl (some (.int x1))) (pm_hp L fz t I J)))) :
    pm_Ev (d + 1) 36 [.ref 1, .int x1, .int x2] (pm_hp L fz t I J) Q := pm_Ev_in rfl (b_X3_readNumber_0 h)
set_option maxRecDepth 100000 in
theorem b_X3_readNumber_53 {d L : Nat} {fz t : Bool} {Q : pm_R → pm_H → Prop} {x1 : Int32} {I : Nat → Nat → Int32} {J : Nat → Nat → Int64}
    (h : Q (.inl (some (.int x1))) (pm_hp L fz t I J)) :
    t_X3_readNumber_53 d L fz t Q x1 I J := by
  exact pm_go d [(27, [1]), (53, [1]), (60, [3])] 400 h
theorem kb_X3_readNumber_53 {d L : Nat} {fz t : Bool} {Q : pm_R → pm_H → Prop} {x1 : Int32} {fz1 : Bool} {I : Nat → Nat → Int32} {J : Nat → Nat → Int64}
    (h : Q (.inl (some (.int x1))) (pm_hp L fz t I J)) :
    K_X3_readNumber_53 d fz t Q x1 (.inl none) (pm_hp L fz1 t I J) := b_X3_readNumber_53 h
set_option maxRecDepth 100000 in
theorem b_X3_readNumber_60 {d L : Nat} {fz t : Bool} {Q : pm_R → pm_H → Prop} {x3 : Int32} {I : Nat → Nat → Int32} {J : Nat → Nat → Int64}
    (h : Q (.inl (some (.int x3))) (pm_hp L fz t I J)) :
    t_X3_readNumber_60 d L fz t Q x3 I J := by
  exact pm_go d [(27, [1]), (53, [1]), (60, [3])] 400 h
theorem kb_X3_readNumber_60 {d L : Nat} {fz t : Bool} {Q : pm_R → pm_H → Prop} {x3 : Int32} {fz1 : Bool} {I : Nat → Nat → Int32} {J : Nat → Nat → Int64}
    (h : Q (.inl (some (.int x3))) (pm_hp L fz t I J)) :
    K_X3_readNumber_60 d fz t Q x3 (.inl none) (pm_hp L fz1 t I J) := b_X3_readNumber_60 h
set_option maxRecDepth 100000 in
theorem b_X3_readNumber_27 {d L : Nat} {fz t : Bool} {Q : pm_R → pm_H → Prop} {x1 : Int32} {I : Nat → Nat → Int32} {J : Nat → Nat → Int64}
    (h : Q (.inl (some (.int x1))) (pm_hp L fz t I J)) :
    t_X3_readNumber_27 d L fz t Q x1 I J := by
  exact pm_go d [(27, [1]), (53, [1]), (60, [3])] 400 h
theorem kb_X3_readNumber_27 {d L : Nat} {fz t : Bool} {Q : pm_R → pm_H → Prop} {x1 : Int32} {fz1 : Bool} {I : Nat → Nat → Int32} {J : Nat → Nat → Int64}
    (h : Q (.inl (some (.int x1))) (pm_hp L fz t I J)) :
    K_X3_readNumber_27 d fz t Q x1 (.inl none) (pm_hp L fz1 t I J) := b_X3_readNumber_27 h
def t_X3_readLine_0 (d L : Nat) (fz t : Bool) (Q : pm_R → pm_H → Prop) (a1 : Nat) (I : Nat → Nat → Int32) (J : Nat → Nat → Int64) : Prop := pm_T (pm_Ev d) 37 Q (0, [(0, .ref 1), (1, .ref a1)], [], pm_hp L fz t I J, 0, 0)
def t_X3_readLine_6 (d L : Nat) (fz t : Bool) (Q : pm_R → pm_H → Prop) (a1 : Nat) (r : Int32) (I : Nat → Nat → Int32) (J : Nat → Nat → Int64) : Prop := pm_T (pm_Ev d) 37 Q (6, [(0, .ref 1), (1, .ref a1)], [.int r], pm_hp L fz t I J, 0, 0)
def K_X3_readLine_6 (d : Nat) (fz t : Bool) (Q : pm_R → pm_H → Prop) (a1 : Nat) : pm_R → pm_H → Prop := pm_K d 37 Q 6 [(0, .ref 1), (1, .ref a1)] [] 118 0 fz 0 0
def t_X3_readLine_23 (d L : Nat) (fz t : Bool) (Q : pm_R → pm_H → Prop) (a1 : Nat) (r : Int32) (I : Nat → Nat → Int32) (J : Nat → Nat → Int64) : Prop := pm_T (pm_Ev d) 37 Q (23, [(0, .ref 1), (1, .ref a1)], [.int r], pm_hp L fz t I J, 0, 0)
def K_X3_readLine_23 (d : Nat) (fz t : Bool) (Q : pm_R → pm_H → Prop) (a1 : Nat) : pm_R → pm_H → Prop := pm_K d 37 Q 23 [(0, .ref 1), (1, .ref a1)] [] 118 0 fz 0 0
def t_X3_readLine_14 (d L : Nat) (fz t : Bool) (Q : pm_R → pm_H → Prop) (I : Nat → Nat → Int32) (J : Nat → Nat → Int64) : Prop := pm_T (pm_Ev d) 37 Q (14, [(0, .ref 1)], [], pm_hp L fz t I J, 0, 0)
def K_X3_readLine_14 (d : Nat) (fz t : Bool) (Q : pm_R → pm_H → Prop) : pm_R → pm_H → Prop := pm_K d 37 Q 14 [(0, .ref 1)] [] 118 0 fz 0 0
def t_X3_readLine_40 (d L : Nat) (fz t : Bool) (Q : pm_R → pm_H → Prop) (a1 : Nat) (r : Int32) (I : Nat → Nat → Int32) (J : Nat → Nat → Int64) : Prop := pm_T (pm_Ev d) 37 Q (40, [(0, .ref 1), (1, .ref a1)], [.int r], pm_hp L fz t I J, 0, 0)
def K_X3_readLine_40 (d : Nat) (fz t : Bool) (Q : pm_R → pm_H → Prop) (a1 : Nat) : pm_R → pm_H → Prop := pm_K d 37 Q 40 [(0, .ref 1), (1, .ref a1)] [] 118 0 fz 0 0
def t_X3_readLine_31 (d L : Nat) (fz t : Bool) (Q : pm_R → pm_H → Prop) (I : Nat → Nat → Int32) (J : Nat → Nat → Int64) : Prop := pm_T (pm_Ev d) 37 Q (31, [(0, .ref 1)], [], pm_hp L fz t I J, 0, 0)
def K_X3_readLine_31 (d : Nat) (fz t : Bool) (Q : pm_R → pm_H → Prop) : pm_R → pm_H → Prop := pm_K d 37 Q 31 [(0, .ref 1)] [] 118 0 fz 0 0
def t_X3_readLine_115 (d L : Nat) (fz t : Bool) (Q : pm_R → pm_H → Prop) (I : Nat → Nat → Int32) (J : Nat → Nat → Int64) : Prop := pm_T (pm_Ev d) 37 Q (115, [(0, .ref 1)], [], pm_hp L fz t I J, 0, 0)
def K_X3_readLine_115 (d : Nat) (fz t : Bool) (Q : pm_R → pm_H → Prop) : pm_R → pm_H → Prop := pm_K d 37 Q 115 [(0, .ref 1)] [] 118 0 fz 0 0
def t_X3_readLine_57 (d L : Nat) (fz t : Bool) (Q : pm_R → pm_H → Prop) (a1 : Nat) (r : Int32) (I : Nat → Nat → Int32) (J : Nat → Nat → Int64) : Prop := pm_T (pm_Ev d) 37 Q (57, [(0, .ref 1), (1, .ref a1)], [.int r], pm_hp L fz t I J, 0, 0)
def K_X3_readLine_57 (d : Nat) (fz t : Bool) (Q : pm_R → pm_H → Prop) (a1 : Nat) : pm_R → pm_H → Prop := pm_K d 37 Q 57 [(0, .ref 1), (1, .ref a1)] [] 118 0 fz 0 0
def t_X3_readLine_48 (d L : Nat) (fz t : Bool) (Q : pm_R → pm_H → Prop) (I : Nat → Nat → Int32) (J : Nat → Nat → Int64) : Prop := pm_T (pm_Ev d) 37 Q (48, [(0, .ref 1)], [], pm_hp L fz t I J, 0, 0)
def K_X3_readLine_48 (d : Nat) (fz t : Bool) (Q : pm_R → pm_H → Prop) : pm_R → pm_H → Prop := pm_K d 37 Q 48 [(0, .ref 1)] [] 118 0 fz 0 0
def t_X3_readLine_121 (d L : Nat) (fz t : Bool) (Q : pm_R → pm_H → Prop) (I : Nat → Nat → Int32) (J : Nat → Nat → Int64) : Prop := pm_T (pm_Ev d) 37 Q (121, [], [], pm_hp L fz t I J, 0, 0)
def K_X3_readLine_121 (d : Nat) (fz t : Bool) (Q : pm_R → pm_H → Prop) : pm_R → pm_H → Prop := pm_K d 37 Q 121 [] [] 118 0 fz 0 0
def t_X3_readLine_74 (d L : Nat) (fz t : Bool) (Q : pm_R → pm_H → Prop) (a1 : Nat) (r : Int32) (I : Nat → Nat → Int32) (J : Nat → Nat → Int64) : Prop := pm_T (pm_Ev d) 37 Q (74, [(0, .ref 1), (1, .ref a1)], [.int r], pm_hp L fz t I J, 0, 0)
def K_X3_readLine_74 (d : Nat) (fz t : Bool) (Q : pm_R → pm_H → Prop) (a1 : Nat) : pm_R → pm_H → Prop := pm_K d 37 Q 74 [(0, .ref 1), (1, .ref a1)] [] 118 0 fz 0 0
def t_X3_readLine_65 (d L : Nat) (fz t : Bool) (Q : pm_R → pm_H → Prop) (I : Nat → Nat → Int32) (J : Nat → Nat → Int64) : Prop := pm_T (pm_Ev d) 37 Q (65, [(0, .ref 1)], [], pm_hp L fz t I J, 0, 0)
def K_X3_readLine_65 (d : Nat) (fz t : Bool) (Q : pm_R → pm_H → Prop) : pm_R → pm_H → Prop := pm_K d 37 Q 65 [(0, .ref 1)] [] 118 0 fz 0 0
def t_X3_readLine_95 (d L : Nat) (fz t : Bool) (Q : pm_R → pm_H → Prop) (a1 : Nat) (r : Int32) (I : Nat → Nat → Int32) (J : Nat → Nat → Int64) : Prop := pm_T (pm_Ev d) 37 Q (95, [(0, .ref 1), (1, .ref a1)], [.int r], pm_hp L fz t I J, 0, 0)
def K_X3_readLine_95 (d : Nat) (fz t : Bool) (Q : pm_R → pm_H → Prop) (a1 : Nat) : pm_R → pm_H → Prop := pm_K d 37 Q 95 [(0, .ref 1), (1, .ref a1)] [] 118 0 fz 0 0
def t_X3_readLine_86 (d L : Nat) (fz t : Bool) (Q : pm_R → pm_H → Prop) (I : Nat → Nat → Int32) (J : Nat → Nat → Int64) : Prop := pm_T (pm_Ev d) 37 Q (86, [(0, .ref 1)], [], pm_hp L fz t I J, 0, 0)
def K_X3_readLine_86 (d : Nat) (fz t : Bool) (Q : pm_R → pm_H → Prop) : pm_R → pm_H → Prop := pm_K d 37 Q 86 [(0, .ref 1)] [] 118 0 fz 0 0
def t_X3_readLine_107 (d L : Nat) (fz t : Bool) (Q : pm_R → pm_H → Prop) (I : Nat → Nat → Int32) (J : Nat → Nat → Int64) : Prop := pm_T (pm_Ev d) 37 Q (107, [(0, .ref 1)], [], pm_hp L fz t I J, 0, 0)
def K_X3_readLine_107 (d : Nat) (fz t : Bool) (Q : pm_R → pm_H → Prop) : pm_R → pm_H → Prop := pm_K d 37 Q 107 [(0, .ref 1)] [] 118 0 fz 0 0
set_option maxRecDepth 100000 in
theorem b_X3_readLine_0 {d L : Nat} {fz t : Bool} {Q : pm_R → pm_H → Prop} {a1 : Nat} {I : Nat → Nat → Int32} {J : Nat → Nat → Int64} (ha1 : a1 = 55 ∨ a1 = 70)
    (h : pm_Ev d 34 [.ref 1, .ref 1000014] (pm_hp L fz t I J) (K_X3_readLine_6 d fz t Q a1)) :
    t_X3_readLine_0 d L fz t Q a1 I J := by
  rcases ha1 with rfl | rfl <;> exact pm_go d [(6, [0, 1]), (14, [0]), (23, [0, 1]), (31, [0]), (40, [0, 1]), (48, [0]), (57, [0, 1]), (65, [0]), (74, [0, 1]), (86, [0]), (95, [0, 1]), (107, [0]), (115, [0]), (121, [])] 400 h
theorem e_X3_readLine {d L : Nat} {fz t : Bool} {Q : pm_R → pm_H → Prop} {a1 : Nat} {I : Nat → Nat → Int32} {J : Nat → Nat → Int64} (ha1 : a1 = 55 ∨ a1 = 70)
    (h : pm_Ev d 34 [.ref 1, .ref 1000014] (pm_hp L fz t I J) (K_X3_readLine_6 d fz t Q a1)) :
    pm_Ev (d + 1) 37 [.ref 1, .ref a1] (pm_hp L fz t I J) Q := pm_Ev_in rfl (b_X3_readLine_0 ha1 h)
set_option maxRecDepth 100000 in
theorem b_X3_readLine_6 {d L : Nat} {fz t : Bool} {Q : pm_R → pm_H → Prop} {a1 : Nat} {r : Int32} {I : Nat → Nat → Int32} {J : Nat → Nat → Int64} (ha1 : a1 = 55 ∨ a1 = 70)
    (h : ((r = (nI 0) → pm_Ev d 34 [.ref 1, .ref 1000015] (pm_hp L fz t I J) (K_X3_readLine_23 d fz t Q a1)) ∧ (¬ r = (nI 0) → pm_Ev d 38 [.ref 1, .ref a1] (pm_hp L fz t I J) (K_X3_readLine_14 d fz t Q)))) :
    t_X3_readLine_6 d L fz t Q a1 r I J := by
  rcases ha1 with rfl | rfl <;> exact pm_go d [(6, [0, 1]), (14, [0]), (23, [0, 1]), (31, [0]), (40, [0, 1]), (48, [0]), (57, [0, 1]), (65, [0]), (74, [0, 1]), (86, [0]), (95, [0, 1]), (107, [0]), (115, [0]), (121, [])] 400 ⟨fun q0 => ((h).1 q0), fun q0 => ((h).2 q0)⟩
theorem kb_X3_readLine_6 {d L : Nat} {fz t : Bool} {Q : pm_R → pm_H → Prop} {a1 : Nat} {r : Int32} {fz1 : Bool} {I : Nat → Nat → Int32} {J : Nat → Nat → Int64} (ha1 : a1 = 55 ∨ a1 = 70)
    (h : ((r = (nI 0) → pm_Ev d 34 [.ref 1, .ref 1000015] (pm_hp L fz t I J) (K_X3_readLine_23 d fz t Q a1)) ∧ (¬ r = (nI 0) → pm_Ev d 38 [.ref 1, .ref a1] (pm_hp L fz t I J) (K_X3_readLine_14 d fz t Q)))) :
    K_X3_readLine_6 d fz t Q a1 (.inl (some (.int r))) (pm_hp L fz1 t I J) := b_X3_readLine_6 ha1 h
set_option maxRecDepth 100000 in
theorem b_X3_readLine_23 {d L : Nat} {fz t : Bool} {Q : pm_R → pm_H → Prop} {a1 : Nat} {r : Int32} {I : Nat → Nat → Int32} {J : Nat → Nat → Int64} (ha1 : a1 = 55 ∨ a1 = 70)
    (h : ((r = (nI 0) → pm_Ev d 34 [.ref 1, .ref 1000016] (pm_hp L fz t I J) (K_X3_readLine_40 d fz t Q a1)) ∧ (¬ r = (nI 0) → pm_Ev d 39 [.ref 1, .ref a1] (pm_hp L fz t I J) (K_X3_readLine_31 d fz t Q)))) :
    t_X3_readLine_23 d L fz t Q a1 r I J := by
  rcases ha1 with rfl | rfl <;> exact pm_go d [(6, [0, 1]), (14, [0]), (23, [0, 1]), (31, [0]), (40, [0, 1]), (48, [0]), (57, [0, 1]), (65, [0]), (74, [0, 1]), (86, [0]), (95, [0, 1]), (107, [0]), (115, [0]), (121, [])] 400 ⟨fun q0 => ((h).1 q0), fun q0 => ((h).2 q0)⟩
theorem kb_X3_readLine_23 {d L : Nat} {fz t : Bool} {Q : pm_R → pm_H → Prop} {a1 : Nat} {r : Int32} {fz1 : Bool} {I : Nat → Nat → Int32} {J : Nat → Nat → Int64} (ha1 : a1 = 55 ∨ a1 = 70)
    (h : ((r = (nI 0) → pm_Ev d 34 [.ref 1, .ref 1000016] (pm_hp L fz t I J) (K_X3_readLine_40 d fz t Q a1)) ∧ (¬ r = (nI 0) → pm_Ev d 39 [.ref 1, .ref a1] (pm_hp L fz t I J) (K_X3_readLine_31 d fz t Q)))) :
    K_X3_readLine_23 d fz t Q a1 (.inl (some (.int r))) (pm_hp L fz1 t I J) := b_X3_readLine_23 ha1 h
set_option maxRecDepth 100000 in
theorem b_X3_readLine_14 {d L : Nat} {fz t : Bool} {Q : pm_R → pm_H → Prop} {I : Nat → Nat → Int32} {J : Nat → Nat → Int64}
    (h : t_X3_readLine_115 d L fz t Q I J) :
    t_X3_readLine_14 d L fz t Q I J := by
  exact pm_go d [(6, [0, 1]), (14, [0]), (23, [0, 1]), (31, [0]), (40, [0, 1]), (48, [0]), (57, [0, 1]), (65, [0]), (74, [0, 1]), (86, [0]), (95, [0, 1]), (107, [0]), (115, [0]), (121, [])] 400 h
theorem kb_X3_readLine_14 {d L : Nat} {fz t : Bool} {Q : pm_R → pm_H → Prop} {fz1 : Bool} {I : Nat → Nat → Int32} {J : Nat → Nat → Int64}
    (h : t_X3_readLine_115 d L fz t Q I J) :
    K_X3_readLine_14 d fz t Q (.inl none) (pm_hp L fz1 t I J) := b_X3_readLine_14 h
set_option maxRecDepth 100000 in
theorem b_X3_readLine_40 {d L : Nat} {fz t : Bool} {Q : pm_R → pm_H → Prop} {a1 : Nat} {r : Int32} {I : Nat → Nat → Int32} {J : Nat → Nat → Int64} (ha1 : a1 = 55 ∨ a1 = 70)
    (h : ((r = (nI 0) → pm_Ev d 34 [.ref 1, .ref 1000017] (pm_hp L fz t I J) (K_X3_readLine_57 d fz t Q a1)) ∧ (¬ r = (nI 0) → pm_Ev d 40 [.ref 1, .ref a1] (pm_hp L fz t I J) (K_X3_readLine_48 d fz t Q)))) :
    t_X3_readLine_40 d L fz t Q a1 r I J := by
  rcases ha1 with rfl | rfl <;> exact pm_go d [(6, [0, 1]), (14, [0]), (23, [0, 1]), (31, [0]), (40, [0, 1]), (48, [0]), (57, [0, 1]), (65, [0]), (74, [0, 1]), (86, [0]), (95, [0, 1]), (107, [0]), (115, [0]), (121, [])] 400 ⟨fun q0 => ((h).1 q0), fun q0 => ((h).2 q0)⟩
theorem kb_X3_readLine_40 {d L : Nat} {fz t : Bool} {Q : pm_R → pm_H → Prop} {a1 : Nat} {r : Int32} {fz1 : Bool} {I : Nat → Nat → Int32} {J : Nat → Nat → Int64} (ha1 : a1 = 55 ∨ a1 = 70)
    (h : ((r = (nI 0) → pm_Ev d 34 [.ref 1, .ref 1000017] (pm_hp L fz t I J) (K_X3_readLine_57 d fz t Q a1)) ∧ (¬ r = (nI 0) → pm_Ev d 40 [.ref 1, .ref a1] (pm_hp L fz t I J) (K_X3_readLine_48 d fz t Q)))) :
    K_X3_readLine_40 d fz t Q a1 (.inl (some (.int r))) (pm_hp L fz1 t I J) := b_X3_readLine_40 ha1 h
set_option maxRecDepth 100000 in
theorem b_X3_readLine_31 {d L : Nat} {fz t : Bool} {Q : pm_R → pm_H → Prop} {I : Nat → Nat → Int32} {J : Nat → Nat → Int64}
    (h : t_X3_readLine_115 d L fz t Q I J) :
    t_X3_readLine_31 d L fz t Q I J := by
  exact pm_go d [(6, [0, 1]), (14, [0]), (23, [0, 1]), (31, [0]), (40, [0, 1]), (48, [0]), (57, [0, 1]), (65, [0]), (74, [0, 1]), (86, [0]), (95, [0, 1]), (107, [0]), (115, [0]), (121, [])] 400 h
theorem kb_X3_readLine_31 {d L : Nat} {fz t : Bool} {Q : pm_R → pm_H → Prop} {fz1 : Bool} {I : Nat → Nat → Int32} {J : Nat → Nat → Int64}
    (h : t_X3_readLine_115 d L fz t Q I J) :
    K_X3_readLine_31 d fz t Q (.inl none) (pm_hp L fz1 t I J) := b_X3_readLine_31 h
set_option maxRecDepth 100000 in
theorem b_X3_readLine_115 {d L : Nat} {fz t : Bool} {Q : pm_R → pm_H → Prop} {I : Nat → Nat → Int32} {J : Nat → Nat → Int64}
    (h : pm_Ev d 35 [.ref 1, .int (nI 59)] (pm_hp L fz t I J) (K_X3_readLine_121 d fz t Q)) :
    t_X3_readLine_115 d L fz t Q I J := by
  exact pm_go d [(6, [0, 1]), (14, [0]), (23, [0, 1]), (31, [0]), (40, [0, 1]), (48, [0]), (57, [0, 1]), (65, [0]), (74, [0, 1]), (86, [0]), (95, [0, 1]), (107, [0]), (115, [0]), (121, [])] 400 h
theorem kb_X3_readLine_115 {d L : Nat} {fz t : Bool} {Q : pm_R → pm_H → Prop} {fz1 : Bool} {I : Nat → Nat → Int32} {J : Nat → Nat → Int64}
    (h : pm_Ev d 35 [.ref 1, .int (nI 59)] (pm_hp L fz t I J) (K_X3_readLine_121 d fz t Q)) :
    K_X3_readLine_115 d fz t Q (.inl none) (pm_hp L fz1 t I J) := b_X3_readLine_115 h
set_option maxRecDepth 100000 in
theorem b_X3_readLine_57 {d L : Nat} {fz t : Bool} {Q : pm_R → pm_H → Prop} {a1 : Nat} {r : Int32} {I : Nat → Nat → Int32} {J : Nat → Nat → Int64} (ha1 : a1 = 55 ∨ a1 = 70)
    (h : ((r = (nI 0) → pm_Ev d 34 [.ref 1, .ref 1000018] (pm_hp L fz t I J) (K_X3_readLine_74 d fz t Q a1)) ∧ (¬ r = (nI 0) → pm_Ev d 42 [.ref 1, .ref a1] (pm_hp L fz t I J) (K_X3_readLine_65 d fz t Q)))) :
    t_X3_readLine_57 d L fz t Q a1 r I J := by
  rcases ha1 with rfl | rfl <;> exact pm_go d [(6, [0, 1]), (14, [0]), (23, [0, 1]), (31, [0]), (40, [0, 1]), (48, [0]), (57, [0, 1]), (65, [0]), (74, [0, 1]), (86, [0]), (95, [0, 1]), (107, [0]), (115, [0]), (121, [])] 400 ⟨fun q0 => ((h).1 q0), fun q0 => ((h).2 q0)⟩
theorem kb_X3_readLine_57 {d L : Nat} {fz t : Bool} {Q : pm_R → pm_H → Prop} {a1 : Nat} {r : Int32} {fz1 : Bool} {I : Nat → Nat → Int32} {J : Nat → Nat → Int64} (ha1 : a1 = 55 ∨ a1 = 70)
    (h : ((r = (nI 0) → pm_Ev d 34 [.ref 1, .ref 1000018] (pm_hp L fz t I J) (K_X3_readLine_74 d fz t Q a1)) ∧ (¬ r = (nI 0) → pm_Ev d 42 [.ref 1, .ref a1] (pm_hp L fz t I J) (K_X3_readLine_65 d fz t Q)))) :
    K_X3_readLine_57 d fz t Q a1 (.inl (some (.int r))) (pm_hp L fz1 t I J) := b_X3_readLine_57 ha1 h
set_option maxRecDepth 100000 in
theorem b_X3_readLine_48 {d L : Nat} {fz t : Bool} {Q : pm_R → pm_H → Prop} {I : Nat → Nat → Int32} {J : Nat → Nat → Int64}
    (h : t_X3_readLine_115 d L fz t Q I J) :
    t_X3_readLine_48 d L fz t Q I J := by
  exact pm_go d [(6, [0, 1]), (14, [0]), (23, [0, 1]), (31, [0]), (40, [0, 1]), (48, [0]), (57, [0, 1]), (65, [0]), (74, [0, 1]), (86, [0]), (95, [0, 1]), (107, [0]), (115, [0]), (121, [])] 400 h
theorem kb_X3_readLine_48 {d L : Nat} {fz t : Bool} {Q : pm_R → pm_H → Prop} {fz1 : Bool} {I : Nat → Nat → Int32} {J : Nat → Nat → Int64}
    (h : t_X3_readLine_115 d L fz t Q I J) :
    K_X3_readLine_48 d fz t Q (.inl none) (pm_hp L fz1 t I J) := b_X3_readLine_48 h
set_option maxRecDepth 100000 in
theorem b_X3_readLine_121 {d L : Nat} {fz t : Bool} {Q : pm_R → pm_H → Prop} {I : Nat → Nat → Int32} {J : Nat → Nat → Int64}
    (h : Q (.inl none) (pm_hp L fz t I J)) :
    t_X3_readLine_121 d L fz t Q I J := by
  exact pm_go d [(6, [0, 1]), (14, [0]), (23, [0, 1]), (31, [0]), (40, [0, 1]), (48, [0]), (57, [0, 1]), (65, [0]), (74, [0, 1]), (86, [0]), (95, [0, 1]), (107, [0]), (115, [0]), (121, [])] 400 h
theorem kb_X3_readLine_121 {d L : Nat} {fz t : Bool} {Q : pm_R → pm_H → Prop} {fz1 : Bool} {I : Nat → Nat → Int32} {J : Nat → Nat → Int64}
    (h : Q (.inl none) (pm_hp L fz t I J)) :
    K_X3_readLine_121 d fz t Q (.inl none) (pm_hp L fz1 t I J) := b_X3_readLine_121 h
set_option maxRecDepth 100000 in
theorem b_X3_readLine_74 {d L : Nat} {fz t : Bool} {Q : pm_R → pm_H → Prop} {a1 : Nat} {r : Int32} {I : Nat → Nat → Int32} {J : Nat → Nat → Int64} (ha1 : a1 = 55 ∨ a1 = 70)
    (h : ((r = (nI 0) → pm_Ev d 34 [.ref 1, .ref 1000019] (pm_hp L fz t I J) (K_X3_readLine_95 d fz t Q a1)) ∧ (¬ r = (nI 0) → pm_Ev d 43 [.ref 1, .ref (a1 + 9), .int (nI 1)] (pm_hp L fz t I J) (K_X3_readLine_86 d fz t Q)))) :
    t_X3_readLine_74 d L fz t Q a1 r I J := by
  rcases ha1 with rfl | rfl <;> exact pm_go d [(6, [0, 1]), (14, [0]), (23, [0, 1]), (31, [0]), (40, [0, 1]), (48, [0]), (57, [0, 1]), (65, [0]), (74, [0, 1]), (86, [0]), (95, [0, 1]), (107, [0]), (115, [0]), (121, [])] 400 ⟨fun q0 => ((h).1 q0), fun q0 => ((h).2 q0)⟩
theorem kb_X3_readLine_74 {d L : Nat} {fz t : Bool} {Q : pm_R → pm_H → Prop} {a1 : Nat} {r : Int32} {fz1 : Bool} {I : Nat → Nat → Int32} {J : Nat → Nat → Int64} (ha1 : a1 = 55 ∨ a1 = 70)
    (h : ((r = (nI 0) → pm_Ev d 34 [.ref 1, .ref 1000019] (pm_hp L fz t I J) (K_X3_readLine_95 d fz t Q a1)) ∧ (¬ r = (nI 0) → pm_Ev d 43 [.ref 1, .ref (a1 + 9), .int (nI 1)] (pm_hp L fz t I J) (K_X3_readLine_86 d fz t Q)))) :
    K_X3_readLine_74 d fz t Q a1 (.inl (some (.int r))) (pm_hp L fz1 t I J) := b_X3_readLine_74 ha1 h
set_option maxRecDepth 100000 in
theorem b_X3_readLine_65 {d L : Nat} {fz t : Bool} {Q : pm_R → pm_H → Prop} {I : Nat → Nat → Int32} {J : Nat → Nat → Int64}
    (h : t_X3_readLine_115 d L fz t Q I J) :
    t_X3_readLine_65 d L fz t Q I J := by
  exact pm_go d [(6, [0, 1]), (14, [0]), (23, [0, 1]), (31, [0]), (40, [0, 1]), (48, [0]), (57, [0, 1]), (65, [0]), (74, [0, 1]), (86, [0]), (95, [0, 1]), (107, [0]), (115, [0]), (121, [])] 400 h
theorem kb_X3_readLine_65 {d L : Nat} {fz t : Bool} {Q : pm_R → pm_H → Prop} {fz1 : Bool} {I : Nat → Nat → Int32} {J : Nat → Nat → Int64}
    (h : t_X3_readLine_115 d L fz t Q I J) :
    K_X3_readLine_65 d fz t Q (.inl none) (pm_hp L fz1 t I J) := b_X3_readLine_65 h
set_option maxRecDepth 100000 in
theorem b_X3_readLine_95 {d L : Nat} {fz t : Bool} {Q : pm_R → pm_H → Prop} {a1 : Nat} {r : Int32} {I : Nat → Nat → Int32} {J : Nat → Nat → Int64} (ha1 : a1 = 55 ∨ a1 = 70)
    (h : ((r = (nI 0) → pm_Ev d 27 [.ref 1, .int (nI 1)] (pm_hp L fz t I J) (K_X3_readLine_115 d fz t Q)) ∧ (¬ r = (nI 0) → pm_Ev d 43 [.ref 1, .ref (a1 + 12), .int (nI 0)] (pm_hp L fz t I J) (K_X3_readLine_107 d fz t Q)))) :
    t_X3_readLine_95 d L fz t Q a1 r I J := by
  rcases ha1 with rfl | rfl <;> exact pm_go d [(6, [0, 1]), (14, [0]), (23, [0, 1]), (31, [0]), (40, [0, 1]), (48, [0]), (57, [0, 1]), (65, [0]), (74, [0, 1]), (86, [0]), (95, [0, 1]), (107, [0]), (115, [0]), (121, [])] 400 ⟨fun q0 => ((h).1 q0), fun q0 => ((h).2 q0)⟩
theorem kb_X3_readLine_95 {d L : Nat} {fz t : Bool} {Q : pm_R → pm_H → Prop} {a1 : Nat} {r : Int32} {fz1 : Bool} {I : Nat → Nat → Int32} {J : Nat → Nat → Int64} (ha1 : a1 = 55 ∨ a1 = 70)
    (h : ((r = (nI 0) → pm_Ev d 27 [.ref 1, .int (nI 1)] (pm_hp L fz t I J) (K_X3_readLine_115 d fz t Q)) ∧ (¬ r = (nI 0) → pm_Ev d 43 [.ref 1, .ref (a1 + 12), .int (nI 0)] (pm_hp L fz t I J) (K_X3_readLine_107 d fz t Q)))) :
    K_X3_readLine_95 d fz t Q a1 (.inl (some (.int r))) (pm_hp L fz1 t I J) := b_X3_readLine_95 ha1 h
set_option maxRecDepth 100000 in
theorem b_X3_readLine_86 {d L : Nat} {fz t : Bool} {Q : pm_R → pm_H → Prop} {I : Nat → Nat → Int32} {J : Nat → Nat → Int64}
    (h : t_X3_readLine_115 d L fz t Q I J) :
    t_X3_readLine_86 d L fz t Q I J := by
  exact pm_go d [(6, [0, 1]), (14, [0]), (23, [0, 1]), (31, [0]), (40, [0, 1]), (48, [0]), (57, [0, 1]), (65, [0]), (74, [0, 1]), (86, [0]), (95, [0, 1]), (107, [0]), (115, [0]), (121, [])] 400 h
theorem kb_X3_readLine_86 {d L : Nat} {fz t : Bool} {Q : pm_R → pm_H → Prop} {fz1 : Bool} {I : Nat → Nat → Int32} {J : Nat → Nat → Int64}
    (h : t_X3_readLine_115 d L fz t Q I J) :
    K_X3_readLine_86 d fz t Q (.inl none) (pm_hp L fz1 t I J) := b_X3_readLine_86 h
set_option maxRecDepth 100000 in
theorem b_X3_readLine_107 {d L : Nat} {fz t : Bool} {Q : pm_R → pm_H → Prop} {I : Nat → Nat → Int32} {J : Nat → Nat → Int64}
    (h : t_X3_readLine_115 d L fz t Q I J) :
    t_X3_readLine_107 d L fz t Q I J := by
  exact pm_go d [(6, [0, 1]), (14, [0]), (23, [0, 1]), (31, [0]), (40, [0, 1]), (48, [0]), (57, [0, 1]), (65, [0]), (74, [0, 1]), (86, [0]), (95, [0, 1]), (107, [0]), (115, [0]), (121, [])] 400 h
theorem kb_X3_readLine_107 {d L : Nat} {fz t : Bool} {Q : pm_R → pm_H → Prop} {fz1 : Bool} {I : Nat → Nat → Int32} {J : Nat → Nat → Int64}
    (h : t_X3_readLine_115 d L fz t Q I J) :
    K_X3_readLine_107 d fz t Q (.inl none) (pm_hp L fz1 t I J) := b_X3_readLine_107 h
def t_X3_readThreads_0 (d L : Nat) (fz t : Bool) (Q : pm_R → pm_H → Prop) (a1 : Nat) (I : Nat → Nat → Int32) (J : Nat → Nat → Int64) : Prop := pm_T (pm_Ev d) 38 Q (0, [(0, .ref 1), (1, .ref a1)], [], pm_hp L fz t I J, 0, 0)
def t_X3_readThreads_17 (d L : Nat) (fz t : Bool) (Q : pm_R → pm_H → Prop) (a1 : Nat) (I : Nat → Nat → Int32) (J : Nat → Nat → Int64) : Prop := pm_T (pm_Ev d) 38 Q (17, [(0, .ref 1), (1, .ref a1)], [], pm_hp L fz t I J, 0, 0)
def K_X3_readThreads_17 (d : Nat) (fz t : Bool) (Q : pm_R → pm_H → Prop) (a1 : Nat) : pm_R → pm_H → Prop := pm_K d 38 Q 17 [(0, .ref 1), (1, .ref a1)] [] 118 0 fz 0 0
def t_X3_readThreads_12 (d L : Nat) (fz t : Bool) (Q : pm_R → pm_H → Prop) (I : Nat → Nat → Int32) (J : Nat → Nat → Int64) : Prop := pm_T (pm_Ev d) 38 Q (12, [], [], pm_hp L fz t I J, 0, 0)
def K_X3_readThreads_12 (d : Nat) (fz t : Bool) (Q : pm_R → pm_H → Prop) : pm_R → pm_H → Prop := pm_K d 38 Q 12 [] [] 118 0 fz 0 0
def t_X3_readThreads_30 (d L : Nat) (fz t : Bool) (Q : pm_R → pm_H → Prop) (a1 : Nat) (r : Int32) (I : Nat → Nat → Int32) (J : Nat → Nat → Int64) : Prop := pm_T (pm_Ev d) 38 Q (30, [], [.int r, .ref a1], pm_hp L fz t I J, 0, 0)
def K_X3_readThreads_30 (d : Nat) (fz t : Bool) (Q : pm_R → pm_H → Prop) (a1 : Nat) : pm_R → pm_H → Prop := pm_K d 38 Q 30 [] [.ref a1] 118 0 fz 0 0
def t_X3_readThreads_33 (d L : Nat) (fz t : Bool) (Q : pm_R → pm_H → Prop) (I : Nat → Nat → Int32) (J : Nat → Nat → Int64) : Prop := pm_T (pm_Ev d) 38 Q (33, [], [], pm_hp L fz t I J, 0, 0)
def K_X3_readThreads_33 (d : Nat) (fz t : Bool) (Q : pm_R → pm_H → Prop) : pm_R → pm_H → Prop := pm_K d 38 Q 33 [] [] 118 0 fz 0 0
set_option maxRecDepth 100000 in
theorem b_X3_readThreads_0 {d L : Nat} {fz t : Bool} {Q : pm_R → pm_H → Prop} {a1 : Nat} {I : Nat → Nat → Int32} {J : Nat → Nat → Int64} (ha1 : a1 = 55 ∨ a1 = 70)
    (h : (((I a1 10) = (nI 0) → pm_Ev d 28 [.ref 1] (pm_hp L fz t I J) (K_X3_readThreads_17 d fz t Q a1)) ∧ (¬ (I a1 10) = (nI 0) → pm_Ev d 27 [.ref 1, .int (nI 5)] (pm_hp L fz t I J) (K_X3_readThreads_12 d fz t Q)))) :
    t_X3_readThreads_0 d L fz t Q a1 I J := by
  rcases ha1 with rfl | rfl <;> exact pm_go d [(12, []), (17, [0, 1]), (30, []), (33, [])] 400 ⟨fun q0 => ((h).1 q0), fun q0 => ((h).2 q0)⟩
theorem e_X3_readThreads {d L : Nat} {fz t : Bool} {Q : pm_R → pm_H → Prop} {a1 : Nat} {I : Nat → Nat → Int32} {J : Nat → Nat → Int64} (ha1 : a1 = 55 ∨ a1 = 70)
    (h : (((I a1 10) = (nI 0) → pm_Ev d 28 [.ref 1] (pm_hp L fz t I J) (K_X3_readThreads_17 d fz t Q a1)) ∧ (¬ (I a1 10) = (nI 0) → pm_Ev d 27 [.ref 1, .int (nI 5)] (pm_hp L fz t I J) (K_X3_readThreads_12 d fz t Q)))) :
    pm_Ev (d + 1) 38 [.ref 1, .ref a1] (pm_hp L fz t I J) Q := pm_Ev_in rfl (b_X3_readThreads_0 ha1 h)
set_option maxRecDepth 100000 in
theorem b_X3_readThreads_17 {d L : Nat} {fz t : Bool} {Q : pm_R → pm_H → Prop} {a1 : Nat} {I : Nat → Nat → Int32} {J : Nat → Nat → Int64} (ha1 : a1 = 55 ∨ a1 = 70)
    (h : pm_Ev d 36 [.ref 1, .int (nI 2), .int (nI 12)] (pm_hp L fz t (pm_u I a1 10 (nI 1)) J) (K_X3_readThreads_30 d fz t Q a1)) :
    t_X3_readThreads_17 d L fz t Q a1 I J := by
  rcases ha1 with rfl | rfl <;> exact pm_go d [(12, []), (17, [0, 1]), (30, []), (33, [])] 400 ⟨Or.inr rfl, h⟩
theorem kb_X3_readThreads_17 {d L : Nat} {fz t : Bool} {Q : pm_R → pm_H → Prop} {a1 : Nat} {fz1 : Bool} {I : Nat → Nat → Int32} {J : Nat → Nat → Int64} (ha1 : a1 = 55 ∨ a1 = 70)
    (h : pm_Ev d 36 [.ref 1, .int (nI 2), .int (nI 12)] (pm_hp L fz t (pm_u I a1 10 (nI 1)) J) (K_X3_readThreads_30 d fz t Q a1)) :
    K_X3_readThreads_17 d fz t Q a1 (.inl none) (pm_hp L fz1 t I J) := b_X3_readThreads_17 ha1 h
set_option maxRecDepth 100000 in
theorem b_X3_readThreads_12 {d L : Nat} {fz t : Bool} {Q : pm_R → pm_H → Prop} {I : Nat → Nat → Int32} {J : Nat → Nat → Int64}
    (h : Q (.inl none) (pm_hp L fz t I J)) :
    t_X3_readThreads_12 d L fz t Q I J := by
  exact pm_go d [(12, []), (17, [0, 1]), (30, []), (33, [])] 400 h
theorem kb_X3_readThreads_12 {d L : Nat} {fz t : Bool} {Q : pm_R → pm_H → Prop} {fz1 : Bool} {I : Nat → Nat → Int32} {J : Nat → Nat → Int64}
    (h : Q (.inl none) (pm_hp L fz t I J)) :
    K_X3_readThreads_12 d fz t Q (.inl none) (pm_hp L fz1 t I J) := b_X3_readThreads_12 h
set_option maxRecDepth 100000 in
theorem b_X3_readThreads_30 {d L : Nat} {fz t : Bool} {Q : pm_R → pm_H → Prop} {a1 : Nat} {r : Int32} {I : Nat → Nat → Int32} {J : Nat → Nat → Int64} (ha1 : a1 = 55 ∨ a1 = 70)
    (h : pm_Ev d 70 [.ref a1, .int r] (pm_hp L fz t I J) (K_X3_readThreads_33 d fz t Q)) :
    t_X3_readThreads_30 d L fz t Q a1 r I J := by
  rcases ha1 with rfl | rfl <;> exact pm_go d [(12, []), (17, [0, 1]), (30, []), (33, [])] 400 h
theorem kb_X3_readThreads_30 {d L : Nat} {fz t : Bool} {Q : pm_R → pm_H → Prop} {a1 : Nat} {r : Int32} {fz1 : Bool} {I : Nat → Nat → Int32} {J : Nat → Nat → Int64} (ha1 : a1 = 55 ∨ a1 = 70)
    (h : pm_Ev d 70 [.ref a1, .int r] (pm_hp L fz t I J) (K_X3_readThreads_33 d fz t Q)) :
    K_X3_readThreads_30 d fz t Q a1 (.inl (some (.int r))) (pm_hp L fz1 t I J) := b_X3_readThreads_30 ha1 h
set_option maxRecDepth 100000 in
theorem b_X3_readThreads_33 {d L : Nat} {fz t : Bool} {Q : pm_R → pm_H → Prop} {I : Nat → Nat → Int32} {J : Nat → Nat → Int64}
    (h : Q (.inl none) (pm_hp L fz t I J)) :
    t_X3_readThreads_33 d L fz t Q I J := by
  exact pm_go d [(12, []), (17, [0, 1]), (30, []), (33, [])] 400 h
theorem kb_X3_readThreads_33 {d L : Nat} {fz t : Bool} {Q : pm_R → pm_H → Prop} {fz1 : Bool} {I : Nat → Nat → Int32} {J : Nat → Nat → Int64}
    (h : Q (.inl none) (pm_hp L fz t I J)) :
    K_X3_readThreads_33 d fz t Q (.inl none) (pm_hp L fz1 t I J) := b_X3_readThreads_33 h
def t_X3_readCard_0 (d L : Nat) (fz t : Bool) (Q : pm_R → pm_H → Prop) (a1 : Nat) (I : Nat → Nat → Int32) (J : Nat → Nat → Int64) : Prop := pm_T (pm_Ev d) 39 Q (0, [(0, .ref 1), (1, .ref a1)], [], pm_hp L fz t I J, 0, 0)
def t_X3_readCard_21 (d L : Nat) (fz t : Bool) (Q : pm_R → pm_H → Prop) (a1 : Nat) (x2 : Int32) (I : Nat → Nat → Int32) (J : Nat → Nat → Int64) : Prop := pm_T (pm_Ev d) 39 Q (21, [(0, .ref 1), (1, .ref a1), (2, .int x2)], [], pm_hp L fz t I J, 0, 0)
def K_X3_readCard_21 (d : Nat) (fz t : Bool) (Q : pm_R → pm_H → Prop) (a1 : Nat) (x2 : Int32) : pm_R → pm_H → Prop := pm_K d 39 Q 21 [(0, .ref 1), (1, .ref a1), (2, .int x2)] [] 118 0 fz 0 0
def t_X3_readCard_16 (d L : Nat) (fz t : Bool) (Q : pm_R → pm_H → Prop) (I : Nat → Nat → Int32) (J : Nat → Nat → Int64) : Prop := pm_T (pm_Ev d) 39 Q (16, [], [], pm_hp L fz t I J, 0, 0)
def K_X3_readCard_16 (d : Nat) (fz t : Bool) (Q : pm_R → pm_H → Prop) : pm_R → pm_H → Prop := pm_K d 39 Q 16 [] [] 118 0 fz 0 0
def t_X3_readCard_34 (d L : Nat) (fz t : Bool) (Q : pm_R → pm_H → Prop) (a1 : Nat) (x2 : Int32) (s1 : Int32) (r : Int32) (I : Nat → Nat → Int32) (J : Nat → Nat → Int64) : Prop := pm_T (pm_Ev d) 39 Q (34, [(0, .ref 1), (1, .ref a1), (2, .int x2)], [.int r, .int s1, .ref (a1 + 1)], pm_hp L fz t I J, 0, 0)
def K_X3_readCard_34 (d : Nat) (fz t : Bool) (Q : pm_R → pm_H → Prop) (a1 : Nat) (x2 : Int32) (s1 : Int32) : pm_R → pm_H → Prop := pm_K d 39 Q 34 [(0, .ref 1), (1, .ref a1), (2, .int x2)] [.int s1, .ref (a1 + 1)] 118 0 fz 0 0
def t_X3_readCard_47 (d L : Nat) (fz t : Bool) (Q : pm_R → pm_H → Prop) (a1 : Nat) (x2 : Int32) (s1 : Int32) (r : Int32) (I : Nat → Nat → Int32) (J : Nat → Nat → Int64) : Prop := pm_T (pm_Ev d) 39 Q (47, [(0, .ref 1), (1, .ref a1), (2, .int x2)], [.int r, .int s1, .ref (a1 + 2)], pm_hp L fz t I J, 0, 0)
def K_X3_readCard_47 (d : Nat) (fz t : Bool) (Q : pm_R → pm_H → Prop) (a1 : Nat) (x2 : Int32) (s1 : Int32) : pm_R → pm_H → Prop := pm_K d 39 Q 47 [(0, .ref 1), (1, .ref a1), (2, .int x2)] [.int s1, .ref (a1 + 2)] 118 0 fz 0 0
def t_X3_readCard_60 (d L : Nat) (fz t : Bool) (Q : pm_R → pm_H → Prop) (a1 : Nat) (s1 : Int32) (r : Int32) (I : Nat → Nat → Int32) (J : Nat → Nat → Int64) : Prop := pm_T (pm_Ev d) 39 Q (60, [(1, .ref a1)], [.int r, .int s1, .ref (a1 + 3)], pm_hp L fz t I J, 0, 0)
def K_X3_readCard_60 (d : Nat) (fz t : Bool) (Q : pm_R → pm_H → Prop) (a1 : Nat) (s1 : Int32) : pm_R → pm_H → Prop := pm_K d 39 Q 60 [(1, .ref a1)] [.int s1, .ref (a1 + 3)] 118 0 fz 0 0
set_option maxRecDepth 100000 in
theorem b_X3_readCard_0 {d L : Nat} {fz t : Bool} {Q : pm_R → pm_H → Prop} {a1 : Nat} {I : Nat → Nat → Int32} {J : Nat → Nat → Int64} (ha1 : a1 = 55 ∨ a1 = 70)
    (h : (((I a1 13) < (nI 10) → pm_Ev d 28 [.ref 1] (pm_hp L fz t I J) (K_X3_readCard_21 d fz t Q a1 (I a1 13))) ∧ (¬ (I a1 13) < (nI 10) → pm_Ev d 27 [.ref 1, .int (nI 2)] (pm_hp L fz t I J) (K_X3_readCard_16 d fz t Q)))) :
    t_X3_readCard_0 d L fz t Q a1 I J := by
  rcases ha1 with rfl | rfl <;> exact pm_go d [(16, []), (21, [0, 1, 2]), (34, [0, 1, 2]), (47, [0, 1, 2]), (60, [1])] 400 ⟨fun q0 => ((h).1 q0), fun q0 => ((h).2 q0)⟩
theorem e_X3_readCard {d L : Nat} {fz t : Bool} {Q : pm_R → pm_H → Prop} {a1 : Nat} {I : Nat → Nat → Int32} {J : Nat → Nat → Int64} (ha1 : a1 = 55 ∨ a1 = 70)
    (h : (((I a1 13) < (nI 10) → pm_Ev d 28 [.ref 1] (pm_hp L fz t I J) (K_X3_readCard_21 d fz t Q a1 (I a1 13))) ∧ (¬ (I a1 13) < (nI 10) → pm_Ev d 27 [.ref 1, .int (nI 2)] (pm_hp L fz t I J) (K_X3_readCard_16 d fz t Q)))) :
    pm_Ev (d + 1) 39 [.ref 1, .ref a1] (pm_hp L fz t I J) Q := pm_Ev_in rfl (b_X3_readCard_0 ha1 h)
set_option maxRecDepth 100000 in
theorem b_X3_readCard_21 {d L : Nat} {fz t : Bool} {Q : pm_R → pm_H → Prop} {a1 : Nat} {x2 : Int32} {I : Nat → Nat → Int32} {J : Nat → Nat → Int64} (ha1 : a1 = 55 ∨ a1 = 70)
    (h : pm_Ev d 36 [.ref 1, .int (nI 0), .int (nI 4095)] (pm_hp L fz t I J) (K_X3_readCard_34 d fz t Q a1 x2 x2)) :
    t_X3_readCard_21 d L fz t Q a1 x2 I J := by
  rcases ha1 with rfl | rfl <;> exact pm_go d [(16, []), (21, [0, 1, 2]), (34, [0, 1, 2]), (47, [0, 1, 2]), (60, [1])] 400 h
theorem kb_X3_readCard_21 {d L : Nat} {fz t : Bool} {Q : pm_R → pm_H → Prop} {a1 : Nat} {x2 : Int32} {fz1 : Bool} {I : Nat → Nat → Int32} {J : Nat → Nat → Int64} (ha1 : a1 = 55 ∨ a1 = 70)
    (h : pm_Ev d 36 [.ref 1, .int (nI 0), .int (nI 4095)] (pm_hp L fz t I J) (K_X3_readCard_34 d fz t Q a1 x2 x2)) :
    K_X3_readCard_21 d fz t Q a1 x2 (.inl none) (pm_hp L fz1 t I J) := b_X3_readCard_21 ha1 h
set_option maxRecDepth 100000 in
theorem b_X3_readCard_16 {d L : Nat} {fz t : Bool} {Q : pm_R → pm_H → Prop} {I : Nat → Nat → Int32} {J : Nat → Nat → Int64}
    (h : Q (.inl none) (pm_hp L fz t I J)) :
    t_X3_readCard_16 d L fz t Q I J := by
  exact pm_go d [(16, []), (21, [0, 1, 2]), (34, [0, 1, 2]), (47, [0, 1, 2]), (60, [1])] 400 h
theorem kb_X3_readCard_16 {d L : Nat} {fz t : Bool} {Q : pm_R → pm_H → Prop} {fz1 : Bool} {I : Nat → Nat → Int32} {J : Nat → Nat → Int64}
    (h : Q (.inl none) (pm_hp L fz t I J)) :
    K_X3_readCard_16 d fz t Q (.inl none) (pm_hp L fz1 t I J) := b_X3_readCard_16 h
set_option maxRecDepth 100000 in
theorem b_X3_readCard_34 {d L : Nat} {fz t : Bool} {Q : pm_R → pm_H → Prop} {a1 : Nat} {x2 : Int32} {s1 : Int32} {r : Int32} {I : Nat → Nat → Int32} {J : Nat → Nat → Int64} (ha1 : a1 = 55 ∨ a1 = 70)
    (h : (vp_in s1 10 ∧ pm_Ev d 36 [.ref 1, .int (nI 0), .int (nI 9)] (pm_hp L fz t (pm_u I (a1 + 1) (s1).toNatClampNeg r) J) (K_X3_readCard_47 d fz t Q a1 x2 x2))) :
    t_X3_readCard_34 d L fz t Q a1 x2 s1 r I J := by
  rcases ha1 with rfl | rfl <;> exact pm_go d [(16, []), (21, [0, 1, 2]), (34, [0, 1, 2]), (47, [0, 1, 2]), (60, [1])] 400 ⟨(h).1, (h).2⟩
theorem kb_X3_readCard_34 {d L : Nat} {fz t : Bool} {Q : pm_R → pm_H → Prop} {a1 : Nat} {x2 : Int32} {s1 : Int32} {r : Int32} {fz1 : Bool} {I : Nat → Nat → Int32} {J : Nat → Nat → Int64} (ha1 : a1 = 55 ∨ a1 = 70)
    (h : (vp_in s1 10 ∧ pm_Ev d 36 [.ref 1, .int (nI 0), .int (nI 9)] (pm_hp L fz t (pm_u I (a1 + 1) (s1).toNatClampNeg r) J) (K_X3_readCard_47 d fz t Q a1 x2 x2))) :
    K_X3_readCard_34 d fz t Q a1 x2 s1 (.inl (some (.int r))) (pm_hp L fz1 t I J) := b_X3_readCard_34 ha1 h
set_option maxRecDepth 100000 in
theorem b_X3_readCard_47 {d L : Nat} {fz t : Bool} {Q : pm_R → pm_H → Prop} {a1 : Nat} {x2 : Int32} {s1 : Int32} {r : Int32} {I : Nat → Nat → Int32} {J : Nat → Nat → Int64} (ha1 : a1 = 55 ∨ a1 = 70)
    (h : (vp_in s1 10 ∧ pm_Ev d 36 [.ref 1, .int (nI 0), .int (nI 9)] (pm_hp L fz t (pm_u I (a1 + 2) (s1).toNatClampNeg r) J) (K_X3_readCard_60 d fz t Q a1 x2))) :
    t_X3_readCard_47 d L fz t Q a1 x2 s1 r I J := by
  rcases ha1 with rfl | rfl <;> exact pm_go d [(16, []), (21, [0, 1, 2]), (34, [0, 1, 2]), (47, [0, 1, 2]), (60, [1])] 400 ⟨(h).1, (h).2⟩
theorem kb_X3_readCard_47 {d L : Nat} {fz t : Bool} {Q : pm_R → pm_H → Prop} {a1 : Nat} {x2 : Int32} {s1 : Int32} {r : Int32} {fz1 : Bool} {I : Nat → Nat → Int32} {J : Nat → Nat → Int64} (ha1 : a1 = 55 ∨ a1 = 70)
    (h : (vp_in s1 10 ∧ pm_Ev d 36 [.ref 1, .int (nI 0), .int (nI 9)] (pm_hp L fz t (pm_u I (a1 + 2) (s1).toNatClampNeg r) J) (K_X3_readCard_60 d fz t Q a1 x2))) :
    K_X3_readCard_47 d fz t Q a1 x2 s1 (.inl (some (.int r))) (pm_hp L fz1 t I J) := b_X3_readCard_47 ha1 h
set_option maxRecDepth 100000 in
theorem b_X3_readCard_60 {d L : Nat} {fz t : Bool} {Q : pm_R → pm_H → Prop} {a1 : Nat} {s1 : Int32} {r : Int32} {I : Nat → Nat → Int32} {J : Nat → Nat → Int64} (ha1 : a1 = 55 ∨ a1 = 70)
    (h : (vp_in s1 10 ∧ Q (.inl none) (pm_hp L fz t (pm_u (pm_u I (a1 + 3) (s1).toNatClampNeg r) a1 13 ((I a1 13) + (nI 1))) J))) :
    t_X3_readCard_60 d L fz t Q a1 s1 r I J := by
  rcases ha1 with rfl | rfl <;> exact pm_go d [(16, []), (21, [0, 1, 2]), (34, [0, 1, 2]), (47, [0, 1, 2]), (60, [1])] 400 ⟨(h).1, (h).2⟩
theorem kb_X3_readCard_60 {d L : Nat} {fz t : Bool} {Q : pm_R → pm_H → Prop} {a1 : Nat} {s1 : Int32} {r : Int32} {fz1 : Bool} {I : Nat → Nat → Int32} {J : Nat → Nat → Int64} (ha1 : a1 = 55 ∨ a1 = 70)
    (h : (vp_in s1 10 ∧ Q (.inl none) (pm_hp L fz t (pm_u (pm_u I (a1 + 3) (s1).toNatClampNeg r) a1 13 ((I a1 13) + (nI 1))) J))) :
    K_X3_readCard_60 d fz t Q a1 s1 (.inl (some (.int r))) (pm_hp L fz1 t I J) := b_X3_readCard_60 ha1 h
def t_X3_readLace_0 (d L : Nat) (fz t : Bool) (Q : pm_R → pm_H → Prop) (a1 : Nat) (I : Nat → Nat → Int32) (J : Nat → Nat → Int64) : Prop := pm_T (pm_Ev d) 40 Q (0, [(0, .ref 1), (1, .ref a1)], [], pm_hp L fz t I J, 0, 0)
def t_X3_readLace_17 (d L : Nat) (fz t : Bool) (Q : pm_R → pm_H → Prop) (a1 : Nat) (I : Nat → Nat → Int32) (J : Nat → Nat → Int64) : Prop := pm_T (pm_Ev d) 40 Q (17, [(0, .ref 1), (1, .ref a1)], [], pm_hp L fz t I J, 0, 0)
def K_X3_readLace_17 (d : Nat) (fz t : Bool) (Q : pm_R → pm_H → Prop) (a1 : Nat) : pm_R → pm_H → Prop := pm_K d 40 Q 17 [(0, .ref 1), (1, .ref a1)] [] 118 0 fz 0 0
def t_X3_readLace_12 (d L : Nat) (fz t : Bool) (Q : pm_R → pm_H → Prop) (I : Nat → Nat → Int32) (J : Nat → Nat → Int64) : Prop := pm_T (pm_Ev d) 40 Q (12, [], [], pm_hp L fz t I J, 0, 0)
def K_X3_readLace_12 (d : Nat) (fz t : Bool) (Q : pm_R → pm_H → Prop) : pm_R → pm_H → Prop := pm_K d 40 Q 12 [] [] 118 0 fz 0 0
def t_X3_readLace_22 (d L : Nat) (fz t : Bool) (Q : pm_R → pm_H → Prop) (a1 : Nat) (I : Nat → Nat → Int32) (J : Nat → Nat → Int64) : Prop := pm_T (pm_Ev d) 40 Q (22, [(0, .ref 1), (1, .ref a1)], [], pm_hp L fz t I J, 0, 0)
def K_X3_readLace_22 (d : Nat) (fz t : Bool) (Q : pm_R → pm_H → Prop) (a1 : Nat) : pm_R → pm_H → Prop := pm_K d 40 Q 22 [(0, .ref 1), (1, .ref a1)] [] 118 0 fz 0 0
def t_X3_readLace_24 (d L : Nat) (fz t : Bool) (Q : pm_R → pm_H → Prop) (a1 : Nat) (x2 : Int32) (I : Nat → Nat → Int32) (J : Nat → Nat → Int64) : Prop := pm_T (pm_Ev d) 40 Q (24, [(0, .ref 1), (1, .ref a1), (2, .int x2)], [], pm_hp L fz t I J, 0, 0)
def t_X3_readLace_51 (d L : Nat) (fz t : Bool) (Q : pm_R → pm_H → Prop) (a1 : Nat) (x2 : Int32) (I : Nat → Nat → Int32) (J : Nat → Nat → Int64) : Prop := pm_T (pm_Ev d) 40 Q (51, [(0, .ref 1), (1, .ref a1), (2, .int x2)], [], pm_hp L fz t I J, 0, 0)
def K_X3_readLace_51 (d : Nat) (fz t : Bool) (Q : pm_R → pm_H → Prop) (a1 : Nat) (x2 : Int32) : pm_R → pm_H → Prop := pm_K d 40 Q 51 [(0, .ref 1), (1, .ref a1), (2, .int x2)] [] 118 0 fz 0 0
set_option maxRecDepth 100000 in
theorem b_X3_readLace_0 {d L : Nat} {fz t : Bool} {Q : pm_R → pm_H → Prop} {a1 : Nat} {I : Nat → Nat → Int32} {J : Nat → Nat → Int64} (ha1 : a1 = 55 ∨ a1 = 70)
    (h : (((I a1 14) ≤ (nI 0) → pm_Ev d 28 [.ref 1] (pm_hp L fz t I J) (K_X3_readLace_17 d fz t Q a1)) ∧ (¬ (I a1 14) ≤ (nI 0) → pm_Ev d 27 [.ref 1, .int (nI 5)] (pm_hp L fz t I J) (K_X3_readLace_12 d fz t Q)))) :
    t_X3_readLace_0 d L fz t Q a1 I J := by
  rcases ha1 with rfl | rfl <;> exact pm_go d [(12, []), (17, [0, 1]), (22, [0, 1]), (24, [0, 1, 2]), (51, [0, 1, 2])] 400 ⟨fun q0 => ((h).1 q0), fun q0 => ((h).2 q0)⟩
theorem e_X3_readLace {d L : Nat} {fz t : Bool} {Q : pm_R → pm_H → Prop} {a1 : Nat} {I : Nat → Nat → Int32} {J : Nat → Nat → Int64} (ha1 : a1 = 55 ∨ a1 = 70)
    (h : (((I a1 14) ≤ (nI 0) → pm_Ev d 28 [.ref 1] (pm_hp L fz t I J) (K_X3_readLace_17 d fz t Q a1)) ∧ (¬ (I a1 14) ≤ (nI 0) → pm_Ev d 27 [.ref 1, .int (nI 5)] (pm_hp L fz t I J) (K_X3_readLace_12 d fz t Q)))) :
    pm_Ev (d + 1) 40 [.ref 1, .ref a1] (pm_hp L fz t I J) Q := pm_Ev_in rfl (b_X3_readLace_0 ha1 h)
set_option maxRecDepth 100000 in
theorem b_X3_readLace_17 {d L : Nat} {fz t : Bool} {Q : pm_R → pm_H → Prop} {a1 : Nat} {I : Nat → Nat → Int32} {J : Nat → Nat → Int64} (ha1 : a1 = 55 ∨ a1 = 70)
    (h : pm_Ev d 41 [.ref 1, .ref a1] (pm_hp L fz t I J) (K_X3_readLace_22 d fz t Q a1)) :
    t_X3_readLace_17 d L fz t Q a1 I J := by
  rcases ha1 with rfl | rfl <;> exact pm_go d [(12, []), (17, [0, 1]), (22, [0, 1]), (24, [0, 1, 2]), (51, [0, 1, 2])] 400 h
theorem kb_X3_readLace_17 {d L : Nat} {fz t : Bool} {Q : pm_R → pm_H → Prop} {a1 : Nat} {fz1 : Bool} {I : Nat → Nat → Int32} {J : Nat → Nat → Int64} (ha1 : a1 = 55 ∨ a1 = 70)
    (h : pm_Ev d 41 [.ref 1, .ref a1] (pm_hp L fz t I J) (K_X3_readLace_22 d fz t Q a1)) :
    K_X3_readLace_17 d fz t Q a1 (.inl none) (pm_hp L fz1 t I J) := b_X3_readLace_17 ha1 h
set_option maxRecDepth 100000 in
theorem b_X3_readLace_12 {d L : Nat} {fz t : Bool} {Q : pm_R → pm_H → Prop} {I : Nat → Nat → Int32} {J : Nat → Nat → Int64}
    (h : Q (.inl none) (pm_hp L fz t I J)) :
    t_X3_readLace_12 d L fz t Q I J := by
  exact pm_go d [(12, []), (17, [0, 1]), (22, [0, 1]), (24, [0, 1, 2]), (51, [0, 1, 2])] 400 h
theorem kb_X3_readLace_12 {d L : Nat} {fz t : Bool} {Q : pm_R → pm_H → Prop} {fz1 : Bool} {I : Nat → Nat → Int32} {J : Nat → Nat → Int64}
    (h : Q (.inl none) (pm_hp L fz t I J)) :
    K_X3_readLace_12 d fz t Q (.inl none) (pm_hp L fz1 t I J) := b_X3_readLace_12 h
set_option maxRecDepth 100000 in
theorem b_X3_readLace_22 {d L : Nat} {fz t : Bool} {Q : pm_R → pm_H → Prop} {a1 : Nat} {I : Nat → Nat → Int32} {J : Nat → Nat → Int64} (ha1 : a1 = 55 ∨ a1 = 70)
    (h : t_X3_readLace_24 d L fz t Q a1 (nI 0) I J) :
    t_X3_readLace_22 d L fz t Q a1 I J := by
  rcases ha1 with rfl | rfl <;> exact pm_go d [(12, []), (17, [0, 1]), (22, [0, 1]), (24, [0, 1, 2]), (51, [0, 1, 2])] 400 h
theorem kb_X3_readLace_22 {d L : Nat} {fz t : Bool} {Q : pm_R → pm_H → Prop} {a1 : Nat} {fz1 : Bool} {I : Nat → Nat → Int32} {J : Nat → Nat → Int64} (ha1 : a1 = 55 ∨ a1 = 70)
    (h : t_X3_readLace_24 d L fz t Q a1 (nI 0) I J) :
    K_X3_readLace_22 d fz t Q a1 (.inl none) (pm_hp L fz1 t I J) := b_X3_readLace_22 ha1 h
set_option maxRecDepth 100000 in
theorem b_X3_readLace_24 {d L : Nat} {fz t : Bool} {Q : pm_R → pm_H → Prop} {a1 : Nat} {x2 : Int32} {I : Nat → Nat → Int32} {J : Nat → Nat → Int64} (ha1 : a1 = 55 ∨ a1 = 70)
    (h : (((nI 700) ≤ x2 → Q (.inl none) (pm_hp L fz t I J)) ∧ (¬ (nI 700) ≤ x2 → ((¬ (I 1 8) = (nI 0) → Q (.inl none) (pm_hp L fz t I J)) ∧ ((I 1 8) = (nI 0) → ((¬ (I 1 5) = (nI 2) → Q (.inl none) (pm_hp L fz t I J)) ∧ ((I 1 5) = (nI 2) → pm_Ev d 41 [.ref 1, .ref a1] (pm_hp L fz t I J) (K_X3_readLace_51 d fz t Q a1 x2)))))))) :
    t_X3_readLace_24 d L fz t Q a1 x2 I J := by
  rcases ha1 with rfl | rfl <;> exact pm_go d [(12, []), (17, [0, 1]), (22, [0, 1]), (24, [0, 1, 2]), (51, [0, 1, 2])] 400 ⟨fun q0 => ((h).1 q0), fun q0 => ⟨fun q1 => ((((h).2 q0)).1 q1), fun q1 => ⟨fun q2 => ((((((h).2 q0)).2 q1)).1 q2), fun q2 => ((((((h).2 q0)).2 q1)).2 q2)⟩⟩⟩
set_option maxRecDepth 100000 in
theorem b_X3_readLace_51 {d L : Nat} {fz t : Bool} {Q : pm_R → pm_H → Prop} {a1 : Nat} {x2 : Int32} {I : Nat → Nat → Int32} {J : Nat → Nat → Int64} (ha1 : a1 = 55 ∨ a1 = 70)
    (h : t_X3_readLace_24 d L fz t Q a1 (x2 + (nI 1)) I J) :
    t_X3_readLace_51 d L fz t Q a1 x2 I J := by
  rcases ha1 with rfl | rfl <;> exact pm_go d [(12, []), (17, [0, 1]), (22, [0, 1]), (24, [0, 1, 2]), (51, [0, 1, 2])] 400 h
theorem kb_X3_readLace_51 {d L : Nat} {fz t : Bool} {Q : pm_R → pm_H → Prop} {a1 : Nat} {x2 : Int32} {fz1 : Bool} {I : Nat → Nat → Int32} {J : Nat → Nat → Int64} (ha1 : a1 = 55 ∨ a1 = 70)
    (h : t_X3_readLace_24 d L fz t Q a1 (x2 + (nI 1)) I J) :
    K_X3_readLace_51 d fz t Q a1 x2 (.inl none) (pm_hp L fz1 t I J) := b_X3_readLace_51 ha1 h
def t_X3_readLaced_0 (d L : Nat) (fz t : Bool) (Q : pm_R → pm_H → Prop) (a1 : Nat) (I : Nat → Nat → Int32) (J : Nat → Nat → Int64) : Prop := pm_T (pm_Ev d) 41 Q (0, [(0, .ref 1), (1, .ref a1)], [], pm_hp L fz t I J, 0, 0)
def t_X3_readLaced_38 (d L : Nat) (fz t : Bool) (Q : pm_R → pm_H → Prop) (I : Nat → Nat → Int32) (J : Nat → Nat → Int64) : Prop := pm_T (pm_Ev d) 41 Q (38, [], [], pm_hp L fz t I J, 0, 0)
def K_X3_readLaced_38 (d : Nat) (fz t : Bool) (Q : pm_R → pm_H → Prop) : pm_R → pm_H → Prop := pm_K d 41 Q 38 [] [] 118 0 fz 0 0
def t_X3_readLaced_87 (d L : Nat) (fz t : Bool) (Q : pm_R → pm_H → Prop) (I : Nat → Nat → Int32) (J : Nat → Nat → Int64) : Prop := pm_T (pm_Ev d) 41 Q (87, [], [], pm_hp L fz t I J, 0, 0)
def K_X3_readLaced_87 (d : Nat) (fz t : Bool) (Q : pm_R → pm_H → Prop) : pm_R → pm_H → Prop := pm_K d 41 Q 87 [] [] 118 0 fz 0 0
def t_X3_readLaced_57 (d L : Nat) (fz t : Bool) (Q : pm_R → pm_H → Prop) (I : Nat → Nat → Int32) (J : Nat → Nat → Int64) : Prop := pm_T (pm_Ev d) 41 Q (57, [], [], pm_hp L fz t I J, 0, 0)
def K_X3_readLaced_57 (d : Nat) (fz t : Bool) (Q : pm_R → pm_H → Prop) : pm_R → pm_H → Prop := pm_K d 41 Q 57 [] [] 118 0 fz 0 0
def t_X3_readLaced_13 (d L : Nat) (fz t : Bool) (Q : pm_R → pm_H → Prop) (I : Nat → Nat → Int32) (J : Nat → Nat → Int64) : Prop := pm_T (pm_Ev d) 41 Q (13, [], [], pm_hp L fz t I J, 0, 0)
def K_X3_readLaced_13 (d : Nat) (fz t : Bool) (Q : pm_R → pm_H → Prop) : pm_R → pm_H → Prop := pm_K d 41 Q 13 [] [] 118 0 fz 0 0
set_option maxRecDepth 100000 in
theorem b_X3_readLaced_0 {d L : Nat} {fz t : Bool} {Q : pm_R → pm_H → Prop} {a1 : Nat} {I : Nat → Nat → Int32} {J : Nat → Nat → Int64} (ha1 : a1 = 55 ∨ a1 = 70)
    (h : (((I 1 5) = (nI 2) → (((nI 4) < (I 1 7) → pm_Ev d 27 [.ref 1, .int (nI 2)] (pm_hp L fz t I J) (K_X3_readLaced_38 d fz t Q)) ∧ (¬ (nI 4) < (I 1 7) → (((I a1 14) < (nI 12) → (((I 1 6) < (I a1 13) → (vp_in (I a1 14) 12 ∧ pm_Ev d 28 [.ref 1] (pm_hp L fz t (pm_u (pm_u I (a1 + 4) ((I a1 14)).toNatClampNeg (I 1 6)) a1 14 ((I a1 14) + (nI 1))) J) (K_X3_readLaced_87 d fz t Q))) ∧ (¬ (I 1 6) < (I a1 13) → pm_Ev d 27 [.ref 1, .int (nI 3)] (pm_hp L fz t I J) (K_X3_readLaced_57 d fz t Q)))) ∧ (¬ (I a1 14) < (nI 12) → pm_Ev d 27 [.ref 1, .int (nI 2)] (pm_hp L fz t I J) (K_X3_readLaced_38 d fz t Q)))))) ∧ (¬ (I 1 5) = (nI 2) → pm_Ev d 27 [.ref 1, .int (nI 1)] (pm_hp L fz t I J) (K_X3_readLaced_13 d fz t Q)))) :
    t_X3_readLaced_0 d L fz t Q a1 I J := by
  rcases ha1 with rfl | rfl <;> exact pm_go d [(13, []), (38, []), (57, []), (87, [])] 400 ⟨fun q0 => ⟨fun q1 => ((((h).1 q0)).1 q1), fun q1 => ⟨fun q2 => ⟨fun q3 => ⟨(((((((((h).1 q0)).2 q1)).1 q2)).1 q3)).1, (((((((((h).1 q0)).2 q1)).1 q2)).1 q3)).2⟩, fun q3 => ((((((((h).1 q0)).2 q1)).1 q2)).2 q3)⟩, fun q2 => ((((((h).1 q0)).2 q1)).2 q2)⟩⟩, fun q0 => ((h).2 q0)⟩
theorem e_X3_readLaced {d L : Nat} {fz t : Bool} {Q : pm_R → pm_H → Prop} {a1 : Nat} {I : Nat → Nat → Int32} {J : Nat → Nat → Int64} (ha1 : a1 = 55 ∨ a1 = 70)
    (h : (((I 1 5) = (nI 2) → (((nI 4) < (I 1 7) → pm_Ev d 27 [.ref 1, .int (nI 2)] (pm_hp L fz t I J) (K_X3_readLaced_38 d fz t Q)) ∧ (¬ (nI 4) < (I 1 7) → (((I a1 14) < (nI 12) → (((I 1 6) < (I a1 13) → (vp_in (I a1 14) 12 ∧ pm_Ev d 28 [.ref 1] (pm_hp L fz t (pm_u (pm_u I (a1 + 4) ((I a1 14)).toNatClampNeg (I 1 6)) a1 14 ((I a1 14) + (nI 1))) J) (K_X3_readLaced_87 d fz t Q))) ∧ (¬ (I 1 6) < (I a1 13) → pm_Ev d 27 [.ref 1, .int (nI 3)] (pm_hp L fz t I J) (K_X3_readLaced_57 d fz t Q)))) ∧ (¬ (I a1 14) < (nI 12) → pm_Ev d 27 [.ref 1, .int (nI 2)] (pm_hp L fz t I J) (K_X3_readLaced_38 d fz t Q)))))) ∧ (¬ (I 1 5) = (nI 2) → pm_Ev d 27 [.ref 1, .int (nI 1)] (pm_hp L fz t I J) (K_X3_readLaced_13 d fz t Q)))) :
    pm_Ev (d + 1) 41 [.ref 1, .ref a1] (pm_hp L fz t I J) Q := pm_Ev_in rfl (b_X3_readLaced_0 ha1 h)
set_option maxRecDepth 100000 in
theorem b_X3_readLaced_38 {d L : Nat} {fz t : Bool} {Q : pm_R → pm_H → Prop} {I : Nat → Nat → Int32} {J : Nat → Nat → Int64}
    (h : t_X3_readLaced_87 d L fz t Q I J) :
    t_X3_readLaced_38 d L fz t Q I J := by
  exact pm_go d [(13, []), (38, []), (57, []), (87, [])] 400 h
theorem kb_X3_readLaced_38 {d L : Nat} {fz t : Bool} {Q : pm_R → pm_H → Prop} {fz1 : Bool} {I : Nat → Nat → Int32} {J : Nat → Nat → Int64}
    (h : t_X3_readLaced_87 d L fz t Q I J) :
    K_X3_readLaced_38 d fz t Q (.inl none) (pm_hp L fz1 t I J) := b_X3_readLaced_38 h
set_option maxRecDepth 100000 in
theorem b_X3_readLaced_87 {d L : Nat} {fz t : Bool} {Q : pm_R → pm_H → Prop} {I : Nat → Nat → Int32} {J : Nat → Nat → Int64}
    (h : Q (.inl none) (pm_hp L fz t I J)) :
    t_X3_readLaced_87 d L fz t Q I J := by
  exact pm_go d [(13, []), (38, []), (57, []), (87, [])] 400 h
theorem kb_X3_readLaced_87 {d L : Nat} {fz t : Bool} {Q : pm_R → pm_H → Prop} {fz1 : Bool} {I : Nat → Nat → Int32} {J : Nat → Nat → Int64}
    (h : Q (.inl none) (pm_hp L fz t I J)) :
    K_X3_readLaced_87 d fz t Q (.inl none) (pm_hp L fz1 t I J) := b_X3_readLaced_87 h
set_option maxRecDepth 100000 in
theorem b_X3_readLaced_57 {d L : Nat} {fz t : Bool} {Q : pm_R → pm_H → Prop} {I : Nat → Nat → Int32} {J : Nat → Nat → Int64}
    (h : t_X3_readLaced_87 d L fz t Q I J) :
    t_X3_readLaced_57 d L fz t Q I J := by
  exact pm_go d [(13, []), (38, []), (57, []), (87, [])] 400 h
theorem kb_X3_readLaced_57 {d L : Nat} {fz t : Bool} {Q : pm_R → pm_H → Prop} {fz1 : Bool} {I : Nat → Nat → Int32} {J : Nat → Nat → Int64}
    (h : t_X3_readLaced_87 d L fz t Q I J) :
    K_X3_readLaced_57 d fz t Q (.inl none) (pm_hp L fz1 t I J) := b_X3_readLaced_57 h
set_option maxRecDepth 100000 in
theorem b_X3_readLaced_13 {d L : Nat} {fz t : Bool} {Q : pm_R → pm_H → Prop} {I : Nat → Nat → Int32} {J : Nat → Nat → Int64}
    (h : t_X3_readLaced_87 d L fz t Q I J) :
    t_X3_readLaced_13 d L fz t Q I J := by
  exact pm_go d [(13, []), (38, []), (57, []), (87, [])] 400 h
theorem kb_X3_readLaced_13 {d L : Nat} {fz t : Bool} {Q : pm_R → pm_H → Prop} {fz1 : Bool} {I : Nat → Nat → Int32} {J : Nat → Nat → Int64}
    (h : t_X3_readLaced_87 d L fz t Q I J) :
    K_X3_readLaced_13 d fz t Q (.inl none) (pm_hp L fz1 t I J) := b_X3_readLaced_13 h
def t_X3_readFigure_0 (d L : Nat) (fz t : Bool) (Q : pm_R → pm_H → Prop) (a1 : Nat) (I : Nat → Nat → Int32) (J : Nat → Nat → Int64) : Prop := pm_T (pm_Ev d) 42 Q (0, [(0, .ref 1), (1, .ref a1)], [], pm_hp L fz t I J, 0, 0)
def t_X3_readFigure_20 (d L : Nat) (fz t : Bool) (Q : pm_R → pm_H → Prop) (a1 : Nat) (x2 : Int32) (I : Nat → Nat → Int32) (J : Nat → Nat → Int64) : Prop := pm_T (pm_Ev d) 42 Q (20, [(0, .ref 1), (1, .ref a1), (2, .int x2)], [], pm_hp L fz t I J, 0, 0)
def K_X3_readFigure_20 (d : Nat) (fz t : Bool) (Q : pm_R → pm_H → Prop) (a1 : Nat) (x2 : Int32) : pm_R → pm_H → Prop := pm_K d 42 Q 20 [(0, .ref 1), (1, .ref a1), (2, .int x2)] [] 118 0 fz 0 0
def t_X3_readFigure_15 (d L : Nat) (fz t : Bool) (Q : pm_R → pm_H → Prop) (I : Nat → Nat → Int32) (J : Nat → Nat → Int64) : Prop := pm_T (pm_Ev d) 42 Q (15, [], [], pm_hp L fz t I J, 0, 0)
def K_X3_readFigure_15 (d : Nat) (fz t : Bool) (Q : pm_R → pm_H → Prop) : pm_R → pm_H → Prop := pm_K d 42 Q 15 [] [] 118 0 fz 0 0
def t_X3_readFigure_32 (d L : Nat) (fz t : Bool) (Q : pm_R → pm_H → Prop) (a1 : Nat) (x2 : Int32) (s1 : Int32) (r : Int32) (I : Nat → Nat → Int32) (J : Nat → Nat → Int64) : Prop := pm_T (pm_Ev d) 42 Q (32, [(0, .ref 1), (1, .ref a1), (2, .int x2)], [.int r, .int s1, .ref (a1 + 5)], pm_hp L fz t I J, 0, 0)
def K_X3_readFigure_32 (d : Nat) (fz t : Bool) (Q : pm_R → pm_H → Prop) (a1 : Nat) (x2 : Int32) (s1 : Int32) : pm_R → pm_H → Prop := pm_K d 42 Q 32 [(0, .ref 1), (1, .ref a1), (2, .int x2)] [.int s1, .ref (a1 + 5)] 118 0 fz 0 0
def t_X3_readFigure_39 (d L : Nat) (fz t : Bool) (Q : pm_R → pm_H → Prop) (a1 : Nat) (x2 : Int32) (r : Int32) (I : Nat → Nat → Int32) (J : Nat → Nat → Int64) : Prop := pm_T (pm_Ev d) 42 Q (39, [(0, .ref 1), (1, .ref a1), (2, .int x2)], [.int r], pm_hp L fz t I J, 0, 0)
def K_X3_readFigure_39 (d : Nat) (fz t : Bool) (Q : pm_R → pm_H → Prop) (a1 : Nat) (x2 : Int32) : pm_R → pm_H → Prop := pm_K d 42 Q 39 [(0, .ref 1), (1, .ref a1), (2, .int x2)] [] 118 0 fz 0 0
def t_X3_readFigure_50 (d L : Nat) (fz t : Bool) (Q : pm_R → pm_H → Prop) (a1 : Nat) (x2 : Int32) (x3 : Int32) (x4 : Int32) (I : Nat → Nat → Int32) (J : Nat → Nat → Int64) : Prop := pm_T (pm_Ev d) 42 Q (50, [(0, .ref 1), (1, .ref a1), (2, .int x2), (3, .int x3), (4, .int x4)], [], pm_hp L fz t I J, 0, 0)
def t_X3_readFigure_96 (d L : Nat) (fz t : Bool) (Q : pm_R → pm_H → Prop) (a1 : Nat) (x2 : Int32) (x3 : Int32) (x4 : Int32) (s1 : Int32) (r : Int32) (I : Nat → Nat → Int32) (J : Nat → Nat → Int64) : Prop := pm_T (pm_Ev d) 42 Q (96, [(0, .ref 1), (1, .ref a1), (2, .int x2), (3, .int x3), (4, .int x4)], [.int r, .int s1, .ref (a1 + 8)], pm_hp L fz t I J, 0, 0)
def K_X3_readFigure_96 (d : Nat) (fz t : Bool) (Q : pm_R → pm_H → Prop) (a1 : Nat) (x2 : Int32) (x3 : Int32) (x4 : Int32) (s1 : Int32) : pm_R → pm_H → Prop := pm_K d 42 Q 96 [(0, .ref 1), (1, .ref a1), (2, .int x2), (3, .int x3), (4, .int x4)] [.int s1, .ref (a1 + 8)] 118 0 fz 0 0
set_option maxRecDepth 100000 in
theorem b_X3_readFigure_0 {d L : Nat} {fz t : Bool} {Q : pm_R → pm_H → Prop} {a1 : Nat} {I : Nat → Nat → Int32} {J : Nat → Nat → Int64} (ha1 : a1 = 55 ∨ a1 = 70)
    (h : (((I a1 15) < (nI 5) → pm_Ev d 28 [.ref 1] (pm_hp L fz t I J) (K_X3_readFigure_20 d fz t Q a1 (I a1 15))) ∧ (¬ (I a1 15) < (nI 5) → pm_Ev d 27 [.ref 1, .int (nI 2)] (pm_hp L fz t I J) (K_X3_readFigure_15 d fz t Q)))) :
    t_X3_readFigure_0 d L fz t Q a1 I J := by
  rcases ha1 with rfl | rfl <;> exact pm_go d [(15, []), (20, [0, 1, 2]), (32, [0, 1, 2]), (39, [0, 1, 2]), (50, [0, 1, 2, 3, 4]), (96, [0, 1, 2, 3, 4])] 400 ⟨fun q0 => ((h).1 q0), fun q0 => ((h).2 q0)⟩
theorem e_X3_readFigure {d L : Nat} {fz t : Bool} {Q : pm_R → pm_H → Prop} {a1 : Nat} {I : Nat → Nat → Int32} {J : Nat → Nat → Int64} (ha1 : a1 = 55 ∨ a1 = 70)
    (h : (((I a1 15) < (nI 5) → pm_Ev d 28 [.ref 1] (pm_hp L fz t I J) (K_X3_readFigure_20 d fz t Q a1 (I a1 15))) ∧ (¬ (I a1 15) < (nI 5) → pm_Ev d 27 [.ref 1, .int (nI 2)] (pm_hp L fz t I J) (K_X3_readFigure_15 d fz t Q)))) :
    pm_Ev (d + 1) 42 [.ref 1, .ref a1] (pm_hp L fz t I J) Q := pm_Ev_in rfl (b_X3_readFigure_0 ha1 h)
set_option maxRecDepth 100000 in
theorem b_X3_readFigure_20 {d L : Nat} {fz t : Bool} {Q : pm_R → pm_H → Prop} {a1 : Nat} {x2 : Int32} {I : Nat → Nat → Int32} {J : Nat → Nat → Int64} (ha1 : a1 = 55 ∨ a1 = 70)
    (h : pm_Ev d 36 [.ref 1, .int (nI 0), .int (nI 9)] (pm_hp L fz t I J) (K_X3_readFigure_32 d fz t Q a1 x2 x2)) :
    t_X3_readFigure_20 d L fz t Q a1 x2 I J := by
  rcases ha1 with rfl | rfl <;> exact pm_go d [(15, []), (20, [0, 1, 2]), (32, [0, 1, 2]), (39, [0, 1, 2]), (50, [0, 1, 2, 3, 4]), (96, [0, 1, 2, 3, 4])] 400 h
theorem kb_X3_readFigure_20 {d L : Nat} {fz t : Bool} {Q : pm_R → pm_H → Prop} {a1 : Nat} {x2 : Int32} {fz1 : Bool} {I : Nat → Nat → Int32} {J : Nat → Nat → Int64} (ha1 : a1 = 55 ∨ a1 = 70)
    (h : pm_Ev d 36 [.ref 1, .int (nI 0), .int (nI 9)] (pm_hp L fz t I J) (K_X3_readFigure_32 d fz t Q a1 x2 x2)) :
    K_X3_readFigure_20 d fz t Q a1 x2 (.inl none) (pm_hp L fz1 t I J) := b_X3_readFigure_20 ha1 h
set_option maxRecDepth 100000 in
theorem b_X3_readFigure_15 {d L : Nat} {fz t : Bool} {Q : pm_R → pm_H → Prop} {I : Nat → Nat → Int32} {J : Nat → Nat → Int64}
    (h : Q (.inl none) (pm_hp L fz t I J)) :
    t_X3_readFigure_15 d L fz t Q I J := by
  exact pm_go d [(15, []), (20, [0, 1, 2]), (32, [0, 1, 2]), (39, [0, 1, 2]), (50, [0, 1, 2, 3, 4]), (96, [0, 1, 2, 3, 4])] 400 h
theorem kb_X3_readFigure_15 {d L : Nat} {fz t : Bool} {Q : pm_R → pm_H → Prop} {fz1 : Bool} {I : Nat → Nat → Int32} {J : Nat → Nat → Int64}
    (h : Q (.inl none) (pm_hp L fz t I J)) :
    K_X3_readFigure_15 d fz t Q (.inl none) (pm_hp L fz1 t I J) := b_X3_readFigure_15 h
set_option maxRecDepth 100000 in
theorem b_X3_readFigure_32 {d L : Nat} {fz t : Bool} {Q : pm_R → pm_H → Prop} {a1 : Nat} {x2 : Int32} {s1 : Int32} {r : Int32} {I : Nat → Nat → Int32} {J : Nat → Nat → Int64} (ha1 : a1 = 55 ∨ a1 = 70)
    (h : (vp_in s1 5 ∧ pm_Ev d 36 [.ref 1, .int (nI 1), .int (nI 4)] (pm_hp L fz t (pm_u I (a1 + 5) (s1).toNatClampNeg r) J) (K_X3_readFigure_39 d fz t Q a1 x2))) :
    t_X3_readFigure_32 d L fz t Q a1 x2 s1 r I J := by
  rcases ha1 with rfl | rfl <;> exact pm_go d [(15, []), (20, [0, 1, 2]), (32, [0, 1, 2]), (39, [0, 1, 2]), (50, [0, 1, 2, 3, 4]), (96, [0, 1, 2, 3, 4])] 400 ⟨(h).1, (h).2⟩
theorem kb_X3_readFigure_32 {d L : Nat} {fz t : Bool} {Q : pm_R → pm_H → Prop} {a1 : Nat} {x2 : Int32} {s1 : Int32} {r : Int32} {fz1 : Bool} {I : Nat → Nat → Int32} {J : Nat → Nat → Int64} (ha1 : a1 = 55 ∨ a1 = 70)
    (h : (vp_in s1 5 ∧ pm_Ev d 36 [.ref 1, .int (nI 1), .int (nI 4)] (pm_hp L fz t (pm_u I (a1 + 5) (s1).toNatClampNeg r) J) (K_X3_readFigure_39 d fz t Q a1 x2))) :
    K_X3_readFigure_32 d fz t Q a1 x2 s1 (.inl (some (.int r))) (pm_hp L fz1 t I J) := b_X3_readFigure_32 ha1 h
set_option maxRecDepth 100000 in
theorem b_X3_readFigure_39 {d L : Nat} {fz t : Bool} {Q : pm_R → pm_H → Prop} {a1 : Nat} {x2 : Int32} {r : Int32} {I : Nat → Nat → Int32} {J : Nat → Nat → Int64} (ha1 : a1 = 55 ∨ a1 = 70)
    (h : (vp_in x2 5 ∧ t_X3_readFigure_50 d L fz t Q a1 x2 r (nI 0) (pm_u I (a1 + 6) (x2).toNatClampNeg r) J)) :
    t_X3_readFigure_39 d L fz t Q a1 x2 r I J := by
  rcases ha1 with rfl | rfl <;> exact pm_go d [(15, []), (20, [0, 1, 2]), (32, [0, 1, 2]), (39, [0, 1, 2]), (50, [0, 1, 2, 3, 4]), (96, [0, 1, 2, 3, 4])] 400 ⟨(h).1, (h).2⟩
theorem kb_X3_readFigure_39 {d L : Nat} {fz t : Bool} {Q : pm_R → pm_H → Prop} {a1 : Nat} {x2 : Int32} {r : Int32} {fz1 : Bool} {I : Nat → Nat → Int32} {J : Nat → Nat → Int64} (ha1 : a1 = 55 ∨ a1 = 70)
    (h : (vp_in x2 5 ∧ t_X3_readFigure_50 d L fz t Q a1 x2 r (nI 0) (pm_u I (a1 + 6) (x2).toNatClampNeg r) J)) :
    K_X3_readFigure_39 d fz t Q a1 x2 (.inl (some (.int r))) (pm_hp L fz1 t I J) := b_X3_readFigure_39 ha1 h
set_option maxRecDepth 100000 in
theorem b_X3_readFigure_50 {d L : Nat} {fz t : Bool} {Q : pm_R → pm_H → Prop} {a1 : Nat} {x2 : Int32} {x3 : Int32} {x4 : Int32} {I : Nat → Nat → Int32} {J : Nat → Nat → Int64} (ha1 : a1 = 55 ∨ a1 = 70)
    (h : (((nI 3) ≤ x4 → Q (.inl none) (pm_hp L fz t (pm_u I a1 15 ((I a1 15) + (nI 1))) J)) ∧ (¬ (nI 3) ≤ x4 → ((¬ (I 1 8) = (nI 0) → Q (.inl none) (pm_hp L fz t (pm_u I a1 15 ((I a1 15) + (nI 1))) J)) ∧ ((I 1 8) = (nI 0) → ((x4 = (nI 0) → pm_Ev d 36 [.ref 1, .int (nI 0), .int (((nI 1) <<< (x3 &&& 31)) - (nI 1))] (pm_hp L fz t I J) (K_X3_readFigure_96 d fz t Q a1 x2 x3 x4 ((x2 * (nI 3)) + x4))) ∧ (¬ x4 = (nI 0) → ((¬ (I 1 5) = (nI 2) → Q (.inl none) (pm_hp L fz t (pm_u I a1 15 ((I a1 15) + (nI 1))) J)) ∧ ((I 1 5) = (nI 2) → pm_Ev d 36 [.ref 1, .int (nI 0), .int (((nI 1) <<< (x3 &&& 31)) - (nI 1))] (pm_hp L fz t I J) (K_X3_readFigure_96 d fz t Q a1 x2 x3 x4 ((x2 * (nI 3)) + x4))))))))))) :
    t_X3_readFigure_50 d L fz t Q a1 x2 x3 x4 I J := by
  rcases ha1 with rfl | rfl <;> exact pm_go d [(15, []), (20, [0, 1, 2]), (32, [0, 1, 2]), (39, [0, 1, 2]), (50, [0, 1, 2, 3, 4]), (96, [0, 1, 2, 3, 4])] 400 ⟨fun q0 => ((h).1 q0), fun q0 => ⟨fun q1 => ((((h).2 q0)).1 q1), fun q1 => ⟨fun q2 => ((((((h).2 q0)).2 q1)).1 q2), fun q2 => ⟨fun q3 => ((((((((h).2 q0)).2 q1)).2 q2)).1 q3), fun q3 => ((((((((h).2 q0)).2 q1)).2 q2)).2 q3)⟩⟩⟩⟩
set_option maxRecDepth 100000 in
theorem b_X3_readFigure_96 {d L : Nat} {fz t : Bool} {Q : pm_R → pm_H → Prop} {a1 : Nat} {x2 : Int32} {x3 : Int32} {x4 : Int32} {s1 : Int32} {r : Int32} {I : Nat → Nat → Int32} {J : Nat → Nat → Int64} (ha1 : a1 = 55 ∨ a1 = 70)
    (h : (vp_in s1 15 ∧ (vp_in x2 5 ∧ t_X3_readFigure_50 d L fz t Q a1 x2 x3 (x4 + (nI 1)) (pm_u (pm_u I (a1 + 8) (s1).toNatClampNeg r) (a1 + 7) (x2).toNatClampNeg (x4 + (nI 1))) J))) :
    t_X3_readFigure_96 d L fz t Q a1 x2 x3 x4 s1 r I J := by
  rcases ha1 with rfl | rfl <;> exact pm_go d [(15, []), (20, [0, 1, 2]), (32, [0, 1, 2]), (39, [0, 1, 2]), (50, [0, 1, 2, 3, 4]), (96, [0, 1, 2, 3, 4])] 400 ⟨(h).1, ⟨((h).2).1, ((h).2).2⟩⟩
theorem kb_X3_readFigure_96 {d L : Nat} {fz t : Bool} {Q : pm_R → pm_H → Prop} {a1 : Nat} {x2 : Int32} {x3 : Int32} {x4 : Int32} {s1 : Int32} {r : Int32} {fz1 : Bool} {I : Nat → Nat → Int32} {J : Nat → Nat → Int64} (ha1 : a1 = 55 ∨ a1 = 70)
    (h : (vp_in s1 15 ∧ (vp_in x2 5 ∧ t_X3_readFigure_50 d L fz t Q a1 x2 x3 (x4 + (nI 1)) (pm_u (pm_u I (a1 + 8) (s1).toNatClampNeg r) (a1 + 7) (x2).toNatClampNeg (x4 + (nI 1))) J))) :
    K_X3_readFigure_96 d fz t Q a1 x2 x3 x4 s1 (.inl (some (.int r))) (pm_hp L fz1 t I J) := b_X3_readFigure_96 ha1 h
def t_X3_readRule_0 (d L : Nat) (fz t : Bool) (Q : pm_R → pm_H → Prop) (a1 : Nat) (x2 : Int32) (I : Nat → Nat → Int32) (J : Nat → Nat → Int64) : Prop := pm_T (pm_Ev d) 43 Q (0, [(0, .ref 1), (1, .ref a1), (2, .int x2)], [], pm_hp L fz t I J, 0, 0)
def t_X3_readRule_4 (d L : Nat) (fz t : Bool) (Q : pm_R → pm_H → Prop) (a1 : Nat) (x2 : Int32) (r : Int32) (I : Nat → Nat → Int32) (J : Nat → Nat → Int64) : Prop := pm_T (pm_Ev d) 43 Q (4, [(0, .ref 1), (1, .ref a1), (2, .int x2)], [.int r], pm_hp L fz t I J, 0, 0)
def K_X3_readRule_4 (d : Nat) (fz t : Bool) (Q : pm_R → pm_H → Prop) (a1 : Nat) (x2 : Int32) : pm_R → pm_H → Prop := pm_K d 43 Q 4 [(0, .ref 1), (1, .ref a1), (2, .int x2)] [] 118 0 fz 0 0
def t_X3_readRule_17 (d L : Nat) (fz t : Bool) (Q : pm_R → pm_H → Prop) (a1 : Nat) (x2 : Int32) (I : Nat → Nat → Int32) (J : Nat → Nat → Int64) : Prop := pm_T (pm_Ev d) 43 Q (17, [(0, .ref 1), (1, .ref a1), (2, .int x2)], [], pm_hp L fz t I J, 0, 0)
def K_X3_readRule_17 (d : Nat) (fz t : Bool) (Q : pm_R → pm_H → Prop) (a1 : Nat) (x2 : Int32) : pm_R → pm_H → Prop := pm_K d 43 Q 17 [(0, .ref 1), (1, .ref a1), (2, .int x2)] [] 118 0 fz 0 0
def t_X3_readRule_12 (d L : Nat) (fz t : Bool) (Q : pm_R → pm_H → Prop) (I : Nat → Nat → Int32) (J : Nat → Nat → Int64) : Prop := pm_T (pm_Ev d) 43 Q (12, [], [], pm_hp L fz t I J, 0, 0)
def K_X3_readRule_12 (d : Nat) (fz t : Bool) (Q : pm_R → pm_H → Prop) : pm_R → pm_H → Prop := pm_K d 43 Q 12 [] [] 118 0 fz 0 0
def t_X3_readRule_24 (d L : Nat) (fz t : Bool) (Q : pm_R → pm_H → Prop) (I : Nat → Nat → Int32) (J : Nat → Nat → Int64) : Prop := pm_T (pm_Ev d) 43 Q (24, [], [], pm_hp L fz t I J, 0, 0)
def K_X3_readRule_24 (d : Nat) (fz t : Bool) (Q : pm_R → pm_H → Prop) : pm_R → pm_H → Prop := pm_K d 43 Q 24 [] [] 118 0 fz 0 0
set_option maxRecDepth 100000 in
theorem b_X3_readRule_0 {d L : Nat} {fz t : Bool} {Q : pm_R → pm_H → Prop} {a1 : Nat} {x2 : Int32} {I : Nat → Nat → Int32} {J : Nat → Nat → Int64} (ha1 : a1 = 64 ∨ a1 = 67 ∨ a1 = 79 ∨ a1 = 82)
    (h : pm_Ev d 5 [.ref a1] (pm_hp L fz t I J) (K_X3_readRule_4 d fz t Q a1 x2)) :
    t_X3_readRule_0 d L fz t Q a1 x2 I J := by
  rcases ha1 with rfl | rfl | rfl | rfl <;> exact pm_go d [(4, [0, 1, 2]), (12, []), (17, [0, 1, 2]), (24, [])] 400 h
theorem e_X3_readRule {d L : Nat} {fz t : Bool} {Q : pm_R → pm_H → Prop} {a1 : Nat} {x2 : Int32} {I : Nat → Nat → Int32} {J : Nat → Nat → Int64} (ha1 : a1 = 64 ∨ a1 = 67 ∨ a1 = 79 ∨ a1 = 82)
    (h : pm_Ev d 5 [.ref a1] (pm_hp L fz t I J) (K_X3_readRule_4 d fz t Q a1 x2)) :
    pm_Ev (d + 1) 43 [.ref 1, .ref a1, .int x2] (pm_hp L fz t I J) Q := pm_Ev_in rfl (b_X3_readRule_0 ha1 h)
set_option maxRecDepth 100000 in
theorem b_X3_readRule_4 {d L : Nat} {fz t : Bool} {Q : pm_R → pm_H → Prop} {a1 : Nat} {x2 : Int32} {r : Int32} {I : Nat → Nat → Int32} {J : Nat → Nat → Int64} (ha1 : a1 = 64 ∨ a1 = 67 ∨ a1 = 79 ∨ a1 = 82)
    (h : ((r = (nI 0) → pm_Ev d 28 [.ref 1] (pm_hp L fz t I J) (K_X3_readRule_17 d fz t Q a1 x2)) ∧ (¬ r = (nI 0) → pm_Ev d 27 [.ref 1, .int (nI 5)] (pm_hp L fz t I J) (K_X3_readRule_12 d fz t Q)))) :
    t_X3_readRule_4 d L fz t Q a1 x2 r I J := by
  rcases ha1 with rfl | rfl | rfl | rfl <;> exact pm_go d [(4, [0, 1, 2]), (12, []), (17, [0, 1, 2]), (24, [])] 400 ⟨fun q0 => ((h).1 q0), fun q0 => ((h).2 q0)⟩
theorem kb_X3_readRule_4 {d L : Nat} {fz t : Bool} {Q : pm_R → pm_H → Prop} {a1 : Nat} {x2 : Int32} {r : Int32} {fz1 : Bool} {I : Nat → Nat → Int32} {J : Nat → Nat → Int64} (ha1 : a1 = 64 ∨ a1 = 67 ∨ a1 = 79 ∨ a1 = 82)
    (h : ((r = (nI 0) → pm_Ev d 28 [.ref 1] (pm_hp L fz t I J) (K_X3_readRule_17 d fz t Q a1 x2)) ∧ (¬ r = (nI 0) → pm_Ev d 27 [.ref 1, .int (nI 5)] (pm_hp L fz t I J) (K_X3_readRule_12 d fz t Q)))) :
    K_X3_readRule_4 d fz t Q a1 x2 (.inl (some (.int r))) (pm_hp L fz1 t I J) := b_X3_readRule_4 ha1 h
set_option maxRecDepth 100000 in
theorem b_X3_readRule_17 {d L : Nat} {fz t : Bool} {Q : pm_R → pm_H → Prop} {a1 : Nat} {x2 : Int32} {I : Nat → Nat → Int32} {J : Nat → Nat → Int64} (ha1 : a1 = 64 ∨ a1 = 67 ∨ a1 = 79 ∨ a1 = 82)
    (h : pm_Ev d 44 [.ref 1, .ref a1, .int x2, .int (nI 0)] (pm_hp L fz t I J) (K_X3_readRule_24 d fz t Q)) :
    t_X3_readRule_17 d L fz t Q a1 x2 I J := by
  rcases ha1 with rfl | rfl | rfl | rfl <;> exact pm_go d [(4, [0, 1, 2]), (12, []), (17, [0, 1, 2]), (24, [])] 400 h
theorem kb_X3_readRule_17 {d L : Nat} {fz t : Bool} {Q : pm_R → pm_H → Prop} {a1 : Nat} {x2 : Int32} {fz1 : Bool} {I : Nat → Nat → Int32} {J : Nat → Nat → Int64} (ha1 : a1 = 64 ∨ a1 = 67 ∨ a1 = 79 ∨ a1 = 82)
    (h : pm_Ev d 44 [.ref 1, .ref a1, .int x2, .int (nI 0)] (pm_hp L fz t I J) (K_X3_readRule_24 d fz t Q)) :
    K_X3_readRule_17 d fz t Q a1 x2 (.inl none) (pm_hp L fz1 t I J) := b_X3_readRule_17 ha1 h
set_option maxRecDepth 100000 in
theorem b_X3_readRule_12 {d L : Nat} {fz t : Bool} {Q : pm_R → pm_H → Prop} {I : Nat → Nat → Int32} {J : Nat → Nat → Int64}
    (h : Q (.inl none) (pm_hp L fz t I J)) :
    t_X3_readRule_12 d L fz t Q I J := by
  exact pm_go d [(4, [0, 1, 2]), (12, []), (17, [0, 1, 2]), (24, [])] 400 h
theorem kb_X3_readRule_12 {d L : Nat} {fz t : Bool} {Q : pm_R → pm_H → Prop} {fz1 : Bool} {I : Nat → Nat → Int32} {J : Nat → Nat → Int64}
    (h : Q (.inl none) (pm_hp L fz t I J)) :
    K_X3_readRule_12 d fz t Q (.inl none) (pm_hp L fz1 t I J) := b_X3_readRule_12 h
set_option maxRecDepth 100000 in
theorem b_X3_readRule_24 {d L : Nat} {fz t : Bool} {Q : pm_R → pm_H → Prop} {I : Nat → Nat → Int32} {J : Nat → Nat → Int64}
    (h : Q (.inl none) (pm_hp L fz t I J)) :
    t_X3_readRule_24 d L fz t Q I J := by
  exact pm_go d [(4, [0, 1, 2]), (12, []), (17, [0, 1, 2]), (24, [])] 400 h
theorem kb_X3_readRule_24 {d L : Nat} {fz t : Bool} {Q : pm_R → pm_H → Prop} {fz1 : Bool} {I : Nat → Nat → Int32} {J : Nat → Nat → Int64}
    (h : Q (.inl none) (pm_hp L fz t I J)) :
    K_X3_readRule_24 d fz t Q (.inl none) (pm_hp L fz1 t I J) := b_X3_readRule_24 h
def t_X3_readExpr_0 (d L : Nat) (fz t : Bool) (Q : pm_R → pm_H → Prop) (a1 : Nat) (x2 : Int32) (x3 : Int32) (I : Nat → Nat → Int32) (J : Nat → Nat → Int64) : Prop := pm_T (pm_Ev d) 44 Q (0, [(0, .ref 1), (1, .ref a1), (2, .int x2), (3, .int x3)], [], pm_hp L fz t I J, 0, 0)
def t_X3_readExpr_44 (d L : Nat) (fz t : Bool) (Q : pm_R → pm_H → Prop) (a1 : Nat) (x2 : Int32) (x3 : Int32) (I : Nat → Nat → Int32) (J : Nat → Nat → Int64) : Prop := pm_T (pm_Ev d) 44 Q (44, [(0, .ref 1), (1, .ref a1), (2, .int x2), (3, .int x3)], [], pm_hp L fz t I J, 0, 0)
def K_X3_readExpr_44 (d : Nat) (fz t : Bool) (Q : pm_R → pm_H → Prop) (a1 : Nat) (x2 : Int32) (x3 : Int32) : pm_R → pm_H → Prop := pm_K d 44 Q 44 [(0, .ref 1), (1, .ref a1), (2, .int x2), (3, .int x3)] [] 118 0 fz 0 0
def t_X3_readExpr_36 (d L : Nat) (fz t : Bool) (Q : pm_R → pm_H → Prop) (I : Nat → Nat → Int32) (J : Nat → Nat → Int64) : Prop := pm_T (pm_Ev d) 44 Q (36, [], [], pm_hp L fz t I J, 0, 0)
def K_X3_readExpr_36 (d : Nat) (fz t : Bool) (Q : pm_R → pm_H → Prop) : pm_R → pm_H → Prop := pm_K d 44 Q 36 [] [] 118 0 fz 0 0
def t_X3_readExpr_28 (d L : Nat) (fz t : Bool) (Q : pm_R → pm_H → Prop) (a1 : Nat) (x2 : Int32) (x3 : Int32) (r : Int32) (I : Nat → Nat → Int32) (J : Nat → Nat → Int64) : Prop := pm_T (pm_Ev d) 44 Q (28, [(0, .ref 1), (1, .ref a1), (2, .int x2), (3, .int x3)], [.int r], pm_hp L fz t I J, 0, 0)
def K_X3_readExpr_28 (d : Nat) (fz t : Bool) (Q : pm_R → pm_H → Prop) (a1 : Nat) (x2 : Int32) (x3 : Int32) : pm_R → pm_H → Prop := pm_K d 44 Q 28 [(0, .ref 1), (1, .ref a1), (2, .int x2), (3, .int x3)] [] 118 0 fz 0 0
def t_X3_readExpr_47 (d L : Nat) (fz t : Bool) (Q : pm_R → pm_H → Prop) (a1 : Nat) (x2 : Int32) (x3 : Int32) (x4 : Int32) (I : Nat → Nat → Int32) (J : Nat → Nat → Int64) : Prop := pm_T (pm_Ev d) 44 Q (47, [(0, .ref 1), (1, .ref a1), (2, .int x2), (3, .int x3), (4, .int x4)], [], pm_hp L fz t I J, 0, 0)
def t_X3_readExpr_68 (d L : Nat) (fz t : Bool) (Q : pm_R → pm_H → Prop) (a1 : Nat) (x2 : Int32) (x3 : Int32) (x4 : Int32) (r : Int32) (I : Nat → Nat → Int32) (J : Nat → Nat → Int64) : Prop := pm_T (pm_Ev d) 44 Q (68, [(0, .ref 1), (1, .ref a1), (2, .int x2), (3, .int x3), (4, .int x4)], [.int r], pm_hp L fz t I J, 0, 0)
def K_X3_readExpr_68 (d : Nat) (fz t : Bool) (Q : pm_R → pm_H → Prop) (a1 : Nat) (x2 : Int32) (x3 : Int32) (x4 : Int32) : pm_R → pm_H → Prop := pm_K d 44 Q 68 [(0, .ref 1), (1, .ref a1), (2, .int x2), (3, .int x3), (4, .int x4)] [] 118 0 fz 0 0
def t_X3_readExpr_75 (d L : Nat) (fz t : Bool) (Q : pm_R → pm_H → Prop) (a1 : Nat) (x2 : Int32) (x3 : Int32) (x4 : Int32) (I : Nat → Nat → Int32) (J : Nat → Nat → Int64) : Prop := pm_T (pm_Ev d) 44 Q (75, [(0, .ref 1), (1, .ref a1), (2, .int x2), (3, .int x3), (4, .int x4)], [], pm_hp L fz t I J, 0, 0)
def K_X3_readExpr_75 (d : Nat) (fz t : Bool) (Q : pm_R → pm_H → Prop) (a1 : Nat) (x2 : Int32) (x3 : Int32) (x4 : Int32) : pm_R → pm_H → Prop := pm_K d 44 Q 75 [(0, .ref 1), (1, .ref a1), (2, .int x2), (3, .int x3), (4, .int x4)] [] 118 0 fz 0 0
def t_X3_readExpr_82 (d L : Nat) (fz t : Bool) (Q : pm_R → pm_H → Prop) (a1 : Nat) (x2 : Int32) (x3 : Int32) (x4 : Int32) (I : Nat → Nat → Int32) (J : Nat → Nat → Int64) : Prop := pm_T (pm_Ev d) 44 Q (82, [(0, .ref 1), (1, .ref a1), (2, .int x2), (3, .int x3), (4, .int x4)], [], pm_hp L fz t I J, 0, 0)
def K_X3_readExpr_82 (d : Nat) (fz t : Bool) (Q : pm_R → pm_H → Prop) (a1 : Nat) (x2 : Int32) (x3 : Int32) (x4 : Int32) : pm_R → pm_H → Prop := pm_K d 44 Q 82 [(0, .ref 1), (1, .ref a1), (2, .int x2), (3, .int x3), (4, .int x4)] [] 118 0 fz 0 0
def t_X3_readExpr_87 (d L : Nat) (fz t : Bool) (Q : pm_R → pm_H → Prop) (a1 : Nat) (x2 : Int32) (x3 : Int32) (x4 : Int32) (I : Nat → Nat → Int32) (J : Nat → Nat → Int64) : Prop := pm_T (pm_Ev d) 44 Q (87, [(0, .ref 1), (1, .ref a1), (2, .int x2), (3, .int x3), (4, .int x4)], [], pm_hp L fz t I J, 0, 0)
def K_X3_readExpr_87 (d : Nat) (fz t : Bool) (Q : pm_R → pm_H → Prop) (a1 : Nat) (x2 : Int32) (x3 : Int32) (x4 : Int32) : pm_R → pm_H → Prop := pm_K d 44 Q 87 [(0, .ref 1), (1, .ref a1), (2, .int x2), (3, .int x3), (4, .int x4)] [] 118 0 fz 0 0
set_option maxRecDepth 100000 in
theorem b_X3_readExpr_0 {d L : Nat} {fz t : Bool} {Q : pm_R → pm_H → Prop} {a1 : Nat} {x2 : Int32} {x3 : Int32} {I : Nat → Nat → Int32} {J : Nat → Nat → Int64} (ha1 : a1 = 64 ∨ a1 = 67 ∨ a1 = 79 ∨ a1 = 82)
    (h : ((x3 < (nI 6) → pm_Ev d 45 [.ref 1, .ref a1, .int x2, .int x3] (pm_hp L fz t I J) (K_X3_readExpr_44 d fz t Q a1 x2 x3)) ∧ (¬ x3 < (nI 6) → (((I 1 5) = (nI 2) → pm_Ev d 27 [.ref 1, .int (nI 2)] (pm_hp L fz t I J) (K_X3_readExpr_36 d fz t Q)) ∧ (¬ (I 1 5) = (nI 2) → (((I 1 5) = (nI 1) → pm_Ev d 27 [.ref 1, .int (nI 2)] (pm_hp L fz t I J) (K_X3_readExpr_36 d fz t Q)) ∧ (¬ (I 1 5) = (nI 1) → pm_Ev d 33 [.ref 1, .int (nI 40)] (pm_hp L fz t I J) (K_X3_readExpr_28 d fz t Q a1 x2 x3)))))))) :
    t_X3_readExpr_0 d L fz t Q a1 x2 x3 I J := by
  rcases ha1 with rfl | rfl | rfl | rfl <;> exact pm_go d [(28, [0, 1, 2, 3]), (36, []), (44, [0, 1, 2, 3]), (47, [0, 1, 2, 3, 4]), (68, [0, 1, 2, 3, 4]), (75, [0, 1, 2, 3, 4]), (82, [0, 1, 2, 3, 4]), (87, [0, 1, 2, 3, 4])] 400 ⟨fun q0 => ((h).1 q0), fun q0 => ⟨fun q1 => ((((h).2 q0)).1 q1), fun q1 => ⟨fun q2 => ((((((h).2 q0)).2 q1)).1 q2), fun q2 => ((((((h).2 q0)).2 q1)).2 q2)⟩⟩⟩
theorem e_X3_readExpr {d L : Nat} {fz t : Bool} {Q : pm_R → pm_H → Prop} {a1 : Nat} {x2 : Int32} {x3 : Int32} {I : Nat → Nat → Int32} {J : Nat → Nat → Int64} (ha1 : a1 = 64 ∨ a1 = 67 ∨ a1 = 79 ∨ a1 = 82)
    (h : ((x3 < (nI 6) → pm_Ev d 45 [.ref 1, .ref a1, .int x2, .int x3] (pm_hp L fz t I J) (K_X3_readExpr_44 d fz t Q a1 x2 x3)) ∧ (¬ x3 < (nI 6) → (((I 1 5) = (nI 2) → pm_Ev d 27 [.ref 1, .int (nI 2)] (pm_hp L fz t I J) (K_X3_readExpr_36 d fz t Q)) ∧ (¬ (I 1 5) = (nI 2) → (((I 1 5) = (nI 1) → pm_Ev d 27 [.ref 1, .int (nI 2)] (pm_hp L fz t I J) (K_X3_readExpr_36 d fz t Q)) ∧ (¬ (I 1 5) = (nI 1) → pm_Ev d 33 [.ref 1, .int (nI 40)] (pm_hp L fz t I J) (K_X3_readExpr_28 d fz t Q a1 x2 x3)))))))) :
    pm_Ev (d + 1) 44 [.ref 1, .ref a1, .int x2, .int x3] (pm_hp L fz t I J) Q := pm_Ev_in rfl (b_X3_readExpr_0 ha1 h)
set_option maxRecDepth 100000 in
theorem b_X3_readExpr_44 {d L : Nat} {fz t : Bool} {Q : pm_R → pm_H → Prop} {a1 : Nat} {x2 : Int32} {x3 : Int32} {I : Nat → Nat → Int32} {J : Nat → Nat → Int64} (ha1 : a1 = 64 ∨ a1 = 67 ∨ a1 = 79 ∨ a1 = 82)
    (h : t_X3_readExpr_47 d L fz t Q a1 x2 x3 (nI 0) I J) :
    t_X3_readExpr_44 d L fz t Q a1 x2 x3 I J := by
  rcases ha1 with rfl | rfl | rfl | rfl <;> exact pm_go d [(28, [0, 1, 2, 3]), (36, []), (44, [0, 1, 2, 3]), (47, [0, 1, 2, 3, 4]), (68, [0, 1, 2, 3, 4]), (75, [0, 1, 2, 3, 4]), (82, [0, 1, 2, 3, 4]), (87, [0, 1, 2, 3, 4])] 400 h
theorem kb_X3_readExpr_44 {d L : Nat} {fz t : Bool} {Q : pm_R → pm_H → Prop} {a1 : Nat} {x2 : Int32} {x3 : Int32} {fz1 : Bool} {I : Nat → Nat → Int32} {J : Nat → Nat → Int64} (ha1 : a1 = 64 ∨ a1 = 67 ∨ a1 = 79 ∨ a1 = 82)
    (h : t_X3_readExpr_47 d L fz t Q a1 x2 x3 (nI 0) I J) :
    K_X3_readExpr_44 d fz t Q a1 x2 x3 (.inl none) (pm_hp L fz1 t I J) := b_X3_readExpr_44 ha1 h
set_option maxRecDepth 100000 in
theorem b_X3_readExpr_36 {d L : Nat} {fz t : Bool} {Q : pm_R → pm_H → Prop} {I : Nat → Nat → Int32} {J : Nat → Nat → Int64}
    (h : Q (.inl none) (pm_hp L fz t I J)) :
    t_X3_readExpr_36 d L fz t Q I J := by
  exact pm_go d [(28, [0, 1, 2, 3]), (36, []), (44, [0, 1, 2, 3]), (47, [0, 1, 2, 3, 4]), (68, [0, 1, 2, 3, 4]), (75, [0, 1, 2, 3, 4]), (82, [0, 1, 2, 3, 4]), (87, [0, 1, 2, 3, 4])] 400 h
theorem kb_X3_readExpr_36 {d L : Nat} {fz t : Bool} {Q : pm_R → pm_H → Prop} {fz1 : Bool} {I : Nat → Nat → Int32} {J : Nat → Nat → Int64}
    (h : Q (.inl none) (pm_hp L fz t I J)) :
    K_X3_readExpr_36 d fz t Q (.inl none) (pm_hp L fz1 t I J) := b_X3_readExpr_36 h
set_option maxRecDepth 100000 in
theorem b_X3_readExpr_28 {d L : Nat} {fz t : Bool} {Q : pm_R → pm_H → Prop} {a1 : Nat} {x2 : Int32} {x3 : Int32} {r : Int32} {I : Nat → Nat → Int32} {J : Nat → Nat → Int64} (ha1 : a1 = 64 ∨ a1 = 67 ∨ a1 = 79 ∨ a1 = 82)
    (h : ((r = (nI 0) → pm_Ev d 45 [.ref 1, .ref a1, .int x2, .int x3] (pm_hp L fz t I J) (K_X3_readExpr_44 d fz t Q a1 x2 x3)) ∧ (¬ r = (nI 0) → pm_Ev d 27 [.ref 1, .int (nI 2)] (pm_hp L fz t I J) (K_X3_readExpr_36 d fz t Q)))) :
    t_X3_readExpr_28 d L fz t Q a1 x2 x3 r I J := by
  rcases ha1 with rfl | rfl | rfl | rfl <;> exact pm_go d [(28, [0, 1, 2, 3]), (36, []), (44, [0, 1, 2, 3]), (47, [0, 1, 2, 3, 4]), (68, [0, 1, 2, 3, 4]), (75, [0, 1, 2, 3, 4]), (82, [0, 1, 2, 3, 4]), (87, [0, 1, 2, 3, 4])] 400 ⟨fun q0 => ((h).1 q0), fun q0 => ((h).2 q0)⟩
theorem kb_X3_readExpr_28 {d L : Nat} {fz t : Bool} {Q : pm_R → pm_H → Prop} {a1 : Nat} {x2 : Int32} {x3 : Int32} {r : Int32} {fz1 : Bool} {I : Nat → Nat → Int32} {J : Nat → Nat → Int64} (ha1 : a1 = 64 ∨ a1 = 67 ∨ a1 = 79 ∨ a1 = 82)
    (h : ((r = (nI 0) → pm_Ev d 45 [.ref 1, .ref a1, .int x2, .int x3] (pm_hp L fz t I J) (K_X3_readExpr_44 d fz t Q a1 x2 x3)) ∧ (¬ r = (nI 0) → pm_Ev d 27 [.ref 1, .int (nI 2)] (pm_hp L fz t I J) (K_X3_readExpr_36 d fz t Q)))) :
    K_X3_readExpr_28 d fz t Q a1 x2 x3 (.inl (some (.int r))) (pm_hp L fz1 t I J) := b_X3_readExpr_28 ha1 h
set_option maxRecDepth 100000 in
theorem b_X3_readExpr_47 {d L : Nat} {fz t : Bool} {Q : pm_R → pm_H → Prop} {a1 : Nat} {x2 : Int32} {x3 : Int32} {x4 : Int32} {I : Nat → Nat → Int32} {J : Nat → Nat → Int64} (ha1 : a1 = 64 ∨ a1 = 67 ∨ a1 = 79 ∨ a1 = 82)
    (h : (((nI 700) ≤ x4 → Q (.inl none) (pm_hp L fz t I J)) ∧ (¬ (nI 700) ≤ x4 → ((¬ (I 1 8) = (nI 0) → Q (.inl none) (pm_hp L fz t I J)) ∧ ((I 1 8) = (nI 0) → pm_Ev d 34 [.ref 1, .ref 1000020] (pm_hp L fz t I J) (K_X3_readExpr_68 d fz t Q a1 x2 x3 x4)))))) :
    t_X3_readExpr_47 d L fz t Q a1 x2 x3 x4 I J := by
  rcases ha1 with rfl | rfl | rfl | rfl <;> exact pm_go d [(28, [0, 1, 2, 3]), (36, []), (44, [0, 1, 2, 3]), (47, [0, 1, 2, 3, 4]), (68, [0, 1, 2, 3, 4]), (75, [0, 1, 2, 3, 4]), (82, [0, 1, 2, 3, 4]), (87, [0, 1, 2, 3, 4])] 400 ⟨fun q0 => ((h).1 q0), fun q0 => ⟨fun q1 => ((((h).2 q0)).1 q1), fun q1 => ((((h).2 q0)).2 q1)⟩⟩
set_option maxRecDepth 100000 in
theorem b_X3_readExpr_68 {d L : Nat} {fz t : Bool} {Q : pm_R → pm_H → Prop} {a1 : Nat} {x2 : Int32} {x3 : Int32} {x4 : Int32} {r : Int32} {I : Nat → Nat → Int32} {J : Nat → Nat → Int64} (ha1 : a1 = 64 ∨ a1 = 67 ∨ a1 = 79 ∨ a1 = 82)
    (h : ((r = (nI 0) → Q (.inl none) (pm_hp L fz t I J)) ∧ (¬ r = (nI 0) → pm_Ev d 28 [.ref 1] (pm_hp L fz t I J) (K_X3_readExpr_75 d fz t Q a1 x2 x3 x4)))) :
    t_X3_readExpr_68 d L fz t Q a1 x2 x3 x4 r I J := by
  rcases ha1 with rfl | rfl | rfl | rfl <;> exact pm_go d [(28, [0, 1, 2, 3]), (36, []), (44, [0, 1, 2, 3]), (47, [0, 1, 2, 3, 4]), (68, [0, 1, 2, 3, 4]), (75, [0, 1, 2, 3, 4]), (82, [0, 1, 2, 3, 4]), (87, [0, 1, 2, 3, 4])] 400 ⟨fun q0 => ((h).1 q0), fun q0 => ((h).2 q0)⟩
theorem kb_X3_readExpr_68 {d L : Nat} {fz t : Bool} {Q : pm_R → pm_H → Prop} {a1 : Nat} {x2 : Int32} {x3 : Int32} {x4 : Int32} {r : Int32} {fz1 : Bool} {I : Nat → Nat → Int32} {J : Nat → Nat → Int64} (ha1 : a1 = 64 ∨ a1 = 67 ∨ a1 = 79 ∨ a1 = 82)
    (h : ((r = (nI 0) → Q (.inl none) (pm_hp L fz t I J)) ∧ (¬ r = (nI 0) → pm_Ev d 28 [.ref 1] (pm_hp L fz t I J) (K_X3_readExpr_75 d fz t Q a1 x2 x3 x4)))) :
    K_X3_readExpr_68 d fz t Q a1 x2 x3 x4 (.inl (some (.int r))) (pm_hp L fz1 t I J) := b_X3_readExpr_68 ha1 h
set_option maxRecDepth 100000 in
theorem b_X3_readExpr_75 {d L : Nat} {fz t : Bool} {Q : pm_R → pm_H → Prop} {a1 : Nat} {x2 : Int32} {x3 : Int32} {x4 : Int32} {I : Nat → Nat → Int32} {J : Nat → Nat → Int64} (ha1 : a1 = 64 ∨ a1 = 67 ∨ a1 = 79 ∨ a1 = 82)
    (h : pm_Ev d 45 [.ref 1, .ref a1, .int x2, .int x3] (pm_hp L fz t I J) (K_X3_readExpr_82 d fz t Q a1 x2 x3 x4)) :
    t_X3_readExpr_75 d L fz t Q a1 x2 x3 x4 I J := by
  rcases ha1 with rfl | rfl | rfl | rfl <;> exact pm_go d [(28, [0, 1, 2, 3]), (36, []), (44, [0, 1, 2, 3]), (47, [0, 1, 2, 3, 4]), (68, [0, 1, 2, 3, 4]), (75, [0, 1, 2, 3, 4]), (82, [0, 1, 2, 3, 4]), (87, [0, 1, 2, 3, 4])] 400 h
theorem kb_X3_readExpr_75 {d L : Nat} {fz t : Bool} {Q : pm_R → pm_H → Prop} {a1 : Nat} {x2 : Int32} {x3 : Int32} {x4 : Int32} {fz1 : Bool} {I : Nat → Nat → Int32} {J : Nat → Nat → Int64} (ha1 : a1 = 64 ∨ a1 = 67 ∨ a1 = 79 ∨ a1 = 82)
    (h : pm_Ev d 45 [.ref 1, .ref a1, .int x2, .int x3] (pm_hp L fz t I J) (K_X3_readExpr_82 d fz t Q a1 x2 x3 x4)) :
    K_X3_readExpr_75 d fz t Q a1 x2 x3 x4 (.inl none) (pm_hp L fz1 t I J) := b_X3_readExpr_75 ha1 h
set_option maxRecDepth 100000 in
theorem b_X3_readExpr_82 {d L : Nat} {fz t : Bool} {Q : pm_R → pm_H → Prop} {a1 : Nat} {x2 : Int32} {x3 : Int32} {x4 : Int32} {I : Nat → Nat → Int32} {J : Nat → Nat → Int64} (ha1 : a1 = 64 ∨ a1 = 67 ∨ a1 = 79 ∨ a1 = 82)
    (h : pm_Ev d 7 [.ref a1, .int (nI 1)] (pm_hp L fz t I J) (K_X3_readExpr_87 d fz t Q a1 x2 x3 x4)) :
    t_X3_readExpr_82 d L fz t Q a1 x2 x3 x4 I J := by
  rcases ha1 with rfl | rfl | rfl | rfl <;> exact pm_go d [(28, [0, 1, 2, 3]), (36, []), (44, [0, 1, 2, 3]), (47, [0, 1, 2, 3, 4]), (68, [0, 1, 2, 3, 4]), (75, [0, 1, 2, 3, 4]), (82, [0, 1, 2, 3, 4]), (87, [0, 1, 2, 3, 4])] 400 h
theorem kb_X3_readExpr_82 {d L : Nat} {fz t : Bool} {Q : pm_R → pm_H → Prop} {a1 : Nat} {x2 : Int32} {x3 : Int32} {x4 : Int32} {fz1 : Bool} {I : Nat → Nat → Int32} {J : Nat → Nat → Int64} (ha1 : a1 = 64 ∨ a1 = 67 ∨ a1 = 79 ∨ a1 = 82)
    (h : pm_Ev d 7 [.ref a1, .int (nI 1)] (pm_hp L fz t I J) (K_X3_readExpr_87 d fz t Q a1 x2 x3 x4)) :
    K_X3_readExpr_82 d fz t Q a1 x2 x3 x4 (.inl none) (pm_hp L fz1 t I J) := b_X3_readExpr_82 ha1 h
set_option maxRecDepth 100000 in
theorem b_X3_readExpr_87 {d L : Nat} {fz t : Bool} {Q : pm_R → pm_H → Prop} {a1 : Nat} {x2 : Int32} {x3 : Int32} {x4 : Int32} {I : Nat → Nat → Int32} {J : Nat → Nat → Int64} (ha1 : a1 = 64 ∨ a1 = 67 ∨ a1 = 79 ∨ a1 = 82)
    (h : t_X3_readExpr_47 d L fz t Q a1 x2 x3 (x4 + (nI 1)) I J) :
    t_X3_readExpr_87 d L fz t Q a1 x2 x3 x4 I J := by
  rcases ha1 with rfl | rfl | rfl | rfl <;> exact pm_go d [(28, [0, 1, 2, 3]), (36, []), (44, [0, 1, 2, 3]), (47, [0, 1, 2, 3, 4]), (68, [0, 1, 2, 3, 4]), (75, [0, 1, 2, 3, 4]), (82, [0, 1, 2, 3, 4]), (87, [0, 1, 2, 3, 4])] 400 h
theorem kb_X3_readExpr_87 {d L : Nat} {fz t : Bool} {Q : pm_R → pm_H → Prop} {a1 : Nat} {x2 : Int32} {x3 : Int32} {x4 : Int32} {fz1 : Bool} {I : Nat → Nat → Int32} {J : Nat → Nat → Int64} (ha1 : a1 = 64 ∨ a1 = 67 ∨ a1 = 79 ∨ a1 = 82)
    (h : t_X3_readExpr_47 d L fz t Q a1 x2 x3 (x4 + (nI 1)) I J) :
    K_X3_readExpr_87 d fz t Q a1 x2 x3 x4 (.inl none) (pm_hp L fz1 t I J) := b_X3_readExpr_87 ha1 h
def t_X3_readAnd_0 (d L : Nat) (fz t : Bool) (Q : pm_R → pm_H → Prop) (a1 : Nat) (x2 : Int32) (x3 : Int32) (I : Nat → Nat → Int32) (J : Nat → Nat → Int64) : Prop := pm_T (pm_Ev d) 45 Q (0, [(0, .ref 1), (1, .ref a1), (2, .int x2), (3, .int x3)], [], pm_hp L fz t I J, 0, 0)
def t_X3_readAnd_7 (d L : Nat) (fz t : Bool) (Q : pm_R → pm_H → Prop) (a1 : Nat) (x2 : Int32) (x3 : Int32) (I : Nat → Nat → Int32) (J : Nat → Nat → Int64) : Prop := pm_T (pm_Ev d) 45 Q (7, [(0, .ref 1), (1, .ref a1), (2, .int x2), (3, .int x3)], [], pm_hp L fz t I J, 0, 0)
def K_X3_readAnd_7 (d : Nat) (fz t : Bool) (Q : pm_R → pm_H → Prop) (a1 : Nat) (x2 : Int32) (x3 : Int32) : pm_R → pm_H → Prop := pm_K d 45 Q 7 [(0, .ref 1), (1, .ref a1), (2, .int x2), (3, .int x3)] [] 118 0 fz 0 0
def t_X3_readAnd_10 (d L : Nat) (fz t : Bool) (Q : pm_R → pm_H → Prop) (a1 : Nat) (x2 : Int32) (x3 : Int32) (x4 : Int32) (I : Nat → Nat → Int32) (J : Nat → Nat → Int64) : Prop := pm_T (pm_Ev d) 45 Q (10, [(0, .ref 1), (1, .ref a1), (2, .int x2), (3, .int x3), (4, .int x4)], [], pm_hp L fz t I J, 0, 0)
def t_X3_readAnd_31 (d L : Nat) (fz t : Bool) (Q : pm_R → pm_H → Prop) (a1 : Nat) (x2 : Int32) (x3 : Int32) (x4 : Int32) (r : Int32) (I : Nat → Nat → Int32) (J : Nat → Nat → Int64) : Prop := pm_T (pm_Ev d) 45 Q (31, [(0, .ref 1), (1, .ref a1), (2, .int x2), (3, .int x3), (4, .int x4)], [.int r], pm_hp L fz t I J, 0, 0)
def K_X3_readAnd_31 (d : Nat) (fz t : Bool) (Q : pm_R → pm_H → Prop) (a1 : Nat) (x2 : Int32) (x3 : Int32) (x4 : Int32) : pm_R → pm_H → Prop := pm_K d 45 Q 31 [(0, .ref 1), (1, .ref a1), (2, .int x2), (3, .int x3), (4, .int x4)] [] 118 0 fz 0 0
def t_X3_readAnd_38 (d L : Nat) (fz t : Bool) (Q : pm_R → pm_H → Prop) (a1 : Nat) (x2 : Int32) (x3 : Int32) (x4 : Int32) (I : Nat → Nat → Int32) (J : Nat → Nat → Int64) : Prop := pm_T (pm_Ev d) 45 Q (38, [(0, .ref 1), (1, .ref a1), (2, .int x2), (3, .int x3), (4, .int x4)], [], pm_hp L fz t I J, 0, 0)
def K_X3_readAnd_38 (d : Nat) (fz t : Bool) (Q : pm_R → pm_H → Prop) (a1 : Nat) (x2 : Int32) (x3 : Int32) (x4 : Int32) : pm_R → pm_H → Prop := pm_K d 45 Q 38 [(0, .ref 1), (1, .ref a1), (2, .int x2), (3, .int x3), (4, .int x4)] [] 118 0 fz 0 0
def t_X3_readAnd_45 (d L : Nat) (fz t : Bool) (Q : pm_R → pm_H → Prop) (a1 : Nat) (x2 : Int32) (x3 : Int32) (x4 : Int32) (I : Nat → Nat → Int32) (J : Nat → Nat → Int64) : Prop := pm_T (pm_Ev d) 45 Q (45, [(0, .ref 1), (1, .ref a1), (2, .int x2), (3, .int x3), (4, .int x4)], [], pm_hp L fz t I J, 0, 0)
def K_X3_readAnd_45 (d : Nat) (fz t : Bool) (Q : pm_R → pm_H → Prop) (a1 : Nat) (x2 : Int32) (x3 : Int32) (x4 : Int32) : pm_R → pm_H → Prop := pm_K d 45 Q 45 [(0, .ref 1), (1, .ref a1), (2, .int x2), (3, .int x3), (4, .int x4)] [] 118 0 fz 0 0
def t_X3_readAnd_50 (d L : Nat) (fz t : Bool) (Q : pm_R → pm_H → Prop) (a1 : Nat) (x2 : Int32) (x3 : Int32) (x4 : Int32) (I : Nat → Nat → Int32) (J : Nat → Nat → Int64) : Prop := pm_T (pm_Ev d) 45 Q (50, [(0, .ref 1), (1, .ref a1), (2, .int x2), (3, .int x3), (4, .int x4)], [], pm_hp L fz t I J, 0, 0)
def K_X3_readAnd_50 (d : Nat) (fz t : Bool) (Q : pm_R → pm_H → Prop) (a1 : Nat) (x2 : Int32) (x3 : Int32) (x4 : Int32) : pm_R → pm_H → Prop := pm_K d 45 Q 50 [(0, .ref 1), (1, .ref a1), (2, .int x2), (3, .int x3), (4, .int x4)] [] 118 0 fz 0 0
set_option maxRecDepth 100000 in
theorem b_X3_readAnd_0 {d L : Nat} {fz t : Bool} {Q : pm_R → pm_H → Prop} {a1 : Nat} {x2 : Int32} {x3 : Int32} {I : Nat → Nat → Int32} {J : Nat → Nat → Int64} (ha1 : a1 = 64 ∨ a1 = 67 ∨ a1 = 79 ∨ a1 = 82)
    (h : pm_Ev d 46 [.ref 1, .ref a1, .int x2, .int x3] (pm_hp L fz t I J) (K_X3_readAnd_7 d fz t Q a1 x2 x3)) :
    t_X3_readAnd_0 d L fz t Q a1 x2 x3 I J := by
  rcases ha1 with rfl | rfl | rfl | rfl <;> exact pm_go d [(7, [0, 1, 2, 3]), (10, [0, 1, 2, 3, 4]), (31, [0, 1, 2, 3, 4]), (38, [0, 1, 2, 3, 4]), (45, [0, 1, 2, 3, 4]), (50, [0, 1, 2, 3, 4])] 400 h
theorem e_X3_readAnd {d L : Nat} {fz t : Bool} {Q : pm_R → pm_H → Prop} {a1 : Nat} {x2 : Int32} {x3 : Int32} {I : Nat → Nat → Int32} {J : Nat → Nat → Int64} (ha1 : a1 = 64 ∨ a1 = 67 ∨ a1 = 79 ∨ a1 = 82)
    (h : pm_Ev d 46 [.ref 1, .ref a1, .int x2, .int x3] (pm_hp L fz t I J) (K_X3_readAnd_7 d fz t Q a1 x2 x3)) :
    pm_Ev (d + 1) 45 [.ref 1, .ref a1, .int x2, .int x3] (pm_hp L fz t I J) Q := pm_Ev_in rfl (b_X3_readAnd_0 ha1 h)
set_option maxRecDepth 100000 in
theorem b_X3_readAnd_7 {d L : Nat} {fz t : Bool} {Q : pm_R → pm_H → Prop} {a1 : Nat} {x2 : Int32} {x3 : Int32} {I : Nat → Nat → Int32} {J : Nat → Nat → Int64} (ha1 : a1 = 64 ∨ a1 = 67 ∨ a1 = 79 ∨ a1 = 82)
    (h : t_X3_readAnd_10 d L fz t Q a1 x2 x3 (nI 0) I J) :
    t_X3_readAnd_7 d L fz t Q a1 x2 x3 I J := by
  rcases ha1 with rfl | rfl | rfl | rfl <;> exact pm_go d [(7, [0, 1, 2, 3]), (10, [0, 1, 2, 3, 4]), (31, [0, 1, 2, 3, 4]), (38, [0, 1, 2, 3, 4]), (45, [0, 1, 2, 3, 4]), (50, [0, 1, 2, 3, 4])] 400 h
theorem kb_X3_readAnd_7 {d L : Nat} {fz t : Bool} {Q : pm_R → pm_H → Prop} {a1 : Nat} {x2 : Int32} {x3 : Int32} {fz1 : Bool} {I : Nat → Nat → Int32} {J : Nat → Nat → Int64} (ha1 : a1 = 64 ∨ a1 = 67 ∨ a1 = 79 ∨ a1 = 82)
    (h : t_X3_readAnd_10 d L fz t Q a1 x2 x3 (nI 0) I J) :
    K_X3_readAnd_7 d fz t Q a1 x2 x3 (.inl none) (pm_hp L fz1 t I J) := b_X3_readAnd_7 ha1 h
set_option maxRecDepth 100000 in
theorem b_X3_readAnd_10 {d L : Nat} {fz t : Bool} {Q : pm_R → pm_H → Prop} {a1 : Nat} {x2 : Int32} {x3 : Int32} {x4 : Int32} {I : Nat → Nat → Int32} {J : Nat → Nat → Int64} (ha1 : a1 = 64 ∨ a1 = 67 ∨ a1 = 79 ∨ a1 = 82)
    (h : (((nI 700) ≤ x4 → Q (.inl none) (pm_hp L fz t I J)) ∧ (¬ (nI 700) ≤ x4 → ((¬ (I 1 8) = (nI 0) → Q (.inl none) (pm_hp L fz t I J)) ∧ ((I 1 8) = (nI 0) → pm_Ev d 34 [.ref 1, .ref 1000021] (pm_hp L fz t I J) (K_X3_readAnd_31 d fz t Q a1 x2 x3 x4)))))) :
    t_X3_readAnd_10 d L fz t Q a1 x2 x3 x4 I J := by
  rcases ha1 with rfl | rfl | rfl | rfl <;> exact pm_go d [(7, [0, 1, 2, 3]), (10, [0, 1, 2, 3, 4]), (31, [0, 1, 2, 3, 4]), (38, [0, 1, 2, 3, 4]), (45, [0, 1, 2, 3, 4]), (50, [0, 1, 2, 3, 4])] 400 ⟨fun q0 => ((h).1 q0), fun q0 => ⟨fun q1 => ((((h).2 q0)).1 q1), fun q1 => ((((h).2 q0)).2 q1)⟩⟩
set_option maxRecDepth 100000 in
theorem b_X3_readAnd_31 {d L : Nat} {fz t : Bool} {Q : pm_R → pm_H → Prop} {a1 : Nat} {x2 : Int32} {x3 : Int32} {x4 : Int32} {r : Int32} {I : Nat → Nat → Int32} {J : Nat → Nat → Int64} (ha1 : a1 = 64 ∨ a1 = 67 ∨ a1 = 79 ∨ a1 = 82)
    (h : ((r = (nI 0) → Q (.inl none) (pm_hp L fz t I J)) ∧ (¬ r = (nI 0) → pm_Ev d 28 [.ref 1] (pm_hp L fz t I J) (K_X3_readAnd_38 d fz t Q a1 x2 x3 x4)))) :
    t_X3_readAnd_31 d L fz t Q a1 x2 x3 x4 r I J := by
  rcases ha1 with rfl | rfl | rfl | rfl <;> exact pm_go d [(7, [0, 1, 2, 3]), (10, [0, 1, 2, 3, 4]), (31, [0, 1, 2, 3, 4]), (38, [0, 1, 2, 3, 4]), (45, [0, 1, 2, 3, 4]), (50, [0, 1, 2, 3, 4])] 400 ⟨fun q0 => ((h).1 q0), fun q0 => ((h).2 q0)⟩
theorem kb_X3_readAnd_31 {d L : Nat} {fz t : Bool} {Q : pm_R → pm_H → Prop} {a1 : Nat} {x2 : Int32} {x3 : Int32} {x4 : Int32} {r : Int32} {fz1 : Bool} {I : Nat → Nat → Int32} {J : Nat → Nat → Int64} (ha1 : a1 = 64 ∨ a1 = 67 ∨ a1 = 79 ∨ a1 = 82)
    (h : ((r = (nI 0) → Q (.inl none) (pm_hp L fz t I J)) ∧ (¬ r = (nI 0) → pm_Ev d 28 [.ref 1] (pm_hp L fz t I J) (K_X3_readAnd_38 d fz t Q a1 x2 x3 x4)))) :
    K_X3_readAnd_31 d fz t Q a1 x2 x3 x4 (.inl (some (.int r))) (pm_hp L fz1 t I J) := b_X3_readAnd_31 ha1 h
set_option maxRecDepth 100000 in
theorem b_X3_readAnd_38 {d L : Nat} {fz t : Bool} {Q : pm_R → pm_H → Prop} {a1 : Nat} {x2 : Int32} {x3 : Int32} {x4 : Int32} {I : Nat → Nat → Int32} {J : Nat → Nat → Int64} (ha1 : a1 = 64 ∨ a1 = 67 ∨ a1 = 79 ∨ a1 = 82)
    (h : pm_Ev d 46 [.ref 1, .ref a1, .int x2, .int x3] (pm_hp L fz t I J) (K_X3_readAnd_45 d fz t Q a1 x2 x3 x4)) :
    t_X3_readAnd_38 d L fz t Q a1 x2 x3 x4 I J := by
  rcases ha1 with rfl | rfl | rfl | rfl <;> exact pm_go d [(7, [0, 1, 2, 3]), (10, [0, 1, 2, 3, 4]), (31, [0, 1, 2, 3, 4]), (38, [0, 1, 2, 3, 4]), (45, [0, 1, 2, 3, 4]), (50, [0, 1, 2, 3, 4])] 400 h
theorem kb_X3_readAnd_38 {d L : Nat} {fz t : Bool} {Q : pm_R → pm_H → Prop} {a1 : Nat} {x2 : Int32} {x3 : Int32} {x4 : Int32} {fz1 : Bool} {I : Nat → Nat → Int32} {J : Nat → Nat → Int64} (ha1 : a1 = 64 ∨ a1 = 67 ∨ a1 = 79 ∨ a1 = 82)
    (h : pm_Ev d 46 [.ref 1, .ref a1, .int x2, .int x3] (pm_hp L fz t I J) (K_X3_readAnd_45 d fz t Q a1 x2 x3 x4)) :
    K_X3_readAnd_38 d fz t Q a1 x2 x3 x4 (.inl none) (pm_hp L fz1 t I J) := b_X3_readAnd_38 ha1 h
set_option maxRecDepth 100000 in
theorem b_X3_readAnd_45 {d L : Nat} {fz t : Bool} {Q : pm_R → pm_H → Prop} {a1 : Nat} {x2 : Int32} {x3 : Int32} {x4 : Int32} {I : Nat → Nat → Int32} {J : Nat → Nat → Int64} (ha1 : a1 = 64 ∨ a1 = 67 ∨ a1 = 79 ∨ a1 = 82)
    (h : pm_Ev d 7 [.ref a1, .int (nI 2)] (pm_hp L fz t I J) (K_X3_readAnd_50 d fz t Q a1 x2 x3 x4)) :
    t_X3_readAnd_45 d L fz t Q a1 x2 x3 x4 I J := by
  rcases ha1 with rfl | rfl | rfl | rfl <;> exact pm_go d [(7, [0, 1, 2, 3]), (10, [0, 1, 2, 3, 4]), (31, [0, 1, 2, 3, 4]), (38, [0, 1, 2, 3, 4]), (45, [0, 1, 2, 3, 4]), (50, [0, 1, 2, 3, 4])] 400 h
theorem kb_X3_readAnd_45 {d L : Nat} {fz t : Bool} {Q : pm_R → pm_H → Prop} {a1 : Nat} {x2 : Int32} {x3 : Int32} {x4 : Int32} {fz1 : Bool} {I : Nat → Nat → Int32} {J : Nat → Nat → Int64} (ha1 : a1 = 64 ∨ a1 = 67 ∨ a1 = 79 ∨ a1 = 82)
    (h : pm_Ev d 7 [.ref a1, .int (nI 2)] (pm_hp L fz t I J) (K_X3_readAnd_50 d fz t Q a1 x2 x3 x4)) :
    K_X3_readAnd_45 d fz t Q a1 x2 x3 x4 (.inl none) (pm_hp L fz1 t I J) := b_X3_readAnd_45 ha1 h
set_option maxRecDepth 100000 in
theorem b_X3_readAnd_50 {d L : Nat} {fz t : Bool} {Q : pm_R → pm_H → Prop} {a1 : Nat} {x2 : Int32} {x3 : Int32} {x4 : Int32} {I : Nat → Nat → Int32} {J : Nat → Nat → Int64} (ha1 : a1 = 64 ∨ a1 = 67 ∨ a1 = 79 ∨ a1 = 82)
    (h : t_X3_readAnd_10 d L fz t Q a1 x2 x3 (x4 + (nI 1)) I J) :
    t_X3_readAnd_50 d L fz t Q a1 x2 x3 x4 I J := by
  rcases ha1 with rfl | rfl | rfl | rfl <;> exact pm_go d [(7, [0, 1, 2, 3]), (10, [0, 1, 2, 3, 4]), (31, [0, 1, 2, 3, 4]), (38, [0, 1, 2, 3, 4]), (45, [0, 1, 2, 3, 4]), (50, [0, 1, 2, 3, 4])] 400 h
theorem kb_X3_readAnd_50 {d L : Nat} {fz t : Bool} {Q : pm_R → pm_H → Prop} {a1 : Nat} {x2 : Int32} {x3 : Int32} {x4 : Int32} {fz1 : Bool} {I : Nat → Nat → Int32} {J : Nat → Nat → Int64} (ha1 : a1 = 64 ∨ a1 = 67 ∨ a1 = 79 ∨ a1 = 82)
    (h : t_X3_readAnd_10 d L fz t Q a1 x2 x3 (x4 + (nI 1)) I J) :
    K_X3_readAnd_50 d fz t Q a1 x2 x3 x4 (.inl none) (pm_hp L fz1 t I J) := b_X3_readAnd_50 ha1 h
def t_X3_readNot_0 (d L : Nat) (fz t : Bool) (Q : pm_R → pm_H → Prop) (a1 : Nat) (x2 : Int32) (x3 : Int32) (I : Nat → Nat → Int32) (J : Nat → Nat → Int64) : Prop := pm_T (pm_Ev d) 46 Q (0, [(0, .ref 1), (1, .ref a1), (2, .int x2), (3, .int x3)], [], pm_hp L fz t I J, 0, 0)
def t_X3_readNot_3 (d L : Nat) (fz t : Bool) (Q : pm_R → pm_H → Prop) (a1 : Nat) (x2 : Int32) (x3 : Int32) (x4 : Int32) (I : Nat → Nat → Int32) (J : Nat → Nat → Int64) : Prop := pm_T (pm_Ev d) 46 Q (3, [(0, .ref 1), (1, .ref a1), (2, .int x2), (3, .int x3), (4, .int x4)], [], pm_hp L fz t I J, 0, 0)
def t_X3_readNot_35 (d L : Nat) (fz t : Bool) (Q : pm_R → pm_H → Prop) (a1 : Nat) (x2 : Int32) (x3 : Int32) (x4 : Int32) (r : Int32) (I : Nat → Nat → Int32) (J : Nat → Nat → Int64) : Prop := pm_T (pm_Ev d) 46 Q (35, [(0, .ref 1), (1, .ref a1), (2, .int x2), (3, .int x3), (4, .int x4)], [.int r], pm_hp L fz t I J, 0, 0)
def K_X3_readNot_35 (d : Nat) (fz t : Bool) (Q : pm_R → pm_H → Prop) (a1 : Nat) (x2 : Int32) (x3 : Int32) (x4 : Int32) : pm_R → pm_H → Prop := pm_K d 46 Q 35 [(0, .ref 1), (1, .ref a1), (2, .int x2), (3, .int x3), (4, .int x4)] [] 118 0 fz 0 0
def t_X3_readNot_16 (d L : Nat) (fz t : Bool) (Q : pm_R → pm_H → Prop) (a1 : Nat) (x2 : Int32) (x3 : Int32) (x4 : Int32) (r : Int32) (I : Nat → Nat → Int32) (J : Nat → Nat → Int64) : Prop := pm_T (pm_Ev d) 46 Q (16, [(0, .ref 1), (1, .ref a1), (2, .int x2), (3, .int x3), (4, .int x4)], [.int r], pm_hp L fz t I J, 0, 0)
def K_X3_readNot_16 (d : Nat) (fz t : Bool) (Q : pm_R → pm_H → Prop) (a1 : Nat) (x2 : Int32) (x3 : Int32) (x4 : Int32) : pm_R → pm_H → Prop := pm_K d 46 Q 16 [(0, .ref 1), (1, .ref a1), (2, .int x2), (3, .int x3), (4, .int x4)] [] 118 0 fz 0 0
def t_X3_readNot_51 (d L : Nat) (fz t : Bool) (Q : pm_R → pm_H → Prop) (a1 : Nat) (x4 : Int32) (I : Nat → Nat → Int32) (J : Nat → Nat → Int64) : Prop := pm_T (pm_Ev d) 46 Q (51, [(1, .ref a1), (4, .int x4)], [], pm_hp L fz t I J, 0, 0)
def K_X3_readNot_51 (d : Nat) (fz t : Bool) (Q : pm_R → pm_H → Prop) (a1 : Nat) (x4 : Int32) : pm_R → pm_H → Prop := pm_K d 46 Q 51 [(1, .ref a1), (4, .int x4)] [] 118 0 fz 0 0
def t_X3_readNot_43 (d L : Nat) (fz t : Bool) (Q : pm_R → pm_H → Prop) (I : Nat → Nat → Int32) (J : Nat → Nat → Int64) : Prop := pm_T (pm_Ev d) 46 Q (43, [], [], pm_hp L fz t I J, 0, 0)
def K_X3_readNot_43 (d : Nat) (fz t : Bool) (Q : pm_R → pm_H → Prop) : pm_R → pm_H → Prop := pm_K d 46 Q 43 [] [] 118 0 fz 0 0
def t_X3_readNot_23 (d L : Nat) (fz t : Bool) (Q : pm_R → pm_H → Prop) (a1 : Nat) (x2 : Int32) (x3 : Int32) (x4 : Int32) (I : Nat → Nat → Int32) (J : Nat → Nat → Int64) : Prop := pm_T (pm_Ev d) 46 Q (23, [(0, .ref 1), (1, .ref a1), (2, .int x2), (3, .int x3), (4, .int x4)], [], pm_hp L fz t I J, 0, 0)
def K_X3_readNot_23 (d : Nat) (fz t : Bool) (Q : pm_R → pm_H → Prop) (a1 : Nat) (x2 : Int32) (x3 : Int32) (x4 : Int32) : pm_R → pm_H → Prop := pm_K d 46 Q 23 [(0, .ref 1), (1, .ref a1), (2, .int x2), (3, .int x3), (4, .int x4)] [] 118 0 fz 0 0
def t_X3_readNot_54 (d L : Nat) (fz t : Bool) (Q : pm_R → pm_H → Prop) (a1 : Nat) (x4 : Int32) (x5 : Int32) (I : Nat → Nat → Int32) (J : Nat → Nat → Int64) : Prop := pm_T (pm_Ev d) 46 Q (54, [(1, .ref a1), (4, .int x4), (5, .int x5)], [], pm_hp L fz t I J, 0, 0)
def t_X3_readNot_66 (d L : Nat) (fz t : Bool) (Q : pm_R → pm_H → Prop) (a1 : Nat) (x4 : Int32) (x5 : Int32) (I : Nat → Nat → Int32) (J : Nat → Nat → Int64) : Prop := pm_T (pm_Ev d) 46 Q (66, [(1, .ref a1), (4, .int x4), (5, .int x5)], [], pm_hp L fz t I J, 0, 0)
def K_X3_readNot_66 (d : Nat) (fz t : Bool) (Q : pm_R → pm_H → Prop) (a1 : Nat) (x4 : Int32) (x5 : Int32) : pm_R → pm_H → Prop := pm_K d 46 Q 66 [(1, .ref a1), (4, .int x4), (5, .int x5)] [] 118 0 fz 0 0
set_option maxRecDepth 100000 in
theorem b_X3_readNot_0 {d L : Nat} {fz t : Bool} {Q : pm_R → pm_H → Prop} {a1 : Nat} {x2 : Int32} {x3 : Int32} {I : Nat → Nat → Int32} {J : Nat → Nat → Int64} (ha1 : a1 = 64 ∨ a1 = 67 ∨ a1 = 79 ∨ a1 = 82)
    (h : t_X3_readNot_3 d L fz t Q a1 x2 x3 (nI 0) I J) :
    t_X3_readNot_0 d L fz t Q a1 x2 x3 I J := by
  rcases ha1 with rfl | rfl | rfl | rfl <;> exact pm_go d [(3, [0, 1, 2, 3, 4]), (16, [0, 1, 2, 3, 4]), (23, [0, 1, 2, 3, 4]), (35, [0, 1, 2, 3, 4]), (43, []), (51, [1, 4]), (54, [1, 4, 5]), (66, [1, 4, 5])] 400 h
theorem e_X3_readNot {d L : Nat} {fz t : Bool} {Q : pm_R → pm_H → Prop} {a1 : Nat} {x2 : Int32} {x3 : Int32} {I : Nat → Nat → Int32} {J : Nat → Nat → Int64} (ha1 : a1 = 64 ∨ a1 = 67 ∨ a1 = 79 ∨ a1 = 82)
    (h : t_X3_readNot_3 d L fz t Q a1 x2 x3 (nI 0) I J) :
    pm_Ev (d + 1) 46 [.ref 1, .ref a1, .int x2, .int x3] (pm_hp L fz t I J) Q := pm_Ev_in rfl (b_X3_readNot_0 ha1 h)
set_option maxRecDepth 100000 in
theorem b_X3_readNot_3 {d L : Nat} {fz t : Bool} {Q : pm_R → pm_H → Prop} {a1 : Nat} {x2 : Int32} {x3 : Int32} {x4 : Int32} {I : Nat → Nat → Int32} {J : Nat → Nat → Int64} (ha1 : a1 = 64 ∨ a1 = 67 ∨ a1 = 79 ∨ a1 = 82)
    (h : (((nI 6) ≤ x4 → pm_Ev d 34 [.ref 1, .ref 1000022] (pm_hp L fz t I J) (K_X3_readNot_35 d fz t Q a1 x2 x3 x4)) ∧ (¬ (nI 6) ≤ x4 → pm_Ev d 34 [.ref 1, .ref 1000022] (pm_hp L fz t I J) (K_X3_readNot_16 d fz t Q a1 x2 x3 x4)))) :
    t_X3_readNot_3 d L fz t Q a1 x2 x3 x4 I J := by
  rcases ha1 with rfl | rfl | rfl | rfl <;> exact pm_go d [(3, [0, 1, 2, 3, 4]), (16, [0, 1, 2, 3, 4]), (23, [0, 1, 2, 3, 4]), (35, [0, 1, 2, 3, 4]), (43, []), (51, [1, 4]), (54, [1, 4, 5]), (66, [1, 4, 5])] 400 ⟨fun q0 => ((h).1 q0), fun q0 => ((h).2 q0)⟩
set_option maxRecDepth 100000 in
theorem b_X3_readNot_35 {d L : Nat} {fz t : Bool} {Q : pm_R → pm_H → Prop} {a1 : Nat} {x2 : Int32} {x3 : Int32} {x4 : Int32} {r : Int32} {I : Nat → Nat → Int32} {J : Nat → Nat → Int64} (ha1 : a1 = 64 ∨ a1 = 67 ∨ a1 = 79 ∨ a1 = 82)
    (h : ((r = (nI 0) → pm_Ev d 47 [.ref 1, .ref a1, .int x2, .int x3] (pm_hp L fz t I J) (K_X3_readNot_51 d fz t Q a1 x4)) ∧ (¬ r = (nI 0) → pm_Ev d 27 [.ref 1, .int (nI 2)] (pm_hp L fz t I J) (K_X3_readNot_43 d fz t Q)))) :
    t_X3_readNot_35 d L fz t Q a1 x2 x3 x4 r I J := by
  rcases ha1 with rfl | rfl | rfl | rfl <;> exact pm_go d [(3, [0, 1, 2, 3, 4]), (16, [0, 1, 2, 3, 4]), (23, [0, 1, 2, 3, 4]), (35, [0, 1, 2, 3, 4]), (43, []), (51, [1, 4]), (54, [1, 4, 5]), (66, [1, 4, 5])] 400 ⟨fun q0 => ((h).1 q0), fun q0 => ((h).2 q0)⟩
theorem kb_X3_readNot_35 {d L : Nat} {fz t : Bool} {Q : pm_R → pm_H → Prop} {a1 : Nat} {x2 : Int32} {x3 : Int32} {x4 : Int32} {r : Int32} {fz1 : Bool} {I : Nat → Nat → Int32} {J : Nat → Nat → Int64} (ha1 : a1 = 64 ∨ a1 = 67 ∨ a1 = 79 ∨ a1 = 82)
    (h : ((r = (nI 0) → pm_Ev d 47 [.ref 1, .ref a1, .int x2, .int x3] (pm_hp L fz t I J) (K_X3_readNot_51 d fz t Q a1 x4)) ∧ (¬ r = (nI 0) → pm_Ev d 27 [.ref 1, .int (nI 2)] (pm_hp L fz t I J) (K_X3_readNot_43 d fz t Q)))) :
    K_X3_readNot_35 d fz t Q a1 x2 x3 x4 (.inl (some (.int r))) (pm_hp L fz1 t I J) := b_X3_readNot_35 ha1 h
set_option maxRecDepth 100000 in
theorem b_X3_readNot_16 {d L : Nat} {fz t : Bool} {Q : pm_R → pm_H → Prop} {a1 : Nat} {x2 : Int32} {x3 : Int32} {x4 : Int32} {r : Int32} {I : Nat → Nat → Int32} {J : Nat → Nat → Int64} (ha1 : a1 = 64 ∨ a1 = 67 ∨ a1 = 79 ∨ a1 = 82)
    (h : ((r = (nI 0) → pm_Ev d 34 [.ref 1, .ref 1000022] (pm_hp L fz t I J) (K_X3_readNot_35 d fz t Q a1 x2 x3 x4)) ∧ (¬ r = (nI 0) → pm_Ev d 28 [.ref 1] (pm_hp L fz t I J) (K_X3_readNot_23 d fz t Q a1 x2 x3 x4)))) :
    t_X3_readNot_16 d L fz t Q a1 x2 x3 x4 r I J := by
  rcases ha1 with rfl | rfl | rfl | rfl <;> exact pm_go d [(3, [0, 1, 2, 3, 4]), (16, [0, 1, 2, 3, 4]), (23, [0, 1, 2, 3, 4]), (35, [0, 1, 2, 3, 4]), (43, []), (51, [1, 4]), (54, [1, 4, 5]), (66, [1, 4, 5])] 400 ⟨fun q0 => ((h).1 q0), fun q0 => ((h).2 q0)⟩
theorem kb_X3_readNot_16 {d L : Nat} {fz t : Bool} {Q : pm_R → pm_H → Prop} {a1 : Nat} {x2 : Int32} {x3 : Int32} {x4 : Int32} {r : Int32} {fz1 : Bool} {I : Nat → Nat → Int32} {J : Nat → Nat → Int64} (ha1 : a1 = 64 ∨ a1 = 67 ∨ a1 = 79 ∨ a1 = 82)
    (h : ((r = (nI 0) → pm_Ev d 34 [.ref 1, .ref 1000022] (pm_hp L fz t I J) (K_X3_readNot_35 d fz t Q a1 x2 x3 x4)) ∧ (¬ r = (nI 0) → pm_Ev d 28 [.ref 1] (pm_hp L fz t I J) (K_X3_readNot_23 d fz t Q a1 x2 x3 x4)))) :
    K_X3_readNot_16 d fz t Q a1 x2 x3 x4 (.inl (some (.int r))) (pm_hp L fz1 t I J) := b_X3_readNot_16 ha1 h
set_option maxRecDepth 100000 in
theorem b_X3_readNot_51 {d L : Nat} {fz t : Bool} {Q : pm_R → pm_H → Prop} {a1 : Nat} {x4 : Int32} {I : Nat → Nat → Int32} {J : Nat → Nat → Int64} (ha1 : a1 = 64 ∨ a1 = 67 ∨ a1 = 79 ∨ a1 = 82)
    (h : t_X3_readNot_54 d L fz t Q a1 x4 (nI 0) I J) :
    t_X3_readNot_51 d L fz t Q a1 x4 I J := by
  rcases ha1 with rfl | rfl | rfl | rfl <;> exact pm_go d [(3, [0, 1, 2, 3, 4]), (16, [0, 1, 2, 3, 4]), (23, [0, 1, 2, 3, 4]), (35, [0, 1, 2, 3, 4]), (43, []), (51, [1, 4]), (54, [1, 4, 5]), (66, [1, 4, 5])] 400 h
theorem kb_X3_readNot_51 {d L : Nat} {fz t : Bool} {Q : pm_R → pm_H → Prop} {a1 : Nat} {x4 : Int32} {fz1 : Bool} {I : Nat → Nat → Int32} {J : Nat → Nat → Int64} (ha1 : a1 = 64 ∨ a1 = 67 ∨ a1 = 79 ∨ a1 = 82)
    (h : t_X3_readNot_54 d L fz t Q a1 x4 (nI 0) I J) :
    K_X3_readNot_51 d fz t Q a1 x4 (.inl none) (pm_hp L fz1 t I J) := b_X3_readNot_51 ha1 h
set_option maxRecDepth 100000 in
theorem b_X3_readNot_43 {d L : Nat} {fz t : Bool} {Q : pm_R → pm_H → Prop} {I : Nat → Nat → Int32} {J : Nat → Nat → Int64}
    (h : Q (.inl none) (pm_hp L fz t I J)) :
    t_X3_readNot_43 d L fz t Q I J := by
  exact pm_go d [(3, [0, 1, 2, 3, 4]), (16, [0, 1, 2, 3, 4]), (23, [0, 1, 2, 3, 4]), (35, [0, 1, 2, 3, 4]), (43, []), (51, [1, 4]), (54, [1, 4, 5]), (66, [1, 4, 5])] 400 h
theorem kb_X3_readNot_43 {d L : Nat} {fz t : Bool} {Q : pm_R → pm_H → Prop} {fz1 : Bool} {I : Nat → Nat → Int32} {J : Nat → Nat → Int64}
    (h : Q (.inl none) (pm_hp L fz t I J)) :
    K_X3_readNot_43 d fz t Q (.inl none) (pm_hp L fz1 t I J) := b_X3_readNot_43 h
set_option maxRecDepth 100000 in
theorem b_X3_readNot_23 {d L : Nat} {fz t : Bool} {Q : pm_R → pm_H → Prop} {a1 : Nat} {x2 : Int32} {x3 : Int32} {x4 : Int32} {I : Nat → Nat → Int32} {J : Nat → Nat → Int64} (ha1 : a1 = 64 ∨ a1 = 67 ∨ a1 = 79 ∨ a1 = 82)
    (h : t_X3_readNot_3 d L fz t Q a1 x2 x3 (x4 + (nI 1)) I J) :
    t_X3_readNot_23 d L fz t Q a1 x2 x3 x4 I J := by
  rcases ha1 with rfl | rfl | rfl | rfl <;> exact pm_go d [(3, [0, 1, 2, 3, 4]), (16, [0, 1, 2, 3, 4]), (23, [0, 1, 2, 3, 4]), (35, [0, 1, 2, 3, 4]), (43, []), (51, [1, 4]), (54, [1, 4, 5]), (66, [1, 4, 5])] 400 h
theorem kb_X3_readNot_23 {d L : Nat} {fz t : Bool} {Q : pm_R → pm_H → Prop} {a1 : Nat} {x2 : Int32} {x3 : Int32} {x4 : Int32} {fz1 : Bool} {I : Nat → Nat → Int32} {J : Nat → Nat → Int64} (ha1 : a1 = 64 ∨ a1 = 67 ∨ a1 = 79 ∨ a1 = 82)
    (h : t_X3_readNot_3 d L fz t Q a1 x2 x3 (x4 + (nI 1)) I J) :
    K_X3_readNot_23 d fz t Q a1 x2 x3 x4 (.inl none) (pm_hp L fz1 t I J) := b_X3_readNot_23 ha1 h
set_option maxRecDepth 100000 in
theorem b_X3_readNot_54 {d L : Nat} {fz t : Bool} {Q : pm_R → pm_H → Prop} {a1 : Nat} {x4 : Int32} {x5 : Int32} {I : Nat → Nat → Int32} {J : Nat → Nat → Int64} (ha1 : a1 = 64 ∨ a1 = 67 ∨ a1 = 79 ∨ a1 = 82)
    (h : ((x4 ≤ x5 → Q (.inl none) (pm_hp L fz t I J)) ∧ (¬ x4 ≤ x5 → pm_Ev d 7 [.ref a1, .int (nI 0)] (pm_hp L fz t I J) (K_X3_readNot_66 d fz t Q a1 x4 x5)))) :
    t_X3_readNot_54 d L fz t Q a1 x4 x5 I J := by
  rcases ha1 with rfl | rfl | rfl | rfl <;> exact pm_go d [(3, [0, 1, 2, 3, 4]), (16, [0, 1, 2, 3, 4]), (23, [0, 1, 2, 3, 4]), (35, [0, 1, 2, 3, 4]), (43, []), (51, [1, 4]), (54, [1, 4, 5]), (66, [1, 4, 5])] 400 ⟨fun q0 => ((h).1 q0), fun q0 => ((h).2 q0)⟩
set_option maxRecDepth 100000 in
theorem b_X3_readNot_66 {d L : Nat} {fz t : Bool} {Q : pm_R → pm_H → Prop} {a1 : Nat} {x4 : Int32} {x5 : Int32} {I : Nat → Nat → Int32} {J : Nat → Nat → Int64} (ha1 : a1 = 64 ∨ a1 = 67 ∨ a1 = 79 ∨ a1 = 82)
    (h : t_X3_readNot_54 d L fz t Q a1 x4 (x5 + (nI 1)) I J) :
    t_X3_readNot_66 d L fz t Q a1 x4 x5 I J := by
  rcases ha1 with rfl | rfl | rfl | rfl <;> exact pm_go d [(3, [0, 1, 2, 3, 4]), (16, [0, 1, 2, 3, 4]), (23, [0, 1, 2, 3, 4]), (35, [0, 1, 2, 3, 4]), (43, []), (51, [1, 4]), (54, [1, 4, 5]), (66, [1, 4, 5])] 400 h
theorem kb_X3_readNot_66 {d L : Nat} {fz t : Bool} {Q : pm_R → pm_H → Prop} {a1 : Nat} {x4 : Int32} {x5 : Int32} {fz1 : Bool} {I : Nat → Nat → Int32} {J : Nat → Nat → Int64} (ha1 : a1 = 64 ∨ a1 = 67 ∨ a1 = 79 ∨ a1 = 82)
    (h : t_X3_readNot_54 d L fz t Q a1 x4 (x5 + (nI 1)) I J) :
    K_X3_readNot_66 d fz t Q a1 x4 x5 (.inl none) (pm_hp L fz1 t I J) := b_X3_readNot_66 ha1 h
def t_X3_readTest_0 (d L : Nat) (fz t : Bool) (Q : pm_R → pm_H → Prop) (a1 : Nat) (x2 : Int32) (x3 : Int32) (I : Nat → Nat → Int32) (J : Nat → Nat → Int64) : Prop := pm_T (pm_Ev d) 47 Q (0, [(0, .ref 1), (1, .ref a1), (2, .int x2), (3, .int x3)], [], pm_hp L fz t I J, 0, 0)
def t_X3_readTest_7 (d L : Nat) (fz t : Bool) (Q : pm_R → pm_H → Prop) (a1 : Nat) (x2 : Int32) (x3 : Int32) (I : Nat → Nat → Int32) (J : Nat → Nat → Int64) : Prop := pm_T (pm_Ev d) 47 Q (7, [(0, .ref 1), (1, .ref a1), (2, .int x2), (3, .int x3)], [], pm_hp L fz t I J, 0, 0)
def K_X3_readTest_7 (d : Nat) (fz t : Bool) (Q : pm_R → pm_H → Prop) (a1 : Nat) (x2 : Int32) (x3 : Int32) : pm_R → pm_H → Prop := pm_K d 47 Q 7 [(0, .ref 1), (1, .ref a1), (2, .int x2), (3, .int x3)] [] 118 0 fz 0 0
def t_X3_readTest_65 (d L : Nat) (fz t : Bool) (Q : pm_R → pm_H → Prop) (I : Nat → Nat → Int32) (J : Nat → Nat → Int64) : Prop := pm_T (pm_Ev d) 47 Q (65, [], [], pm_hp L fz t I J, 0, 0)
def K_X3_readTest_65 (d : Nat) (fz t : Bool) (Q : pm_R → pm_H → Prop) : pm_R → pm_H → Prop := pm_K d 47 Q 65 [] [] 118 0 fz 0 0
def t_X3_readTest_20 (d L : Nat) (fz t : Bool) (Q : pm_R → pm_H → Prop) (a1 : Nat) (x2 : Int32) (x3 : Int32) (r : Int32) (I : Nat → Nat → Int32) (J : Nat → Nat → Int64) : Prop := pm_T (pm_Ev d) 47 Q (20, [(0, .ref 1), (1, .ref a1), (2, .int x2), (3, .int x3)], [.int r], pm_hp L fz t I J, 0, 0)
def K_X3_readTest_20 (d : Nat) (fz t : Bool) (Q : pm_R → pm_H → Prop) (a1 : Nat) (x2 : Int32) (x3 : Int32) : pm_R → pm_H → Prop := pm_K d 47 Q 20 [(0, .ref 1), (1, .ref a1), (2, .int x2), (3, .int x3)] [] 118 0 fz 0 0
def t_X3_readTest_38 (d L : Nat) (fz t : Bool) (Q : pm_R → pm_H → Prop) (a1 : Nat) (x2 : Int32) (x3 : Int32) (r : Int32) (I : Nat → Nat → Int32) (J : Nat → Nat → Int64) : Prop := pm_T (pm_Ev d) 47 Q (38, [(0, .ref 1), (1, .ref a1), (2, .int x2), (3, .int x3)], [.int r], pm_hp L fz t I J, 0, 0)
def K_X3_readTest_38 (d : Nat) (fz t : Bool) (Q : pm_R → pm_H → Prop) (a1 : Nat) (x2 : Int32) (x3 : Int32) : pm_R → pm_H → Prop := pm_K d 47 Q 38 [(0, .ref 1), (1, .ref a1), (2, .int x2), (3, .int x3)] [] 118 0 fz 0 0
def t_X3_readTest_29 (d L : Nat) (fz t : Bool) (Q : pm_R → pm_H → Prop) (a1 : Nat) (x2 : Int32) (x3 : Int32) (r : Int32) (I : Nat → Nat → Int32) (J : Nat → Nat → Int64) : Prop := pm_T (pm_Ev d) 47 Q (29, [(0, .ref 1), (1, .ref a1), (2, .int x2), (3, .int x3)], [.int r], pm_hp L fz t I J, 0, 0)
def K_X3_readTest_29 (d : Nat) (fz t : Bool) (Q : pm_R → pm_H → Prop) (a1 : Nat) (x2 : Int32) (x3 : Int32) : pm_R → pm_H → Prop := pm_K d 47 Q 29 [(0, .ref 1), (1, .ref a1), (2, .int x2), (3, .int x3)] [] 118 0 fz 0 0
def t_X3_readTest_52 (d L : Nat) (fz t : Bool) (Q : pm_R → pm_H → Prop) (a1 : Nat) (x2 : Int32) (x3 : Int32) (x4 : Int32) (I : Nat → Nat → Int32) (J : Nat → Nat → Int64) : Prop := pm_T (pm_Ev d) 47 Q (52, [(0, .ref 1), (1, .ref a1), (2, .int x2), (3, .int x3), (4, .int x4)], [], pm_hp L fz t I J, 0, 0)
def K_X3_readTest_52 (d : Nat) (fz t : Bool) (Q : pm_R → pm_H → Prop) (a1 : Nat) (x2 : Int32) (x3 : Int32) (x4 : Int32) : pm_R → pm_H → Prop := pm_K d 47 Q 52 [(0, .ref 1), (1, .ref a1), (2, .int x2), (3, .int x3), (4, .int x4)] [] 118 0 fz 0 0
def t_X3_readTest_59 (d L : Nat) (fz t : Bool) (Q : pm_R → pm_H → Prop) (a1 : Nat) (x4 : Int32) (I : Nat → Nat → Int32) (J : Nat → Nat → Int64) : Prop := pm_T (pm_Ev d) 47 Q (59, [(1, .ref a1), (4, .int x4)], [], pm_hp L fz t I J, 0, 0)
def K_X3_readTest_59 (d : Nat) (fz t : Bool) (Q : pm_R → pm_H → Prop) (a1 : Nat) (x4 : Int32) : pm_R → pm_H → Prop := pm_K d 47 Q 59 [(1, .ref a1), (4, .int x4)] [] 118 0 fz 0 0
set_option maxRecDepth 100000 in
theorem b_X3_readTest_0 {d L : Nat} {fz t : Bool} {Q : pm_R → pm_H → Prop} {a1 : Nat} {x2 : Int32} {x3 : Int32} {I : Nat → Nat → Int32} {J : Nat → Nat → Int64} (ha1 : a1 = 64 ∨ a1 = 67 ∨ a1 = 79 ∨ a1 = 82)
    (h : pm_Ev d 48 [.ref 1, .ref a1, .int x2, .int x3] (pm_hp L fz t I J) (K_X3_readTest_7 d fz t Q a1 x2 x3)) :
    t_X3_readTest_0 d L fz t Q a1 x2 x3 I J := by
  rcases ha1 with rfl | rfl | rfl | rfl <;> exact pm_go d [(7, [0, 1, 2, 3]), (20, [0, 1, 2, 3]), (29, [0, 1, 2, 3]), (38, [0, 1, 2, 3]), (52, [0, 1, 2, 3, 4]), (59, [1, 4]), (65, [])] 400 h
theorem e_X3_readTest {d L : Nat} {fz t : Bool} {Q : pm_R → pm_H → Prop} {a1 : Nat} {x2 : Int32} {x3 : Int32} {I : Nat → Nat → Int32} {J : Nat → Nat → Int64} (ha1 : a1 = 64 ∨ a1 = 67 ∨ a1 = 79 ∨ a1 = 82)
    (h : pm_Ev d 48 [.ref 1, .ref a1, .int x2, .int x3] (pm_hp L fz t I J) (K_X3_readTest_7 d fz t Q a1 x2 x3)) :
    pm_Ev (d + 1) 47 [.ref 1, .ref a1, .int x2, .int x3] (pm_hp L fz t I J) Q := pm_Ev_in rfl (b_X3_readTest_0 ha1 h)
set_option maxRecDepth 100000 in
theorem b_X3_readTest_7 {d L : Nat} {fz t : Bool} {Q : pm_R → pm_H → Prop} {a1 : Nat} {x2 : Int32} {x3 : Int32} {I : Nat → Nat → Int32} {J : Nat → Nat → Int64} (ha1 : a1 = 64 ∨ a1 = 67 ∨ a1 = 79 ∨ a1 = 82)
    (h : ((¬ (I 1 8) = (nI 0) → t_X3_readTest_65 d L fz t Q I J) ∧ ((I 1 8) = (nI 0) → pm_Ev d 33 [.ref 1, .int (nI 60)] (pm_hp L fz t I J) (K_X3_readTest_20 d fz t Q a1 x2 x3)))) :
    t_X3_readTest_7 d L fz t Q a1 x2 x3 I J := by
  rcases ha1 with rfl | rfl | rfl | rfl <;> exact pm_go d [(7, [0, 1, 2, 3]), (20, [0, 1, 2, 3]), (29, [0, 1, 2, 3]), (38, [0, 1, 2, 3]), (52, [0, 1, 2, 3, 4]), (59, [1, 4]), (65, [])] 400 ⟨fun q0 => ((h).1 q0), fun q0 => ((h).2 q0)⟩
theorem kb_X3_readTest_7 {d L : Nat} {fz t : Bool} {Q : pm_R → pm_H → Prop} {a1 : Nat} {x2 : Int32} {x3 : Int32} {fz1 : Bool} {I : Nat → Nat → Int32} {J : Nat → Nat → Int64} (ha1 : a1 = 64 ∨ a1 = 67 ∨ a1 = 79 ∨ a1 = 82)
    (h : ((¬ (I 1 8) = (nI 0) → t_X3_readTest_65 d L fz t Q I J) ∧ ((I 1 8) = (nI 0) → pm_Ev d 33 [.ref 1, .int (nI 60)] (pm_hp L fz t I J) (K_X3_readTest_20 d fz t Q a1 x2 x3)))) :
    K_X3_readTest_7 d fz t Q a1 x2 x3 (.inl none) (pm_hp L fz1 t I J) := b_X3_readTest_7 ha1 h
set_option maxRecDepth 100000 in
theorem b_X3_readTest_65 {d L : Nat} {fz t : Bool} {Q : pm_R → pm_H → Prop} {I : Nat → Nat → Int32} {J : Nat → Nat → Int64}
    (h : Q (.inl none) (pm_hp L fz t I J)) :
    t_X3_readTest_65 d L fz t Q I J := by
  exact pm_go d [(7, [0, 1, 2, 3]), (20, [0, 1, 2, 3]), (29, [0, 1, 2, 3]), (38, [0, 1, 2, 3]), (52, [0, 1, 2, 3, 4]), (59, [1, 4]), (65, [])] 400 h
theorem kb_X3_readTest_65 {d L : Nat} {fz t : Bool} {Q : pm_R → pm_H → Prop} {fz1 : Bool} {I : Nat → Nat → Int32} {J : Nat → Nat → Int64}
    (h : Q (.inl none) (pm_hp L fz t I J)) :
    K_X3_readTest_65 d fz t Q (.inl none) (pm_hp L fz1 t I J) := b_X3_readTest_65 h
set_option maxRecDepth 100000 in
theorem b_X3_readTest_20 {d L : Nat} {fz t : Bool} {Q : pm_R → pm_H → Prop} {a1 : Nat} {x2 : Int32} {x3 : Int32} {r : Int32} {I : Nat → Nat → Int32} {J : Nat → Nat → Int64} (ha1 : a1 = 64 ∨ a1 = 67 ∨ a1 = 79 ∨ a1 = 82)
    (h : ((¬ r = (nI 0) → pm_Ev d 33 [.ref 1, .int (nI 60)] (pm_hp L fz t I J) (K_X3_readTest_38 d fz t Q a1 x2 x3)) ∧ (r = (nI 0) → pm_Ev d 33 [.ref 1, .int (nI 61)] (pm_hp L fz t I J) (K_X3_readTest_29 d fz t Q a1 x2 x3)))) :
    t_X3_readTest_20 d L fz t Q a1 x2 x3 r I J := by
  rcases ha1 with rfl | rfl | rfl | rfl <;> exact pm_go d [(7, [0, 1, 2, 3]), (20, [0, 1, 2, 3]), (29, [0, 1, 2, 3]), (38, [0, 1, 2, 3]), (52, [0, 1, 2, 3, 4]), (59, [1, 4]), (65, [])] 400 ⟨fun q0 => ((h).1 q0), fun q0 => ((h).2 q0)⟩
theorem kb_X3_readTest_20 {d L : Nat} {fz t : Bool} {Q : pm_R → pm_H → Prop} {a1 : Nat} {x2 : Int32} {x3 : Int32} {r : Int32} {fz1 : Bool} {I : Nat → Nat → Int32} {J : Nat → Nat → Int64} (ha1 : a1 = 64 ∨ a1 = 67 ∨ a1 = 79 ∨ a1 = 82)
    (h : ((¬ r = (nI 0) → pm_Ev d 33 [.ref 1, .int (nI 60)] (pm_hp L fz t I J) (K_X3_readTest_38 d fz t Q a1 x2 x3)) ∧ (r = (nI 0) → pm_Ev d 33 [.ref 1, .int (nI 61)] (pm_hp L fz t I J) (K_X3_readTest_29 d fz t Q a1 x2 x3)))) :
    K_X3_readTest_20 d fz t Q a1 x2 x3 (.inl (some (.int r))) (pm_hp L fz1 t I J) := b_X3_readTest_20 ha1 h
set_option maxRecDepth 100000 in
theorem b_X3_readTest_38 {d L : Nat} {fz t : Bool} {Q : pm_R → pm_H → Prop} {a1 : Nat} {x2 : Int32} {x3 : Int32} {r : Int32} {I : Nat → Nat → Int32} {J : Nat → Nat → Int64} (ha1 : a1 = 64 ∨ a1 = 67 ∨ a1 = 79 ∨ a1 = 82)
    (h : ((r = (nI 0) → pm_Ev d 28 [.ref 1] (pm_hp L fz t I J) (K_X3_readTest_52 d fz t Q a1 x2 x3 (nI 4))) ∧ (¬ r = (nI 0) → pm_Ev d 28 [.ref 1] (pm_hp L fz t I J) (K_X3_readTest_52 d fz t Q a1 x2 x3 (nI 3))))) :
    t_X3_readTest_38 d L fz t Q a1 x2 x3 r I J := by
  rcases ha1 with rfl | rfl | rfl | rfl <;> exact pm_go d [(7, [0, 1, 2, 3]), (20, [0, 1, 2, 3]), (29, [0, 1, 2, 3]), (38, [0, 1, 2, 3]), (52, [0, 1, 2, 3, 4]), (59, [1, 4]), (65, [])] 400 ⟨fun q0 => ((h).1 q0), fun q0 => ((h).2 q0)⟩
theorem kb_X3_readTest_38 {d L : Nat} {fz t : Bool} {Q : pm_R → pm_H → Prop} {a1 : Nat} {x2 : Int32} {x3 : Int32} {r : Int32} {fz1 : Bool} {I : Nat → Nat → Int32} {J : Nat → Nat → Int64} (ha1 : a1 = 64 ∨ a1 = 67 ∨ a1 = 79 ∨ a1 = 82)
    (h : ((r = (nI 0) → pm_Ev d 28 [.ref 1] (pm_hp L fz t I J) (K_X3_readTest_52 d fz t Q a1 x2 x3 (nI 4))) ∧ (¬ r = (nI 0) → pm_Ev d 28 [.ref 1] (pm_hp L fz t I J) (K_X3_readTest_52 d fz t Q a1 x2 x3 (nI 3))))) :
    K_X3_readTest_38 d fz t Q a1 x2 x3 (.inl (some (.int r))) (pm_hp L fz1 t I J) := b_X3_readTest_38 ha1 h
set_option maxRecDepth 100000 in
theorem b_X3_readTest_29 {d L : Nat} {fz t : Bool} {Q : pm_R → pm_H → Prop} {a1 : Nat} {x2 : Int32} {x3 : Int32} {r : Int32} {I : Nat → Nat → Int32} {J : Nat → Nat → Int64} (ha1 : a1 = 64 ∨ a1 = 67 ∨ a1 = 79 ∨ a1 = 82)
    (h : ((r = (nI 0) → t_X3_readTest_65 d L fz t Q I J) ∧ (¬ r = (nI 0) → pm_Ev d 33 [.ref 1, .int (nI 60)] (pm_hp L fz t I J) (K_X3_readTest_38 d fz t Q a1 x2 x3)))) :
    t_X3_readTest_29 d L fz t Q a1 x2 x3 r I J := by
  rcases ha1 with rfl | rfl | rfl | rfl <;> exact pm_go d [(7, [0, 1, 2, 3]), (20, [0, 1, 2, 3]), (29, [0, 1, 2, 3]), (38, [0, 1, 2, 3]), (52, [0, 1, 2, 3, 4]), (59, [1, 4]), (65, [])] 400 ⟨fun q0 => ((h).1 q0), fun q0 => ((h).2 q0)⟩
theorem kb_X3_readTest_29 {d L : Nat} {fz t : Bool} {Q : pm_R → pm_H → Prop} {a1 : Nat} {x2 : Int32} {x3 : Int32} {r : Int32} {fz1 : Bool} {I : Nat → Nat → Int32} {J : Nat → Nat → Int64} (ha1 : a1 = 64 ∨ a1 = 67 ∨ a1 = 79 ∨ a1 = 82)
    (h : ((r = (nI 0) → t_X3_readTest_65 d L fz t Q I J) ∧ (¬ r = (nI 0) → pm_Ev d 33 [.ref 1, .int (nI 60)] (pm_hp L fz t I J) (K_X3_readTest_38 d fz t Q a1 x2 x3)))) :
    K_X3_readTest_29 d fz t Q a1 x2 x3 (.inl (some (.int r))) (pm_hp L fz1 t I J) := b_X3_readTest_29 ha1 h
set_option maxRecDepth 100000 in
theorem b_X3_readTest_52 {d L : Nat} {fz t : Bool} {Q : pm_R → pm_H → Prop} {a1 : Nat} {x2 : Int32} {x3 : Int32} {x4 : Int32} {I : Nat → Nat → Int32} {J : Nat → Nat → Int64} (ha1 : a1 = 64 ∨ a1 = 67 ∨ a1 = 79 ∨ a1 = 82)
    (h : pm_Ev d 48 [.ref 1, .ref a1, .int x2, .int x3] (pm_hp L fz t I J) (K_X3_readTest_59 d fz t Q a1 x4)) :
    t_X3_readTest_52 d L fz t Q a1 x2 x3 x4 I J := by
  rcases ha1 with rfl | rfl | rfl | rfl <;> exact pm_go d [(7, [0, 1, 2, 3]), (20, [0, 1, 2, 3]), (29, [0, 1, 2, 3]), (38, [0, 1, 2, 3]), (52, [0, 1, 2, 3, 4]), (59, [1, 4]), (65, [])] 400 h
theorem kb_X3_readTest_52 {d L : Nat} {fz t : Bool} {Q : pm_R → pm_H → Prop} {a1 : Nat} {x2 : Int32} {x3 : Int32} {x4 : Int32} {fz1 : Bool} {I : Nat → Nat → Int32} {J : Nat → Nat → Int64} (ha1 : a1 = 64 ∨ a1 = 67 ∨ a1 = 79 ∨ a1 = 82)
    (h : pm_Ev d 48 [.ref 1, .ref a1, .int x2, .int x3] (pm_hp L fz t I J) (K_X3_readTest_59 d fz t Q a1 x4)) :
    K_X3_readTest_52 d fz t Q a1 x2 x3 x4 (.inl none) (pm_hp L fz1 t I J) := b_X3_readTest_52 ha1 h
set_option maxRecDepth 100000 in
theorem b_X3_readTest_59 {d L : Nat} {fz t : Bool} {Q : pm_R → pm_H → Prop} {a1 : Nat} {x4 : Int32} {I : Nat → Nat → Int32} {J : Nat → Nat → Int64} (ha1 : a1 = 64 ∨ a1 = 67 ∨ a1 = 79 ∨ a1 = 82)
    (h : pm_Ev d 7 [.ref a1, .int x4] (pm_hp L fz t I J) (K_X3_readTest_65 d fz t Q)) :
    t_X3_readTest_59 d L fz t Q a1 x4 I J := by
  rcases ha1 with rfl | rfl | rfl | rfl <;> exact pm_go d [(7, [0, 1, 2, 3]), (20, [0, 1, 2, 3]), (29, [0, 1, 2, 3]), (38, [0, 1, 2, 3]), (52, [0, 1, 2, 3, 4]), (59, [1, 4]), (65, [])] 400 h
theorem kb_X3_readTest_59 {d L : Nat} {fz t : Bool} {Q : pm_R → pm_H → Prop} {a1 : Nat} {x4 : Int32} {fz1 : Bool} {I : Nat → Nat → Int32} {J : Nat → Nat → Int64} (ha1 : a1 = 64 ∨ a1 = 67 ∨ a1 = 79 ∨ a1 = 82)
    (h : pm_Ev d 7 [.ref a1, .int x4] (pm_hp L fz t I J) (K_X3_readTest_65 d fz t Q)) :
    K_X3_readTest_59 d fz t Q a1 x4 (.inl none) (pm_hp L fz1 t I J) := b_X3_readTest_59 ha1 h
def t_X3_readSum_0 (d L : Nat) (fz t : Bool) (Q : pm_R → pm_H → Prop) (a1 : Nat) (x2 : Int32) (x3 : Int32) (I : Nat → Nat → Int32) (J : Nat → Nat → Int64) : Prop := pm_T (pm_Ev d) 48 Q (0, [(0, .ref 1), (1, .ref a1), (2, .int x2), (3, .int x3)], [], pm_hp L fz t I J, 0, 0)
def t_X3_readSum_7 (d L : Nat) (fz t : Bool) (Q : pm_R → pm_H → Prop) (a1 : Nat) (x2 : Int32) (x3 : Int32) (I : Nat → Nat → Int32) (J : Nat → Nat → Int64) : Prop := pm_T (pm_Ev d) 48 Q (7, [(0, .ref 1), (1, .ref a1), (2, .int x2), (3, .int x3)], [], pm_hp L fz t I J, 0, 0)
def K_X3_readSum_7 (d : Nat) (fz t : Bool) (Q : pm_R → pm_H → Prop) (a1 : Nat) (x2 : Int32) (x3 : Int32) : pm_R → pm_H → Prop := pm_K d 48 Q 7 [(0, .ref 1), (1, .ref a1), (2, .int x2), (3, .int x3)] [] 118 0 fz 0 0
def t_X3_readSum_10 (d L : Nat) (fz t : Bool) (Q : pm_R → pm_H → Prop) (a1 : Nat) (x2 : Int32) (x3 : Int32) (x4 : Int32) (I : Nat → Nat → Int32) (J : Nat → Nat → Int64) : Prop := pm_T (pm_Ev d) 48 Q (10, [(0, .ref 1), (1, .ref a1), (2, .int x2), (3, .int x3), (4, .int x4)], [], pm_hp L fz t I J, 0, 0)
def t_X3_readSum_31 (d L : Nat) (fz t : Bool) (Q : pm_R → pm_H → Prop) (a1 : Nat) (x2 : Int32) (x3 : Int32) (x4 : Int32) (r : Int32) (I : Nat → Nat → Int32) (J : Nat → Nat → Int64) : Prop := pm_T (pm_Ev d) 48 Q (31, [(0, .ref 1), (1, .ref a1), (2, .int x2), (3, .int x3), (4, .int x4)], [.int r], pm_hp L fz t I J, 0, 0)
def K_X3_readSum_31 (d : Nat) (fz t : Bool) (Q : pm_R → pm_H → Prop) (a1 : Nat) (x2 : Int32) (x3 : Int32) (x4 : Int32) : pm_R → pm_H → Prop := pm_K d 48 Q 31 [(0, .ref 1), (1, .ref a1), (2, .int x2), (3, .int x3), (4, .int x4)] [] 118 0 fz 0 0
def t_X3_readSum_49 (d L : Nat) (fz t : Bool) (Q : pm_R → pm_H → Prop) (a1 : Nat) (x2 : Int32) (x3 : Int32) (x4 : Int32) (r : Int32) (I : Nat → Nat → Int32) (J : Nat → Nat → Int64) : Prop := pm_T (pm_Ev d) 48 Q (49, [(0, .ref 1), (1, .ref a1), (2, .int x2), (3, .int x3), (4, .int x4)], [.int r], pm_hp L fz t I J, 0, 0)
def K_X3_readSum_49 (d : Nat) (fz t : Bool) (Q : pm_R → pm_H → Prop) (a1 : Nat) (x2 : Int32) (x3 : Int32) (x4 : Int32) : pm_R → pm_H → Prop := pm_K d 48 Q 49 [(0, .ref 1), (1, .ref a1), (2, .int x2), (3, .int x3), (4, .int x4)] [] 118 0 fz 0 0
def t_X3_readSum_40 (d L : Nat) (fz t : Bool) (Q : pm_R → pm_H → Prop) (a1 : Nat) (x2 : Int32) (x3 : Int32) (x4 : Int32) (r : Int32) (I : Nat → Nat → Int32) (J : Nat → Nat → Int64) : Prop := pm_T (pm_Ev d) 48 Q (40, [(0, .ref 1), (1, .ref a1), (2, .int x2), (3, .int x3), (4, .int x4)], [.int r], pm_hp L fz t I J, 0, 0)
def K_X3_readSum_40 (d : Nat) (fz t : Bool) (Q : pm_R → pm_H → Prop) (a1 : Nat) (x2 : Int32) (x3 : Int32) (x4 : Int32) : pm_R → pm_H → Prop := pm_K d 48 Q 40 [(0, .ref 1), (1, .ref a1), (2, .int x2), (3, .int x3), (4, .int x4)] [] 118 0 fz 0 0
def t_X3_readSum_64 (d L : Nat) (fz t : Bool) (Q : pm_R → pm_H → Prop) (a1 : Nat) (x2 : Int32) (x3 : Int32) (x4 : Int32) (x5 : Int32) (I : Nat → Nat → Int32) (J : Nat → Nat → Int64) : Prop := pm_T (pm_Ev d) 48 Q (64, [(0, .ref 1), (1, .ref a1), (2, .int x2), (3, .int x3), (4, .int x4), (5, .int x5)], [], pm_hp L fz t I J, 0, 0)
def K_X3_readSum_64 (d : Nat) (fz t : Bool) (Q : pm_R → pm_H → Prop) (a1 : Nat) (x2 : Int32) (x3 : Int32) (x4 : Int32) (x5 : Int32) : pm_R → pm_H → Prop := pm_K d 48 Q 64 [(0, .ref 1), (1, .ref a1), (2, .int x2), (3, .int x3), (4, .int x4), (5, .int x5)] [] 118 0 fz 0 0
def t_X3_readSum_71 (d L : Nat) (fz t : Bool) (Q : pm_R → pm_H → Prop) (a1 : Nat) (x2 : Int32) (x3 : Int32) (x4 : Int32) (x5 : Int32) (I : Nat → Nat → Int32) (J : Nat → Nat → Int64) : Prop := pm_T (pm_Ev d) 48 Q (71, [(0, .ref 1), (1, .ref a1), (2, .int x2), (3, .int x3), (4, .int x4), (5, .int x5)], [], pm_hp L fz t I J, 0, 0)
def K_X3_readSum_71 (d : Nat) (fz t : Bool) (Q : pm_R → pm_H → Prop) (a1 : Nat) (x2 : Int32) (x3 : Int32) (x4 : Int32) (x5 : Int32) : pm_R → pm_H → Prop := pm_K d 48 Q 71 [(0, .ref 1), (1, .ref a1), (2, .int x2), (3, .int x3), (4, .int x4), (5, .int x5)] [] 118 0 fz 0 0
def t_X3_readSum_77 (d L : Nat) (fz t : Bool) (Q : pm_R → pm_H → Prop) (a1 : Nat) (x2 : Int32) (x3 : Int32) (x4 : Int32) (I : Nat → Nat → Int32) (J : Nat → Nat → Int64) : Prop := pm_T (pm_Ev d) 48 Q (77, [(0, .ref 1), (1, .ref a1), (2, .int x2), (3, .int x3), (4, .int x4)], [], pm_hp L fz t I J, 0, 0)
def K_X3_readSum_77 (d : Nat) (fz t : Bool) (Q : pm_R → pm_H → Prop) (a1 : Nat) (x2 : Int32) (x3 : Int32) (x4 : Int32) : pm_R → pm_H → Prop := pm_K d 48 Q 77 [(0, .ref 1), (1, .ref a1), (2, .int x2), (3, .int x3), (4, .int x4)] [] 118 0 fz 0 0
set_option maxRecDepth 100000 in
theorem b_X3_readSum_0 {d L : Nat} {fz t : Bool} {Q : pm_R → pm_H → Prop} {a1 : Nat} {x2 : Int32} {x3 : Int32} {I : Nat → Nat → Int32} {J : Nat → Nat → Int64} (ha1 : a1 = 64 ∨ a1 = 67 ∨ a1 = 79 ∨ a1 = 82)
    (h : pm_Ev d 49 [.ref 1, .ref a1, .int x2, .int x3] (pm_hp L fz t I J) (K_X3_readSum_7 d fz t Q a1 x2 x3)) :
    t_X3_readSum_0 d L fz t Q a1 x2 x3 I J := by
  rcases ha1 with rfl | rfl | rfl | rfl <;> exact pm_go d [(7, [0, 1, 2, 3]), (10, [0, 1, 2, 3, 4]), (31, [0, 1, 2, 3, 4]), (40, [0, 1, 2, 3, 4]), (49, [0, 1, 2, 3, 4]), (64, [0, 1, 2, 3, 4, 5]), (71, [0, 1, 2, 3, 4, 5]), (77, [0, 1, 2, 3, 4])] 400 h
theorem e_X3_readSum {d L : Nat} {fz t : Bool} {Q : pm_R → pm_H → Prop} {a1 : Nat} {x2 : Int32} {x3 : Int32} {I : Nat → Nat → Int32} {J : Nat → Nat → Int64} (ha1 : a1 = 64 ∨ a1 = 67 ∨ a1 = 79 ∨ a1 = 82)
    (h : pm_Ev d 49 [.ref 1, .ref a1, .int x2, .int x3] (pm_hp L fz t I J) (K_X3_readSum_7 d fz t Q a1 x2 x3)) :
    pm_Ev (d + 1) 48 [.ref 1, .ref a1, .int x2, .int x3] (pm_hp L fz t I J) Q := pm_Ev_in rfl (b_X3_readSum_0 ha1 h)
set_option maxRecDepth 100000 in
theorem b_X3_readSum_7 {d L : Nat} {fz t : Bool} {Q : pm_R → pm_H → Prop} {a1 : Nat} {x2 : Int32} {x3 : Int32} {I : Nat → Nat → Int32} {J : Nat → Nat → Int64} (ha1 : a1 = 64 ∨ a1 = 67 ∨ a1 = 79 ∨ a1 = 82)
    (h : t_X3_readSum_10 d L fz t Q a1 x2 x3 (nI 0) I J) :
    t_X3_readSum_7 d L fz t Q a1 x2 x3 I J := by
  rcases ha1 with rfl | rfl | rfl | rfl <;> exact pm_go d [(7, [0, 1, 2, 3]), (10, [0, 1, 2, 3, 4]), (31, [0, 1, 2, 3, 4]), (40, [0, 1, 2, 3, 4]), (49, [0, 1, 2, 3, 4]), (64, [0, 1, 2, 3, 4, 5]), (71, [0, 1, 2, 3, 4, 5]), (77, [0, 1, 2, 3, 4])] 400 h
theorem kb_X3_readSum_7 {d L : Nat} {fz t : Bool} {Q : pm_R → pm_H → Prop} {a1 : Nat} {x2 : Int32} {x3 : Int32} {fz1 : Bool} {I : Nat → Nat → Int32} {J : Nat → Nat → Int64} (ha1 : a1 = 64 ∨ a1 = 67 ∨ a1 = 79 ∨ a1 = 82)
    (h : t_X3_readSum_10 d L fz t Q a1 x2 x3 (nI 0) I J) :
    K_X3_readSum_7 d fz t Q a1 x2 x3 (.inl none) (pm_hp L fz1 t I J) := b_X3_readSum_7 ha1 h
set_option maxRecDepth 100000 in
theorem b_X3_readSum_10 {d L : Nat} {fz t : Bool} {Q : pm_R → pm_H → Prop} {a1 : Nat} {x2 : Int32} {x3 : Int32} {x4 : Int32} {I : Nat → Nat → Int32} {J : Nat → Nat → Int64} (ha1 : a1 = 64 ∨ a1 = 67 ∨ a1 = 79 ∨ a1 = 82)
    (h : (((nI 700) ≤ x4 → Q (.inl none) (pm_hp L fz t I J)) ∧ (¬ (nI 700) ≤ x4 → ((¬ (I 1 8) = (nI 0) → Q (.inl none) (pm_hp L fz t I J)) ∧ ((I 1 8) = (nI 0) → pm_Ev d 33 [.ref 1, .int (nI 43)] (pm_hp L fz t I J) (K_X3_readSum_31 d fz t Q a1 x2 x3 x4)))))) :
    t_X3_readSum_10 d L fz t Q a1 x2 x3 x4 I J := by
  rcases ha1 with rfl | rfl | rfl | rfl <;> exact pm_go d [(7, [0, 1, 2, 3]), (10, [0, 1, 2, 3, 4]), (31, [0, 1, 2, 3, 4]), (40, [0, 1, 2, 3, 4]), (49, [0, 1, 2, 3, 4]), (64, [0, 1, 2, 3, 4, 5]), (71, [0, 1, 2, 3, 4, 5]), (77, [0, 1, 2, 3, 4])] 400 ⟨fun q0 => ((h).1 q0), fun q0 => ⟨fun q1 => ((((h).2 q0)).1 q1), fun q1 => ((((h).2 q0)).2 q1)⟩⟩
set_option maxRecDepth 100000 in
theorem b_X3_readSum_31 {d L : Nat} {fz t : Bool} {Q : pm_R → pm_H → Prop} {a1 : Nat} {x2 : Int32} {x3 : Int32} {x4 : Int32} {r : Int32} {I : Nat → Nat → Int32} {J : Nat → Nat → Int64} (ha1 : a1 = 64 ∨ a1 = 67 ∨ a1 = 79 ∨ a1 = 82)
    (h : ((¬ r = (nI 0) → pm_Ev d 33 [.ref 1, .int (nI 43)] (pm_hp L fz t I J) (K_X3_readSum_49 d fz t Q a1 x2 x3 x4)) ∧ (r = (nI 0) → pm_Ev d 33 [.ref 1, .int (nI 45)] (pm_hp L fz t I J) (K_X3_readSum_40 d fz t Q a1 x2 x3 x4)))) :
    t_X3_readSum_31 d L fz t Q a1 x2 x3 x4 r I J := by
  rcases ha1 with rfl | rfl | rfl | rfl <;> exact pm_go d [(7, [0, 1, 2, 3]), (10, [0, 1, 2, 3, 4]), (31, [0, 1, 2, 3, 4]), (40, [0, 1, 2, 3, 4]), (49, [0, 1, 2, 3, 4]), (64, [0, 1, 2, 3, 4, 5]), (71, [0, 1, 2, 3, 4, 5]), (77, [0, 1, 2, 3, 4])] 400 ⟨fun q0 => ((h).1 q0), fun q0 => ((h).2 q0)⟩
theorem kb_X3_readSum_31 {d L : Nat} {fz t : Bool} {Q : pm_R → pm_H → Prop} {a1 : Nat} {x2 : Int32} {x3 : Int32} {x4 : Int32} {r : Int32} {fz1 : Bool} {I : Nat → Nat → Int32} {J : Nat → Nat → Int64} (ha1 : a1 = 64 ∨ a1 = 67 ∨ a1 = 79 ∨ a1 = 82)
    (h : ((¬ r = (nI 0) → pm_Ev d 33 [.ref 1, .int (nI 43)] (pm_hp L fz t I J) (K_X3_readSum_49 d fz t Q a1 x2 x3 x4)) ∧ (r = (nI 0) → pm_Ev d 33 [.ref 1, .int (nI 45)] (pm_hp L fz t I J) (K_X3_readSum_40 d fz t Q a1 x2 x3 x4)))) :
    K_X3_readSum_31 d fz t Q a1 x2 x3 x4 (.inl (some (.int r))) (pm_hp L fz1 t I J) := b_X3_readSum_31 ha1 h
set_option maxRecDepth 100000 in
theorem b_X3_readSum_49 {d L : Nat} {fz t : Bool} {Q : pm_R → pm_H → Prop} {a1 : Nat} {x2 : Int32} {x3 : Int32} {x4 : Int32} {r : Int32} {I : Nat → Nat → Int32} {J : Nat → Nat → Int64} (ha1 : a1 = 64 ∨ a1 = 67 ∨ a1 = 79 ∨ a1 = 82)
    (h : ((r = (nI 0) → pm_Ev d 28 [.ref 1] (pm_hp L fz t I J) (K_X3_readSum_64 d fz t Q a1 x2 x3 x4 (nI 6))) ∧ (¬ r = (nI 0) → pm_Ev d 28 [.ref 1] (pm_hp L fz t I J) (K_X3_readSum_64 d fz t Q a1 x2 x3 x4 (nI 5))))) :
    t_X3_readSum_49 d L fz t Q a1 x2 x3 x4 r I J := by
  rcases ha1 with rfl | rfl | rfl | rfl <;> exact pm_go d [(7, [0, 1, 2, 3]), (10, [0, 1, 2, 3, 4]), (31, [0, 1, 2, 3, 4]), (40, [0, 1, 2, 3, 4]), (49, [0, 1, 2, 3, 4]), (64, [0, 1, 2, 3, 4, 5]), (71, [0, 1, 2, 3, 4, 5]), (77, [0, 1, 2, 3, 4])] 400 ⟨fun q0 => ((h).1 q0), fun q0 => ((h).2 q0)⟩
theorem kb_X3_readSum_49 {d L : Nat} {fz t : Bool} {Q : pm_R → pm_H → Prop} {a1 : Nat} {x2 : Int32} {x3 : Int32} {x4 : Int32} {r : Int32} {fz1 : Bool} {I : Nat → Nat → Int32} {J : Nat → Nat → Int64} (ha1 : a1 = 64 ∨ a1 = 67 ∨ a1 = 79 ∨ a1 = 82)
    (h : ((r = (nI 0) → pm_Ev d 28 [.ref 1] (pm_hp L fz t I J) (K_X3_readSum_64 d fz t Q a1 x2 x3 x4 (nI 6))) ∧ (¬ r = (nI 0) → pm_Ev d 28 [.ref 1] (pm_hp L fz t I J) (K_X3_readSum_64 d fz t Q a1 x2 x3 x4 (nI 5))))) :
    K_X3_readSum_49 d fz t Q a1 x2 x3 x4 (.inl (some (.int r))) (pm_hp L fz1 t I J) := b_X3_readSum_49 ha1 h
set_option maxRecDepth 100000 in
theorem b_X3_readSum_40 {d L : Nat} {fz t : Bool} {Q : pm_R → pm_H → Prop} {a1 : Nat} {x2 : Int32} {x3 : Int32} {x4 : Int32} {r : Int32} {I : Nat → Nat → Int32} {J : Nat → Nat → Int64} (ha1 : a1 = 64 ∨ a1 = 67 ∨ a1 = 79 ∨ a1 = 82)
    (h : ((r = (nI 0) → Q (.inl none) (pm_hp L fz t I J)) ∧ (¬ r = (nI 0) → pm_Ev d 33 [.ref 1, .int (nI 43)] (pm_hp L fz t I J) (K_X3_readSum_49 d fz t Q a1 x2 x3 x4)))) :
    t_X3_readSum_40 d L fz t Q a1 x2 x3 x4 r I J := by
  rcases ha1 with rfl | rfl | rfl | rfl <;> exact pm_go d [(7, [0, 1, 2, 3]), (10, [0, 1, 2, 3, 4]), (31, [0, 1, 2, 3, 4]), (40, [0, 1, 2, 3, 4]), (49, [0, 1, 2, 3, 4]), (64, [0, 1, 2, 3, 4, 5]), (71, [0, 1, 2, 3, 4, 5]), (77, [0, 1, 2, 3, 4])] 400 ⟨fun q0 => ((h).1 q0), fun q0 => ((h).2 q0)⟩
theorem kb_X3_readSum_40 {d L : Nat} {fz t : Bool} {Q : pm_R → pm_H → Prop} {a1 : Nat} {x2 : Int32} {x3 : Int32} {x4 : Int32} {r : Int32} {fz1 : Bool} {I : Nat → Nat → Int32} {J : Nat → Nat → Int64} (ha1 : a1 = 64 ∨ a1 = 67 ∨ a1 = 79 ∨ a1 = 82)
    (h : ((r = (nI 0) → Q (.inl none) (pm_hp L fz t I J)) ∧ (¬ r = (nI 0) → pm_Ev d 33 [.ref 1, .int (nI 43)] (pm_hp L fz t I J) (K_X3_readSum_49 d fz t Q a1 x2 x3 x4)))) :
    K_X3_readSum_40 d fz t Q a1 x2 x3 x4 (.inl (some (.int r))) (pm_hp L fz1 t I J) := b_X3_readSum_40 ha1 h
set_option maxRecDepth 100000 in
theorem b_X3_readSum_64 {d L : Nat} {fz t : Bool} {Q : pm_R → pm_H → Prop} {a1 : Nat} {x2 : Int32} {x3 : Int32} {x4 : Int32} {x5 : Int32} {I : Nat → Nat → Int32} {J : Nat → Nat → Int64} (ha1 : a1 = 64 ∨ a1 = 67 ∨ a1 = 79 ∨ a1 = 82)
    (h : pm_Ev d 49 [.ref 1, .ref a1, .int x2, .int x3] (pm_hp L fz t I J) (K_X3_readSum_71 d fz t Q a1 x2 x3 x4 x5)) :
    t_X3_readSum_64 d L fz t Q a1 x2 x3 x4 x5 I J := by
  rcases ha1 with rfl | rfl | rfl | rfl <;> exact pm_go d [(7, [0, 1, 2, 3]), (10, [0, 1, 2, 3, 4]), (31, [0, 1, 2, 3, 4]), (40, [0, 1, 2, 3, 4]), (49, [0, 1, 2, 3, 4]), (64, [0, 1, 2, 3, 4, 5]), (71, [0, 1, 2, 3, 4, 5]), (77, [0, 1, 2, 3, 4])] 400 h
theorem kb_X3_readSum_64 {d L : Nat} {fz t : Bool} {Q : pm_R → pm_H → Prop} {a1 : Nat} {x2 : Int32} {x3 : Int32} {x4 : Int32} {x5 : Int32} {fz1 : Bool} {I : Nat → Nat → Int32} {J : Nat → Nat → Int64} (ha1 : a1 = 64 ∨ a1 = 67 ∨ a1 = 79 ∨ a1 = 82)
    (h : pm_Ev d 49 [.ref 1, .ref a1, .int x2, .int x3] (pm_hp L fz t I J) (K_X3_readSum_71 d fz t Q a1 x2 x3 x4 x5)) :
    K_X3_readSum_64 d fz t Q a1 x2 x3 x4 x5 (.inl none) (pm_hp L fz1 t I J) := b_X3_readSum_64 ha1 h
set_option maxRecDepth 100000 in
theorem b_X3_readSum_71 {d L : Nat} {fz t : Bool} {Q : pm_R → pm_H → Prop} {a1 : Nat} {x2 : Int32} {x3 : Int32} {x4 : Int32} {x5 : Int32} {I : Nat → Nat → Int32} {J : Nat → Nat → Int64} (ha1 : a1 = 64 ∨ a1 = 67 ∨ a1 = 79 ∨ a1 = 82)
    (h : pm_Ev d 7 [.ref a1, .int x5] (pm_hp L fz t I J) (K_X3_readSum_77 d fz t Q a1 x2 x3 x4)) :
    t_X3_readSum_71 d L fz t Q a1 x2 x3 x4 x5 I J := by
  rcases ha1 with rfl | rfl | rfl | rfl <;> exact pm_go d [(7, [0, 1, 2, 3]), (10, [0, 1, 2, 3, 4]), (31, [0, 1, 2, 3, 4]), (40, [0, 1, 2, 3, 4]), (49, [0, 1, 2, 3, 4]), (64, [0, 1, 2, 3, 4, 5]), (71, [0, 1, 2, 3, 4, 5]), (77, [0, 1, 2, 3, 4])] 400 h
theorem kb_X3_readSum_71 {d L : Nat} {fz t : Bool} {Q : pm_R → pm_H → Prop} {a1 : Nat} {x2 : Int32} {x3 : Int32} {x4 : Int32} {x5 : Int32} {fz1 : Bool} {I : Nat → Nat → Int32} {J : Nat → Nat → Int64} (ha1 : a1 = 64 ∨ a1 = 67 ∨ a1 = 79 ∨ a1 = 82)
    (h : pm_Ev d 7 [.ref a1, .int x5] (pm_hp L fz t I J) (K_X3_readSum_77 d fz t Q a1 x2 x3 x4)) :
    K_X3_readSum_71 d fz t Q a1 x2 x3 x4 x5 (.inl none) (pm_hp L fz1 t I J) := b_X3_readSum_71 ha1 h
set_option maxRecDepth 100000 in
theorem b_X3_readSum_77 {d L : Nat} {fz t : Bool} {Q : pm_R → pm_H → Prop} {a1 : Nat} {x2 : Int32} {x3 : Int32} {x4 : Int32} {I : Nat → Nat → Int32} {J : Nat → Nat → Int64} (ha1 : a1 = 64 ∨ a1 = 67 ∨ a1 = 79 ∨ a1 = 82)
    (h : t_X3_readSum_10 d L fz t Q a1 x2 x3 (x4 + (nI 1)) I J) :
    t_X3_readSum_77 d L fz t Q a1 x2 x3 x4 I J := by
  rcases ha1 with rfl | rfl | rfl | rfl <;> exact pm_go d [(7, [0, 1, 2, 3]), (10, [0, 1, 2, 3, 4]), (31, [0, 1, 2, 3, 4]), (40, [0, 1, 2, 3, 4]), (49, [0, 1, 2, 3, 4]), (64, [0, 1, 2, 3, 4, 5]), (71, [0, 1, 2, 3, 4, 5]), (77, [0, 1, 2, 3, 4])] 400 h
theorem kb_X3_readSum_77 {d L : Nat} {fz t : Bool} {Q : pm_R → pm_H → Prop} {a1 : Nat} {x2 : Int32} {x3 : Int32} {x4 : Int32} {fz1 : Bool} {I : Nat → Nat → Int32} {J : Nat → Nat → Int64} (ha1 : a1 = 64 ∨ a1 = 67 ∨ a1 = 79 ∨ a1 = 82)
    (h : t_X3_readSum_10 d L fz t Q a1 x2 x3 (x4 + (nI 1)) I J) :
    K_X3_readSum_77 d fz t Q a1 x2 x3 x4 (.inl none) (pm_hp L fz1 t I J) := b_X3_readSum_77 ha1 h
def t_X3_readProduct_0 (d L : Nat) (fz t : Bool) (Q : pm_R → pm_H → Prop) (a1 : Nat) (x2 : Int32) (x3 : Int32) (I : Nat → Nat → Int32) (J : Nat → Nat → Int64) : Prop := pm_T (pm_Ev d) 49 Q (0, [(0, .ref 1), (1, .ref a1), (2, .int x2), (3, .int x3)], [], pm_hp L fz t I J, 0, 0)
def t_X3_readProduct_7 (d L : Nat) (fz t : Bool) (Q : pm_R → pm_H → Prop) (a1 : Nat) (x2 : Int32) (x3 : Int32) (I : Nat → Nat → Int32) (J : Nat → Nat → Int64) : Prop := pm_T (pm_Ev d) 49 Q (7, [(0, .ref 1), (1, .ref a1), (2, .int x2), (3, .int x3)], [], pm_hp L fz t I J, 0, 0)
def K_X3_readProduct_7 (d : Nat) (fz t : Bool) (Q : pm_R → pm_H → Prop) (a1 : Nat) (x2 : Int32) (x3 : Int32) : pm_R → pm_H → Prop := pm_K d 49 Q 7 [(0, .ref 1), (1, .ref a1), (2, .int x2), (3, .int x3)] [] 118 0 fz 0 0
def t_X3_readProduct_10 (d L : Nat) (fz t : Bool) (Q : pm_R → pm_H → Prop) (a1 : Nat) (x2 : Int32) (x3 : Int32) (x4 : Int32) (I : Nat → Nat → Int32) (J : Nat → Nat → Int64) : Prop := pm_T (pm_Ev d) 49 Q (10, [(0, .ref 1), (1, .ref a1), (2, .int x2), (3, .int x3), (4, .int x4)], [], pm_hp L fz t I J, 0, 0)
def t_X3_readProduct_31 (d L : Nat) (fz t : Bool) (Q : pm_R → pm_H → Prop) (a1 : Nat) (x2 : Int32) (x3 : Int32) (x4 : Int32) (r : Int32) (I : Nat → Nat → Int32) (J : Nat → Nat → Int64) : Prop := pm_T (pm_Ev d) 49 Q (31, [(0, .ref 1), (1, .ref a1), (2, .int x2), (3, .int x3), (4, .int x4)], [.int r], pm_hp L fz t I J, 0, 0)
def K_X3_readProduct_31 (d : Nat) (fz t : Bool) (Q : pm_R → pm_H → Prop) (a1 : Nat) (x2 : Int32) (x3 : Int32) (x4 : Int32) : pm_R → pm_H → Prop := pm_K d 49 Q 31 [(0, .ref 1), (1, .ref a1), (2, .int x2), (3, .int x3), (4, .int x4)] [] 118 0 fz 0 0
def t_X3_readProduct_49 (d L : Nat) (fz t : Bool) (Q : pm_R → pm_H → Prop) (a1 : Nat) (x2 : Int32) (x3 : Int32) (x4 : Int32) (r : Int32) (I : Nat → Nat → Int32) (J : Nat → Nat → Int64) : Prop := pm_T (pm_Ev d) 49 Q (49, [(0, .ref 1), (1, .ref a1), (2, .int x2), (3, .int x3), (4, .int x4)], [.int r], pm_hp L fz t I J, 0, 0)
def K_X3_readProduct_49 (d : Nat) (fz t : Bool) (Q : pm_R → pm_H → Prop) (a1 : Nat) (x2 : Int32) (x3 : Int32) (x4 : Int32) : pm_R → pm_H → Prop := pm_K d 49 Q 49 [(0, .ref 1), (1, .ref a1), (2, .int x2), (3, .int x3), (4, .int x4)] [] 118 0 fz 0 0
def t_X3_readProduct_40 (d L : Nat) (fz t : Bool) (Q : pm_R → pm_H → Prop) (a1 : Nat) (x2 : Int32) (x3 : Int32) (x4 : Int32) (r : Int32) (I : Nat → Nat → Int32) (J : Nat → Nat → Int64) : Prop := pm_T (pm_Ev d) 49 Q (40, [(0, .ref 1), (1, .ref a1), (2, .int x2), (3, .int x3), (4, .int x4)], [.int r], pm_hp L fz t I J, 0, 0)
def K_X3_readProduct_40 (d : Nat) (fz t : Bool) (Q : pm_R → pm_H → Prop) (a1 : Nat) (x2 : Int32) (x3 : Int32) (x4 : Int32) : pm_R → pm_H → Prop := pm_K d 49 Q 40 [(0, .ref 1), (1, .ref a1), (2, .int x2), (3, .int x3), (4, .int x4)] [] 118 0 fz 0 0
def t_X3_readProduct_65 (d L : Nat) (fz t : Bool) (Q : pm_R → pm_H → Prop) (a1 : Nat) (x2 : Int32) (x3 : Int32) (x4 : Int32) (x5 : Int32) (I : Nat → Nat → Int32) (J : Nat → Nat → Int64) : Prop := pm_T (pm_Ev d) 49 Q (65, [(0, .ref 1), (1, .ref a1), (2, .int x2), (3, .int x3), (4, .int x4), (5, .int x5)], [], pm_hp L fz t I J, 0, 0)
def K_X3_readProduct_65 (d : Nat) (fz t : Bool) (Q : pm_R → pm_H → Prop) (a1 : Nat) (x2 : Int32) (x3 : Int32) (x4 : Int32) (x5 : Int32) : pm_R → pm_H → Prop := pm_K d 49 Q 65 [(0, .ref 1), (1, .ref a1), (2, .int x2), (3, .int x3), (4, .int x4), (5, .int x5)] [] 118 0 fz 0 0
def t_X3_readProduct_72 (d L : Nat) (fz t : Bool) (Q : pm_R → pm_H → Prop) (a1 : Nat) (x2 : Int32) (x3 : Int32) (x4 : Int32) (x5 : Int32) (I : Nat → Nat → Int32) (J : Nat → Nat → Int64) : Prop := pm_T (pm_Ev d) 49 Q (72, [(0, .ref 1), (1, .ref a1), (2, .int x2), (3, .int x3), (4, .int x4), (5, .int x5)], [], pm_hp L fz t I J, 0, 0)
def K_X3_readProduct_72 (d : Nat) (fz t : Bool) (Q : pm_R → pm_H → Prop) (a1 : Nat) (x2 : Int32) (x3 : Int32) (x4 : Int32) (x5 : Int32) : pm_R → pm_H → Prop := pm_K d 49 Q 72 [(0, .ref 1), (1, .ref a1), (2, .int x2), (3, .int x3), (4, .int x4), (5, .int x5)] [] 118 0 fz 0 0
def t_X3_readProduct_78 (d L : Nat) (fz t : Bool) (Q : pm_R → pm_H → Prop) (a1 : Nat) (x2 : Int32) (x3 : Int32) (x4 : Int32) (I : Nat → Nat → Int32) (J : Nat → Nat → Int64) : Prop := pm_T (pm_Ev d) 49 Q (78, [(0, .ref 1), (1, .ref a1), (2, .int x2), (3, .int x3), (4, .int x4)], [], pm_hp L fz t I J, 0, 0)
def K_X3_readProduct_78 (d : Nat) (fz t : Bool) (Q : pm_R → pm_H → Prop) (a1 : Nat) (x2 : Int32) (x3 : Int32) (x4 : Int32) : pm_R → pm_H → Prop := pm_K d 49 Q 78 [(0, .ref 1), (1, .ref a1), (2, .int x2), (3, .int x3), (4, .int x4)] [] 118 0 fz 0 0
set_option maxRecDepth 100000 in
theorem b_X3_readProduct_0 {d L : Nat} {fz t : Bool} {Q : pm_R → pm_H → Prop} {a1 : Nat} {x2 : Int32} {x3 : Int32} {I : Nat → Nat → Int32} {J : Nat → Nat → Int64} (ha1 : a1 = 64 ∨ a1 = 67 ∨ a1 = 79 ∨ a1 = 82)
    (h : pm_Ev d 50 [.ref 1, .ref a1, .int x2, .int x3] (pm_hp L fz t I J) (K_X3_readProduct_7 d fz t Q a1 x2 x3)) :
    t_X3_readProduct_0 d L fz t Q a1 x2 x3 I J := by
  rcases ha1 with rfl | rfl | rfl | rfl <;> exact pm_go d [(7, [0, 1, 2, 3]), (10, [0, 1, 2, 3, 4]), (31, [0, 1, 2, 3, 4]), (40, [0, 1, 2, 3, 4]), (49, [0, 1, 2, 3, 4]), (65, [0, 1, 2, 3, 4, 5]), (72, [0, 1, 2, 3, 4, 5]), (78, [0, 1, 2, 3, 4])] 400 h
theorem e_X3_readProduct {d L : Nat} {fz t : Bool} {Q : pm_R → pm_H → Prop} {a1 : Nat} {x2 : Int32} {x3 : Int32} {I : Nat → Nat → Int32} {J : Nat → Nat → Int64} (ha1 : a1 = 64 ∨ a1 = 67 ∨ a1 = 79 ∨ a1 = 82)
    (h : pm_Ev d 50 [.ref 1, .ref a1, .int x2, .int x3] (pm_hp L fz t I J) (K_X3_readProduct_7 d fz t Q a1 x2 x3)) :
    pm_Ev (d + 1) 49 [.ref 1, .ref a1, .int x2, .int x3] (pm_hp L fz t I J) Q := pm_Ev_in rfl (b_X3_readProduct_0 ha1 h)
set_option maxRecDepth 100000 in
theorem b_X3_readProduct_7 {d L : Nat} {fz t : Bool} {Q : pm_R → pm_H → Prop} {a1 : Nat} {x2 : Int32} {x3 : Int32} {I : Nat → Nat → Int32} {J : Nat → Nat → Int64} (ha1 : a1 = 64 ∨ a1 = 67 ∨ a1 = 79 ∨ a1 = 82)
    (h : t_X3_readProduct_10 d L fz t Q a1 x2 x3 (nI 0) I J) :
    t_X3_readProduct_7 d L fz t Q a1 x2 x3 I J := by
  rcases ha1 with rfl | rfl | rfl | rfl <;> exact pm_go d [(7, [0, 1, 2, 3]), (10, [0, 1, 2, 3, 4]), (31, [0, 1, 2, 3, 4]), (40, [0, 1, 2, 3, 4]), (49, [0, 1, 2, 3, 4]), (65, [0, 1, 2, 3, 4, 5]), (72, [0, 1, 2, 3, 4, 5]), (78, [0, 1, 2, 3, 4])] 400 h
theorem kb_X3_readProduct_7 {d L : Nat} {fz t : Bool} {Q : pm_R → pm_H → Prop} {a1 : Nat} {x2 : Int32} {x3 : Int32} {fz1 : Bool} {I : Nat → Nat → Int32} {J : Nat → Nat → Int64} (ha1 : a1 = 64 ∨ a1 = 67 ∨ a1 = 79 ∨ a1 = 82)
    (h : t_X3_readProduct_10 d L fz t Q a1 x2 x3 (nI 0) I J) :
    K_X3_readProduct_7 d fz t Q a1 x2 x3 (.inl none) (pm_hp L fz1 t I J) := b_X3_readProduct_7 ha1 h
set_option maxRecDepth 100000 in
theorem b_X3_readProduct_10 {d L : Nat} {fz t : Bool} {Q : pm_R → pm_H → Prop} {a1 : Nat} {x2 : Int32} {x3 : Int32} {x4 : Int32} {I : Nat → Nat → Int32} {J : Nat → Nat → Int64} (ha1 : a1 = 64 ∨ a1 = 67 ∨ a1 = 79 ∨ a1 = 82)
    (h : (((nI 700) ≤ x4 → Q (.inl none) (pm_hp L fz t I J)) ∧ (¬ (nI 700) ≤ x4 → ((¬ (I 1 8) = (nI 0) → Q (.inl none) (pm_hp L fz t I J)) ∧ ((I 1 8) = (nI 0) → pm_Ev d 33 [.ref 1, .int (nI 42)] (pm_hp L fz t I J) (K_X3_readProduct_31 d fz t Q a1 x2 x3 x4)))))) :
    t_X3_readProduct_10 d L fz t Q a1 x2 x3 x4 I J := by
  rcases ha1 with rfl | rfl | rfl | rfl <;> exact pm_go d [(7, [0, 1, 2, 3]), (10, [0, 1, 2, 3, 4]), (31, [0, 1, 2, 3, 4]), (40, [0, 1, 2, 3, 4]), (49, [0, 1, 2, 3, 4]), (65, [0, 1, 2, 3, 4, 5]), (72, [0, 1, 2, 3, 4, 5]), (78, [0, 1, 2, 3, 4])] 400 ⟨fun q0 => ((h).1 q0), fun q0 => ⟨fun q1 => ((((h).2 q0)).1 q1), fun q1 => ((((h).2 q0)).2 q1)⟩⟩
set_option maxRecDepth 100000 in
theorem b_X3_readProduct_31 {d L : Nat} {fz t : Bool} {Q : pm_R → pm_H → Prop} {a1 : Nat} {x2 : Int32} {x3 : Int32} {x4 : Int32} {r : Int32} {I : Nat → Nat → Int32} {J : Nat → Nat → Int64} (ha1 : a1 = 64 ∨ a1 = 67 ∨ a1 = 79 ∨ a1 = 82)
    (h : ((¬ r = (nI 0) → pm_Ev d 33 [.ref 1, .int (nI 42)] (pm_hp L fz t I J) (K_X3_readProduct_49 d fz t Q a1 x2 x3 x4)) ∧ (r = (nI 0) → pm_Ev d 33 [.ref 1, .int (nI 47)] (pm_hp L fz t I J) (K_X3_readProduct_40 d fz t Q a1 x2 x3 x4)))) :
    t_X3_readProduct_31 d L fz t Q a1 x2 x3 x4 r I J := by
  rcases ha1 with rfl | rfl | rfl | rfl <;> exact pm_go d [(7, [0, 1, 2, 3]), (10, [0, 1, 2, 3, 4]), (31, [0, 1, 2, 3, 4]), (40, [0, 1, 2, 3, 4]), (49, [0, 1, 2, 3, 4]), (65, [0, 1, 2, 3, 4, 5]), (72, [0, 1, 2, 3, 4, 5]), (78, [0, 1, 2, 3, 4])] 400 ⟨fun q0 => ((h).1 q0), fun q0 => ((h).2 q0)⟩
theorem kb_X3_readProduct_31 {d L : Nat} {fz t : Bool} {Q : pm_R → pm_H → Prop} {a1 : Nat} {x2 : Int32} {x3 : Int32} {x4 : Int32} {r : Int32} {fz1 : Bool} {I : Nat → Nat → Int32} {J : Nat → Nat → Int64} (ha1 : a1 = 64 ∨ a1 = 67 ∨ a1 = 79 ∨ a1 = 82)
    (h : ((¬ r = (nI 0) → pm_Ev d 33 [.ref 1, .int (nI 42)] (pm_hp L fz t I J) (K_X3_readProduct_49 d fz t Q a1 x2 x3 x4)) ∧ (r = (nI 0) → pm_Ev d 33 [.ref 1, .int (nI 47)] (pm_hp L fz t I J) (K_X3_readProduct_40 d fz t Q a1 x2 x3 x4)))) :
    K_X3_readProduct_31 d fz t Q a1 x2 x3 x4 (.inl (some (.int r))) (pm_hp L fz1 t I J) := b_X3_readProduct_31 ha1 h
set_option maxRecDepth 100000 in
theorem b_X3_readProduct_49 {d L : Nat} {fz t : Bool} {Q : pm_R → pm_H → Prop} {a1 : Nat} {x2 : Int32} {x3 : Int32} {x4 : Int32} {r : Int32} {I : Nat → Nat → Int32} {J : Nat → Nat → Int64} (ha1 : a1 = 64 ∨ a1 = 67 ∨ a1 = 79 ∨ a1 = 82)
    (h : ((r = (nI 0) → pm_Ev d 28 [.ref 1] (pm_hp L fz t I J) (K_X3_readProduct_65 d fz t Q a1 x2 x3 x4 (nI 8))) ∧ (¬ r = (nI 0) → pm_Ev d 28 [.ref 1] (pm_hp L fz t I J) (K_X3_readProduct_65 d fz t Q a1 x2 x3 x4 (nI 7))))) :
    t_X3_readProduct_49 d L fz t Q a1 x2 x3 x4 r I J := by
  rcases ha1 with rfl | rfl | rfl | rfl <;> exact pm_go d [(7, [0, 1, 2, 3]), (10, [0, 1, 2, 3, 4]), (31, [0, 1, 2, 3, 4]), (40, [0, 1, 2, 3, 4]), (49, [0, 1, 2, 3, 4]), (65, [0, 1, 2, 3, 4, 5]), (72, [0, 1, 2, 3, 4, 5]), (78, [0, 1, 2, 3, 4])] 400 ⟨fun q0 => ((h).1 q0), fun q0 => ((h).2 q0)⟩
theorem kb_X3_readProduct_49 {d L : Nat} {fz t : Bool} {Q : pm_R → pm_H → Prop} {a1 : Nat} {x2 : Int32} {x3 : Int32} {x4 : Int32} {r : Int32} {fz1 : Bool} {I : Nat → Nat → Int32} {J : Nat → Nat → Int64} (ha1 : a1 = 64 ∨ a1 = 67 ∨ a1 = 79 ∨ a1 = 82)
    (h : ((r = (nI 0) → pm_Ev d 28 [.ref 1] (pm_hp L fz t I J) (K_X3_readProduct_65 d fz t Q a1 x2 x3 x4 (nI 8))) ∧ (¬ r = (nI 0) → pm_Ev d 28 [.ref 1] (pm_hp L fz t I J) (K_X3_readProduct_65 d fz t Q a1 x2 x3 x4 (nI 7))))) :
    K_X3_readProduct_49 d fz t Q a1 x2 x3 x4 (.inl (some (.int r))) (pm_hp L fz1 t I J) := b_X3_readProduct_49 ha1 h
set_option maxRecDepth 100000 in
theorem b_X3_readProduct_40 {d L : Nat} {fz t : Bool} {Q : pm_R → pm_H → Prop} {a1 : Nat} {x2 : Int32} {x3 : Int32} {x4 : Int32} {r : Int32} {I : Nat → Nat → Int32} {J : Nat → Nat → Int64} (ha1 : a1 = 64 ∨ a1 = 67 ∨ a1 = 79 ∨ a1 = 82)
    (h : ((r = (nI 0) → Q (.inl none) (pm_hp L fz t I J)) ∧ (¬ r = (nI 0) → pm_Ev d 33 [.ref 1, .int (nI 42)] (pm_hp L fz t I J) (K_X3_readProduct_49 d fz t Q a1 x2 x3 x4)))) :
    t_X3_readProduct_40 d L fz t Q a1 x2 x3 x4 r I J := by
  rcases ha1 with rfl | rfl | rfl | rfl <;> exact pm_go d [(7, [0, 1, 2, 3]), (10, [0, 1, 2, 3, 4]), (31, [0, 1, 2, 3, 4]), (40, [0, 1, 2, 3, 4]), (49, [0, 1, 2, 3, 4]), (65, [0, 1, 2, 3, 4, 5]), (72, [0, 1, 2, 3, 4, 5]), (78, [0, 1, 2, 3, 4])] 400 ⟨fun q0 => ((h).1 q0), fun q0 => ((h).2 q0)⟩
theorem kb_X3_readProduct_40 {d L : Nat} {fz t : Bool} {Q : pm_R → pm_H → Prop} {a1 : Nat} {x2 : Int32} {x3 : Int32} {x4 : Int32} {r : Int32} {fz1 : Bool} {I : Nat → Nat → Int32} {J : Nat → Nat → Int64} (ha1 : a1 = 64 ∨ a1 = 67 ∨ a1 = 79 ∨ a1 = 82)
    (h : ((r = (nI 0) → Q (.inl none) (pm_hp L fz t I J)) ∧ (¬ r = (nI 0) → pm_Ev d 33 [.ref 1, .int (nI 42)] (pm_hp L fz t I J) (K_X3_readProduct_49 d fz t Q a1 x2 x3 x4)))) :
    K_X3_readProduct_40 d fz t Q a1 x2 x3 x4 (.inl (some (.int r))) (pm_hp L fz1 t I J) := b_X3_readProduct_40 ha1 h
set_option maxRecDepth 100000 in
theorem b_X3_readProduct_65 {d L : Nat} {fz t : Bool} {Q : pm_R → pm_H → Prop} {a1 : Nat} {x2 : Int32} {x3 : Int32} {x4 : Int32} {x5 : Int32} {I : Nat → Nat → Int32} {J : Nat → Nat → Int64} (ha1 : a1 = 64 ∨ a1 = 67 ∨ a1 = 79 ∨ a1 = 82)
    (h : pm_Ev d 50 [.ref 1, .ref a1, .int x2, .int x3] (pm_hp L fz t I J) (K_X3_readProduct_72 d fz t Q a1 x2 x3 x4 x5)) :
    t_X3_readProduct_65 d L fz t Q a1 x2 x3 x4 x5 I J := by
  rcases ha1 with rfl | rfl | rfl | rfl <;> exact pm_go d [(7, [0, 1, 2, 3]), (10, [0, 1, 2, 3, 4]), (31, [0, 1, 2, 3, 4]), (40, [0, 1, 2, 3, 4]), (49, [0, 1, 2, 3, 4]), (65, [0, 1, 2, 3, 4, 5]), (72, [0, 1, 2, 3, 4, 5]), (78, [0, 1, 2, 3, 4])] 400 h
theorem kb_X3_readProduct_65 {d L : Nat} {fz t : Bool} {Q : pm_R → pm_H → Prop} {a1 : Nat} {x2 : Int32} {x3 : Int32} {x4 : Int32} {x5 : Int32} {fz1 : Bool} {I : Nat → Nat → Int32} {J : Nat → Nat → Int64} (ha1 : a1 = 64 ∨ a1 = 67 ∨ a1 = 79 ∨ a1 = 82)
    (h : pm_Ev d 50 [.ref 1, .ref a1, .int x2, .int x3] (pm_hp L fz t I J) (K_X3_readProduct_72 d fz t Q a1 x2 x3 x4 x5)) :
    K_X3_readProduct_65 d fz t Q a1 x2 x3 x4 x5 (.inl none) (pm_hp L fz1 t I J) := b_X3_readProduct_65 ha1 h
set_option maxRecDepth 100000 in
theorem b_X3_readProduct_72 {d L : Nat} {fz t : Bool} {Q : pm_R → pm_H → Prop} {a1 : Nat} {x2 : Int32} {x3 : Int32} {x4 : Int32} {x5 : Int32} {I : Nat → Nat → Int32} {J : Nat → Nat → Int64} (ha1 : a1 = 64 ∨ a1 = 67 ∨ a1 = 79 ∨ a1 = 82)
    (h : pm_Ev d 7 [.ref a1, .int x5] (pm_hp L fz t I J) (K_X3_readProduct_78 d fz t Q a1 x2 x3 x4)) :
    t_X3_readProduct_72 d L fz t Q a1 x2 x3 x4 x5 I J := by
  rcases ha1 with rfl | rfl | rfl | rfl <;> exact pm_go d [(7, [0, 1, 2, 3]), (10, [0, 1, 2, 3, 4]), (31, [0, 1, 2, 3, 4]), (40, [0, 1, 2, 3, 4]), (49, [0, 1, 2, 3, 4]), (65, [0, 1, 2, 3, 4, 5]), (72, [0, 1, 2, 3, 4, 5]), (78, [0, 1, 2, 3, 4])] 400 h
theorem kb_X3_readProduct_72 {d L : Nat} {fz t : Bool} {Q : pm_R → pm_H → Prop} {a1 : Nat} {x2 : Int32} {x3 : Int32} {x4 : Int32} {x5 : Int32} {fz1 : Bool} {I : Nat → Nat → Int32} {J : Nat → Nat → Int64} (ha1 : a1 = 64 ∨ a1 = 67 ∨ a1 = 79 ∨ a1 = 82)
    (h : pm_Ev d 7 [.ref a1, .int x5] (pm_hp L fz t I J) (K_X3_readProduct_78 d fz t Q a1 x2 x3 x4)) :
    K_X3_readProduct_72 d fz t Q a1 x2 x3 x4 x5 (.inl none) (pm_hp L fz1 t I J) := b_X3_readProduct_72 ha1 h
set_option maxRecDepth 100000 in
theorem b_X3_readProduct_78 {d L : Nat} {fz t : Bool} {Q : pm_R → pm_H → Prop} {a1 : Nat} {x2 : Int32} {x3 : Int32} {x4 : Int32} {I : Nat → Nat → Int32} {J : Nat → Nat → Int64} (ha1 : a1 = 64 ∨ a1 = 67 ∨ a1 = 79 ∨ a1 = 82)
    (h : t_X3_readProduct_10 d L fz t Q a1 x2 x3 (x4 + (nI 1)) I J) :
    t_X3_readProduct_78 d L fz t Q a1 x2 x3 x4 I J := by
  rcases ha1 with rfl | rfl | rfl | rfl <;> exact pm_go d [(7, [0, 1, 2, 3]), (10, [0, 1, 2, 3, 4]), (31, [0, 1, 2, 3, 4]), (40, [0, 1, 2, 3, 4]), (49, [0, 1, 2, 3, 4]), (65, [0, 1, 2, 3, 4, 5]), (72, [0, 1, 2, 3, 4, 5]), (78, [0, 1, 2, 3, 4])] 400 h
theorem kb_X3_readProduct_78 {d L : Nat} {fz t : Bool} {Q : pm_R → pm_H → Prop} {a1 : Nat} {x2 : Int32} {x3 : Int32} {x4 : Int32} {fz1 : Bool} {I : Nat → Nat → Int32} {J : Nat → Nat → Int64} (ha1 : a1 = 64 ∨ a1 = 67 ∨ a1 = 79 ∨ a1 = 82)
    (h : t_X3_readProduct_10 d L fz t Q a1 x2 x3 (x4 + (nI 1)) I J) :
    K_X3_readProduct_78 d fz t Q a1 x2 x3 x4 (.inl none) (pm_hp L fz1 t I J) := b_X3_readProduct_78 ha1 h
def t_X3_readPart_0 (d L : Nat) (fz t : Bool) (Q : pm_R → pm_H → Prop) (a1 : Nat) (x2 : Int32) (x3 : Int32) (I : Nat → Nat → Int32) (J : Nat → Nat → Int64) : Prop := pm_T (pm_Ev d) 50 Q (0, [(0, .ref 1), (1, .ref a1), (2, .int x2), (3, .int x3)], [], pm_hp L fz t I J, 0, 0)
def t_X3_readPart_82 (d L : Nat) (fz t : Bool) (Q : pm_R → pm_H → Prop) (a1 : Nat) (x2 : Int32) (x3 : Int32) (r : Int32) (I : Nat → Nat → Int32) (J : Nat → Nat → Int64) : Prop := pm_T (pm_Ev d) 50 Q (82, [(0, .ref 1), (1, .ref a1), (2, .int x2), (3, .int x3)], [.int r], pm_hp L fz t I J, 0, 0)
def K_X3_readPart_82 (d : Nat) (fz t : Bool) (Q : pm_R → pm_H → Prop) (a1 : Nat) (x2 : Int32) (x3 : Int32) : pm_R → pm_H → Prop := pm_K d 50 Q 82 [(0, .ref 1), (1, .ref a1), (2, .int x2), (3, .int x3)] [] 118 0 fz 0 0
def t_X3_readPart_49 (d L : Nat) (fz t : Bool) (Q : pm_R → pm_H → Prop) (a1 : Nat) (r : Int32) (I : Nat → Nat → Int32) (J : Nat → Nat → Int64) : Prop := pm_T (pm_Ev d) 50 Q (49, [(0, .ref 1), (1, .ref a1)], [.int r], pm_hp L fz t I J, 0, 0)
def K_X3_readPart_49 (d : Nat) (fz t : Bool) (Q : pm_R → pm_H → Prop) (a1 : Nat) : pm_R → pm_H → Prop := pm_K d 50 Q 49 [(0, .ref 1), (1, .ref a1)] [] 118 0 fz 0 0
def t_X3_readPart_42 (d L : Nat) (fz t : Bool) (Q : pm_R → pm_H → Prop) (a1 : Nat) (r : Int32) (I : Nat → Nat → Int32) (J : Nat → Nat → Int64) : Prop := pm_T (pm_Ev d) 50 Q (42, [(0, .ref 1), (1, .ref a1)], [.int r], pm_hp L fz t I J, 0, 0)
def K_X3_readPart_42 (d : Nat) (fz t : Bool) (Q : pm_R → pm_H → Prop) (a1 : Nat) : pm_R → pm_H → Prop := pm_K d 50 Q 42 [(0, .ref 1), (1, .ref a1)] [] 118 0 fz 0 0
def t_X3_readPart_19 (d L : Nat) (fz t : Bool) (Q : pm_R → pm_H → Prop) (a1 : Nat) (s1 : Int32) (r : Int32) (I : Nat → Nat → Int32) (J : Nat → Nat → Int64) : Prop := pm_T (pm_Ev d) 50 Q (19, [], [.int r, .int s1, .ref a1], pm_hp L fz t I J, 0, 0)
def K_X3_readPart_19 (d : Nat) (fz t : Bool) (Q : pm_R → pm_H → Prop) (a1 : Nat) (s1 : Int32) : pm_R → pm_H → Prop := pm_K d 50 Q 19 [] [.int s1, .ref a1] 118 0 fz 0 0
def t_X3_readPart_118 (d L : Nat) (fz t : Bool) (Q : pm_R → pm_H → Prop) (I : Nat → Nat → Int32) (J : Nat → Nat → Int64) : Prop := pm_T (pm_Ev d) 50 Q (118, [], [], pm_hp L fz t I J, 0, 0)
def K_X3_readPart_118 (d : Nat) (fz t : Bool) (Q : pm_R → pm_H → Prop) : pm_R → pm_H → Prop := pm_K d 50 Q 118 [] [] 118 0 fz 0 0
def t_X3_readPart_95 (d L : Nat) (fz t : Bool) (Q : pm_R → pm_H → Prop) (a1 : Nat) (x2 : Int32) (x3 : Int32) (I : Nat → Nat → Int32) (J : Nat → Nat → Int64) : Prop := pm_T (pm_Ev d) 50 Q (95, [(0, .ref 1), (1, .ref a1), (2, .int x2), (3, .int x3)], [], pm_hp L fz t I J, 0, 0)
def K_X3_readPart_95 (d : Nat) (fz t : Bool) (Q : pm_R → pm_H → Prop) (a1 : Nat) (x2 : Int32) (x3 : Int32) : pm_R → pm_H → Prop := pm_K d 50 Q 95 [(0, .ref 1), (1, .ref a1), (2, .int x2), (3, .int x3)] [] 118 0 fz 0 0
def t_X3_readPart_69 (d L : Nat) (fz t : Bool) (Q : pm_R → pm_H → Prop) (I : Nat → Nat → Int32) (J : Nat → Nat → Int64) : Prop := pm_T (pm_Ev d) 50 Q (69, [(0, .ref 1)], [], pm_hp L fz t I J, 0, 0)
def K_X3_readPart_69 (d : Nat) (fz t : Bool) (Q : pm_R → pm_H → Prop) : pm_R → pm_H → Prop := pm_K d 50 Q 69 [(0, .ref 1)] [] 118 0 fz 0 0
def t_X3_readPart_62 (d L : Nat) (fz t : Bool) (Q : pm_R → pm_H → Prop) (I : Nat → Nat → Int32) (J : Nat → Nat → Int64) : Prop := pm_T (pm_Ev d) 50 Q (62, [], [], pm_hp L fz t I J, 0, 0)
def K_X3_readPart_62 (d : Nat) (fz t : Bool) (Q : pm_R → pm_H → Prop) : pm_R → pm_H → Prop := pm_K d 50 Q 62 [] [] 118 0 fz 0 0
def t_X3_readPart_23 (d L : Nat) (fz t : Bool) (Q : pm_R → pm_H → Prop) (I : Nat → Nat → Int32) (J : Nat → Nat → Int64) : Prop := pm_T (pm_Ev d) 50 Q (23, [], [], pm_hp L fz t I J, 0, 0)
def K_X3_readPart_23 (d : Nat) (fz t : Bool) (Q : pm_R → pm_H → Prop) : pm_R → pm_H → Prop := pm_K d 50 Q 23 [] [] 118 0 fz 0 0
def t_X3_readPart_104 (d L : Nat) (fz t : Bool) (Q : pm_R → pm_H → Prop) (I : Nat → Nat → Int32) (J : Nat → Nat → Int64) : Prop := pm_T (pm_Ev d) 50 Q (104, [(0, .ref 1)], [], pm_hp L fz t I J, 0, 0)
def K_X3_readPart_104 (d : Nat) (fz t : Bool) (Q : pm_R → pm_H → Prop) : pm_R → pm_H → Prop := pm_K d 50 Q 104 [(0, .ref 1)] [] 118 0 fz 0 0
def t_X3_readPart_73 (d L : Nat) (fz t : Bool) (Q : pm_R → pm_H → Prop) (I : Nat → Nat → Int32) (J : Nat → Nat → Int64) : Prop := pm_T (pm_Ev d) 50 Q (73, [], [], pm_hp L fz t I J, 0, 0)
def K_X3_readPart_73 (d : Nat) (fz t : Bool) (Q : pm_R → pm_H → Prop) : pm_R → pm_H → Prop := pm_K d 50 Q 73 [] [] 118 0 fz 0 0
def t_X3_readPart_110 (d L : Nat) (fz t : Bool) (Q : pm_R → pm_H → Prop) (I : Nat → Nat → Int32) (J : Nat → Nat → Int64) : Prop := pm_T (pm_Ev d) 50 Q (110, [], [], pm_hp L fz t I J, 0, 0)
def K_X3_readPart_110 (d : Nat) (fz t : Bool) (Q : pm_R → pm_H → Prop) : pm_R → pm_H → Prop := pm_K d 50 Q 110 [] [] 118 0 fz 0 0
set_option maxRecDepth 100000 in
theorem b_X3_readPart_0 {d L : Nat} {fz t : Bool} {Q : pm_R → pm_H → Prop} {a1 : Nat} {x2 : Int32} {x3 : Int32} {I : Nat → Nat → Int32} {J : Nat → Nat → Int64} (ha1 : a1 = 64 ∨ a1 = 67 ∨ a1 = 79 ∨ a1 = 82)
    (h : ((¬ (I 1 5) = (nI 2) → ((¬ (I 1 5) = (nI 1) → pm_Ev d 33 [.ref 1, .int (nI 40)] (pm_hp L fz t I J) (K_X3_readPart_82 d fz t Q a1 x2 x3)) ∧ ((I 1 5) = (nI 1) → ((x2 = (nI 0) → pm_Ev d 52 [.ref 1] (pm_hp L fz t I J) (K_X3_readPart_49 d fz t Q a1)) ∧ (¬ x2 = (nI 0) → pm_Ev d 51 [.ref 1] (pm_hp L fz t I J) (K_X3_readPart_42 d fz t Q a1)))))) ∧ ((I 1 5) = (nI 2) → pm_Ev d 36 [.ref 1, .int (nI 0), .int (nI 9999)] (pm_hp L fz t I J) (K_X3_readPart_19 d fz t Q a1 (nI 32))))) :
    t_X3_readPart_0 d L fz t Q a1 x2 x3 I J := by
  rcases ha1 with rfl | rfl | rfl | rfl <;> exact pm_go d [(19, []), (23, []), (42, [0, 1]), (49, [0, 1]), (62, []), (69, [0]), (73, []), (82, [0, 1, 2, 3]), (95, [0, 1, 2, 3]), (104, [0]), (110, []), (118, [])] 400 ⟨fun q0 => ⟨fun q1 => ((((h).1 q0)).1 q1), fun q1 => ⟨fun q2 => ((((((h).1 q0)).2 q1)).1 q2), fun q2 => ((((((h).1 q0)).2 q1)).2 q2)⟩⟩, fun q0 => ((h).2 q0)⟩
theorem e_X3_readPart {d L : Nat} {fz t : Bool} {Q : pm_R → pm_H → Prop} {a1 : Nat} {x2 : Int32} {x3 : Int32} {I : Nat → Nat → Int32} {J : Nat → Nat → Int64} (ha1 : a1 = 64 ∨ a1 = 67 ∨ a1 = 79 ∨ a1 = 82)
    (h : ((¬ (I 1 5) = (nI 2) → ((¬ (I 1 5) = (nI 1) → pm_Ev d 33 [.ref 1, .int (nI 40)] (pm_hp L fz t I J) (K_X3_readPart_82 d fz t Q a1 x2 x3)) ∧ ((I 1 5) = (nI 1) → ((x2 = (nI 0) → pm_Ev d 52 [.ref 1] (pm_hp L fz t I J) (K_X3_readPart_49 d fz t Q a1)) ∧ (¬ x2 = (nI 0) → pm_Ev d 51 [.ref 1] (pm_hp L fz t I J) (K_X3_readPart_42 d fz t Q a1)))))) ∧ ((I 1 5) = (nI 2) → pm_Ev d 36 [.ref 1, .int (nI 0), .int (nI 9999)] (pm_hp L fz t I J) (K_X3_readPart_19 d fz t Q a1 (nI 32))))) :
    pm_Ev (d + 1) 50 [.ref 1, .ref a1, .int x2, .int x3] (pm_hp L fz t I J) Q := pm_Ev_in rfl (b_X3_readPart_0 ha1 h)
set_option maxRecDepth 100000 in
theorem b_X3_readPart_82 {d L : Nat} {fz t : Bool} {Q : pm_R → pm_H → Prop} {a1 : Nat} {x2 : Int32} {x3 : Int32} {r : Int32} {I : Nat → Nat → Int32} {J : Nat → Nat → Int64} (ha1 : a1 = 64 ∨ a1 = 67 ∨ a1 = 79 ∨ a1 = 82)
    (h : ((r = (nI 0) → pm_Ev d 27 [.ref 1, .int (nI 1)] (pm_hp L fz t I J) (K_X3_readPart_118 d fz t Q)) ∧ (¬ r = (nI 0) → (((nI 6) ≤ x3 → pm_Ev d 27 [.ref 1, .int (nI 1)] (pm_hp L fz t I J) (K_X3_readPart_118 d fz t Q)) ∧ (¬ (nI 6) ≤ x3 → pm_Ev d 28 [.ref 1] (pm_hp L fz t I J) (K_X3_readPart_95 d fz t Q a1 x2 x3)))))) :
    t_X3_readPart_82 d L fz t Q a1 x2 x3 r I J := by
  rcases ha1 with rfl | rfl | rfl | rfl <;> exact pm_go d [(19, []), (23, []), (42, [0, 1]), (49, [0, 1]), (62, []), (69, [0]), (73, []), (82, [0, 1, 2, 3]), (95, [0, 1, 2, 3]), (104, [0]), (110, []), (118, [])] 400 ⟨fun q0 => ((h).1 q0), fun q0 => ⟨fun q1 => ((((h).2 q0)).1 q1), fun q1 => ((((h).2 q0)).2 q1)⟩⟩
theorem kb_X3_readPart_82 {d L : Nat} {fz t : Bool} {Q : pm_R → pm_H → Prop} {a1 : Nat} {x2 : Int32} {x3 : Int32} {r : Int32} {fz1 : Bool} {I : Nat → Nat → Int32} {J : Nat → Nat → Int64} (ha1 : a1 = 64 ∨ a1 = 67 ∨ a1 = 79 ∨ a1 = 82)
    (h : ((r = (nI 0) → pm_Ev d 27 [.ref 1, .int (nI 1)] (pm_hp L fz t I J) (K_X3_readPart_118 d fz t Q)) ∧ (¬ r = (nI 0) → (((nI 6) ≤ x3 → pm_Ev d 27 [.ref 1, .int (nI 1)] (pm_hp L fz t I J) (K_X3_readPart_118 d fz t Q)) ∧ (¬ (nI 6) ≤ x3 → pm_Ev d 28 [.ref 1] (pm_hp L fz t I J) (K_X3_readPart_95 d fz t Q a1 x2 x3)))))) :
    K_X3_readPart_82 d fz t Q a1 x2 x3 (.inl (some (.int r))) (pm_hp L fz1 t I J) := b_X3_readPart_82 ha1 h
set_option maxRecDepth 100000 in
theorem b_X3_readPart_49 {d L : Nat} {fz t : Bool} {Q : pm_R → pm_H → Prop} {a1 : Nat} {r : Int32} {I : Nat → Nat → Int32} {J : Nat → Nat → Int64} (ha1 : a1 = 64 ∨ a1 = 67 ∨ a1 = 79 ∨ a1 = 82)
    (h : ((¬ r = (-1 : Int32) → pm_Ev d 8 [.ref a1, .int r] (pm_hp L fz t I J) (K_X3_readPart_69 d fz t Q)) ∧ (r = (-1 : Int32) → pm_Ev d 27 [.ref 1, .int (nI 3)] (pm_hp L fz t I J) (K_X3_readPart_62 d fz t Q)))) :
    t_X3_readPart_49 d L fz t Q a1 r I J := by
  rcases ha1 with rfl | rfl | rfl | rfl <;> exact pm_go d [(19, []), (23, []), (42, [0, 1]), (49, [0, 1]), (62, []), (69, [0]), (73, []), (82, [0, 1, 2, 3]), (95, [0, 1, 2, 3]), (104, [0]), (110, []), (118, [])] 400 ⟨fun q0 => ((h).1 q0), fun q0 => ((h).2 q0)⟩
theorem kb_X3_readPart_49 {d L : Nat} {fz t : Bool} {Q : pm_R → pm_H → Prop} {a1 : Nat} {r : Int32} {fz1 : Bool} {I : Nat → Nat → Int32} {J : Nat → Nat → Int64} (ha1 : a1 = 64 ∨ a1 = 67 ∨ a1 = 79 ∨ a1 = 82)
    (h : ((¬ r = (-1 : Int32) → pm_Ev d 8 [.ref a1, .int r] (pm_hp L fz t I J) (K_X3_readPart_69 d fz t Q)) ∧ (r = (-1 : Int32) → pm_Ev d 27 [.ref 1, .int (nI 3)] (pm_hp L fz t I J) (K_X3_readPart_62 d fz t Q)))) :
    K_X3_readPart_49 d fz t Q a1 (.inl (some (.int r))) (pm_hp L fz1 t I J) := b_X3_readPart_49 ha1 h
set_option maxRecDepth 100000 in
theorem b_X3_readPart_42 {d L : Nat} {fz t : Bool} {Q : pm_R → pm_H → Prop} {a1 : Nat} {r : Int32} {I : Nat → Nat → Int32} {J : Nat → Nat → Int64} (ha1 : a1 = 64 ∨ a1 = 67 ∨ a1 = 79 ∨ a1 = 82)
    (h : t_X3_readPart_49 d L fz t Q a1 r I J) :
    t_X3_readPart_42 d L fz t Q a1 r I J := by
  rcases ha1 with rfl | rfl | rfl | rfl <;> exact pm_go d [(19, []), (23, []), (42, [0, 1]), (49, [0, 1]), (62, []), (69, [0]), (73, []), (82, [0, 1, 2, 3]), (95, [0, 1, 2, 3]), (104, [0]), (110, []), (118, [])] 400 h
theorem kb_X3_readPart_42 {d L : Nat} {fz t : Bool} {Q : pm_R → pm_H → Prop} {a1 : Nat} {r : Int32} {fz1 : Bool} {I : Nat → Nat → Int32} {J : Nat → Nat → Int64} (ha1 : a1 = 64 ∨ a1 = 67 ∨ a1 = 79 ∨ a1 = 82)
    (h : t_X3_readPart_49 d L fz t Q a1 r I J) :
    K_X3_readPart_42 d fz t Q a1 (.inl (some (.int r))) (pm_hp L fz1 t I J) := b_X3_readPart_42 ha1 h
set_option maxRecDepth 100000 in
theorem b_X3_readPart_19 {d L : Nat} {fz t : Bool} {Q : pm_R → pm_H → Prop} {a1 : Nat} {s1 : Int32} {r : Int32} {I : Nat → Nat → Int32} {J : Nat → Nat → Int64} (ha1 : a1 = 64 ∨ a1 = 67 ∨ a1 = 79 ∨ a1 = 82)
    (h : pm_Ev d 7 [.ref a1, .int (s1 + r)] (pm_hp L fz t I J) (K_X3_readPart_23 d fz t Q)) :
    t_X3_readPart_19 d L fz t Q a1 s1 r I J := by
  rcases ha1 with rfl | rfl | rfl | rfl <;> exact pm_go d [(19, []), (23, []), (42, [0, 1]), (49, [0, 1]), (62, []), (69, [0]), (73, []), (82, [0, 1, 2, 3]), (95, [0, 1, 2, 3]), (104, [0]), (110, []), (118, [])] 400 h
theorem kb_X3_readPart_19 {d L : Nat} {fz t : Bool} {Q : pm_R → pm_H → Prop} {a1 : Nat} {s1 : Int32} {r : Int32} {fz1 : Bool} {I : Nat → Nat → Int32} {J : Nat → Nat → Int64} (ha1 : a1 = 64 ∨ a1 = 67 ∨ a1 = 79 ∨ a1 = 82)
    (h : pm_Ev d 7 [.ref a1, .int (s1 + r)] (pm_hp L fz t I J) (K_X3_readPart_23 d fz t Q)) :
    K_X3_readPart_19 d fz t Q a1 s1 (.inl (some (.int r))) (pm_hp L fz1 t I J) := b_X3_readPart_19 ha1 h
set_option maxRecDepth 100000 in
theorem b_X3_readPart_118 {d L : Nat} {fz t : Bool} {Q : pm_R → pm_H → Prop} {I : Nat → Nat → Int32} {J : Nat → Nat → Int64}
    (h : Q (.inl none) (pm_hp L fz t I J)) :
    t_X3_readPart_118 d L fz t Q I J := by
  exact pm_go d [(19, []), (23, []), (42, [0, 1]), (49, [0, 1]), (62, []), (69, [0]), (73, []), (82, [0, 1, 2, 3]), (95, [0, 1, 2, 3]), (104, [0]), (110, []), (118, [])] 400 h
theorem kb_X3_readPart_118 {d L : Nat} {fz t : Bool} {Q : pm_R → pm_H → Prop} {fz1 : Bool} {I : Nat → Nat → Int32} {J : Nat → Nat → Int64}
    (h : Q (.inl none) (pm_hp L fz t I J)) :
    K_X3_readPart_118 d fz t Q (.inl none) (pm_hp L fz1 t I J) := b_X3_readPart_118 h
set_option maxRecDepth 100000 in
theorem b_X3_readPart_95 {d L : Nat} {fz t : Bool} {Q : pm_R → pm_H → Prop} {a1 : Nat} {x2 : Int32} {x3 : Int32} {I : Nat → Nat → Int32} {J : Nat → Nat → Int64} (ha1 : a1 = 64 ∨ a1 = 67 ∨ a1 = 79 ∨ a1 = 82)
    (h : pm_Ev d 44 [.ref 1, .ref a1, .int x2, .int (x3 + (nI 1))] (pm_hp L fz t I J) (K_X3_readPart_104 d fz t Q)) :
    t_X3_readPart_95 d L fz t Q a1 x2 x3 I J := by
  rcases ha1 with rfl | rfl | rfl | rfl <;> exact pm_go d [(19, []), (23, []), (42, [0, 1]), (49, [0, 1]), (62, []), (69, [0]), (73, []), (82, [0, 1, 2, 3]), (95, [0, 1, 2, 3]), (104, [0]), (110, []), (118, [])] 400 h
theorem kb_X3_readPart_95 {d L : Nat} {fz t : Bool} {Q : pm_R → pm_H → Prop} {a1 : Nat} {x2 : Int32} {x3 : Int32} {fz1 : Bool} {I : Nat → Nat → Int32} {J : Nat → Nat → Int64} (ha1 : a1 = 64 ∨ a1 = 67 ∨ a1 = 79 ∨ a1 = 82)
    (h : pm_Ev d 44 [.ref 1, .ref a1, .int x2, .int (x3 + (nI 1))] (pm_hp L fz t I J) (K_X3_readPart_104 d fz t Q)) :
    K_X3_readPart_95 d fz t Q a1 x2 x3 (.inl none) (pm_hp L fz1 t I J) := b_X3_readPart_95 ha1 h
set_option maxRecDepth 100000 in
theorem b_X3_readPart_69 {d L : Nat} {fz t : Bool} {Q : pm_R → pm_H → Prop} {I : Nat → Nat → Int32} {J : Nat → Nat → Int64}
    (h : pm_Ev d 28 [.ref 1] (pm_hp L fz t I J) (K_X3_readPart_73 d fz t Q)) :
    t_X3_readPart_69 d L fz t Q I J := by
  exact pm_go d [(19, []), (23, []), (42, [0, 1]), (49, [0, 1]), (62, []), (69, [0]), (73, []), (82, [0, 1, 2, 3]), (95, [0, 1, 2, 3]), (104, [0]), (110, []), (118, [])] 400 h
theorem kb_X3_readPart_69 {d L : Nat} {fz t : Bool} {Q : pm_R → pm_H → Prop} {fz1 : Bool} {I : Nat → Nat → Int32} {J : Nat → Nat → Int64}
    (h : pm_Ev d 28 [.ref 1] (pm_hp L fz t I J) (K_X3_readPart_73 d fz t Q)) :
    K_X3_readPart_69 d fz t Q (.inl none) (pm_hp L fz1 t I J) := b_X3_readPart_69 h
set_option maxRecDepth 100000 in
theorem b_X3_readPart_62 {d L : Nat} {fz t : Bool} {Q : pm_R → pm_H → Prop} {I : Nat → Nat → Int32} {J : Nat → Nat → Int64}
    (h : Q (.inl none) (pm_hp L fz t I J)) :
    t_X3_readPart_62 d L fz t Q I J := by
  exact pm_go d [(19, []), (23, []), (42, [0, 1]), (49, [0, 1]), (62, []), (69, [0]), (73, []), (82, [0, 1, 2, 3]), (95, [0, 1, 2, 3]), (104, [0]), (110, []), (118, [])] 400 h
theorem kb_X3_readPart_62 {d L : Nat} {fz t : Bool} {Q : pm_R → pm_H → Prop} {fz1 : Bool} {I : Nat → Nat → Int32} {J : Nat → Nat → Int64}
    (h : Q (.inl none) (pm_hp L fz t I J)) :
    K_X3_readPart_62 d fz t Q (.inl none) (pm_hp L fz1 t I J) := b_X3_readPart_62 h
set_option maxRecDepth 100000 in
theorem b_X3_readPart_23 {d L : Nat} {fz t : Bool} {Q : pm_R → pm_H → Prop} {I : Nat → Nat → Int32} {J : Nat → Nat → Int64}
    (h : t_X3_readPart_118 d L fz t Q I J) :
    t_X3_readPart_23 d L fz t Q I J := by
  exact pm_go d [(19, []), (23, []), (42, [0, 1]), (49, [0, 1]), (62, []), (69, [0]), (73, []), (82, [0, 1, 2, 3]), (95, [0, 1, 2, 3]), (104, [0]), (110, []), (118, [])] 400 h
theorem kb_X3_readPart_23 {d L : Nat} {fz t : Bool} {Q : pm_R → pm_H → Prop} {fz1 : Bool} {I : Nat → Nat → Int32} {J : Nat → Nat → Int64}
    (h : t_X3_readPart_118 d L fz t Q I J) :
    K_X3_readPart_23 d fz t Q (.inl none) (pm_hp L fz1 t I J) := b_X3_readPart_23 h
set_option maxRecDepth 100000 in
theorem b_X3_readPart_104 {d L : Nat} {fz t : Bool} {Q : pm_R → pm_H → Prop} {I : Nat → Nat → Int32} {J : Nat → Nat → Int64}
    (h : pm_Ev d 35 [.ref 1, .int (nI 41)] (pm_hp L fz t I J) (K_X3_readPart_110 d fz t Q)) :
    t_X3_readPart_104 d L fz t Q I J := by
  exact pm_go d [(19, []), (23, []), (42, [0, 1]), (49, [0, 1]), (62, []), (69, [0]), (73, []), (82, [0, 1, 2, 3]), (95, [0, 1, 2, 3]), (104, [0]), (110, []), (118, [])] 400 h
theorem kb_X3_readPart_104 {d L : Nat} {fz t : Bool} {Q : pm_R → pm_H → Prop} {fz1 : Bool} {I : Nat → Nat → Int32} {J : Nat → Nat → Int64}
    (h : pm_Ev d 35 [.ref 1, .int (nI 41)] (pm_hp L fz t I J) (K_X3_readPart_110 d fz t Q)) :
    K_X3_readPart_104 d fz t Q (.inl none) (pm_hp L fz1 t I J) := b_X3_readPart_104 h
set_option maxRecDepth 100000 in
theorem b_X3_readPart_73 {d L : Nat} {fz t : Bool} {Q : pm_R → pm_H → Prop} {I : Nat → Nat → Int32} {J : Nat → Nat → Int64}
    (h : t_X3_readPart_118 d L fz t Q I J) :
    t_X3_readPart_73 d L fz t Q I J := by
  exact pm_go d [(19, []), (23, []), (42, [0, 1]), (49, [0, 1]), (62, []), (69, [0]), (73, []), (82, [0, 1, 2, 3]), (95, [0, 1, 2, 3]), (104, [0]), (110, []), (118, [])] 400 h
theorem kb_X3_readPart_73 {d L : Nat} {fz t : Bool} {Q : pm_R → pm_H → Prop} {fz1 : Bool} {I : Nat → Nat → Int32} {J : Nat → Nat → Int64}
    (h : t_X3_readPart_118 d L fz t Q I J) :
    K_X3_readPart_73 d fz t Q (.inl none) (pm_hp L fz1 t I J) := b_X3_readPart_73 h
set_option maxRecDepth 100000 in
theorem b_X3_readPart_110 {d L : Nat} {fz t : Bool} {Q : pm_R → pm_H → Prop} {I : Nat → Nat → Int32} {J : Nat → Nat → Int64}
    (h : t_X3_readPart_118 d L fz t Q I J) :
    t_X3_readPart_110 d L fz t Q I J := by
  exact pm_go d [(19, []), (23, []), (42, [0, 1]), (49, [0, 1]), (62, []), (69, [0]), (73, []), (82, [0, 1, 2, 3]), (95, [0, 1, 2, 3]), (104, [0]), (110, []), (118, [])] 400 h
theorem kb_X3_readPart_110 {d L : Nat} {fz t : Bool} {Q : pm_R → pm_H → Prop} {fz1 : Bool} {I : Nat → Nat → Int32} {J : Nat → Nat → Int64}
    (h : t_X3_readPart_118 d L fz t Q I J) :
    K_X3_readPart_110 d fz t Q (.inl none) (pm_hp L fz1 t I J) := b_X3_readPart_110 h
def t_X3_valueOfUp_0 (d L : Nat) (fz t : Bool) (Q : pm_R → pm_H → Prop) (I : Nat → Nat → Int32) (J : Nat → Nat → Int64) : Prop := pm_T (pm_Ev d) 51 Q (0, [(0, .ref 1)], [], pm_hp L fz t I J, 0, 0)
def t_X3_valueOfUp_6 (d L : Nat) (fz t : Bool) (Q : pm_R → pm_H → Prop) (r : Int32) (I : Nat → Nat → Int32) (J : Nat → Nat → Int64) : Prop := pm_T (pm_Ev d) 51 Q (6, [(0, .ref 1)], [.int r], pm_hp L fz t I J, 0, 0)
def K_X3_valueOfUp_6 (d : Nat) (fz t : Bool) (Q : pm_R → pm_H → Prop) : pm_R → pm_H → Prop := pm_K d 51 Q 6 [(0, .ref 1)] [] 118 0 fz 0 0
def t_X3_valueOfUp_19 (d L : Nat) (fz t : Bool) (Q : pm_R → pm_H → Prop) (r : Int32) (I : Nat → Nat → Int32) (J : Nat → Nat → Int64) : Prop := pm_T (pm_Ev d) 51 Q (19, [(0, .ref 1)], [.int r], pm_hp L fz t I J, 0, 0)
def K_X3_valueOfUp_19 (d : Nat) (fz t : Bool) (Q : pm_R → pm_H → Prop) : pm_R → pm_H → Prop := pm_K d 51 Q 19 [(0, .ref 1)] [] 118 0 fz 0 0
def t_X3_valueOfUp_32 (d L : Nat) (fz t : Bool) (Q : pm_R → pm_H → Prop) (r : Int32) (I : Nat → Nat → Int32) (J : Nat → Nat → Int64) : Prop := pm_T (pm_Ev d) 51 Q (32, [(0, .ref 1)], [.int r], pm_hp L fz t I J, 0, 0)
def K_X3_valueOfUp_32 (d : Nat) (fz t : Bool) (Q : pm_R → pm_H → Prop) : pm_R → pm_H → Prop := pm_K d 51 Q 32 [(0, .ref 1)] [] 118 0 fz 0 0
def t_X3_valueOfUp_45 (d L : Nat) (fz t : Bool) (Q : pm_R → pm_H → Prop) (r : Int32) (I : Nat → Nat → Int32) (J : Nat → Nat → Int64) : Prop := pm_T (pm_Ev d) 51 Q (45, [(0, .ref 1)], [.int r], pm_hp L fz t I J, 0, 0)
def K_X3_valueOfUp_45 (d : Nat) (fz t : Bool) (Q : pm_R → pm_H → Prop) : pm_R → pm_H → Prop := pm_K d 51 Q 45 [(0, .ref 1)] [] 118 0 fz 0 0
def t_X3_valueOfUp_58 (d L : Nat) (fz t : Bool) (Q : pm_R → pm_H → Prop) (r : Int32) (I : Nat → Nat → Int32) (J : Nat → Nat → Int64) : Prop := pm_T (pm_Ev d) 51 Q (58, [(0, .ref 1)], [.int r], pm_hp L fz t I J, 0, 0)
def K_X3_valueOfUp_58 (d : Nat) (fz t : Bool) (Q : pm_R → pm_H → Prop) : pm_R → pm_H → Prop := pm_K d 51 Q 58 [(0, .ref 1)] [] 118 0 fz 0 0
def t_X3_valueOfUp_71 (d L : Nat) (fz t : Bool) (Q : pm_R → pm_H → Prop) (r : Int32) (I : Nat → Nat → Int32) (J : Nat → Nat → Int64) : Prop := pm_T (pm_Ev d) 51 Q (71, [], [.int r], pm_hp L fz t I J, 0, 0)
def K_X3_valueOfUp_71 (d : Nat) (fz t : Bool) (Q : pm_R → pm_H → Prop) : pm_R → pm_H → Prop := pm_K d 51 Q 71 [] [] 118 0 fz 0 0
set_option maxRecDepth 100000 in
theorem b_X3_valueOfUp_0 {d L : Nat} {fz t : Bool} {Q : pm_R → pm_H → Prop} {I : Nat → Nat → Int32} {J : Nat → Nat → Int64}
    (h : pm_Ev d 34 [.ref 1, .ref 1000023] (pm_hp L fz t I J) (K_X3_valueOfUp_6 d fz t Q)) :
    t_X3_valueOfUp_0 d L fz t Q I J := by
  exact pm_go d [(6, [0]), (19, [0]), (32, [0]), (45, [0]), (58, [0]), (71, [])] 400 h
theorem e_X3_valueOfUp {d L : Nat} {fz t : Bool} {Q : pm_R → pm_H → Prop} {I : Nat → Nat → Int32} {J : Nat → Nat → Int64}
    (h : pm_Ev d 34 [.ref 1, .ref 1000023] (pm_hp L fz t I J) (K_X3_valueOfUp_6 d fz t Q)) :
    pm_Ev (d + 1) 51 [.ref 1] (pm_hp L fz t I J) Q := pm_Ev_in rfl (b_X3_valueOfUp_0 h)
set_option maxRecDepth 100000 in
theorem b_X3_valueOfUp_6 {d L : Nat} {fz t : Bool} {Q : pm_R → pm_H → Prop} {r : Int32} {I : Nat → Nat → Int32} {J : Nat → Nat → Int64}
    (h : ((r = (nI 0) → pm_Ev d 34 [.ref 1, .ref 1000024] (pm_hp L fz t I J) (K_X3_valueOfUp_19 d fz t Q)) ∧ (¬ r = (nI 0) → Q (.inl (some (.int (nI 0)))) (pm_hp L fz t I J)))) :
    t_X3_valueOfUp_6 d L fz t Q r I J := by
  exact pm_go d [(6, [0]), (19, [0]), (32, [0]), (45, [0]), (58, [0]), (71, [])] 400 ⟨fun q0 => ((h).1 q0), fun q0 => ((h).2 q0)⟩
theorem kb_X3_valueOfUp_6 {d L : Nat} {fz t : Bool} {Q : pm_R → pm_H → Prop} {r : Int32} {fz1 : Bool} {I : Nat → Nat → Int32} {J : Nat → Nat → Int64}
    (h : ((r = (nI 0) → pm_Ev d 34 [.ref 1, .ref 1000024] (pm_hp L fz t I J) (K_X3_valueOfUp_19 d fz t Q)) ∧ (¬ r = (nI 0) → Q (.inl (some (.int (nI 0)))) (pm_hp L fz t I J)))) :
    K_X3_valueOfUp_6 d fz t Q (.inl (some (.int r))) (pm_hp L fz1 t I J) := b_X3_valueOfUp_6 h
set_option maxRecDepth 100000 in
theorem b_X3_valueOfUp_19 {d L : Nat} {fz t : Bool} {Q : pm_R → pm_H → Prop} {r : Int32} {I : Nat → Nat → Int32} {J : Nat → Nat → Int64}
    (h : ((r = (nI 0) → pm_Ev d 34 [.ref 1, .ref 1000025] (pm_hp L fz t I J) (K_X3_valueOfUp_32 d fz t Q)) ∧ (¬ r = (nI 0) → Q (.inl (some (.int (nI 1)))) (pm_hp L fz t I J)))) :
    t_X3_valueOfUp_19 d L fz t Q r I J := by
  exact pm_go d [(6, [0]), (19, [0]), (32, [0]), (45, [0]), (58, [0]), (71, [])] 400 ⟨fun q0 => ((h).1 q0), fun q0 => ((h).2 q0)⟩
theorem kb_X3_valueOfUp_19 {d L : Nat} {fz t : Bool} {Q : pm_R → pm_H → Prop} {r : Int32} {fz1 : Bool} {I : Nat → Nat → Int32} {J : Nat → Nat → Int64}
    (h : ((r = (nI 0) → pm_Ev d 34 [.ref 1, .ref 1000025] (pm_hp L fz t I J) (K_X3_valueOfUp_32 d fz t Q)) ∧ (¬ r = (nI 0) → Q (.inl (some (.int (nI 1)))) (pm_hp L fz t I J)))) :
    K_X3_valueOfUp_19 d fz t Q (.inl (some (.int r))) (pm_hp L fz1 t I J) := b_X3_valueOfUp_19 h
set_option maxRecDepth 100000 in
theorem b_X3_valueOfUp_32 {d L : Nat} {fz t : Bool} {Q : pm_R → pm_H → Prop} {r : Int32} {I : Nat → Nat → Int32} {J : Nat → Nat → Int64}
    (h : ((r = (nI 0) → pm_Ev d 34 [.ref 1, .ref 1000026] (pm_hp L fz t I J) (K_X3_valueOfUp_45 d fz t Q)) ∧ (¬ r = (nI 0) → Q (.inl (some (.int (nI 2)))) (pm_hp L fz t I J)))) :
    t_X3_valueOfUp_32 d L fz t Q r I J := by
  exact pm_go d [(6, [0]), (19, [0]), (32, [0]), (45, [0]), (58, [0]), (71, [])] 400 ⟨fun q0 => ((h).1 q0), fun q0 => ((h).2 q0)⟩
theorem kb_X3_valueOfUp_32 {d L : Nat} {fz t : Bool} {Q : pm_R → pm_H → Prop} {r : Int32} {fz1 : Bool} {I : Nat → Nat → Int32} {J : Nat → Nat → Int64}
    (h : ((r = (nI 0) → pm_Ev d 34 [.ref 1, .ref 1000026] (pm_hp L fz t I J) (K_X3_valueOfUp_45 d fz t Q)) ∧ (¬ r = (nI 0) → Q (.inl (some (.int (nI 2)))) (pm_hp L fz t I J)))) :
    K_X3_valueOfUp_32 d fz t Q (.inl (some (.int r))) (pm_hp L fz1 t I J) := b_X3_valueOfUp_32 h
set_option maxRecDepth 100000 in
theorem b_X3_valueOfUp_45 {d L : Nat} {fz t : Bool} {Q : pm_R → pm_H → Prop} {r : Int32} {I : Nat → Nat → Int32} {J : Nat → Nat → Int64}
    (h : ((r = (nI 0) → pm_Ev d 34 [.ref 1, .ref 1000027] (pm_hp L fz t I J) (K_X3_valueOfUp_58 d fz t Q)) ∧ (¬ r = (nI 0) → Q (.inl (some (.int (nI 3)))) (pm_hp L fz t I J)))) :
    t_X3_valueOfUp_45 d L fz t Q r I J := by
  exact pm_go d [(6, [0]), (19, [0]), (32, [0]), (45, [0]), (58, [0]), (71, [])] 400 ⟨fun q0 => ((h).1 q0), fun q0 => ((h).2 q0)⟩
theorem kb_X3_valueOfUp_45 {d L : Nat} {fz t : Bool} {Q : pm_R → pm_H → Prop} {r : Int32} {fz1 : Bool} {I : Nat → Nat → Int32} {J : Nat → Nat → Int64}
    (h : ((r = (nI 0) → pm_Ev d 34 [.ref 1, .ref 1000027] (pm_hp L fz t I J) (K_X3_valueOfUp_58 d fz t Q)) ∧ (¬ r = (nI 0) → Q (.inl (some (.int (nI 3)))) (pm_hp L fz t I J)))) :
    K_X3_valueOfUp_45 d fz t Q (.inl (some (.int r))) (pm_hp L fz1 t I J) := b_X3_valueOfUp_45 h
set_option maxRecDepth 100000 in
theorem b_X3_valueOfUp_58 {d L : Nat} {fz t : Bool} {Q : pm_R → pm_H → Prop} {r : Int32} {I : Nat → Nat → Int32} {J : Nat → Nat → Int64}
    (h : ((r = (nI 0) → pm_Ev d 34 [.ref 1, .ref 1000028] (pm_hp L fz t I J) (K_X3_valueOfUp_71 d fz t Q)) ∧ (¬ r = (nI 0) → Q (.inl (some (.int (nI 4)))) (pm_hp L fz t I J)))) :
    t_X3_valueOfUp_58 d L fz t Q r I J := by
  exact pm_go d [(6, [0]), (19, [0]), (32, [0]), (45, [0]), (58, [0]), (71, [])] 400 ⟨fun q0 => ((h).1 q0), fun q0 => ((h).2 q0)⟩
theorem kb_X3_valueOfUp_58 {d L : Nat} {fz t : Bool} {Q : pm_R → pm_H → Prop} {r : Int32} {fz1 : Bool} {I : Nat → Nat → Int32} {J : Nat → Nat → Int64}
    (h : ((r = (nI 0) → pm_Ev d 34 [.ref 1, .ref 1000028] (pm_hp L fz t I J) (K_X3_valueOfUp_71 d fz t Q)) ∧ (¬ r = (nI 0) → Q (.inl (some (.int (nI 4)))) (pm_hp L fz t I J)))) :
    K_X3_valueOfUp_58 d fz t Q (.inl (some (.int r))) (pm_hp L fz1 t I J) := b_X3_valueOfUp_58 h
set_option maxRecDepth 100000 in
theorem b_X3_valueOfUp_71 {d L : Nat} {fz t : Bool} {Q : pm_R → pm_H → Prop} {r : Int32} {I : Nat → Nat → Int32} {J : Nat → Nat → Int64}
    (h : ((r = (nI 0) → Q (.inl (some (.int (-1 : Int32)))) (pm_hp L fz t I J)) ∧ (¬ r = (nI 0) → Q (.inl (some (.int (nI 5)))) (pm_hp L fz t I J)))) :
    t_X3_valueOfUp_71 d L fz t Q r I J := by
  exact pm_go d [(6, [0]), (19, [0]), (32, [0]), (45, [0]), (58, [0]), (71, [])] 400 ⟨fun q0 => ((h).1 q0), fun q0 => ((h).2 q0)⟩
theorem kb_X3_valueOfUp_71 {d L : Nat} {fz t : Bool} {Q : pm_R → pm_H → Prop} {r : Int32} {fz1 : Bool} {I : Nat → Nat → Int32} {J : Nat → Nat → Int64}
    (h : ((r = (nI 0) → Q (.inl (some (.int (-1 : Int32)))) (pm_hp L fz t I J)) ∧ (¬ r = (nI 0) → Q (.inl (some (.int (nI 5)))) (pm_hp L fz t I J)))) :
    K_X3_valueOfUp_71 d fz t Q (.inl (some (.int r))) (pm_hp L fz1 t I J) := b_X3_valueOfUp_71 h
def t_X3_valueOfHarm_0 (d L : Nat) (fz t : Bool) (Q : pm_R → pm_H → Prop) (I : Nat → Nat → Int32) (J : Nat → Nat → Int64) : Prop := pm_T (pm_Ev d) 52 Q (0, [(0, .ref 1)], [], pm_hp L fz t I J, 0, 0)
def t_X3_valueOfHarm_6 (d L : Nat) (fz t : Bool) (Q : pm_R → pm_H → Prop) (r : Int32) (I : Nat → Nat → Int32) (J : Nat → Nat → Int64) : Prop := pm_T (pm_Ev d) 52 Q (6, [(0, .ref 1)], [.int r], pm_hp L fz t I J, 0, 0)
def K_X3_valueOfHarm_6 (d : Nat) (fz t : Bool) (Q : pm_R → pm_H → Prop) : pm_R → pm_H → Prop := pm_K d 52 Q 6 [(0, .ref 1)] [] 118 0 fz 0 0
def t_X3_valueOfHarm_19 (d L : Nat) (fz t : Bool) (Q : pm_R → pm_H → Prop) (r : Int32) (I : Nat → Nat → Int32) (J : Nat → Nat → Int64) : Prop := pm_T (pm_Ev d) 52 Q (19, [(0, .ref 1)], [.int r], pm_hp L fz t I J, 0, 0)
def K_X3_valueOfHarm_19 (d : Nat) (fz t : Bool) (Q : pm_R → pm_H → Prop) : pm_R → pm_H → Prop := pm_K d 52 Q 19 [(0, .ref 1)] [] 118 0 fz 0 0
def t_X3_valueOfHarm_32 (d L : Nat) (fz t : Bool) (Q : pm_R → pm_H → Prop) (r : Int32) (I : Nat → Nat → Int32) (J : Nat → Nat → Int64) : Prop := pm_T (pm_Ev d) 52 Q (32, [(0, .ref 1)], [.int r], pm_hp L fz t I J, 0, 0)
def K_X3_valueOfHarm_32 (d : Nat) (fz t : Bool) (Q : pm_R → pm_H → Prop) : pm_R → pm_H → Prop := pm_K d 52 Q 32 [(0, .ref 1)] [] 118 0 fz 0 0
def t_X3_valueOfHarm_45 (d L : Nat) (fz t : Bool) (Q : pm_R → pm_H → Prop) (r : Int32) (I : Nat → Nat → Int32) (J : Nat → Nat → Int64) : Prop := pm_T (pm_Ev d) 52 Q (45, [], [.int r], pm_hp L fz t I J, 0, 0)
def K_X3_valueOfHarm_45 (d : Nat) (fz t : Bool) (Q : pm_R → pm_H → Prop) : pm_R → pm_H → Prop := pm_K d 52 Q 45 [] [] 118 0 fz 0 0
set_option maxRecDepth 100000 in
theorem b_X3_valueOfHarm_0 {d L : Nat} {fz t : Bool} {Q : pm_R → pm_H → Prop} {I : Nat → Nat → Int32} {J : Nat → Nat → Int64}
    (h : pm_Ev d 34 [.ref 1, .ref 1000029] (pm_hp L fz t I J) (K_X3_valueOfHarm_6 d fz t Q)) :
    t_X3_valueOfHarm_0 d L fz t Q I J := by
  exact pm_go d [(6, [0]), (19, [0]), (32, [0]), (45, [])] 400 h
theorem e_X3_valueOfHarm {d L : Nat} {fz t : Bool} {Q : pm_R → pm_H → Prop} {I : Nat → Nat → Int32} {J : Nat → Nat → Int64}
    (h : pm_Ev d 34 [.ref 1, .ref 1000029] (pm_hp L fz t I J) (K_X3_valueOfHarm_6 d fz t Q)) :
    pm_Ev (d + 1) 52 [.ref 1] (pm_hp L fz t I J) Q := pm_Ev_in rfl (b_X3_valueOfHarm_0 h)
set_option maxRecDepth 100000 in
theorem b_X3_valueOfHarm_6 {d L : Nat} {fz t : Bool} {Q : pm_R → pm_H → Prop} {r : Int32} {I : Nat → Nat → Int32} {J : Nat → Nat → Int64}
    (h : ((r = (nI 0) → pm_Ev d 34 [.ref 1, .ref 1000030] (pm_hp L fz t I J) (K_X3_valueOfHarm_19 d fz t Q)) ∧ (¬ r = (nI 0) → Q (.inl (some (.int (nI 0)))) (pm_hp L fz t I J)))) :
    t_X3_valueOfHarm_6 d L fz t Q r I J := by
  exact pm_go d [(6, [0]), (19, [0]), (32, [0]), (45, [])] 400 ⟨fun q0 => ((h).1 q0), fun q0 => ((h).2 q0)⟩
theorem kb_X3_valueOfHarm_6 {d L : Nat} {fz t : Bool} {Q : pm_R → pm_H → Prop} {r : Int32} {fz1 : Bool} {I : Nat → Nat → Int32} {J : Nat → Nat → Int64}
    (h : ((r = (nI 0) → pm_Ev d 34 [.ref 1, .ref 1000030] (pm_hp L fz t I J) (K_X3_valueOfHarm_19 d fz t Q)) ∧ (¬ r = (nI 0) → Q (.inl (some (.int (nI 0)))) (pm_hp L fz t I J)))) :
    K_X3_valueOfHarm_6 d fz t Q (.inl (some (.int r))) (pm_hp L fz1 t I J) := b_X3_valueOfHarm_6 h
set_option maxRecDepth 100000 in
theorem b_X3_valueOfHarm_19 {d L : Nat} {fz t : Bool} {Q : pm_R → pm_H → Prop} {r : Int32} {I : Nat → Nat → Int32} {J : Nat → Nat → Int64}
    (h : ((r = (nI 0) → pm_Ev d 34 [.ref 1, .ref 1000031] (pm_hp L fz t I J) (K_X3_valueOfHarm_32 d fz t Q)) ∧ (¬ r = (nI 0) → Q (.inl (some (.int (nI 1)))) (pm_hp L fz t I J)))) :
    t_X3_valueOfHarm_19 d L fz t Q r I J := by
  exact pm_go d [(6, [0]), (19, [0]), (32, [0]), (45, [])] 400 ⟨fun q0 => ((h).1 q0), fun q0 => ((h).2 q0)⟩
theorem kb_X3_valueOfHarm_19 {d L : Nat} {fz t : Bool} {Q : pm_R → pm_H → Prop} {r : Int32} {fz1 : Bool} {I : Nat → Nat → Int32} {J : Nat → Nat → Int64}
    (h : ((r = (nI 0) → pm_Ev d 34 [.ref 1, .ref 1000031] (pm_hp L fz t I J) (K_X3_valueOfHarm_32 d fz t Q)) ∧ (¬ r = (nI 0) → Q (.inl (some (.int (nI 1)))) (pm_hp L fz t I J)))) :
    K_X3_valueOfHarm_19 d fz t Q (.inl (some (.int r))) (pm_hp L fz1 t I J) := b_X3_valueOfHarm_19 h
set_option maxRecDepth 100000 in
theorem b_X3_valueOfHarm_32 {d L : Nat} {fz t : Bool} {Q : pm_R → pm_H → Prop} {r : Int32} {I : Nat → Nat → Int32} {J : Nat → Nat → Int64}
    (h : ((r = (nI 0) → pm_Ev d 34 [.ref 1, .ref 1000032] (pm_hp L fz t I J) (K_X3_valueOfHarm_45 d fz t Q)) ∧ (¬ r = (nI 0) → Q (.inl (some (.int (nI 2)))) (pm_hp L fz t I J)))) :
    t_X3_valueOfHarm_32 d L fz t Q r I J := by
  exact pm_go d [(6, [0]), (19, [0]), (32, [0]), (45, [])] 400 ⟨fun q0 => ((h).1 q0), fun q0 => ((h).2 q0)⟩
theorem kb_X3_valueOfHarm_32 {d L : Nat} {fz t : Bool} {Q : pm_R → pm_H → Prop} {r : Int32} {fz1 : Bool} {I : Nat → Nat → Int32} {J : Nat → Nat → Int64}
    (h : ((r = (nI 0) → pm_Ev d 34 [.ref 1, .ref 1000032] (pm_hp L fz t I J) (K_X3_valueOfHarm_45 d fz t Q)) ∧ (¬ r = (nI 0) → Q (.inl (some (.int (nI 2)))) (pm_hp L fz t I J)))) :
    K_X3_valueOfHarm_32 d fz t Q (.inl (some (.int r))) (pm_hp L fz1 t I J) := b_X3_valueOfHarm_32 h
set_option maxRecDepth 100000 in
theorem b_X3_valueOfHarm_45 {d L : Nat} {fz t : Bool} {Q : pm_R → pm_H → Prop} {r : Int32} {I : Nat → Nat → Int32} {J : Nat → Nat → Int64}
    (h : ((r = (nI 0) → Q (.inl (some (.int (-1 : Int32)))) (pm_hp L fz t I J)) ∧ (¬ r = (nI 0) → Q (.inl (some (.int (nI 3)))) (pm_hp L fz t I J)))) :
    t_X3_valueOfHarm_45 d L fz t Q r I J := by
  exact pm_go d [(6, [0]), (19, [0]), (32, [0]), (45, [])] 400 ⟨fun q0 => ((h).1 q0), fun q0 => ((h).2 q0)⟩
theorem kb_X3_valueOfHarm_45 {d L : Nat} {fz t : Bool} {Q : pm_R → pm_H → Prop} {r : Int32} {fz1 : Bool} {I : Nat → Nat → Int32} {J : Nat → Nat → Int64}
    (h : ((r = (nI 0) → Q (.inl (some (.int (-1 : Int32)))) (pm_hp L fz t I J)) ∧ (¬ r = (nI 0) → Q (.inl (some (.int (nI 3)))) (pm_hp L fz t I J)))) :
    K_X3_valueOfHarm_45 d fz t Q (.inl (some (.int r))) (pm_hp L fz1 t I J) := b_X3_valueOfHarm_45 h
