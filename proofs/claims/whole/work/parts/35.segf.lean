def t_X11_plain_0 (d L : Nat) (fz t : Bool) (Q : pm_R → pm_H → Prop) (I : Nat → Nat → Int32) (J : Nat → Nat → Int64) : Prop := pm_T (pm_Ev d) 177 Q (0, [(0, .ref 85)], [], pm_hp L fz t I J, 0, 0)
def t_X11_plain_4 (d L : Nat) (fz t : Bool) (Q : pm_R → pm_H → Prop) (x1 : Int32) (x2 : Int32) (I : Nat → Nat → Int32) (J : Nat → Nat → Int64) : Prop := pm_T (pm_Ev d) 177 Q (4, [(0, .ref 85), (1, .int x1), (2, .int x2)], [], pm_hp L fz t I J, 0, 0)
def t_X11_plain_31 (d L : Nat) (fz t : Bool) (Q : pm_R → pm_H → Prop) (x1 : Int32) (r : Int32) (I : Nat → Nat → Int32) (J : Nat → Nat → Int64) : Prop := pm_T (pm_Ev d) 177 Q (31, [(1, .int x1)], [.int r], pm_hp L fz t I J, 0, 0)
def K_X11_plain_31 (d : Nat) (fz t : Bool) (Q : pm_R → pm_H → Prop) (x1 : Int32) : pm_R → pm_H → Prop := pm_K d 177 Q 31 [(1, .int x1)] [] 118 0 fz 0 0
set_option maxRecDepth 100000 in
theorem b_X11_plain_0 {d L : Nat} {fz t : Bool} {Q : pm_R → pm_H → Prop} {I : Nat → Nat → Int32} {J : Nat → Nat → Int64}
    (h : t_X11_plain_4 d L fz t Q (nI 0) (nI 0) I J) :
    t_X11_plain_0 d L fz t Q I J := by
  exact pm_go d [(4, [0, 1, 2]), (31, [1])] 400 h
theorem e_X11_plain {d L : Nat} {fz t : Bool} {Q : pm_R → pm_H → Prop} {I : Nat → Nat → Int32} {J : Nat → Nat → Int64}
    (h : t_X11_plain_4 d L fz t Q (nI 0) (nI 0) I J) :
    pm_Ev (d + 1) 177 [.ref 85] (pm_hp L fz t I J) Q := pm_Ev_in rfl (b_X11_plain_0 h)
set_option maxRecDepth 100000 in
theorem b_X11_plain_4 {d L : Nat} {fz t : Bool} {Q : pm_R → pm_H → Prop} {x1 : Int32} {x2 : Int32} {I : Nat → Nat → Int32} {J : Nat → Nat → Int64}
    (h : (((I 85 3) ≤ x2 → pm_Ev d 161 [.ref 85] (pm_hp L fz t I J) (K_X11_plain_31 d fz t Q x1)) ∧ (¬ (I 85 3) ≤ x2 → (vp_in x2 12 ∧ t_X11_plain_4 d L fz t Q (x1 ||| (I 107 (x2).toNatClampNeg)) (x2 + (nI 1)) I J)))) :
    t_X11_plain_4 d L fz t Q x1 x2 I J := by
  exact pm_go d [(4, [0, 1, 2]), (31, [1])] 400 ⟨fun q0 => ((h).1 q0), fun q0 => ⟨(((h).2 q0)).1, (((h).2 q0)).2⟩⟩
set_option maxRecDepth 100000 in
theorem b_X11_plain_31 {d L : Nat} {fz t : Bool} {Q : pm_R → pm_H → Prop} {x1 : Int32} {r : Int32} {I : Nat → Nat → Int32} {J : Nat → Nat → Int64}
    (h : Q (.inl (some (.int (r &&& (x1 ^^^ (-1 : Int32)))))) (pm_hp L fz t I J)) :
    t_X11_plain_31 d L fz t Q x1 r I J := by
  exact pm_go d [(4, [0, 1, 2]), (31, [1])] 400 h
theorem kb_X11_plain_31 {d L : Nat} {fz t : Bool} {Q : pm_R → pm_H → Prop} {x1 : Int32} {r : Int32} {fz1 : Bool} {I : Nat → Nat → Int32} {J : Nat → Nat → Int64}
    (h : Q (.inl (some (.int (r &&& (x1 ^^^ (-1 : Int32)))))) (pm_hp L fz t I J)) :
    K_X11_plain_31 d fz t Q x1 (.inl (some (.int r))) (pm_hp L fz1 t I J) := b_X11_plain_31 h
def t_X11_repeat_0 (d L : Nat) (fz t : Bool) (Q : pm_R → pm_H → Prop) (I : Nat → Nat → Int32) (J : Nat → Nat → Int64) : Prop := pm_T (pm_Ev d) 178 Q (0, [(0, .ref 85)], [], pm_hp L fz t I J, 0, 0)
def t_X11_repeat_2 (d L : Nat) (fz t : Bool) (Q : pm_R → pm_H → Prop) (x1 : Int32) (I : Nat → Nat → Int32) (J : Nat → Nat → Int64) : Prop := pm_T (pm_Ev d) 178 Q (2, [(0, .ref 85), (1, .int x1)], [], pm_hp L fz t I J, 0, 0)
def t_X11_repeat_14 (d L : Nat) (fz t : Bool) (Q : pm_R → pm_H → Prop) (x1 : Int32) (x2 : Int32) (x3 : Int32) (I : Nat → Nat → Int32) (J : Nat → Nat → Int64) : Prop := pm_T (pm_Ev d) 178 Q (14, [(0, .ref 85), (1, .int x1), (2, .int x2), (3, .int x3)], [], pm_hp L fz t I J, 0, 0)
set_option maxRecDepth 100000 in
theorem b_X11_repeat_0 {d L : Nat} {fz t : Bool} {Q : pm_R → pm_H → Prop} {I : Nat → Nat → Int32} {J : Nat → Nat → Int64}
    (h : t_X11_repeat_2 d L fz t Q (nI 1) I J) :
    t_X11_repeat_0 d L fz t Q I J := by
  exact pm_go d [(2, [0, 1]), (14, [0, 1, 2, 3])] 400 h
theorem e_X11_repeat {d L : Nat} {fz t : Bool} {Q : pm_R → pm_H → Prop} {I : Nat → Nat → Int32} {J : Nat → Nat → Int64}
    (h : t_X11_repeat_2 d L fz t Q (nI 1) I J) :
    pm_Ev (d + 1) 178 [.ref 85] (pm_hp L fz t I J) Q := pm_Ev_in rfl (b_X11_repeat_0 h)
set_option maxRecDepth 100000 in
theorem b_X11_repeat_2 {d L : Nat} {fz t : Bool} {Q : pm_R → pm_H → Prop} {x1 : Int32} {I : Nat → Nat → Int32} {J : Nat → Nat → Int64}
    (h : (((I 85 3) ≤ x1 → Q (.inl (some (.int (I 85 3)))) (pm_hp L fz t I J)) ∧ (¬ (I 85 3) ≤ x1 → t_X11_repeat_14 d L fz t Q x1 (nI 1) (nI 0) I J))) :
    t_X11_repeat_2 d L fz t Q x1 I J := by
  exact pm_go d [(2, [0, 1]), (14, [0, 1, 2, 3])] 400 ⟨fun q0 => ((h).1 q0), fun q0 => ((h).2 q0)⟩
set_option maxRecDepth 100000 in
theorem b_X11_repeat_14 {d L : Nat} {fz t : Bool} {Q : pm_R → pm_H → Prop} {x1 : Int32} {x2 : Int32} {x3 : Int32} {I : Nat → Nat → Int32} {J : Nat → Nat → Int64}
    (h : (((I 85 3) ≤ (x3 + x1) → ((x2 = (nI 0) → t_X11_repeat_2 d L fz t Q (x1 + (nI 1)) I J) ∧ (¬ x2 = (nI 0) → Q (.inl (some (.int x1))) (pm_hp L fz t I J)))) ∧ (¬ (I 85 3) ≤ (x3 + x1) → ((x2 = (nI 0) → t_X11_repeat_14 d L fz t Q x1 (nI 0) (x3 + (nI 1)) I J) ∧ (¬ x2 = (nI 0) → (vp_in x3 12 ∧ (vp_in (x3 + x1) 12 ∧ ((¬ (I 107 (x3).toNatClampNeg) = (I 107 ((x3 + x1)).toNatClampNeg) → t_X11_repeat_14 d L fz t Q x1 (nI 0) (x3 + (nI 1)) I J) ∧ ((I 107 (x3).toNatClampNeg) = (I 107 ((x3 + x1)).toNatClampNeg) → t_X11_repeat_14 d L fz t Q x1 (nI 1) (x3 + (nI 1)) I J))))))))) :
    t_X11_repeat_14 d L fz t Q x1 x2 x3 I J := by
  exact pm_go d [(2, [0, 1]), (14, [0, 1, 2, 3])] 400 ⟨fun q0 => ⟨fun q1 => ((((h).1 q0)).1 q1), fun q1 => ((((h).1 q0)).2 q1)⟩, fun q0 => ⟨fun q1 => ((((h).2 q0)).1 q1), fun q1 => ⟨(((((h).2 q0)).2 q1)).1, ⟨((((((h).2 q0)).2 q1)).2).1, ⟨fun q2 => ((((((((h).2 q0)).2 q1)).2).2).1 q2), fun q2 => ((((((((h).2 q0)).2 q1)).2).2).2 q2)⟩⟩⟩⟩⟩
def t_X11_count_0 (d L : Nat) (fz t : Bool) (Q : pm_R → pm_H → Prop) (x1 : Int32) (I : Nat → Nat → Int32) (J : Nat → Nat → Int64) : Prop := pm_T (pm_Ev d) 179 Q (0, [(0, .ref 85), (1, .int x1)], [], pm_hp L fz t I J, 0, 0)
def t_X11_count_13 (d L : Nat) (fz t : Bool) (Q : pm_R → pm_H → Prop) (x1 : Int32) (r : Int32) (I : Nat → Nat → Int32) (J : Nat → Nat → Int64) : Prop := pm_T (pm_Ev d) 179 Q (13, [(0, .ref 85), (1, .int x1)], [.int r, .ref 85], pm_hp L fz t I J, 0, 0)
def K_X11_count_13 (d : Nat) (fz t : Bool) (Q : pm_R → pm_H → Prop) (x1 : Int32) : pm_R → pm_H → Prop := pm_K d 179 Q 13 [(0, .ref 85), (1, .int x1)] [.ref 85] 118 0 fz 0 0
def t_X11_count_17 (d L : Nat) (fz t : Bool) (Q : pm_R → pm_H → Prop) (x1 : Int32) (r : Int32) (I : Nat → Nat → Int32) (J : Nat → Nat → Int64) : Prop := pm_T (pm_Ev d) 179 Q (17, [(0, .ref 85), (1, .int x1)], [.int r], pm_hp L fz t I J, 0, 0)
def K_X11_count_17 (d : Nat) (fz t : Bool) (Q : pm_R → pm_H → Prop) (x1 : Int32) : pm_R → pm_H → Prop := pm_K d 179 Q 17 [(0, .ref 85), (1, .int x1)] [] 118 0 fz 0 0
def t_X11_count_27 (d L : Nat) (fz t : Bool) (Q : pm_R → pm_H → Prop) (x1 : Int32) (I : Nat → Nat → Int32) (J : Nat → Nat → Int64) : Prop := pm_T (pm_Ev d) 179 Q (27, [(0, .ref 85), (1, .int x1)], [], pm_hp L fz t I J, 0, 0)
def K_X11_count_27 (d : Nat) (fz t : Bool) (Q : pm_R → pm_H → Prop) (x1 : Int32) : pm_R → pm_H → Prop := pm_K d 179 Q 27 [(0, .ref 85), (1, .int x1)] [] 118 0 fz 0 0
def t_X11_count_134 (d L : Nat) (fz t : Bool) (Q : pm_R → pm_H → Prop) (r : Int32) (I : Nat → Nat → Int32) (J : Nat → Nat → Int64) : Prop := pm_T (pm_Ev d) 179 Q (134, [], [.int r], pm_hp L fz t I J, 0, 0)
def K_X11_count_134 (d : Nat) (fz t : Bool) (Q : pm_R → pm_H → Prop) : pm_R → pm_H → Prop := pm_K d 179 Q 134 [] [] 118 0 fz 0 0
def t_X11_count_139 (d L : Nat) (fz t : Bool) (Q : pm_R → pm_H → Prop) (r : Int32) (I : Nat → Nat → Int32) (J : Nat → Nat → Int64) : Prop := pm_T (pm_Ev d) 179 Q (139, [], [.int r], pm_hp L fz t I J, 0, 0)
def K_X11_count_139 (d : Nat) (fz t : Bool) (Q : pm_R → pm_H → Prop) : pm_R → pm_H → Prop := pm_K d 179 Q 139 [] [] 118 0 fz 0 0
def t_X11_count_144 (d L : Nat) (fz t : Bool) (Q : pm_R → pm_H → Prop) (r : Int32) (I : Nat → Nat → Int32) (J : Nat → Nat → Int64) : Prop := pm_T (pm_Ev d) 179 Q (144, [], [.int r], pm_hp L fz t I J, 0, 0)
def K_X11_count_144 (d : Nat) (fz t : Bool) (Q : pm_R → pm_H → Prop) : pm_R → pm_H → Prop := pm_K d 179 Q 144 [] [] 118 0 fz 0 0
def t_X11_count_149 (d L : Nat) (fz t : Bool) (Q : pm_R → pm_H → Prop) (r : Int32) (I : Nat → Nat → Int32) (J : Nat → Nat → Int64) : Prop := pm_T (pm_Ev d) 179 Q (149, [], [.int r], pm_hp L fz t I J, 0, 0)
def K_X11_count_149 (d : Nat) (fz t : Bool) (Q : pm_R → pm_H → Prop) : pm_R → pm_H → Prop := pm_K d 179 Q 149 [] [] 118 0 fz 0 0
set_option maxRecDepth 100000 in
theorem b_X11_count_0 {d L : Nat} {fz t : Bool} {Q : pm_R → pm_H → Prop} {x1 : Int32} {I : Nat → Nat → Int32} {J : Nat → Nat → Int64}
    (h : pm_Ev d 119 [.int x1, .int (nI 0), .int (nI 15)] (pm_hp L fz t (pm_u I 85 0 (nI 0)) J) (K_X11_count_13 d fz t Q x1)) :
    t_X11_count_0 d L fz t Q x1 I J := by
  exact pm_go d [(13, [0, 1]), (17, [0, 1]), (27, [0, 1]), (134, []), (139, []), (144, []), (149, [])] 400 h
theorem e_X11_count {d L : Nat} {fz t : Bool} {Q : pm_R → pm_H → Prop} {x1 : Int32} {I : Nat → Nat → Int32} {J : Nat → Nat → Int64}
    (h : pm_Ev d 119 [.int x1, .int (nI 0), .int (nI 15)] (pm_hp L fz t (pm_u I 85 0 (nI 0)) J) (K_X11_count_13 d fz t Q x1)) :
    pm_Ev (d + 1) 179 [.ref 85, .int x1] (pm_hp L fz t I J) Q := pm_Ev_in rfl (b_X11_count_0 h)
set_option maxRecDepth 100000 in
theorem b_X11_count_13 {d L : Nat} {fz t : Bool} {Q : pm_R → pm_H → Prop} {x1 : Int32} {r : Int32} {I : Nat → Nat → Int32} {J : Nat → Nat → Int64}
    (h : pm_Ev d 118 [.ref 85, .int r, .int (nI 1)] (pm_hp L fz t I J) (K_X11_count_17 d fz t Q x1)) :
    t_X11_count_13 d L fz t Q x1 r I J := by
  exact pm_go d [(13, [0, 1]), (17, [0, 1]), (27, [0, 1]), (134, []), (139, []), (144, []), (149, [])] 400 h
theorem kb_X11_count_13 {d L : Nat} {fz t : Bool} {Q : pm_R → pm_H → Prop} {x1 : Int32} {r : Int32} {fz1 : Bool} {I : Nat → Nat → Int32} {J : Nat → Nat → Int64}
    (h : pm_Ev d 118 [.ref 85, .int r, .int (nI 1)] (pm_hp L fz t I J) (K_X11_count_17 d fz t Q x1)) :
    K_X11_count_13 d fz t Q x1 (.inl (some (.int r))) (pm_hp L fz1 t I J) := b_X11_count_13 h
set_option maxRecDepth 100000 in
theorem b_X11_count_17 {d L : Nat} {fz t : Bool} {Q : pm_R → pm_H → Prop} {x1 : Int32} {r : Int32} {I : Nat → Nat → Int32} {J : Nat → Nat → Int64}
    (h : ((¬ r = (nI 0) → pm_Ev d 169 [.ref 85, .int (nI 0)] (pm_hp L fz t I J) (K_X11_count_27 d fz t Q x1)) ∧ (r = (nI 0) → Q (.inl (some (.int (nI 0)))) (pm_hp L fz t I J)))) :
    t_X11_count_17 d L fz t Q x1 r I J := by
  exact pm_go d [(13, [0, 1]), (17, [0, 1]), (27, [0, 1]), (134, []), (139, []), (144, []), (149, [])] 400 ⟨fun q0 => ((h).1 q0), fun q0 => ((h).2 q0)⟩
theorem kb_X11_count_17 {d L : Nat} {fz t : Bool} {Q : pm_R → pm_H → Prop} {x1 : Int32} {r : Int32} {fz1 : Bool} {I : Nat → Nat → Int32} {J : Nat → Nat → Int64}
    (h : ((¬ r = (nI 0) → pm_Ev d 169 [.ref 85, .int (nI 0)] (pm_hp L fz t I J) (K_X11_count_27 d fz t Q x1)) ∧ (r = (nI 0) → Q (.inl (some (.int (nI 0)))) (pm_hp L fz t I J)))) :
    K_X11_count_17 d fz t Q x1 (.inl (some (.int r))) (pm_hp L fz1 t I J) := b_X11_count_17 h
set_option maxRecDepth 100000 in
theorem b_X11_count_27 {d L : Nat} {fz t : Bool} {Q : pm_R → pm_H → Prop} {x1 : Int32} {I : Nat → Nat → Int32} {J : Nat → Nat → Int64}
    (h : (((x1).toInt < 0 ∨ 12 < (x1).toInt → (vp_in (x1 - (nI 13)) 3 ∧ Q (.inl (some (.int (I 93 ((x1 - (nI 13))).toNatClampNeg)))) (pm_hp L fz t I J))) ∧ ((x1).toInt = 0 → Q (.inl (some (.int (I 85 1)))) (pm_hp L fz t I J)) ∧ ((x1).toInt = 1 → Q (.inl (some (.int (I 85 2)))) (pm_hp L fz t I J)) ∧ ((x1).toInt = 2 → Q (.inl (some (.int (I 85 3)))) (pm_hp L fz t I J)) ∧ ((x1).toInt = 3 → Q (.inl (some (.int (I 85 4)))) (pm_hp L fz t I J)) ∧ ((x1).toInt = 4 → Q (.inl (some (.int (I 103 0)))) (pm_hp L fz t I J)) ∧ ((x1).toInt = 5 → Q (.inl (some (.int (I 103 1)))) (pm_hp L fz t I J)) ∧ ((x1).toInt = 6 → pm_Ev d 176 [.ref 85] (pm_hp L fz t I J) (K_X11_count_134 d fz t Q)) ∧ ((x1).toInt = 7 → pm_Ev d 177 [.ref 85] (pm_hp L fz t I J) (K_X11_count_139 d fz t Q)) ∧ ((x1).toInt = 8 → pm_Ev d 178 [.ref 85] (pm_hp L fz t I J) (K_X11_count_144 d fz t Q)) ∧ ((x1).toInt = 9 → pm_Ev d 172 [.ref 85] (pm_hp L fz t I J) (K_X11_count_149 d fz t Q)) ∧ ((x1).toInt = 10 → Q (.inl (some (.int (I 85 48)))) (pm_hp L fz t I J)) ∧ ((x1).toInt = 11 → Q (.inl (some (.int (I 85 55)))) (pm_hp L fz t I J)) ∧ ((x1).toInt = 12 → Q (.inl (some (.int (I 85 14)))) (pm_hp L fz t I J)))) :
    t_X11_count_27 d L fz t Q x1 I J := by
  exact pm_go d [(13, [0, 1]), (17, [0, 1]), (27, [0, 1]), (134, []), (139, []), (144, []), (149, [])] 400 ⟨fun q0 => ⟨(((h).1 q0)).1, (((h).1 q0)).2⟩, fun q0 => (((h).2).1 q0), fun q0 => ((((h).2).2).1 q0), fun q0 => (((((h).2).2).2).1 q0), fun q0 => ((((((h).2).2).2).2).1 q0), fun q0 => ⟨(vp_in_nI (by decide : 0 < 68) (by decide) : vp_in (nI 0) 68), (((((((h).2).2).2).2).2).1 q0)⟩, fun q0 => ⟨(vp_in_nI (by decide : 1 < 68) (by decide) : vp_in (nI 1) 68), ((((((((h).2).2).2).2).2).2).1 q0)⟩, fun q0 => (((((((((h).2).2).2).2).2).2).2).1 q0), fun q0 => ((((((((((h).2).2).2).2).2).2).2).2).1 q0), fun q0 => (((((((((((h).2).2).2).2).2).2).2).2).2).1 q0), fun q0 => ((((((((((((h).2).2).2).2).2).2).2).2).2).2).1 q0), fun q0 => (((((((((((((h).2).2).2).2).2).2).2).2).2).2).2).1 q0), fun q0 => ((((((((((((((h).2).2).2).2).2).2).2).2).2).2).2).2).1 q0), fun q0 => ((((((((((((((h).2).2).2).2).2).2).2).2).2).2).2).2).2 q0), trivial⟩
theorem kb_X11_count_27 {d L : Nat} {fz t : Bool} {Q : pm_R → pm_H → Prop} {x1 : Int32} {fz1 : Bool} {I : Nat → Nat → Int32} {J : Nat → Nat → Int64}
    (h : (((x1).toInt < 0 ∨ 12 < (x1).toInt → (vp_in (x1 - (nI 13)) 3 ∧ Q (.inl (some (.int (I 93 ((x1 - (nI 13))).toNatClampNeg)))) (pm_hp L fz t I J))) ∧ ((x1).toInt = 0 → Q (.inl (some (.int (I 85 1)))) (pm_hp L fz t I J)) ∧ ((x1).toInt = 1 → Q (.inl (some (.int (I 85 2)))) (pm_hp L fz t I J)) ∧ ((x1).toInt = 2 → Q (.inl (some (.int (I 85 3)))) (pm_hp L fz t I J)) ∧ ((x1).toInt = 3 → Q (.inl (some (.int (I 85 4)))) (pm_hp L fz t I J)) ∧ ((x1).toInt = 4 → Q (.inl (some (.int (I 103 0)))) (pm_hp L fz t I J)) ∧ ((x1).toInt = 5 → Q (.inl (some (.int (I 103 1)))) (pm_hp L fz t I J)) ∧ ((x1).toInt = 6 → pm_Ev d 176 [.ref 85] (pm_hp L fz t I J) (K_X11_count_134 d fz t Q)) ∧ ((x1).toInt = 7 → pm_Ev d 177 [.ref 85] (pm_hp L fz t I J) (K_X11_count_139 d fz t Q)) ∧ ((x1).toInt = 8 → pm_Ev d 178 [.ref 85] (pm_hp L fz t I J) (K_X11_count_144 d fz t Q)) ∧ ((x1).toInt = 9 → pm_Ev d 172 [.ref 85] (pm_hp L fz t I J) (K_X11_count_149 d fz t Q)) ∧ ((x1).toInt = 10 → Q (.inl (some (.int (I 85 48)))) (pm_hp L fz t I J)) ∧ ((x1).toInt = 11 → Q (.inl (some (.int (I 85 55)))) (pm_hp L fz t I J)) ∧ ((x1).toInt = 12 → Q (.inl (some (.int (I 85 14)))) (pm_hp L fz t I J)))) :
    K_X11_count_27 d fz t Q x1 (.inl none) (pm_hp L fz1 t I J) := b_X11_count_27 h
set_option maxRecDepth 100000 in
theorem b_X11_count_134 {d L : Nat} {fz t : Bool} {Q : pm_R → pm_H → Prop} {r : Int32} {I : Nat → Nat → Int32} {J : Nat → Nat → Int64}
    (h : Q (.inl (some (.int r))) (pm_hp L fz t I J)) :
    t_X11_count_134 d L fz t Q r I J := by
  exact pm_go d [(13, [0, 1]), (17, [0, 1]), (27, [0, 1]), (134, []), (139, []), (144, []), (149, [])] 400 h
theorem kb_X11_count_134 {d L : Nat} {fz t : Bool} {Q : pm_R → pm_H → Prop} {r : Int32} {fz1 : Bool} {I : Nat → Nat → Int32} {J : Nat → Nat → Int64}
    (h : Q (.inl (some (.int r))) (pm_hp L fz t I J)) :
    K_X11_count_134 d fz t Q (.inl (some (.int r))) (pm_hp L fz1 t I J) := b_X11_count_134 h
set_option maxRecDepth 100000 in
theorem b_X11_count_139 {d L : Nat} {fz t : Bool} {Q : pm_R → pm_H → Prop} {r : Int32} {I : Nat → Nat → Int32} {J : Nat → Nat → Int64}
    (h : Q (.inl (some (.int r))) (pm_hp L fz t I J)) :
    t_X11_count_139 d L fz t Q r I J := by
  exact pm_go d [(13, [0, 1]), (17, [0, 1]), (27, [0, 1]), (134, []), (139, []), (144, []), (149, [])] 400 h
theorem kb_X11_count_139 {d L : Nat} {fz t : Bool} {Q : pm_R → pm_H → Prop} {r : Int32} {fz1 : Bool} {I : Nat → Nat → Int32} {J : Nat → Nat → Int64}
    (h : Q (.inl (some (.int r))) (pm_hp L fz t I J)) :
    K_X11_count_139 d fz t Q (.inl (some (.int r))) (pm_hp L fz1 t I J) := b_X11_count_139 h
set_option maxRecDepth 100000 in
theorem b_X11_count_144 {d L : Nat} {fz t : Bool} {Q : pm_R → pm_H → Prop} {r : Int32} {I : Nat → Nat → Int32} {J : Nat → Nat → Int64}
    (h : Q (.inl (some (.int r))) (pm_hp L fz t I J)) :
    t_X11_count_144 d L fz t Q r I J := by
  exact pm_go d [(13, [0, 1]), (17, [0, 1]), (27, [0, 1]), (134, []), (139, []), (144, []), (149, [])] 400 h
theorem kb_X11_count_144 {d L : Nat} {fz t : Bool} {Q : pm_R → pm_H → Prop} {r : Int32} {fz1 : Bool} {I : Nat → Nat → Int32} {J : Nat → Nat → Int64}
    (h : Q (.inl (some (.int r))) (pm_hp L fz t I J)) :
    K_X11_count_144 d fz t Q (.inl (some (.int r))) (pm_hp L fz1 t I J) := b_X11_count_144 h
set_option maxRecDepth 100000 in
theorem b_X11_count_149 {d L : Nat} {fz t : Bool} {Q : pm_R → pm_H → Prop} {r : Int32} {I : Nat → Nat → Int32} {J : Nat → Nat → Int64}
    (h : Q (.inl (some (.int r))) (pm_hp L fz t I J)) :
    t_X11_count_149 d L fz t Q r I J := by
  exact pm_go d [(13, [0, 1]), (17, [0, 1]), (27, [0, 1]), (134, []), (139, []), (144, []), (149, [])] 400 h
theorem kb_X11_count_149 {d L : Nat} {fz t : Bool} {Q : pm_R → pm_H → Prop} {r : Int32} {fz1 : Bool} {I : Nat → Nat → Int32} {J : Nat → Nat → Int64}
    (h : Q (.inl (some (.int r))) (pm_hp L fz t I J)) :
    K_X11_count_149 d fz t Q (.inl (some (.int r))) (pm_hp L fz1 t I J) := b_X11_count_149 h
def t_X11_isCard_0 (d L : Nat) (fz t : Bool) (Q : pm_R → pm_H → Prop) (x1 : Int32) (I : Nat → Nat → Int32) (J : Nat → Nat → Int64) : Prop := pm_T (pm_Ev d) 180 Q (0, [(0, .ref 85), (1, .int x1)], [], pm_hp L fz t I J, 0, 0)
def t_X11_isCard_22 (d L : Nat) (fz t : Bool) (Q : pm_R → pm_H → Prop) (r : Int32) (I : Nat → Nat → Int32) (J : Nat → Nat → Int64) : Prop := pm_T (pm_Ev d) 180 Q (22, [], [.int r], pm_hp L fz t I J, 0, 0)
def K_X11_isCard_22 (d : Nat) (fz t : Bool) (Q : pm_R → pm_H → Prop) : pm_R → pm_H → Prop := pm_K d 180 Q 22 [] [] 118 0 fz 0 0
set_option maxRecDepth 100000 in
theorem b_X11_isCard_0 {d L : Nat} {fz t : Bool} {Q : pm_R → pm_H → Prop} {x1 : Int32} {I : Nat → Nat → Int32} {J : Nat → Nat → Int64}
    (h : ((x1 < (nI 0) → pm_Ev d 118 [.ref 85, .int (nI 0), .int (nI 1)] (pm_hp L fz t I J) (K_X11_isCard_22 d fz t Q)) ∧ (¬ x1 < (nI 0) → (((I 85 2) ≤ x1 → pm_Ev d 118 [.ref 85, .int (nI 0), .int (nI 1)] (pm_hp L fz t I J) (K_X11_isCard_22 d fz t Q)) ∧ (¬ (I 85 2) ≤ x1 → pm_Ev d 118 [.ref 85, .int (nI 1), .int (nI 1)] (pm_hp L fz t I J) (K_X11_isCard_22 d fz t Q)))))) :
    t_X11_isCard_0 d L fz t Q x1 I J := by
  exact pm_go d [(22, [])] 400 ⟨fun q0 => ((h).1 q0), fun q0 => ⟨fun q1 => ((((h).2 q0)).1 q1), fun q1 => ((((h).2 q0)).2 q1)⟩⟩
theorem e_X11_isCard {d L : Nat} {fz t : Bool} {Q : pm_R → pm_H → Prop} {x1 : Int32} {I : Nat → Nat → Int32} {J : Nat → Nat → Int64}
    (h : ((x1 < (nI 0) → pm_Ev d 118 [.ref 85, .int (nI 0), .int (nI 1)] (pm_hp L fz t I J) (K_X11_isCard_22 d fz t Q)) ∧ (¬ x1 < (nI 0) → (((I 85 2) ≤ x1 → pm_Ev d 118 [.ref 85, .int (nI 0), .int (nI 1)] (pm_hp L fz t I J) (K_X11_isCard_22 d fz t Q)) ∧ (¬ (I 85 2) ≤ x1 → pm_Ev d 118 [.ref 85, .int (nI 1), .int (nI 1)] (pm_hp L fz t I J) (K_X11_isCard_22 d fz t Q)))))) :
    pm_Ev (d + 1) 180 [.ref 85, .int x1] (pm_hp L fz t I J) Q := pm_Ev_in rfl (b_X11_isCard_0 h)
set_option maxRecDepth 100000 in
theorem b_X11_isCard_22 {d L : Nat} {fz t : Bool} {Q : pm_R → pm_H → Prop} {r : Int32} {I : Nat → Nat → Int32} {J : Nat → Nat → Int64}
    (h : ((r = nI 0 ∨ r = nI 1) ∧ Q (.inl (some (.int r))) (pm_hp L fz t I J))) :
    t_X11_isCard_22 d L fz t Q r I J := by
  exact pm_go d [(22, [])] 400 h
theorem kb_X11_isCard_22 {d L : Nat} {fz t : Bool} {Q : pm_R → pm_H → Prop} {r : Int32} {fz1 : Bool} {I : Nat → Nat → Int32} {J : Nat → Nat → Int64}
    (h : ((r = nI 0 ∨ r = nI 1) ∧ Q (.inl (some (.int r))) (pm_hp L fz t I J))) :
    K_X11_isCard_22 d fz t Q (.inl (some (.int r))) (pm_hp L fz1 t I J) := b_X11_isCard_22 h
def t_X11_isPick_0 (d L : Nat) (fz t : Bool) (Q : pm_R → pm_H → Prop) (x1 : Int32) (I : Nat → Nat → Int32) (J : Nat → Nat → Int64) : Prop := pm_T (pm_Ev d) 181 Q (0, [(0, .ref 85), (1, .int x1)], [], pm_hp L fz t I J, 0, 0)
def t_X11_isPick_22 (d L : Nat) (fz t : Bool) (Q : pm_R → pm_H → Prop) (r : Int32) (I : Nat → Nat → Int32) (J : Nat → Nat → Int64) : Prop := pm_T (pm_Ev d) 181 Q (22, [], [.int r], pm_hp L fz t I J, 0, 0)
def K_X11_isPick_22 (d : Nat) (fz t : Bool) (Q : pm_R → pm_H → Prop) : pm_R → pm_H → Prop := pm_K d 181 Q 22 [] [] 118 0 fz 0 0
set_option maxRecDepth 100000 in
theorem b_X11_isPick_0 {d L : Nat} {fz t : Bool} {Q : pm_R → pm_H → Prop} {x1 : Int32} {I : Nat → Nat → Int32} {J : Nat → Nat → Int64}
    (h : ((x1 < (nI 0) → pm_Ev d 118 [.ref 85, .int (nI 0), .int (nI 1)] (pm_hp L fz t I J) (K_X11_isPick_22 d fz t Q)) ∧ (¬ x1 < (nI 0) → (((I 85 3) ≤ x1 → pm_Ev d 118 [.ref 85, .int (nI 0), .int (nI 1)] (pm_hp L fz t I J) (K_X11_isPick_22 d fz t Q)) ∧ (¬ (I 85 3) ≤ x1 → pm_Ev d 118 [.ref 85, .int (nI 1), .int (nI 1)] (pm_hp L fz t I J) (K_X11_isPick_22 d fz t Q)))))) :
    t_X11_isPick_0 d L fz t Q x1 I J := by
  exact pm_go d [(22, [])] 400 ⟨fun q0 => ((h).1 q0), fun q0 => ⟨fun q1 => ((((h).2 q0)).1 q1), fun q1 => ((((h).2 q0)).2 q1)⟩⟩
theorem e_X11_isPick {d L : Nat} {fz t : Bool} {Q : pm_R → pm_H → Prop} {x1 : Int32} {I : Nat → Nat → Int32} {J : Nat → Nat → Int64}
    (h : ((x1 < (nI 0) → pm_Ev d 118 [.ref 85, .int (nI 0), .int (nI 1)] (pm_hp L fz t I J) (K_X11_isPick_22 d fz t Q)) ∧ (¬ x1 < (nI 0) → (((I 85 3) ≤ x1 → pm_Ev d 118 [.ref 85, .int (nI 0), .int (nI 1)] (pm_hp L fz t I J) (K_X11_isPick_22 d fz t Q)) ∧ (¬ (I 85 3) ≤ x1 → pm_Ev d 118 [.ref 85, .int (nI 1), .int (nI 1)] (pm_hp L fz t I J) (K_X11_isPick_22 d fz t Q)))))) :
    pm_Ev (d + 1) 181 [.ref 85, .int x1] (pm_hp L fz t I J) Q := pm_Ev_in rfl (b_X11_isPick_0 h)
set_option maxRecDepth 100000 in
theorem b_X11_isPick_22 {d L : Nat} {fz t : Bool} {Q : pm_R → pm_H → Prop} {r : Int32} {I : Nat → Nat → Int32} {J : Nat → Nat → Int64}
    (h : ((r = nI 0 ∨ r = nI 1) ∧ Q (.inl (some (.int r))) (pm_hp L fz t I J))) :
    t_X11_isPick_22 d L fz t Q r I J := by
  exact pm_go d [(22, [])] 400 h
theorem kb_X11_isPick_22 {d L : Nat} {fz t : Bool} {Q : pm_R → pm_H → Prop} {r : Int32} {fz1 : Bool} {I : Nat → Nat → Int32} {J : Nat → Nat → Int64}
    (h : ((r = nI 0 ∨ r = nI 1) ∧ Q (.inl (some (.int r))) (pm_hp L fz t I J))) :
    K_X11_isPick_22 d fz t Q (.inl (some (.int r))) (pm_hp L fz1 t I J) := b_X11_isPick_22 h
def t_X11_isFigure_0 (d L : Nat) (fz t : Bool) (Q : pm_R → pm_H → Prop) (x1 : Int32) (I : Nat → Nat → Int32) (J : Nat → Nat → Int64) : Prop := pm_T (pm_Ev d) 182 Q (0, [(0, .ref 85), (1, .int x1)], [], pm_hp L fz t I J, 0, 0)
def t_X11_isFigure_22 (d L : Nat) (fz t : Bool) (Q : pm_R → pm_H → Prop) (r : Int32) (I : Nat → Nat → Int32) (J : Nat → Nat → Int64) : Prop := pm_T (pm_Ev d) 182 Q (22, [], [.int r], pm_hp L fz t I J, 0, 0)
def K_X11_isFigure_22 (d : Nat) (fz t : Bool) (Q : pm_R → pm_H → Prop) : pm_R → pm_H → Prop := pm_K d 182 Q 22 [] [] 118 0 fz 0 0
set_option maxRecDepth 100000 in
theorem b_X11_isFigure_0 {d L : Nat} {fz t : Bool} {Q : pm_R → pm_H → Prop} {x1 : Int32} {I : Nat → Nat → Int32} {J : Nat → Nat → Int64}
    (h : ((x1 < (nI 0) → pm_Ev d 118 [.ref 85, .int (nI 0), .int (nI 1)] (pm_hp L fz t I J) (K_X11_isFigure_22 d fz t Q)) ∧ (¬ x1 < (nI 0) → (((I 85 4) ≤ x1 → pm_Ev d 118 [.ref 85, .int (nI 0), .int (nI 1)] (pm_hp L fz t I J) (K_X11_isFigure_22 d fz t Q)) ∧ (¬ (I 85 4) ≤ x1 → pm_Ev d 118 [.ref 85, .int (nI 1), .int (nI 1)] (pm_hp L fz t I J) (K_X11_isFigure_22 d fz t Q)))))) :
    t_X11_isFigure_0 d L fz t Q x1 I J := by
  exact pm_go d [(22, [])] 400 ⟨fun q0 => ((h).1 q0), fun q0 => ⟨fun q1 => ((((h).2 q0)).1 q1), fun q1 => ((((h).2 q0)).2 q1)⟩⟩
theorem e_X11_isFigure {d L : Nat} {fz t : Bool} {Q : pm_R → pm_H → Prop} {x1 : Int32} {I : Nat → Nat → Int32} {J : Nat → Nat → Int64}
    (h : ((x1 < (nI 0) → pm_Ev d 118 [.ref 85, .int (nI 0), .int (nI 1)] (pm_hp L fz t I J) (K_X11_isFigure_22 d fz t Q)) ∧ (¬ x1 < (nI 0) → (((I 85 4) ≤ x1 → pm_Ev d 118 [.ref 85, .int (nI 0), .int (nI 1)] (pm_hp L fz t I J) (K_X11_isFigure_22 d fz t Q)) ∧ (¬ (I 85 4) ≤ x1 → pm_Ev d 118 [.ref 85, .int (nI 1), .int (nI 1)] (pm_hp L fz t I J) (K_X11_isFigure_22 d fz t Q)))))) :
    pm_Ev (d + 1) 182 [.ref 85, .int x1] (pm_hp L fz t I J) Q := pm_Ev_in rfl (b_X11_isFigure_0 h)
set_option maxRecDepth 100000 in
theorem b_X11_isFigure_22 {d L : Nat} {fz t : Bool} {Q : pm_R → pm_H → Prop} {r : Int32} {I : Nat → Nat → Int32} {J : Nat → Nat → Int64}
    (h : ((r = nI 0 ∨ r = nI 1) ∧ Q (.inl (some (.int r))) (pm_hp L fz t I J))) :
    t_X11_isFigure_22 d L fz t Q r I J := by
  exact pm_go d [(22, [])] 400 h
theorem kb_X11_isFigure_22 {d L : Nat} {fz t : Bool} {Q : pm_R → pm_H → Prop} {r : Int32} {fz1 : Bool} {I : Nat → Nat → Int32} {J : Nat → Nat → Int64}
    (h : ((r = nI 0 ∨ r = nI 1) ∧ Q (.inl (some (.int r))) (pm_hp L fz t I J))) :
    K_X11_isFigure_22 d fz t Q (.inl (some (.int r))) (pm_hp L fz1 t I J) := b_X11_isFigure_22 h
def t_X11_isWhat_0 (d L : Nat) (fz t : Bool) (Q : pm_R → pm_H → Prop) (x1 : Int32) (x2 : Int32) (I : Nat → Nat → Int32) (J : Nat → Nat → Int64) : Prop := pm_T (pm_Ev d) 183 Q (0, [(0, .ref 85), (1, .int x1), (2, .int x2)], [], pm_hp L fz t I J, 0, 0)
def t_X11_isWhat_7 (d L : Nat) (fz t : Bool) (Q : pm_R → pm_H → Prop) (r : Int32) (I : Nat → Nat → Int32) (J : Nat → Nat → Int64) : Prop := pm_T (pm_Ev d) 183 Q (7, [], [.int r, .ref 85], pm_hp L fz t I J, 0, 0)
def K_X11_isWhat_7 (d : Nat) (fz t : Bool) (Q : pm_R → pm_H → Prop) : pm_R → pm_H → Prop := pm_K d 183 Q 7 [] [.ref 85] 118 0 fz 0 0
def t_X11_isWhat_11 (d L : Nat) (fz t : Bool) (Q : pm_R → pm_H → Prop) (r : Int32) (I : Nat → Nat → Int32) (J : Nat → Nat → Int64) : Prop := pm_T (pm_Ev d) 183 Q (11, [], [.int r], pm_hp L fz t I J, 0, 0)
def K_X11_isWhat_11 (d : Nat) (fz t : Bool) (Q : pm_R → pm_H → Prop) : pm_R → pm_H → Prop := pm_K d 183 Q 11 [] [] 118 0 fz 0 0
set_option maxRecDepth 100000 in
theorem b_X11_isWhat_0 {d L : Nat} {fz t : Bool} {Q : pm_R → pm_H → Prop} {x1 : Int32} {x2 : Int32} {I : Nat → Nat → Int32} {J : Nat → Nat → Int64}
    (h : pm_Ev d 119 [.int x1, .int (nI 0), .int x2] (pm_hp L fz t I J) (K_X11_isWhat_7 d fz t Q)) :
    t_X11_isWhat_0 d L fz t Q x1 x2 I J := by
  exact pm_go d [(7, []), (11, [])] 400 h
theorem e_X11_isWhat {d L : Nat} {fz t : Bool} {Q : pm_R → pm_H → Prop} {x1 : Int32} {x2 : Int32} {I : Nat → Nat → Int32} {J : Nat → Nat → Int64}
    (h : pm_Ev d 119 [.int x1, .int (nI 0), .int x2] (pm_hp L fz t I J) (K_X11_isWhat_7 d fz t Q)) :
    pm_Ev (d + 1) 183 [.ref 85, .int x1, .int x2] (pm_hp L fz t I J) Q := pm_Ev_in rfl (b_X11_isWhat_0 h)
set_option maxRecDepth 100000 in
theorem b_X11_isWhat_7 {d L : Nat} {fz t : Bool} {Q : pm_R → pm_H → Prop} {r : Int32} {I : Nat → Nat → Int32} {J : Nat → Nat → Int64}
    (h : pm_Ev d 118 [.ref 85, .int r, .int (nI 1)] (pm_hp L fz t I J) (K_X11_isWhat_11 d fz t Q)) :
    t_X11_isWhat_7 d L fz t Q r I J := by
  exact pm_go d [(7, []), (11, [])] 400 h
theorem kb_X11_isWhat_7 {d L : Nat} {fz t : Bool} {Q : pm_R → pm_H → Prop} {r : Int32} {fz1 : Bool} {I : Nat → Nat → Int32} {J : Nat → Nat → Int64}
    (h : pm_Ev d 118 [.ref 85, .int r, .int (nI 1)] (pm_hp L fz t I J) (K_X11_isWhat_11 d fz t Q)) :
    K_X11_isWhat_7 d fz t Q (.inl (some (.int r))) (pm_hp L fz1 t I J) := b_X11_isWhat_7 h
set_option maxRecDepth 100000 in
theorem b_X11_isWhat_11 {d L : Nat} {fz t : Bool} {Q : pm_R → pm_H → Prop} {r : Int32} {I : Nat → Nat → Int32} {J : Nat → Nat → Int64}
    (h : ((r = nI 0 ∨ r = nI 1) ∧ Q (.inl (some (.int r))) (pm_hp L fz t I J))) :
    t_X11_isWhat_11 d L fz t Q r I J := by
  exact pm_go d [(7, []), (11, [])] 400 h
theorem kb_X11_isWhat_11 {d L : Nat} {fz t : Bool} {Q : pm_R → pm_H → Prop} {r : Int32} {fz1 : Bool} {I : Nat → Nat → Int32} {J : Nat → Nat → Int64}
    (h : ((r = nI 0 ∨ r = nI 1) ∧ Q (.inl (some (.int r))) (pm_hp L fz t I J))) :
    K_X11_isWhat_11 d fz t Q (.inl (some (.int r))) (pm_hp L fz1 t I J) := b_X11_isWhat_11 h
def t_X11_card_0 (d L : Nat) (fz t : Bool) (Q : pm_R → pm_H → Prop) (x1 : Int32) (x2 : Int32) (I : Nat → Nat → Int32) (J : Nat → Nat → Int64) : Prop := pm_T (pm_Ev d) 184 Q (0, [(0, .ref 85), (1, .int x1), (2, .int x2)], [], pm_hp L fz t I J, 0, 0)
def t_X11_card_10 (d L : Nat) (fz t : Bool) (Q : pm_R → pm_H → Prop) (x1 : Int32) (x2 : Int32) (r : Int32) (I : Nat → Nat → Int32) (J : Nat → Nat → Int64) : Prop := pm_T (pm_Ev d) 184 Q (10, [(0, .ref 85), (1, .int x1), (2, .int x2)], [.int r], pm_hp L fz t I J, 0, 0)
def K_X11_card_10 (d : Nat) (fz t : Bool) (Q : pm_R → pm_H → Prop) (x1 : Int32) (x2 : Int32) : pm_R → pm_H → Prop := pm_K d 184 Q 10 [(0, .ref 85), (1, .int x1), (2, .int x2)] [] 118 0 fz 0 0
def t_X11_card_19 (d L : Nat) (fz t : Bool) (Q : pm_R → pm_H → Prop) (x1 : Int32) (x2 : Int32) (r : Int32) (I : Nat → Nat → Int32) (J : Nat → Nat → Int64) : Prop := pm_T (pm_Ev d) 184 Q (19, [(0, .ref 85), (1, .int x1), (2, .int x2)], [.int r], pm_hp L fz t I J, 0, 0)
def K_X11_card_19 (d : Nat) (fz t : Bool) (Q : pm_R → pm_H → Prop) (x1 : Int32) (x2 : Int32) : pm_R → pm_H → Prop := pm_K d 184 Q 19 [(0, .ref 85), (1, .int x1), (2, .int x2)] [] 118 0 fz 0 0
def t_X11_card_95 (d L : Nat) (fz t : Bool) (Q : pm_R → pm_H → Prop) (r : Int32) (I : Nat → Nat → Int32) (J : Nat → Nat → Int64) : Prop := pm_T (pm_Ev d) 184 Q (95, [], [.int r], pm_hp L fz t I J, 0, 0)
def K_X11_card_95 (d : Nat) (fz t : Bool) (Q : pm_R → pm_H → Prop) : pm_R → pm_H → Prop := pm_K d 184 Q 95 [] [] 118 0 fz 0 0
def t_X11_card_88 (d L : Nat) (fz t : Bool) (Q : pm_R → pm_H → Prop) (r : Int32) (I : Nat → Nat → Int32) (J : Nat → Nat → Int64) : Prop := pm_T (pm_Ev d) 184 Q (88, [], [.int r], pm_hp L fz t I J, 0, 0)
def K_X11_card_88 (d : Nat) (fz t : Bool) (Q : pm_R → pm_H → Prop) : pm_R → pm_H → Prop := pm_K d 184 Q 88 [] [] 118 0 fz 0 0
set_option maxRecDepth 100000 in
theorem b_X11_card_0 {d L : Nat} {fz t : Bool} {Q : pm_R → pm_H → Prop} {x1 : Int32} {x2 : Int32} {I : Nat → Nat → Int32} {J : Nat → Nat → Int64}
    (h : pm_Ev d 180 [.ref 85, .int x1] (pm_hp L fz t (pm_u I 85 0 (nI 0)) J) (K_X11_card_10 d fz t Q x1 x2)) :
    t_X11_card_0 d L fz t Q x1 x2 I J := by
  exact pm_go d [(10, [0, 1, 2]), (19, [0, 1, 2]), (88, []), (95, [])] 400 h
theorem e_X11_card {d L : Nat} {fz t : Bool} {Q : pm_R → pm_H → Prop} {x1 : Int32} {x2 : Int32} {I : Nat → Nat → Int32} {J : Nat → Nat → Int64}
    (h : pm_Ev d 180 [.ref 85, .int x1] (pm_hp L fz t (pm_u I 85 0 (nI 0)) J) (K_X11_card_10 d fz t Q x1 x2)) :
    pm_Ev (d + 1) 184 [.ref 85, .int x1, .int x2] (pm_hp L fz t I J) Q := pm_Ev_in rfl (b_X11_card_0 h)
set_option maxRecDepth 100000 in
theorem b_X11_card_10 {d L : Nat} {fz t : Bool} {Q : pm_R → pm_H → Prop} {x1 : Int32} {x2 : Int32} {r : Int32} {I : Nat → Nat → Int32} {J : Nat → Nat → Int64}
    (h : ((r = (nI 0) → Q (.inl (some (.int (nI 0)))) (pm_hp L fz t I J)) ∧ (¬ r = (nI 0) → pm_Ev d 183 [.ref 85, .int x2, .int (nI 4)] (pm_hp L fz t I J) (K_X11_card_19 d fz t Q x1 x2)))) :
    t_X11_card_10 d L fz t Q x1 x2 r I J := by
  exact pm_go d [(10, [0, 1, 2]), (19, [0, 1, 2]), (88, []), (95, [])] 400 ⟨fun q0 => ((h).1 q0), fun q0 => ((h).2 q0)⟩
theorem kb_X11_card_10 {d L : Nat} {fz t : Bool} {Q : pm_R → pm_H → Prop} {x1 : Int32} {x2 : Int32} {r : Int32} {fz1 : Bool} {I : Nat → Nat → Int32} {J : Nat → Nat → Int64}
    (h : ((r = (nI 0) → Q (.inl (some (.int (nI 0)))) (pm_hp L fz t I J)) ∧ (¬ r = (nI 0) → pm_Ev d 183 [.ref 85, .int x2, .int (nI 4)] (pm_hp L fz t I J) (K_X11_card_19 d fz t Q x1 x2)))) :
    K_X11_card_10 d fz t Q x1 x2 (.inl (some (.int r))) (pm_hp L fz1 t I J) := b_X11_card_10 h
set_option maxRecDepth 100000 in
theorem b_X11_card_19 {d L : Nat} {fz t : Bool} {Q : pm_R → pm_H → Prop} {x1 : Int32} {x2 : Int32} {r : Int32} {I : Nat → Nat → Int32} {J : Nat → Nat → Int64}
    (h : ((¬ r = (nI 0) → (((x2).toInt < 0 ∨ 3 < (x2).toInt → pm_Ev d 173 [.ref 85, .int (nI 0), .int x1] (pm_hp L fz t I J) (K_X11_card_95 d fz t Q)) ∧ ((x2).toInt = 0 → (vp_in ((nI 2) + x1) 68 ∧ Q (.inl (some (.int (I 103 (((nI 2) + x1)).toNatClampNeg)))) (pm_hp L fz t I J))) ∧ ((x2).toInt = 1 → (vp_in x1 10 ∧ Q (.inl (some (.int (I 86 (x1).toNatClampNeg)))) (pm_hp L fz t I J))) ∧ ((x2).toInt = 2 → (vp_in ((nI 12) + x1) 68 ∧ Q (.inl (some (.int (I 103 (((nI 12) + x1)).toNatClampNeg)))) (pm_hp L fz t I J))) ∧ ((x2).toInt = 3 → pm_Ev d 164 [.ref 85, .int (nI 0), .int x1] (pm_hp L fz t I J) (K_X11_card_88 d fz t Q)))) ∧ (r = (nI 0) → Q (.inl (some (.int (nI 0)))) (pm_hp L fz t I J)))) :
    t_X11_card_19 d L fz t Q x1 x2 r I J := by
  exact pm_go d [(10, [0, 1, 2]), (19, [0, 1, 2]), (88, []), (95, [])] 400 ⟨fun q0 => ⟨fun q1 => ((((h).1 q0)).1 q1), fun q1 => ⟨((((((h).1 q0)).2).1 q1)).1, ((((((h).1 q0)).2).1 q1)).2⟩, fun q1 => ⟨(((((((h).1 q0)).2).2).1 q1)).1, (((((((h).1 q0)).2).2).1 q1)).2⟩, fun q1 => ⟨((((((((h).1 q0)).2).2).2).1 q1)).1, ((((((((h).1 q0)).2).2).2).1 q1)).2⟩, fun q1 => (((((((h).1 q0)).2).2).2).2 q1), trivial⟩, fun q0 => ((h).2 q0)⟩
theorem kb_X11_card_19 {d L : Nat} {fz t : Bool} {Q : pm_R → pm_H → Prop} {x1 : Int32} {x2 : Int32} {r : Int32} {fz1 : Bool} {I : Nat → Nat → Int32} {J : Nat → Nat → Int64}
    (h : ((¬ r = (nI 0) → (((x2).toInt < 0 ∨ 3 < (x2).toInt → pm_Ev d 173 [.ref 85, .int (nI 0), .int x1] (pm_hp L fz t I J) (K_X11_card_95 d fz t Q)) ∧ ((x2).toInt = 0 → (vp_in ((nI 2) + x1) 68 ∧ Q (.inl (some (.int (I 103 (((nI 2) + x1)).toNatClampNeg)))) (pm_hp L fz t I J))) ∧ ((x2).toInt = 1 → (vp_in x1 10 ∧ Q (.inl (some (.int (I 86 (x1).toNatClampNeg)))) (pm_hp L fz t I J))) ∧ ((x2).toInt = 2 → (vp_in ((nI 12) + x1) 68 ∧ Q (.inl (some (.int (I 103 (((nI 12) + x1)).toNatClampNeg)))) (pm_hp L fz t I J))) ∧ ((x2).toInt = 3 → pm_Ev d 164 [.ref 85, .int (nI 0), .int x1] (pm_hp L fz t I J) (K_X11_card_88 d fz t Q)))) ∧ (r = (nI 0) → Q (.inl (some (.int (nI 0)))) (pm_hp L fz t I J)))) :
    K_X11_card_19 d fz t Q x1 x2 (.inl (some (.int r))) (pm_hp L fz1 t I J) := b_X11_card_19 h
set_option maxRecDepth 100000 in
theorem b_X11_card_95 {d L : Nat} {fz t : Bool} {Q : pm_R → pm_H → Prop} {r : Int32} {I : Nat → Nat → Int32} {J : Nat → Nat → Int64}
    (h : Q (.inl (some (.int r))) (pm_hp L fz t I J)) :
    t_X11_card_95 d L fz t Q r I J := by
  exact pm_go d [(10, [0, 1, 2]), (19, [0, 1, 2]), (88, []), (95, [])] 400 h
theorem kb_X11_card_95 {d L : Nat} {fz t : Bool} {Q : pm_R → pm_H → Prop} {r : Int32} {fz1 : Bool} {I : Nat → Nat → Int32} {J : Nat → Nat → Int64}
    (h : Q (.inl (some (.int r))) (pm_hp L fz t I J)) :
    K_X11_card_95 d fz t Q (.inl (some (.int r))) (pm_hp L fz1 t I J) := b_X11_card_95 h
set_option maxRecDepth 100000 in
theorem b_X11_card_88 {d L : Nat} {fz t : Bool} {Q : pm_R → pm_H → Prop} {r : Int32} {I : Nat → Nat → Int32} {J : Nat → Nat → Int64}
    (h : Q (.inl (some (.int r))) (pm_hp L fz t I J)) :
    t_X11_card_88 d L fz t Q r I J := by
  exact pm_go d [(10, [0, 1, 2]), (19, [0, 1, 2]), (88, []), (95, [])] 400 h
theorem kb_X11_card_88 {d L : Nat} {fz t : Bool} {Q : pm_R → pm_H → Prop} {r : Int32} {fz1 : Bool} {I : Nat → Nat → Int32} {J : Nat → Nat → Int64}
    (h : Q (.inl (some (.int r))) (pm_hp L fz t I J)) :
    K_X11_card_88 d fz t Q (.inl (some (.int r))) (pm_hp L fz1 t I J) := b_X11_card_88 h
def t_X11_lace_0 (d L : Nat) (fz t : Bool) (Q : pm_R → pm_H → Prop) (x1 : Int32) (I : Nat → Nat → Int32) (J : Nat → Nat → Int64) : Prop := pm_T (pm_Ev d) 185 Q (0, [(0, .ref 85), (1, .int x1)], [], pm_hp L fz t I J, 0, 0)
def t_X11_lace_10 (d L : Nat) (fz t : Bool) (Q : pm_R → pm_H → Prop) (x1 : Int32) (r : Int32) (I : Nat → Nat → Int32) (J : Nat → Nat → Int64) : Prop := pm_T (pm_Ev d) 185 Q (10, [(0, .ref 85), (1, .int x1)], [.int r], pm_hp L fz t I J, 0, 0)
def K_X11_lace_10 (d : Nat) (fz t : Bool) (Q : pm_R → pm_H → Prop) (x1 : Int32) : pm_R → pm_H → Prop := pm_K d 185 Q 10 [(0, .ref 85), (1, .int x1)] [] 118 0 fz 0 0
set_option maxRecDepth 100000 in
theorem b_X11_lace_0 {d L : Nat} {fz t : Bool} {Q : pm_R → pm_H → Prop} {x1 : Int32} {I : Nat → Nat → Int32} {J : Nat → Nat → Int64}
    (h : pm_Ev d 181 [.ref 85, .int x1] (pm_hp L fz t (pm_u I 85 0 (nI 0)) J) (K_X11_lace_10 d fz t Q x1)) :
    t_X11_lace_0 d L fz t Q x1 I J := by
  exact pm_go d [(10, [0, 1])] 400 h
theorem e_X11_lace {d L : Nat} {fz t : Bool} {Q : pm_R → pm_H → Prop} {x1 : Int32} {I : Nat → Nat → Int32} {J : Nat → Nat → Int64}
    (h : pm_Ev d 181 [.ref 85, .int x1] (pm_hp L fz t (pm_u I 85 0 (nI 0)) J) (K_X11_lace_10 d fz t Q x1)) :
    pm_Ev (d + 1) 185 [.ref 85, .int x1] (pm_hp L fz t I J) Q := pm_Ev_in rfl (b_X11_lace_0 h)
set_option maxRecDepth 100000 in
theorem b_X11_lace_10 {d L : Nat} {fz t : Bool} {Q : pm_R → pm_H → Prop} {x1 : Int32} {r : Int32} {I : Nat → Nat → Int32} {J : Nat → Nat → Int64}
    (h : ((r = (nI 0) → Q (.inl (some (.int (nI 0)))) (pm_hp L fz t I J)) ∧ (¬ r = (nI 0) → (vp_in ((nI 22) + x1) 68 ∧ Q (.inl (some (.int (I 103 (((nI 22) + x1)).toNatClampNeg)))) (pm_hp L fz t I J))))) :
    t_X11_lace_10 d L fz t Q x1 r I J := by
  exact pm_go d [(10, [0, 1])] 400 ⟨fun q0 => ((h).1 q0), fun q0 => ⟨(((h).2 q0)).1, (((h).2 q0)).2⟩⟩
theorem kb_X11_lace_10 {d L : Nat} {fz t : Bool} {Q : pm_R → pm_H → Prop} {x1 : Int32} {r : Int32} {fz1 : Bool} {I : Nat → Nat → Int32} {J : Nat → Nat → Int64}
    (h : ((r = (nI 0) → Q (.inl (some (.int (nI 0)))) (pm_hp L fz t I J)) ∧ (¬ r = (nI 0) → (vp_in ((nI 22) + x1) 68 ∧ Q (.inl (some (.int (I 103 (((nI 22) + x1)).toNatClampNeg)))) (pm_hp L fz t I J))))) :
    K_X11_lace_10 d fz t Q x1 (.inl (some (.int r))) (pm_hp L fz1 t I J) := b_X11_lace_10 h
def t_X11_figure_0 (d L : Nat) (fz t : Bool) (Q : pm_R → pm_H → Prop) (x1 : Int32) (x2 : Int32) (I : Nat → Nat → Int32) (J : Nat → Nat → Int64) : Prop := pm_T (pm_Ev d) 186 Q (0, [(0, .ref 85), (1, .int x1), (2, .int x2)], [], pm_hp L fz t I J, 0, 0)
def t_X11_figure_10 (d L : Nat) (fz t : Bool) (Q : pm_R → pm_H → Prop) (x1 : Int32) (x2 : Int32) (r : Int32) (I : Nat → Nat → Int32) (J : Nat → Nat → Int64) : Prop := pm_T (pm_Ev d) 186 Q (10, [(0, .ref 85), (1, .int x1), (2, .int x2)], [.int r], pm_hp L fz t I J, 0, 0)
def K_X11_figure_10 (d : Nat) (fz t : Bool) (Q : pm_R → pm_H → Prop) (x1 : Int32) (x2 : Int32) : pm_R → pm_H → Prop := pm_K d 186 Q 10 [(0, .ref 85), (1, .int x1), (2, .int x2)] [] 118 0 fz 0 0
def t_X11_figure_19 (d L : Nat) (fz t : Bool) (Q : pm_R → pm_H → Prop) (x1 : Int32) (x2 : Int32) (r : Int32) (I : Nat → Nat → Int32) (J : Nat → Nat → Int64) : Prop := pm_T (pm_Ev d) 186 Q (19, [(0, .ref 85), (1, .int x1), (2, .int x2)], [.int r], pm_hp L fz t I J, 0, 0)
def K_X11_figure_19 (d : Nat) (fz t : Bool) (Q : pm_R → pm_H → Prop) (x1 : Int32) (x2 : Int32) : pm_R → pm_H → Prop := pm_K d 186 Q 19 [(0, .ref 85), (1, .int x1), (2, .int x2)] [] 118 0 fz 0 0
set_option maxRecDepth 100000 in
theorem b_X11_figure_0 {d L : Nat} {fz t : Bool} {Q : pm_R → pm_H → Prop} {x1 : Int32} {x2 : Int32} {I : Nat → Nat → Int32} {J : Nat → Nat → Int64}
    (h : pm_Ev d 182 [.ref 85, .int x1] (pm_hp L fz t (pm_u I 85 0 (nI 0)) J) (K_X11_figure_10 d fz t Q x1 x2)) :
    t_X11_figure_0 d L fz t Q x1 x2 I J := by
  exact pm_go d [(10, [0, 1, 2]), (19, [0, 1, 2])] 400 h
theorem e_X11_figure {d L : Nat} {fz t : Bool} {Q : pm_R → pm_H → Prop} {x1 : Int32} {x2 : Int32} {I : Nat → Nat → Int32} {J : Nat → Nat → Int64}
    (h : pm_Ev d 182 [.ref 85, .int x1] (pm_hp L fz t (pm_u I 85 0 (nI 0)) J) (K_X11_figure_10 d fz t Q x1 x2)) :
    pm_Ev (d + 1) 186 [.ref 85, .int x1, .int x2] (pm_hp L fz t I J) Q := pm_Ev_in rfl (b_X11_figure_0 h)
set_option maxRecDepth 100000 in
theorem b_X11_figure_10 {d L : Nat} {fz t : Bool} {Q : pm_R → pm_H → Prop} {x1 : Int32} {x2 : Int32} {r : Int32} {I : Nat → Nat → Int32} {J : Nat → Nat → Int64}
    (h : ((r = (nI 0) → Q (.inl (some (.int (nI 0)))) (pm_hp L fz t I J)) ∧ (¬ r = (nI 0) → pm_Ev d 183 [.ref 85, .int x2, .int (nI 5)] (pm_hp L fz t I J) (K_X11_figure_19 d fz t Q x1 x2)))) :
    t_X11_figure_10 d L fz t Q x1 x2 r I J := by
  exact pm_go d [(10, [0, 1, 2]), (19, [0, 1, 2])] 400 ⟨fun q0 => ((h).1 q0), fun q0 => ((h).2 q0)⟩
theorem kb_X11_figure_10 {d L : Nat} {fz t : Bool} {Q : pm_R → pm_H → Prop} {x1 : Int32} {x2 : Int32} {r : Int32} {fz1 : Bool} {I : Nat → Nat → Int32} {J : Nat → Nat → Int64}
    (h : ((r = (nI 0) → Q (.inl (some (.int (nI 0)))) (pm_hp L fz t I J)) ∧ (¬ r = (nI 0) → pm_Ev d 183 [.ref 85, .int x2, .int (nI 5)] (pm_hp L fz t I J) (K_X11_figure_19 d fz t Q x1 x2)))) :
    K_X11_figure_10 d fz t Q x1 x2 (.inl (some (.int r))) (pm_hp L fz1 t I J) := b_X11_figure_10 h
set_option maxRecDepth 100000 in
theorem b_X11_figure_19 {d L : Nat} {fz t : Bool} {Q : pm_R → pm_H → Prop} {x1 : Int32} {x2 : Int32} {r : Int32} {I : Nat → Nat → Int32} {J : Nat → Nat → Int64}
    (h : ((¬ r = (nI 0) → ((¬ x2 = (nI 0) → ((¬ x2 = (nI 1) → ((¬ x2 = (nI 2) → (vp_in ((((nI 3) * x1) + x2) - (nI 3)) 15 ∧ Q (.inl (some (.int (I 90 (((((nI 3) * x1) + x2) - (nI 3))).toNatClampNeg)))) (pm_hp L fz t I J))) ∧ (x2 = (nI 2) → (vp_in x1 5 ∧ Q (.inl (some (.int (I 89 (x1).toNatClampNeg)))) (pm_hp L fz t I J))))) ∧ (x2 = (nI 1) → (vp_in x1 5 ∧ Q (.inl (some (.int (I 88 (x1).toNatClampNeg)))) (pm_hp L fz t I J))))) ∧ (x2 = (nI 0) → (vp_in x1 5 ∧ Q (.inl (some (.int (I 87 (x1).toNatClampNeg)))) (pm_hp L fz t I J))))) ∧ (r = (nI 0) → Q (.inl (some (.int (nI 0)))) (pm_hp L fz t I J)))) :
    t_X11_figure_19 d L fz t Q x1 x2 r I J := by
  exact pm_go d [(10, [0, 1, 2]), (19, [0, 1, 2])] 400 ⟨fun q0 => ⟨fun q1 => ⟨fun q2 => ⟨fun q3 => ⟨(((((((((h).1 q0)).1 q1)).1 q2)).1 q3)).1, (((((((((h).1 q0)).1 q1)).1 q2)).1 q3)).2⟩, fun q3 => ⟨(((((((((h).1 q0)).1 q1)).1 q2)).2 q3)).1, (((((((((h).1 q0)).1 q1)).1 q2)).2 q3)).2⟩⟩, fun q2 => ⟨(((((((h).1 q0)).1 q1)).2 q2)).1, (((((((h).1 q0)).1 q1)).2 q2)).2⟩⟩, fun q1 => ⟨(((((h).1 q0)).2 q1)).1, (((((h).1 q0)).2 q1)).2⟩⟩, fun q0 => ((h).2 q0)⟩
theorem kb_X11_figure_19 {d L : Nat} {fz t : Bool} {Q : pm_R → pm_H → Prop} {x1 : Int32} {x2 : Int32} {r : Int32} {fz1 : Bool} {I : Nat → Nat → Int32} {J : Nat → Nat → Int64}
    (h : ((¬ r = (nI 0) → ((¬ x2 = (nI 0) → ((¬ x2 = (nI 1) → ((¬ x2 = (nI 2) → (vp_in ((((nI 3) * x1) + x2) - (nI 3)) 15 ∧ Q (.inl (some (.int (I 90 (((((nI 3) * x1) + x2) - (nI 3))).toNatClampNeg)))) (pm_hp L fz t I J))) ∧ (x2 = (nI 2) → (vp_in x1 5 ∧ Q (.inl (some (.int (I 89 (x1).toNatClampNeg)))) (pm_hp L fz t I J))))) ∧ (x2 = (nI 1) → (vp_in x1 5 ∧ Q (.inl (some (.int (I 88 (x1).toNatClampNeg)))) (pm_hp L fz t I J))))) ∧ (x2 = (nI 0) → (vp_in x1 5 ∧ Q (.inl (some (.int (I 87 (x1).toNatClampNeg)))) (pm_hp L fz t I J))))) ∧ (r = (nI 0) → Q (.inl (some (.int (nI 0)))) (pm_hp L fz t I J)))) :
    K_X11_figure_19 d fz t Q x1 x2 (.inl (some (.int r))) (pm_hp L fz1 t I J) := b_X11_figure_19 h
def t_X11_snarl_0 (d L : Nat) (fz t : Bool) (Q : pm_R → pm_H → Prop) (x1 : Int32) (x2 : Int32) (I : Nat → Nat → Int32) (J : Nat → Nat → Int64) : Prop := pm_T (pm_Ev d) 187 Q (0, [(0, .ref 85), (1, .int x1), (2, .int x2)], [], pm_hp L fz t I J, 0, 0)
def t_X11_snarl_10 (d L : Nat) (fz t : Bool) (Q : pm_R → pm_H → Prop) (x1 : Int32) (x2 : Int32) (r : Int32) (I : Nat → Nat → Int32) (J : Nat → Nat → Int64) : Prop := pm_T (pm_Ev d) 187 Q (10, [(0, .ref 85), (1, .int x1), (2, .int x2)], [.int r], pm_hp L fz t I J, 0, 0)
def K_X11_snarl_10 (d : Nat) (fz t : Bool) (Q : pm_R → pm_H → Prop) (x1 : Int32) (x2 : Int32) : pm_R → pm_H → Prop := pm_K d 187 Q 10 [(0, .ref 85), (1, .int x1), (2, .int x2)] [] 118 0 fz 0 0
def t_X11_snarl_18 (d L : Nat) (fz t : Bool) (Q : pm_R → pm_H → Prop) (x1 : Int32) (x2 : Int32) (r : Int32) (I : Nat → Nat → Int32) (J : Nat → Nat → Int64) : Prop := pm_T (pm_Ev d) 187 Q (18, [(0, .ref 85), (1, .int x1), (2, .int x2)], [.int r], pm_hp L fz t I J, 0, 0)
def K_X11_snarl_18 (d : Nat) (fz t : Bool) (Q : pm_R → pm_H → Prop) (x1 : Int32) (x2 : Int32) : pm_R → pm_H → Prop := pm_K d 187 Q 18 [(0, .ref 85), (1, .int x1), (2, .int x2)] [] 118 0 fz 0 0
def t_X11_snarl_27 (d L : Nat) (fz t : Bool) (Q : pm_R → pm_H → Prop) (r : Int32) (I : Nat → Nat → Int32) (J : Nat → Nat → Int64) : Prop := pm_T (pm_Ev d) 187 Q (27, [], [.int r], pm_hp L fz t I J, 0, 0)
def K_X11_snarl_27 (d : Nat) (fz t : Bool) (Q : pm_R → pm_H → Prop) : pm_R → pm_H → Prop := pm_K d 187 Q 27 [] [] 118 0 fz 0 0
set_option maxRecDepth 100000 in
theorem b_X11_snarl_0 {d L : Nat} {fz t : Bool} {Q : pm_R → pm_H → Prop} {x1 : Int32} {x2 : Int32} {I : Nat → Nat → Int32} {J : Nat → Nat → Int64}
    (h : pm_Ev d 180 [.ref 85, .int x1] (pm_hp L fz t (pm_u I 85 0 (nI 0)) J) (K_X11_snarl_10 d fz t Q x1 x2)) :
    t_X11_snarl_0 d L fz t Q x1 x2 I J := by
  exact pm_go d [(10, [0, 1, 2]), (18, [0, 1, 2]), (27, [])] 400 h
theorem e_X11_snarl {d L : Nat} {fz t : Bool} {Q : pm_R → pm_H → Prop} {x1 : Int32} {x2 : Int32} {I : Nat → Nat → Int32} {J : Nat → Nat → Int64}
    (h : pm_Ev d 180 [.ref 85, .int x1] (pm_hp L fz t (pm_u I 85 0 (nI 0)) J) (K_X11_snarl_10 d fz t Q x1 x2)) :
    pm_Ev (d + 1) 187 [.ref 85, .int x1, .int x2] (pm_hp L fz t I J) Q := pm_Ev_in rfl (b_X11_snarl_0 h)
set_option maxRecDepth 100000 in
theorem b_X11_snarl_10 {d L : Nat} {fz t : Bool} {Q : pm_R → pm_H → Prop} {x1 : Int32} {x2 : Int32} {r : Int32} {I : Nat → Nat → Int32} {J : Nat → Nat → Int64}
    (h : ((r = (nI 0) → Q (.inl (some (.int (nI 0)))) (pm_hp L fz t I J)) ∧ (¬ r = (nI 0) → pm_Ev d 180 [.ref 85, .int x2] (pm_hp L fz t I J) (K_X11_snarl_18 d fz t Q x1 x2)))) :
    t_X11_snarl_10 d L fz t Q x1 x2 r I J := by
  exact pm_go d [(10, [0, 1, 2]), (18, [0, 1, 2]), (27, [])] 400 ⟨fun q0 => ((h).1 q0), fun q0 => ((h).2 q0)⟩
theorem kb_X11_snarl_10 {d L : Nat} {fz t : Bool} {Q : pm_R → pm_H → Prop} {x1 : Int32} {x2 : Int32} {r : Int32} {fz1 : Bool} {I : Nat → Nat → Int32} {J : Nat → Nat → Int64}
    (h : ((r = (nI 0) → Q (.inl (some (.int (nI 0)))) (pm_hp L fz t I J)) ∧ (¬ r = (nI 0) → pm_Ev d 180 [.ref 85, .int x2] (pm_hp L fz t I J) (K_X11_snarl_18 d fz t Q x1 x2)))) :
    K_X11_snarl_10 d fz t Q x1 x2 (.inl (some (.int r))) (pm_hp L fz1 t I J) := b_X11_snarl_10 h
set_option maxRecDepth 100000 in
theorem b_X11_snarl_18 {d L : Nat} {fz t : Bool} {Q : pm_R → pm_H → Prop} {x1 : Int32} {x2 : Int32} {r : Int32} {I : Nat → Nat → Int32} {J : Nat → Nat → Int64}
    (h : ((r = (nI 0) → Q (.inl (some (.int (nI 0)))) (pm_hp L fz t I J)) ∧ (¬ r = (nI 0) → pm_Ev d 166 [.ref 85, .int x1, .int x2] (pm_hp L fz t I J) (K_X11_snarl_27 d fz t Q)))) :
    t_X11_snarl_18 d L fz t Q x1 x2 r I J := by
  exact pm_go d [(10, [0, 1, 2]), (18, [0, 1, 2]), (27, [])] 400 ⟨fun q0 => ((h).1 q0), fun q0 => ((h).2 q0)⟩
theorem kb_X11_snarl_18 {d L : Nat} {fz t : Bool} {Q : pm_R → pm_H → Prop} {x1 : Int32} {x2 : Int32} {r : Int32} {fz1 : Bool} {I : Nat → Nat → Int32} {J : Nat → Nat → Int64}
    (h : ((r = (nI 0) → Q (.inl (some (.int (nI 0)))) (pm_hp L fz t I J)) ∧ (¬ r = (nI 0) → pm_Ev d 166 [.ref 85, .int x1, .int x2] (pm_hp L fz t I J) (K_X11_snarl_27 d fz t Q)))) :
    K_X11_snarl_18 d fz t Q x1 x2 (.inl (some (.int r))) (pm_hp L fz1 t I J) := b_X11_snarl_18 h
set_option maxRecDepth 100000 in
theorem b_X11_snarl_27 {d L : Nat} {fz t : Bool} {Q : pm_R → pm_H → Prop} {r : Int32} {I : Nat → Nat → Int32} {J : Nat → Nat → Int64}
    (h : Q (.inl (some (.int r))) (pm_hp L fz t I J)) :
    t_X11_snarl_27 d L fz t Q r I J := by
  exact pm_go d [(10, [0, 1, 2]), (18, [0, 1, 2]), (27, [])] 400 h
theorem kb_X11_snarl_27 {d L : Nat} {fz t : Bool} {Q : pm_R → pm_H → Prop} {r : Int32} {fz1 : Bool} {I : Nat → Nat → Int32} {J : Nat → Nat → Int64}
    (h : Q (.inl (some (.int r))) (pm_hp L fz t I J)) :
    K_X11_snarl_27 d fz t Q (.inl (some (.int r))) (pm_hp L fz1 t I J) := b_X11_snarl_27 h
def t_X11_sundays_0 (d L : Nat) (fz t : Bool) (Q : pm_R → pm_H → Prop) (x1 : Int32) (I : Nat → Nat → Int32) (J : Nat → Nat → Int64) : Prop := pm_T (pm_Ev d) 188 Q (0, [(0, .ref 85), (1, .int x1)], [], pm_hp L fz t I J, 0, 0)
def t_X11_sundays_12 (d L : Nat) (fz t : Bool) (Q : pm_R → pm_H → Prop) (x1 : Int32) (r : Int32) (I : Nat → Nat → Int32) (J : Nat → Nat → Int64) : Prop := pm_T (pm_Ev d) 188 Q (12, [(0, .ref 85), (1, .int x1)], [.int r], pm_hp L fz t I J, 0, 0)
def K_X11_sundays_12 (d : Nat) (fz t : Bool) (Q : pm_R → pm_H → Prop) (x1 : Int32) : pm_R → pm_H → Prop := pm_K d 188 Q 12 [(0, .ref 85), (1, .int x1)] [] 118 0 fz 0 0
def t_X11_sundays_34 (d L : Nat) (fz t : Bool) (Q : pm_R → pm_H → Prop) (r : Int32) (I : Nat → Nat → Int32) (J : Nat → Nat → Int64) : Prop := pm_T (pm_Ev d) 188 Q (34, [], [.int r], pm_hp L fz t I J, 0, 0)
def K_X11_sundays_34 (d : Nat) (fz t : Bool) (Q : pm_R → pm_H → Prop) : pm_R → pm_H → Prop := pm_K d 188 Q 34 [] [] 118 0 fz 0 0
def t_X11_sundays_39 (d L : Nat) (fz t : Bool) (Q : pm_R → pm_H → Prop) (x1 : Int32) (I : Nat → Nat → Int32) (J : Nat → Nat → Int64) : Prop := pm_T (pm_Ev d) 188 Q (39, [(0, .ref 85), (1, .int x1)], [], pm_hp L fz t I J, 0, 0)
def K_X11_sundays_39 (d : Nat) (fz t : Bool) (Q : pm_R → pm_H → Prop) (x1 : Int32) : pm_R → pm_H → Prop := pm_K d 188 Q 39 [(0, .ref 85), (1, .int x1)] [] 118 0 fz 0 0
def t_X11_sundays_41 (d L : Nat) (fz t : Bool) (Q : pm_R → pm_H → Prop) (x1 : Int32) (x2 : Int32) (I : Nat → Nat → Int32) (J : Nat → Nat → Int64) : Prop := pm_T (pm_Ev d) 188 Q (41, [(0, .ref 85), (1, .int x1), (2, .int x2)], [], pm_hp L fz t I J, 0, 0)
def t_X11_sundays_51 (d L : Nat) (fz t : Bool) (Q : pm_R → pm_H → Prop) (x1 : Int32) (x2 : Int32) (I : Nat → Nat → Int32) (J : Nat → Nat → Int64) : Prop := pm_T (pm_Ev d) 188 Q (51, [(0, .ref 85), (1, .int x1), (2, .int x2)], [], pm_hp L fz t I J, 0, 0)
def K_X11_sundays_51 (d : Nat) (fz t : Bool) (Q : pm_R → pm_H → Prop) (x1 : Int32) (x2 : Int32) : pm_R → pm_H → Prop := pm_K d 188 Q 51 [(0, .ref 85), (1, .int x1), (2, .int x2)] [] 118 0 fz 0 0
set_option maxRecDepth 100000 in
theorem b_X11_sundays_0 {d L : Nat} {fz t : Bool} {Q : pm_R → pm_H → Prop} {x1 : Int32} {I : Nat → Nat → Int32} {J : Nat → Nat → Int64}
    (h : pm_Ev d 119 [.int x1, .int (nI 1), .int (nI 20)] (pm_hp L fz t (pm_u I 85 0 (nI 0)) J) (K_X11_sundays_12 d fz t Q x1)) :
    t_X11_sundays_0 d L fz t Q x1 I J := by
  exact pm_go d [(12, [0, 1]), (34, []), (39, [0, 1]), (41, [0, 1, 2]), (51, [0, 1, 2])] 400 h
theorem e_X11_sundays {d L : Nat} {fz t : Bool} {Q : pm_R → pm_H → Prop} {x1 : Int32} {I : Nat → Nat → Int32} {J : Nat → Nat → Int64}
    (h : pm_Ev d 119 [.int x1, .int (nI 1), .int (nI 20)] (pm_hp L fz t (pm_u I 85 0 (nI 0)) J) (K_X11_sundays_12 d fz t Q x1)) :
    pm_Ev (d + 1) 188 [.ref 85, .int x1] (pm_hp L fz t I J) Q := pm_Ev_in rfl (b_X11_sundays_0 h)
set_option maxRecDepth 100000 in
theorem b_X11_sundays_12 {d L : Nat} {fz t : Bool} {Q : pm_R → pm_H → Prop} {x1 : Int32} {r : Int32} {I : Nat → Nat → Int32} {J : Nat → Nat → Int64}
    (h : ((r = (nI 0) → pm_Ev d 158 [.ref 85, .int (nI 1)] (pm_hp L fz t I J) (K_X11_sundays_34 d fz t Q)) ∧ (¬ r = (nI 0) → ((((I 103 0) + x1) ≤ (nI 999) → pm_Ev d 157 [.ref 85] (pm_hp L fz t I J) (K_X11_sundays_39 d fz t Q x1)) ∧ (¬ ((I 103 0) + x1) ≤ (nI 999) → pm_Ev d 158 [.ref 85, .int (nI 1)] (pm_hp L fz t I J) (K_X11_sundays_34 d fz t Q)))))) :
    t_X11_sundays_12 d L fz t Q x1 r I J := by
  exact pm_go d [(12, [0, 1]), (34, []), (39, [0, 1]), (41, [0, 1, 2]), (51, [0, 1, 2])] 400 ⟨fun q0 => ((h).1 q0), fun q0 => ⟨(vp_in_nI (by decide : 0 < 68) (by decide) : vp_in (nI 0) 68), ⟨fun q1 => ((((h).2 q0)).1 q1), fun q1 => ((((h).2 q0)).2 q1)⟩⟩⟩
theorem kb_X11_sundays_12 {d L : Nat} {fz t : Bool} {Q : pm_R → pm_H → Prop} {x1 : Int32} {r : Int32} {fz1 : Bool} {I : Nat → Nat → Int32} {J : Nat → Nat → Int64}
    (h : ((r = (nI 0) → pm_Ev d 158 [.ref 85, .int (nI 1)] (pm_hp L fz t I J) (K_X11_sundays_34 d fz t Q)) ∧ (¬ r = (nI 0) → ((((I 103 0) + x1) ≤ (nI 999) → pm_Ev d 157 [.ref 85] (pm_hp L fz t I J) (K_X11_sundays_39 d fz t Q x1)) ∧ (¬ ((I 103 0) + x1) ≤ (nI 999) → pm_Ev d 158 [.ref 85, .int (nI 1)] (pm_hp L fz t I J) (K_X11_sundays_34 d fz t Q)))))) :
    K_X11_sundays_12 d fz t Q x1 (.inl (some (.int r))) (pm_hp L fz1 t I J) := b_X11_sundays_12 h
set_option maxRecDepth 100000 in
theorem b_X11_sundays_34 {d L : Nat} {fz t : Bool} {Q : pm_R → pm_H → Prop} {r : Int32} {I : Nat → Nat → Int32} {J : Nat → Nat → Int64}
    (h : Q (.inl (some (.int r))) (pm_hp L fz t I J)) :
    t_X11_sundays_34 d L fz t Q r I J := by
  exact pm_go d [(12, [0, 1]), (34, []), (39, [0, 1]), (41, [0, 1, 2]), (51, [0, 1, 2])] 400 h
theorem kb_X11_sundays_34 {d L : Nat} {fz t : Bool} {Q : pm_R → pm_H → Prop} {r : Int32} {fz1 : Bool} {I : Nat → Nat → Int32} {J : Nat → Nat → Int64}
    (h : Q (.inl (some (.int r))) (pm_hp L fz t I J)) :
    K_X11_sundays_34 d fz t Q (.inl (some (.int r))) (pm_hp L fz1 t I J) := b_X11_sundays_34 h
set_option maxRecDepth 100000 in
theorem b_X11_sundays_39 {d L : Nat} {fz t : Bool} {Q : pm_R → pm_H → Prop} {x1 : Int32} {I : Nat → Nat → Int32} {J : Nat → Nat → Int64}
    (h : t_X11_sundays_41 d L fz t Q x1 (nI 0) I J) :
    t_X11_sundays_39 d L fz t Q x1 I J := by
  exact pm_go d [(12, [0, 1]), (34, []), (39, [0, 1]), (41, [0, 1, 2]), (51, [0, 1, 2])] 400 h
theorem kb_X11_sundays_39 {d L : Nat} {fz t : Bool} {Q : pm_R → pm_H → Prop} {x1 : Int32} {fz1 : Bool} {I : Nat → Nat → Int32} {J : Nat → Nat → Int64}
    (h : t_X11_sundays_41 d L fz t Q x1 (nI 0) I J) :
    K_X11_sundays_39 d fz t Q x1 (.inl none) (pm_hp L fz1 t I J) := b_X11_sundays_39 h
set_option maxRecDepth 100000 in
theorem b_X11_sundays_41 {d L : Nat} {fz t : Bool} {Q : pm_R → pm_H → Prop} {x1 : Int32} {x2 : Int32} {I : Nat → Nat → Int32} {J : Nat → Nat → Int64}
    (h : ((x1 ≤ x2 → Q (.inl (some (.int (I 103 0)))) (pm_hp L fz t I J)) ∧ (¬ x1 ≤ x2 → pm_Ev d 174 [.ref 85, .int (nI 0)] (pm_hp L fz t I J) (K_X11_sundays_51 d fz t Q x1 x2)))) :
    t_X11_sundays_41 d L fz t Q x1 x2 I J := by
  exact pm_go d [(12, [0, 1]), (34, []), (39, [0, 1]), (41, [0, 1, 2]), (51, [0, 1, 2])] 400 ⟨fun q0 => ⟨(vp_in_nI (by decide : 0 < 68) (by decide) : vp_in (nI 0) 68), ((h).1 q0)⟩, fun q0 => ((h).2 q0)⟩
set_option maxRecDepth 100000 in
theorem b_X11_sundays_51 {d L : Nat} {fz t : Bool} {Q : pm_R → pm_H → Prop} {x1 : Int32} {x2 : Int32} {I : Nat → Nat → Int32} {J : Nat → Nat → Int64}
    (h : t_X11_sundays_41 d L fz t Q x1 (x2 + (nI 1)) I J) :
    t_X11_sundays_51 d L fz t Q x1 x2 I J := by
  exact pm_go d [(12, [0, 1]), (34, []), (39, [0, 1]), (41, [0, 1, 2]), (51, [0, 1, 2])] 400 h
theorem kb_X11_sundays_51 {d L : Nat} {fz t : Bool} {Q : pm_R → pm_H → Prop} {x1 : Int32} {x2 : Int32} {fz1 : Bool} {I : Nat → Nat → Int32} {J : Nat → Nat → Int64}
    (h : t_X11_sundays_41 d L fz t Q x1 (x2 + (nI 1)) I J) :
    K_X11_sundays_51 d fz t Q x1 x2 (.inl none) (pm_hp L fz1 t I J) := b_X11_sundays_51 h
def t_X11_punch_0 (d L : Nat) (fz t : Bool) (Q : pm_R → pm_H → Prop) (x1 : Int32) (x2 : Int32) (I : Nat → Nat → Int32) (J : Nat → Nat → Int64) : Prop := pm_T (pm_Ev d) 189 Q (0, [(0, .ref 85), (1, .int x1), (2, .int x2)], [], pm_hp L fz t I J, 0, 0)
def t_X11_punch_10 (d L : Nat) (fz t : Bool) (Q : pm_R → pm_H → Prop) (x1 : Int32) (x2 : Int32) (r : Int32) (I : Nat → Nat → Int32) (J : Nat → Nat → Int64) : Prop := pm_T (pm_Ev d) 189 Q (10, [(0, .ref 85), (1, .int x1), (2, .int x2)], [.int r], pm_hp L fz t I J, 0, 0)
def K_X11_punch_10 (d : Nat) (fz t : Bool) (Q : pm_R → pm_H → Prop) (x1 : Int32) (x2 : Int32) : pm_R → pm_H → Prop := pm_K d 189 Q 10 [(0, .ref 85), (1, .int x1), (2, .int x2)] [] 118 0 fz 0 0
def t_X11_punch_21 (d L : Nat) (fz t : Bool) (Q : pm_R → pm_H → Prop) (x1 : Int32) (x2 : Int32) (s0 : Int32) (s1 : Int32) (r : Int32) (I : Nat → Nat → Int32) (J : Nat → Nat → Int64) : Prop := pm_T (pm_Ev d) 189 Q (21, [(0, .ref 85), (1, .int x1), (2, .int x2)], [.int r, .int s1, .int s0], pm_hp L fz t I J, 0, 0)
def K_X11_punch_21 (d : Nat) (fz t : Bool) (Q : pm_R → pm_H → Prop) (x1 : Int32) (x2 : Int32) (s0 : Int32) (s1 : Int32) : pm_R → pm_H → Prop := pm_K d 189 Q 21 [(0, .ref 85), (1, .int x1), (2, .int x2)] [.int s1, .int s0] 118 0 fz 0 0
def t_X11_punch_24 (d L : Nat) (fz t : Bool) (Q : pm_R → pm_H → Prop) (x1 : Int32) (x2 : Int32) (r : Int32) (I : Nat → Nat → Int32) (J : Nat → Nat → Int64) : Prop := pm_T (pm_Ev d) 189 Q (24, [(0, .ref 85), (1, .int x1), (2, .int x2)], [.int r], pm_hp L fz t I J, 0, 0)
def K_X11_punch_24 (d : Nat) (fz t : Bool) (Q : pm_R → pm_H → Prop) (x1 : Int32) (x2 : Int32) : pm_R → pm_H → Prop := pm_K d 189 Q 24 [(0, .ref 85), (1, .int x1), (2, .int x2)] [] 118 0 fz 0 0
def t_X11_punch_37 (d L : Nat) (fz t : Bool) (Q : pm_R → pm_H → Prop) (x1 : Int32) (x2 : Int32) (I : Nat → Nat → Int32) (J : Nat → Nat → Int64) : Prop := pm_T (pm_Ev d) 189 Q (37, [(0, .ref 85), (1, .int x1), (2, .int x2)], [], pm_hp L fz t I J, 0, 0)
def K_X11_punch_37 (d : Nat) (fz t : Bool) (Q : pm_R → pm_H → Prop) (x1 : Int32) (x2 : Int32) : pm_R → pm_H → Prop := pm_K d 189 Q 37 [(0, .ref 85), (1, .int x1), (2, .int x2)] [] 118 0 fz 0 0
def t_X11_punch_32 (d L : Nat) (fz t : Bool) (Q : pm_R → pm_H → Prop) (r : Int32) (I : Nat → Nat → Int32) (J : Nat → Nat → Int64) : Prop := pm_T (pm_Ev d) 189 Q (32, [], [.int r], pm_hp L fz t I J, 0, 0)
def K_X11_punch_32 (d : Nat) (fz t : Bool) (Q : pm_R → pm_H → Prop) : pm_R → pm_H → Prop := pm_K d 189 Q 32 [] [] 118 0 fz 0 0
set_option maxRecDepth 100000 in
theorem b_X11_punch_0 {d L : Nat} {fz t : Bool} {Q : pm_R → pm_H → Prop} {x1 : Int32} {x2 : Int32} {I : Nat → Nat → Int32} {J : Nat → Nat → Int64}
    (h : pm_Ev d 180 [.ref 85, .int x1] (pm_hp L fz t (pm_u I 85 0 (nI 0)) J) (K_X11_punch_10 d fz t Q x1 x2)) :
    t_X11_punch_0 d L fz t Q x1 x2 I J := by
  exact pm_go d [(10, [0, 1, 2]), (21, [0, 1, 2]), (24, [0, 1, 2]), (32, []), (37, [0, 1, 2])] 400 h
theorem e_X11_punch {d L : Nat} {fz t : Bool} {Q : pm_R → pm_H → Prop} {x1 : Int32} {x2 : Int32} {I : Nat → Nat → Int32} {J : Nat → Nat → Int64}
    (h : pm_Ev d 180 [.ref 85, .int x1] (pm_hp L fz t (pm_u I 85 0 (nI 0)) J) (K_X11_punch_10 d fz t Q x1 x2)) :
    pm_Ev (d + 1) 189 [.ref 85, .int x1, .int x2] (pm_hp L fz t I J) Q := pm_Ev_in rfl (b_X11_punch_0 h)
set_option maxRecDepth 100000 in
theorem b_X11_punch_10 {d L : Nat} {fz t : Bool} {Q : pm_R → pm_H → Prop} {x1 : Int32} {x2 : Int32} {r : Int32} {I : Nat → Nat → Int32} {J : Nat → Nat → Int64}
    (h : ((¬ r = (nI 0) → pm_Ev d 161 [.ref 85] (pm_hp L fz t I J) (K_X11_punch_21 d fz t Q x1 x2 x2 (nI 0))) ∧ (r = (nI 0) → Q (.inl (some (.int (nI 0)))) (pm_hp L fz t I J)))) :
    t_X11_punch_10 d L fz t Q x1 x2 r I J := by
  exact pm_go d [(10, [0, 1, 2]), (21, [0, 1, 2]), (24, [0, 1, 2]), (32, []), (37, [0, 1, 2])] 400 ⟨fun q0 => ((h).1 q0), fun q0 => ((h).2 q0)⟩
theorem kb_X11_punch_10 {d L : Nat} {fz t : Bool} {Q : pm_R → pm_H → Prop} {x1 : Int32} {x2 : Int32} {r : Int32} {fz1 : Bool} {I : Nat → Nat → Int32} {J : Nat → Nat → Int64}
    (h : ((¬ r = (nI 0) → pm_Ev d 161 [.ref 85] (pm_hp L fz t I J) (K_X11_punch_21 d fz t Q x1 x2 x2 (nI 0))) ∧ (r = (nI 0) → Q (.inl (some (.int (nI 0)))) (pm_hp L fz t I J)))) :
    K_X11_punch_10 d fz t Q x1 x2 (.inl (some (.int r))) (pm_hp L fz1 t I J) := b_X11_punch_10 h
set_option maxRecDepth 100000 in
theorem b_X11_punch_21 {d L : Nat} {fz t : Bool} {Q : pm_R → pm_H → Prop} {x1 : Int32} {x2 : Int32} {s0 : Int32} {s1 : Int32} {r : Int32} {I : Nat → Nat → Int32} {J : Nat → Nat → Int64}
    (h : pm_Ev d 119 [.int s0, .int s1, .int r] (pm_hp L fz t I J) (K_X11_punch_24 d fz t Q x1 x2)) :
    t_X11_punch_21 d L fz t Q x1 x2 s0 s1 r I J := by
  exact pm_go d [(10, [0, 1, 2]), (21, [0, 1, 2]), (24, [0, 1, 2]), (32, []), (37, [0, 1, 2])] 400 h
theorem kb_X11_punch_21 {d L : Nat} {fz t : Bool} {Q : pm_R → pm_H → Prop} {x1 : Int32} {x2 : Int32} {s0 : Int32} {s1 : Int32} {r : Int32} {fz1 : Bool} {I : Nat → Nat → Int32} {J : Nat → Nat → Int64}
    (h : pm_Ev d 119 [.int s0, .int s1, .int r] (pm_hp L fz t I J) (K_X11_punch_24 d fz t Q x1 x2)) :
    K_X11_punch_21 d fz t Q x1 x2 s0 s1 (.inl (some (.int r))) (pm_hp L fz1 t I J) := b_X11_punch_21 h
set_option maxRecDepth 100000 in
theorem b_X11_punch_24 {d L : Nat} {fz t : Bool} {Q : pm_R → pm_H → Prop} {x1 : Int32} {x2 : Int32} {r : Int32} {I : Nat → Nat → Int32} {J : Nat → Nat → Int64}
    (h : ((¬ r = (nI 0) → pm_Ev d 157 [.ref 85] (pm_hp L fz t I J) (K_X11_punch_37 d fz t Q x1 x2)) ∧ (r = (nI 0) → pm_Ev d 158 [.ref 85, .int (nI 1)] (pm_hp L fz t I J) (K_X11_punch_32 d fz t Q)))) :
    t_X11_punch_24 d L fz t Q x1 x2 r I J := by
  exact pm_go d [(10, [0, 1, 2]), (21, [0, 1, 2]), (24, [0, 1, 2]), (32, []), (37, [0, 1, 2])] 400 ⟨fun q0 => ((h).1 q0), fun q0 => ((h).2 q0)⟩
theorem kb_X11_punch_24 {d L : Nat} {fz t : Bool} {Q : pm_R → pm_H → Prop} {x1 : Int32} {x2 : Int32} {r : Int32} {fz1 : Bool} {I : Nat → Nat → Int32} {J : Nat → Nat → Int64}
    (h : ((¬ r = (nI 0) → pm_Ev d 157 [.ref 85] (pm_hp L fz t I J) (K_X11_punch_37 d fz t Q x1 x2)) ∧ (r = (nI 0) → pm_Ev d 158 [.ref 85, .int (nI 1)] (pm_hp L fz t I J) (K_X11_punch_32 d fz t Q)))) :
    K_X11_punch_24 d fz t Q x1 x2 (.inl (some (.int r))) (pm_hp L fz1 t I J) := b_X11_punch_24 h
set_option maxRecDepth 100000 in
theorem b_X11_punch_37 {d L : Nat} {fz t : Bool} {Q : pm_R → pm_H → Prop} {x1 : Int32} {x2 : Int32} {I : Nat → Nat → Int32} {J : Nat → Nat → Int64}
    (h : (vp_in ((nI 2) + x1) 68 ∧ (vp_in ((nI 2) + x1) 68 ∧ Q (.inl (some (.int (I 103 (((nI 2) + x1)).toNatClampNeg)))) (pm_hp L fz t (pm_u I 103 (((nI 2) + x1)).toNatClampNeg x2) J)))) :
    t_X11_punch_37 d L fz t Q x1 x2 I J := by
  exact pm_go d [(10, [0, 1, 2]), (21, [0, 1, 2]), (24, [0, 1, 2]), (32, []), (37, [0, 1, 2])] 400 ⟨(h).1, ⟨((h).2).1, ((h).2).2⟩⟩
theorem kb_X11_punch_37 {d L : Nat} {fz t : Bool} {Q : pm_R → pm_H → Prop} {x1 : Int32} {x2 : Int32} {fz1 : Bool} {I : Nat → Nat → Int32} {J : Nat → Nat → Int64}
    (h : (vp_in ((nI 2) + x1) 68 ∧ (vp_in ((nI 2) + x1) 68 ∧ Q (.inl (some (.int (I 103 (((nI 2) + x1)).toNatClampNeg)))) (pm_hp L fz t (pm_u I 103 (((nI 2) + x1)).toNatClampNeg x2) J)))) :
    K_X11_punch_37 d fz t Q x1 x2 (.inl none) (pm_hp L fz1 t I J) := b_X11_punch_37 h
set_option maxRecDepth 100000 in
theorem b_X11_punch_32 {d L : Nat} {fz t : Bool} {Q : pm_R → pm_H → Prop} {r : Int32} {I : Nat → Nat → Int32} {J : Nat → Nat → Int64}
    (h : Q (.inl (some (.int r))) (pm_hp L fz t I J)) :
    t_X11_punch_32 d L fz t Q r I J := by
  exact pm_go d [(10, [0, 1, 2]), (21, [0, 1, 2]), (24, [0, 1, 2]), (32, []), (37, [0, 1, 2])] 400 h
theorem kb_X11_punch_32 {d L : Nat} {fz t : Bool} {Q : pm_R → pm_H → Prop} {r : Int32} {fz1 : Bool} {I : Nat → Nat → Int32} {J : Nat → Nat → Int64}
    (h : Q (.inl (some (.int r))) (pm_hp L fz t I J)) :
    K_X11_punch_32 d fz t Q (.inl (some (.int r))) (pm_hp L fz1 t I J) := b_X11_punch_32 h
def t_X11_turned_0 (d L : Nat) (fz t : Bool) (Q : pm_R → pm_H → Prop) (x1 : Int32) (I : Nat → Nat → Int32) (J : Nat → Nat → Int64) : Prop := pm_T (pm_Ev d) 190 Q (0, [(0, .ref 85), (1, .int x1)], [], pm_hp L fz t I J, 0, 0)
def t_X11_turned_4 (d L : Nat) (fz t : Bool) (Q : pm_R → pm_H → Prop) (x1 : Int32) (x2 : Int32) (x3 : Int32) (I : Nat → Nat → Int32) (J : Nat → Nat → Int64) : Prop := pm_T (pm_Ev d) 190 Q (4, [(0, .ref 85), (1, .int x1), (2, .int x2), (3, .int x3)], [], pm_hp L fz t I J, 0, 0)
set_option maxRecDepth 100000 in
theorem b_X11_turned_0 {d L : Nat} {fz t : Bool} {Q : pm_R → pm_H → Prop} {x1 : Int32} {I : Nat → Nat → Int32} {J : Nat → Nat → Int64}
    (h : t_X11_turned_4 d L fz t Q x1 (nI 0) (nI 0) I J) :
    t_X11_turned_0 d L fz t Q x1 I J := by
  exact pm_go d [(4, [0, 1, 2, 3])] 400 h
theorem e_X11_turned {d L : Nat} {fz t : Bool} {Q : pm_R → pm_H → Prop} {x1 : Int32} {I : Nat → Nat → Int32} {J : Nat → Nat → Int64}
    (h : t_X11_turned_4 d L fz t Q x1 (nI 0) (nI 0) I J) :
    pm_Ev (d + 1) 190 [.ref 85, .int x1] (pm_hp L fz t I J) Q := pm_Ev_in rfl (b_X11_turned_0 h)
set_option maxRecDepth 100000 in
theorem b_X11_turned_4 {d L : Nat} {fz t : Bool} {Q : pm_R → pm_H → Prop} {x1 : Int32} {x2 : Int32} {x3 : Int32} {I : Nat → Nat → Int32} {J : Nat → Nat → Int64}
    (h : (((I 85 1) ≤ x3 → Q (.inl (some (.int x2))) (pm_hp L fz t I J)) ∧ (¬ (I 85 1) ≤ x3 → t_X11_turned_4 d L fz t Q x1 (x2 ||| (((x1 >>> (x3 &&& 31)) &&& (nI 1)) <<< ((((I 85 1) - (nI 1)) - x3) &&& 31))) (x3 + (nI 1)) I J))) :
    t_X11_turned_4 d L fz t Q x1 x2 x3 I J := by
  exact pm_go d [(4, [0, 1, 2, 3])] 400 ⟨fun q0 => ((h).1 q0), fun q0 => ((h).2 q0)⟩
def t_X11_turn_0 (d L : Nat) (fz t : Bool) (Q : pm_R → pm_H → Prop) (x1 : Int32) (I : Nat → Nat → Int32) (J : Nat → Nat → Int64) : Prop := pm_T (pm_Ev d) 191 Q (0, [(0, .ref 85), (1, .int x1)], [], pm_hp L fz t I J, 0, 0)
def t_X11_turn_10 (d L : Nat) (fz t : Bool) (Q : pm_R → pm_H → Prop) (x1 : Int32) (r : Int32) (I : Nat → Nat → Int32) (J : Nat → Nat → Int64) : Prop := pm_T (pm_Ev d) 191 Q (10, [(0, .ref 85), (1, .int x1)], [.int r], pm_hp L fz t I J, 0, 0)
def K_X11_turn_10 (d : Nat) (fz t : Bool) (Q : pm_R → pm_H → Prop) (x1 : Int32) : pm_R → pm_H → Prop := pm_K d 191 Q 10 [(0, .ref 85), (1, .int x1)] [] 118 0 fz 0 0
def t_X11_turn_19 (d L : Nat) (fz t : Bool) (Q : pm_R → pm_H → Prop) (x1 : Int32) (I : Nat → Nat → Int32) (J : Nat → Nat → Int64) : Prop := pm_T (pm_Ev d) 191 Q (19, [(0, .ref 85), (1, .int x1)], [], pm_hp L fz t I J, 0, 0)
def K_X11_turn_19 (d : Nat) (fz t : Bool) (Q : pm_R → pm_H → Prop) (x1 : Int32) : pm_R → pm_H → Prop := pm_K d 191 Q 19 [(0, .ref 85), (1, .int x1)] [] 118 0 fz 0 0
def t_X11_turn_38 (d L : Nat) (fz t : Bool) (Q : pm_R → pm_H → Prop) (x1 : Int32) (s1 : Int32) (r : Int32) (I : Nat → Nat → Int32) (J : Nat → Nat → Int64) : Prop := pm_T (pm_Ev d) 191 Q (38, [(0, .ref 85), (1, .int x1)], [.int r, .int s1, .ref 103], pm_hp L fz t I J, 0, 0)
def K_X11_turn_38 (d : Nat) (fz t : Bool) (Q : pm_R → pm_H → Prop) (x1 : Int32) (s1 : Int32) : pm_R → pm_H → Prop := pm_K d 191 Q 38 [(0, .ref 85), (1, .int x1)] [.int s1, .ref 103] 118 0 fz 0 0
set_option maxRecDepth 100000 in
theorem b_X11_turn_0 {d L : Nat} {fz t : Bool} {Q : pm_R → pm_H → Prop} {x1 : Int32} {I : Nat → Nat → Int32} {J : Nat → Nat → Int64}
    (h : pm_Ev d 180 [.ref 85, .int x1] (pm_hp L fz t (pm_u I 85 0 (nI 0)) J) (K_X11_turn_10 d fz t Q x1)) :
    t_X11_turn_0 d L fz t Q x1 I J := by
  exact pm_go d [(10, [0, 1]), (19, [0, 1]), (38, [0, 1])] 400 h
theorem e_X11_turn {d L : Nat} {fz t : Bool} {Q : pm_R → pm_H → Prop} {x1 : Int32} {I : Nat → Nat → Int32} {J : Nat → Nat → Int64}
    (h : pm_Ev d 180 [.ref 85, .int x1] (pm_hp L fz t (pm_u I 85 0 (nI 0)) J) (K_X11_turn_10 d fz t Q x1)) :
    pm_Ev (d + 1) 191 [.ref 85, .int x1] (pm_hp L fz t I J) Q := pm_Ev_in rfl (b_X11_turn_0 h)
set_option maxRecDepth 100000 in
theorem b_X11_turn_10 {d L : Nat} {fz t : Bool} {Q : pm_R → pm_H → Prop} {x1 : Int32} {r : Int32} {I : Nat → Nat → Int32} {J : Nat → Nat → Int64}
    (h : ((¬ r = (nI 0) → pm_Ev d 157 [.ref 85] (pm_hp L fz t I J) (K_X11_turn_19 d fz t Q x1)) ∧ (r = (nI 0) → Q (.inl (some (.int (nI 0)))) (pm_hp L fz t I J)))) :
    t_X11_turn_10 d L fz t Q x1 r I J := by
  exact pm_go d [(10, [0, 1]), (19, [0, 1]), (38, [0, 1])] 400 ⟨fun q0 => ((h).1 q0), fun q0 => ((h).2 q0)⟩
theorem kb_X11_turn_10 {d L : Nat} {fz t : Bool} {Q : pm_R → pm_H → Prop} {x1 : Int32} {r : Int32} {fz1 : Bool} {I : Nat → Nat → Int32} {J : Nat → Nat → Int64}
    (h : ((¬ r = (nI 0) → pm_Ev d 157 [.ref 85] (pm_hp L fz t I J) (K_X11_turn_19 d fz t Q x1)) ∧ (r = (nI 0) → Q (.inl (some (.int (nI 0)))) (pm_hp L fz t I J)))) :
    K_X11_turn_10 d fz t Q x1 (.inl (some (.int r))) (pm_hp L fz1 t I J) := b_X11_turn_10 h
set_option maxRecDepth 100000 in
theorem b_X11_turn_19 {d L : Nat} {fz t : Bool} {Q : pm_R → pm_H → Prop} {x1 : Int32} {I : Nat → Nat → Int32} {J : Nat → Nat → Int64}
    (h : (vp_in ((nI 2) + x1) 68 ∧ pm_Ev d 190 [.ref 85, .int (I 103 (((nI 2) + x1)).toNatClampNeg)] (pm_hp L fz t I J) (K_X11_turn_38 d fz t Q x1 ((nI 2) + x1)))) :
    t_X11_turn_19 d L fz t Q x1 I J := by
  exact pm_go d [(10, [0, 1]), (19, [0, 1]), (38, [0, 1])] 400 ⟨(h).1, (h).2⟩
theorem kb_X11_turn_19 {d L : Nat} {fz t : Bool} {Q : pm_R → pm_H → Prop} {x1 : Int32} {fz1 : Bool} {I : Nat → Nat → Int32} {J : Nat → Nat → Int64}
    (h : (vp_in ((nI 2) + x1) 68 ∧ pm_Ev d 190 [.ref 85, .int (I 103 (((nI 2) + x1)).toNatClampNeg)] (pm_hp L fz t I J) (K_X11_turn_38 d fz t Q x1 ((nI 2) + x1)))) :
    K_X11_turn_19 d fz t Q x1 (.inl none) (pm_hp L fz1 t I J) := b_X11_turn_19 h
set_option maxRecDepth 100000 in
theorem b_X11_turn_38 {d L : Nat} {fz t : Bool} {Q : pm_R → pm_H → Prop} {x1 : Int32} {s1 : Int32} {r : Int32} {I : Nat → Nat → Int32} {J : Nat → Nat → Int64}
    (h : (vp_in s1 68 ∧ (vp_in ((nI 2) + x1) 68 ∧ Q (.inl (some (.int ((pm_u I 103 (s1).toNatClampNeg r) 103 (((nI 2) + x1)).toNatClampNeg)))) (pm_hp L fz t (pm_u I 103 (s1).toNatClampNeg r) J)))) :
    t_X11_turn_38 d L fz t Q x1 s1 r I J := by
  exact pm_go d [(10, [0, 1]), (19, [0, 1]), (38, [0, 1])] 400 ⟨(h).1, ⟨((h).2).1, ((h).2).2⟩⟩
theorem kb_X11_turn_38 {d L : Nat} {fz t : Bool} {Q : pm_R → pm_H → Prop} {x1 : Int32} {s1 : Int32} {r : Int32} {fz1 : Bool} {I : Nat → Nat → Int32} {J : Nat → Nat → Int64}
    (h : (vp_in s1 68 ∧ (vp_in ((nI 2) + x1) 68 ∧ Q (.inl (some (.int ((pm_u I 103 (s1).toNatClampNeg r) 103 (((nI 2) + x1)).toNatClampNeg)))) (pm_hp L fz t (pm_u I 103 (s1).toNatClampNeg r) J)))) :
    K_X11_turn_38 d fz t Q x1 s1 (.inl (some (.int r))) (pm_hp L fz1 t I J) := b_X11_turn_38 h
def t_X11_cut_0 (d L : Nat) (fz t : Bool) (Q : pm_R → pm_H → Prop) (x1 : Int32) (I : Nat → Nat → Int32) (J : Nat → Nat → Int64) : Prop := pm_T (pm_Ev d) 192 Q (0, [(0, .ref 85), (1, .int x1)], [], pm_hp L fz t I J, 0, 0)
def t_X11_cut_10 (d L : Nat) (fz t : Bool) (Q : pm_R → pm_H → Prop) (x1 : Int32) (r : Int32) (I : Nat → Nat → Int32) (J : Nat → Nat → Int64) : Prop := pm_T (pm_Ev d) 192 Q (10, [(0, .ref 85), (1, .int x1)], [.int r], pm_hp L fz t I J, 0, 0)
def K_X11_cut_10 (d : Nat) (fz t : Bool) (Q : pm_R → pm_H → Prop) (x1 : Int32) : pm_R → pm_H → Prop := pm_K d 192 Q 10 [(0, .ref 85), (1, .int x1)] [] 118 0 fz 0 0
def t_X11_cut_39 (d L : Nat) (fz t : Bool) (Q : pm_R → pm_H → Prop) (x1 : Int32) (x2 : Int32) (I : Nat → Nat → Int32) (J : Nat → Nat → Int64) : Prop := pm_T (pm_Ev d) 192 Q (39, [(0, .ref 85), (1, .int x1), (2, .int x2)], [], pm_hp L fz t I J, 0, 0)
def K_X11_cut_39 (d : Nat) (fz t : Bool) (Q : pm_R → pm_H → Prop) (x1 : Int32) (x2 : Int32) : pm_R → pm_H → Prop := pm_K d 192 Q 39 [(0, .ref 85), (1, .int x1), (2, .int x2)] [] 118 0 fz 0 0
def t_X11_cut_34 (d L : Nat) (fz t : Bool) (Q : pm_R → pm_H → Prop) (r : Int32) (I : Nat → Nat → Int32) (J : Nat → Nat → Int64) : Prop := pm_T (pm_Ev d) 192 Q (34, [], [.int r], pm_hp L fz t I J, 0, 0)
def K_X11_cut_34 (d : Nat) (fz t : Bool) (Q : pm_R → pm_H → Prop) : pm_R → pm_H → Prop := pm_K d 192 Q 34 [] [] 118 0 fz 0 0
set_option maxRecDepth 100000 in
theorem b_X11_cut_0 {d L : Nat} {fz t : Bool} {Q : pm_R → pm_H → Prop} {x1 : Int32} {I : Nat → Nat → Int32} {J : Nat → Nat → Int64}
    (h : pm_Ev d 180 [.ref 85, .int x1] (pm_hp L fz t (pm_u I 85 0 (nI 0)) J) (K_X11_cut_10 d fz t Q x1)) :
    t_X11_cut_0 d L fz t Q x1 I J := by
  exact pm_go d [(10, [0, 1]), (34, []), (39, [0, 1, 2])] 400 h
theorem e_X11_cut {d L : Nat} {fz t : Bool} {Q : pm_R → pm_H → Prop} {x1 : Int32} {I : Nat → Nat → Int32} {J : Nat → Nat → Int64}
    (h : pm_Ev d 180 [.ref 85, .int x1] (pm_hp L fz t (pm_u I 85 0 (nI 0)) J) (K_X11_cut_10 d fz t Q x1)) :
    pm_Ev (d + 1) 192 [.ref 85, .int x1] (pm_hp L fz t I J) Q := pm_Ev_in rfl (b_X11_cut_0 h)
set_option maxRecDepth 100000 in
theorem b_X11_cut_10 {d L : Nat} {fz t : Bool} {Q : pm_R → pm_H → Prop} {x1 : Int32} {r : Int32} {I : Nat → Nat → Int32} {J : Nat → Nat → Int64}
    (h : ((¬ r = (nI 0) → (vp_in ((nI 12) + x1) 68 ∧ ((¬ (I 103 (((nI 12) + x1)).toNatClampNeg) = (nI 0) → pm_Ev d 157 [.ref 85] (pm_hp L fz t I J) (K_X11_cut_39 d fz t Q x1 (I 103 (((nI 12) + x1)).toNatClampNeg))) ∧ ((I 103 (((nI 12) + x1)).toNatClampNeg) = (nI 0) → pm_Ev d 158 [.ref 85, .int (nI 1)] (pm_hp L fz t I J) (K_X11_cut_34 d fz t Q))))) ∧ (r = (nI 0) → Q (.inl (some (.int (nI 0)))) (pm_hp L fz t I J)))) :
    t_X11_cut_10 d L fz t Q x1 r I J := by
  exact pm_go d [(10, [0, 1]), (34, []), (39, [0, 1, 2])] 400 ⟨fun q0 => ⟨(((h).1 q0)).1, ⟨fun q1 => (((((h).1 q0)).2).1 q1), fun q1 => (((((h).1 q0)).2).2 q1)⟩⟩, fun q0 => ((h).2 q0)⟩
theorem kb_X11_cut_10 {d L : Nat} {fz t : Bool} {Q : pm_R → pm_H → Prop} {x1 : Int32} {r : Int32} {fz1 : Bool} {I : Nat → Nat → Int32} {J : Nat → Nat → Int64}
    (h : ((¬ r = (nI 0) → (vp_in ((nI 12) + x1) 68 ∧ ((¬ (I 103 (((nI 12) + x1)).toNatClampNeg) = (nI 0) → pm_Ev d 157 [.ref 85] (pm_hp L fz t I J) (K_X11_cut_39 d fz t Q x1 (I 103 (((nI 12) + x1)).toNatClampNeg))) ∧ ((I 103 (((nI 12) + x1)).toNatClampNeg) = (nI 0) → pm_Ev d 158 [.ref 85, .int (nI 1)] (pm_hp L fz t I J) (K_X11_cut_34 d fz t Q))))) ∧ (r = (nI 0) → Q (.inl (some (.int (nI 0)))) (pm_hp L fz t I J)))) :
    K_X11_cut_10 d fz t Q x1 (.inl (some (.int r))) (pm_hp L fz1 t I J) := b_X11_cut_10 h
set_option maxRecDepth 100000 in
theorem b_X11_cut_39 {d L : Nat} {fz t : Bool} {Q : pm_R → pm_H → Prop} {x1 : Int32} {x2 : Int32} {I : Nat → Nat → Int32} {J : Nat → Nat → Int64}
    (h : (vp_in ((nI 12) + x1) 68 ∧ Q (.inl (some (.int x2))) (pm_hp L fz t (pm_u I 103 (((nI 12) + x1)).toNatClampNeg (nI 0)) J))) :
    t_X11_cut_39 d L fz t Q x1 x2 I J := by
  exact pm_go d [(10, [0, 1]), (34, []), (39, [0, 1, 2])] 400 ⟨(h).1, (h).2⟩
theorem kb_X11_cut_39 {d L : Nat} {fz t : Bool} {Q : pm_R → pm_H → Prop} {x1 : Int32} {x2 : Int32} {fz1 : Bool} {I : Nat → Nat → Int32} {J : Nat → Nat → Int64}
    (h : (vp_in ((nI 12) + x1) 68 ∧ Q (.inl (some (.int x2))) (pm_hp L fz t (pm_u I 103 (((nI 12) + x1)).toNatClampNeg (nI 0)) J))) :
    K_X11_cut_39 d fz t Q x1 x2 (.inl none) (pm_hp L fz1 t I J) := b_X11_cut_39 h
set_option maxRecDepth 100000 in
theorem b_X11_cut_34 {d L : Nat} {fz t : Bool} {Q : pm_R → pm_H → Prop} {r : Int32} {I : Nat → Nat → Int32} {J : Nat → Nat → Int64}
    (h : Q (.inl (some (.int r))) (pm_hp L fz t I J)) :
    t_X11_cut_34 d L fz t Q r I J := by
  exact pm_go d [(10, [0, 1]), (34, []), (39, [0, 1, 2])] 400 h
theorem kb_X11_cut_34 {d L : Nat} {fz t : Bool} {Q : pm_R → pm_H → Prop} {r : Int32} {fz1 : Bool} {I : Nat → Nat → Int32} {J : Nat → Nat → Int64}
    (h : Q (.inl (some (.int r))) (pm_hp L fz t I J)) :
    K_X11_cut_34 d fz t Q (.inl (some (.int r))) (pm_hp L fz1 t I J) := b_X11_cut_34 h
def t_X11_swaps_0 (d L : Nat) (fz t : Bool) (Q : pm_R → pm_H → Prop) (x1 : Int32) (x2 : Int32) (x3 : Int32) (I : Nat → Nat → Int32) (J : Nat → Nat → Int64) : Prop := pm_T (pm_Ev d) 193 Q (0, [(0, .ref 85), (1, .int x1), (2, .int x2), (3, .int x3)], [], pm_hp L fz t I J, 0, 0)
set_option maxRecDepth 100000 in
theorem b_X11_swaps_0 {d L : Nat} {fz t : Bool} {Q : pm_R → pm_H → Prop} {x1 : Int32} {x2 : Int32} {x3 : Int32} {I : Nat → Nat → Int32} {J : Nat → Nat → Int64}
    (h : (vp_in ((x1 + (nI 22)) + x2) 68 ∧ (vp_in ((x1 + (nI 22)) + x3) 68 ∧ (vp_in ((x1 + (nI 22)) + x2) 68 ∧ (vp_in ((x1 + (nI 22)) + x3) 68 ∧ Q (.inl none) (pm_hp L fz t (pm_u (pm_u I 103 (((x1 + (nI 22)) + x2)).toNatClampNeg (I 103 (((x1 + (nI 22)) + x3)).toNatClampNeg)) 103 (((x1 + (nI 22)) + x3)).toNatClampNeg (I 103 (((x1 + (nI 22)) + x2)).toNatClampNeg)) J)))))) :
    t_X11_swaps_0 d L fz t Q x1 x2 x3 I J := by
  exact pm_go d [] 400 ⟨(h).1, ⟨((h).2).1, ⟨(((h).2).2).1, ⟨((((h).2).2).2).1, ((((h).2).2).2).2⟩⟩⟩⟩
theorem e_X11_swaps {d L : Nat} {fz t : Bool} {Q : pm_R → pm_H → Prop} {x1 : Int32} {x2 : Int32} {x3 : Int32} {I : Nat → Nat → Int32} {J : Nat → Nat → Int64}
    (h : (vp_in ((x1 + (nI 22)) + x2) 68 ∧ (vp_in ((x1 + (nI 22)) + x3) 68 ∧ (vp_in ((x1 + (nI 22)) + x2) 68 ∧ (vp_in ((x1 + (nI 22)) + x3) 68 ∧ Q (.inl none) (pm_hp L fz t (pm_u (pm_u I 103 (((x1 + (nI 22)) + x2)).toNatClampNeg (I 103 (((x1 + (nI 22)) + x3)).toNatClampNeg)) 103 (((x1 + (nI 22)) + x3)).toNatClampNeg (I 103 (((x1 + (nI 22)) + x2)).toNatClampNeg)) J)))))) :
    pm_Ev (d + 1) 193 [.ref 85, .int x1, .int x2, .int x3] (pm_hp L fz t I J) Q := pm_Ev_in rfl (b_X11_swaps_0 h)
def t_X11_change_0 (d L : Nat) (fz t : Bool) (Q : pm_R → pm_H → Prop) (x1 : Int32) (x2 : Int32) (I : Nat → Nat → Int32) (J : Nat → Nat → Int64) : Prop := pm_T (pm_Ev d) 194 Q (0, [(0, .ref 85), (1, .int x1), (2, .int x2)], [], pm_hp L fz t I J, 0, 0)
def t_X11_change_39 (d L : Nat) (fz t : Bool) (Q : pm_R → pm_H → Prop) (r : Int32) (I : Nat → Nat → Int32) (J : Nat → Nat → Int64) : Prop := pm_T (pm_Ev d) 194 Q (39, [], [.int r], pm_hp L fz t I J, 0, 0)
def K_X11_change_39 (d : Nat) (fz t : Bool) (Q : pm_R → pm_H → Prop) : pm_R → pm_H → Prop := pm_K d 194 Q 39 [] [] 118 0 fz 0 0
def t_X11_change_52 (d L : Nat) (fz t : Bool) (Q : pm_R → pm_H → Prop) (x1 : Int32) (x2 : Int32) (I : Nat → Nat → Int32) (J : Nat → Nat → Int64) : Prop := pm_T (pm_Ev d) 194 Q (52, [(0, .ref 85), (1, .int x1), (2, .int x2)], [], pm_hp L fz t I J, 0, 0)
def K_X11_change_52 (d : Nat) (fz t : Bool) (Q : pm_R → pm_H → Prop) (x1 : Int32) (x2 : Int32) : pm_R → pm_H → Prop := pm_K d 194 Q 52 [(0, .ref 85), (1, .int x1), (2, .int x2)] [] 118 0 fz 0 0
def t_X11_change_59 (d L : Nat) (fz t : Bool) (Q : pm_R → pm_H → Prop) (I : Nat → Nat → Int32) (J : Nat → Nat → Int64) : Prop := pm_T (pm_Ev d) 194 Q (59, [], [], pm_hp L fz t I J, 0, 0)
def K_X11_change_59 (d : Nat) (fz t : Bool) (Q : pm_R → pm_H → Prop) : pm_R → pm_H → Prop := pm_K d 194 Q 59 [] [] 118 0 fz 0 0
set_option maxRecDepth 100000 in
theorem b_X11_change_0 {d L : Nat} {fz t : Bool} {Q : pm_R → pm_H → Prop} {x1 : Int32} {x2 : Int32} {I : Nat → Nat → Int32} {J : Nat → Nat → Int64}
    (h : ((x1 < (nI 0) → pm_Ev d 158 [.ref 85, .int (nI 1)] (pm_hp L fz t (pm_u I 85 0 (nI 0)) J) (K_X11_change_39 d fz t Q)) ∧ (¬ x1 < (nI 0) → ((x2 < (nI 0) → pm_Ev d 158 [.ref 85, .int (nI 1)] (pm_hp L fz t (pm_u I 85 0 (nI 0)) J) (K_X11_change_39 d fz t Q)) ∧ (¬ x2 < (nI 0) → (((I 85 3) ≤ x1 → pm_Ev d 158 [.ref 85, .int (nI 1)] (pm_hp L fz t (pm_u I 85 0 (nI 0)) J) (K_X11_change_39 d fz t Q)) ∧ (¬ (I 85 3) ≤ x1 → (((I 85 3) ≤ x2 → pm_Ev d 158 [.ref 85, .int (nI 1)] (pm_hp L fz t (pm_u I 85 0 (nI 0)) J) (K_X11_change_39 d fz t Q)) ∧ (¬ (I 85 3) ≤ x2 → ((¬ x1 = x2 → pm_Ev d 157 [.ref 85] (pm_hp L fz t (pm_u I 85 0 (nI 0)) J) (K_X11_change_52 d fz t Q x1 x2)) ∧ (x1 = x2 → pm_Ev d 158 [.ref 85, .int (nI 1)] (pm_hp L fz t (pm_u I 85 0 (nI 0)) J) (K_X11_change_39 d fz t Q)))))))))))) :
    t_X11_change_0 d L fz t Q x1 x2 I J := by
  exact pm_go d [(39, []), (52, [0, 1, 2]), (59, [])] 400 ⟨fun q0 => ((h).1 q0), fun q0 => ⟨fun q1 => ((((h).2 q0)).1 q1), fun q1 => ⟨fun q2 => ((((((h).2 q0)).2 q1)).1 q2), fun q2 => ⟨fun q3 => ((((((((h).2 q0)).2 q1)).2 q2)).1 q3), fun q3 => ⟨fun q4 => ((((((((((h).2 q0)).2 q1)).2 q2)).2 q3)).1 q4), fun q4 => ((((((((((h).2 q0)).2 q1)).2 q2)).2 q3)).2 q4)⟩⟩⟩⟩⟩
theorem e_X11_change {d L : Nat} {fz t : Bool} {Q : pm_R → pm_H → Prop} {x1 : Int32} {x2 : Int32} {I : Nat → Nat → Int32} {J : Nat → Nat → Int64}
    (h : ((x1 < (nI 0) → pm_Ev d 158 [.ref 85, .int (nI 1)] (pm_hp L fz t (pm_u I 85 0 (nI 0)) J) (K_X11_change_39 d fz t Q)) ∧ (¬ x1 < (nI 0) → ((x2 < (nI 0) → pm_Ev d 158 [.ref 85, .int (nI 1)] (pm_hp L fz t (pm_u I 85 0 (nI 0)) J) (K_X11_change_39 d fz t Q)) ∧ (¬ x2 < (nI 0) → (((I 85 3) ≤ x1 → pm_Ev d 158 [.ref 85, .int (nI 1)] (pm_hp L fz t (pm_u I 85 0 (nI 0)) J) (K_X11_change_39 d fz t Q)) ∧ (¬ (I 85 3) ≤ x1 → (((I 85 3) ≤ x2 → pm_Ev d 158 [.ref 85, .int (nI 1)] (pm_hp L fz t (pm_u I 85 0 (nI 0)) J) (K_X11_change_39 d fz t Q)) ∧ (¬ (I 85 3) ≤ x2 → ((¬ x1 = x2 → pm_Ev d 157 [.ref 85] (pm_hp L fz t (pm_u I 85 0 (nI 0)) J) (K_X11_change_52 d fz t Q x1 x2)) ∧ (x1 = x2 → pm_Ev d 158 [.ref 85, .int (nI 1)] (pm_hp L fz t (pm_u I 85 0 (nI 0)) J) (K_X11_change_39 d fz t Q)))))))))))) :
    pm_Ev (d + 1) 194 [.ref 85, .int x1, .int x2] (pm_hp L fz t I J) Q := pm_Ev_in rfl (b_X11_change_0 h)
set_option maxRecDepth 100000 in
theorem b_X11_change_39 {d L : Nat} {fz t : Bool} {Q : pm_R → pm_H → Prop} {r : Int32} {I : Nat → Nat → Int32} {J : Nat → Nat → Int64}
    (h : ((r ≤ (nI 0) → Q (.inl (some (.int (nI 0)))) (pm_hp L fz t I J)) ∧ (¬ r ≤ (nI 0) → Q (.inl (some (.int (nI 1)))) (pm_hp L fz t I J)))) :
    t_X11_change_39 d L fz t Q r I J := by
  exact pm_go d [(39, []), (52, [0, 1, 2]), (59, [])] 400 ⟨fun q0 => ⟨Or.inl rfl, ((h).1 q0)⟩, fun q0 => ⟨Or.inr rfl, ((h).2 q0)⟩⟩
theorem kb_X11_change_39 {d L : Nat} {fz t : Bool} {Q : pm_R → pm_H → Prop} {r : Int32} {fz1 : Bool} {I : Nat → Nat → Int32} {J : Nat → Nat → Int64}
    (h : ((r ≤ (nI 0) → Q (.inl (some (.int (nI 0)))) (pm_hp L fz t I J)) ∧ (¬ r ≤ (nI 0) → Q (.inl (some (.int (nI 1)))) (pm_hp L fz t I J)))) :
    K_X11_change_39 d fz t Q (.inl (some (.int r))) (pm_hp L fz1 t I J) := b_X11_change_39 h
set_option maxRecDepth 100000 in
theorem b_X11_change_52 {d L : Nat} {fz t : Bool} {Q : pm_R → pm_H → Prop} {x1 : Int32} {x2 : Int32} {I : Nat → Nat → Int32} {J : Nat → Nat → Int64}
    (h : pm_Ev d 193 [.ref 85, .int (nI 0), .int x1, .int x2] (pm_hp L fz t I J) (K_X11_change_59 d fz t Q)) :
    t_X11_change_52 d L fz t Q x1 x2 I J := by
  exact pm_go d [(39, []), (52, [0, 1, 2]), (59, [])] 400 h
theorem kb_X11_change_52 {d L : Nat} {fz t : Bool} {Q : pm_R → pm_H → Prop} {x1 : Int32} {x2 : Int32} {fz1 : Bool} {I : Nat → Nat → Int32} {J : Nat → Nat → Int64}
    (h : pm_Ev d 193 [.ref 85, .int (nI 0), .int x1, .int x2] (pm_hp L fz t I J) (K_X11_change_59 d fz t Q)) :
    K_X11_change_52 d fz t Q x1 x2 (.inl none) (pm_hp L fz1 t I J) := b_X11_change_52 h
set_option maxRecDepth 100000 in
theorem b_X11_change_59 {d L : Nat} {fz t : Bool} {Q : pm_R → pm_H → Prop} {I : Nat → Nat → Int32} {J : Nat → Nat → Int64}
    (h : Q (.inl (some (.int (nI 1)))) (pm_hp L fz t I J)) :
    t_X11_change_59 d L fz t Q I J := by
  exact pm_go d [(39, []), (52, [0, 1, 2]), (59, [])] 400 ⟨Or.inr rfl, h⟩
theorem kb_X11_change_59 {d L : Nat} {fz t : Bool} {Q : pm_R → pm_H → Prop} {fz1 : Bool} {I : Nat → Nat → Int32} {J : Nat → Nat → Int64}
    (h : Q (.inl (some (.int (nI 1)))) (pm_hp L fz t I J)) :
    K_X11_change_59 d fz t Q (.inl none) (pm_hp L fz1 t I J) := b_X11_change_59 h
def t_X11_isSundays_0 (d L : Nat) (fz t : Bool) (Q : pm_R → pm_H → Prop) (x1 : Int32) (x2 : Int32) (x3 : Int32) (I : Nat → Nat → Int32) (J : Nat → Nat → Int64) : Prop := pm_T (pm_Ev d) 195 Q (0, [(0, .ref 85), (1, .int x1), (2, .int x2), (3, .int x3)], [], pm_hp L fz t I J, 0, 0)
def t_X11_isSundays_8 (d L : Nat) (fz t : Bool) (Q : pm_R → pm_H → Prop) (x3 : Int32) (r : Int32) (I : Nat → Nat → Int32) (J : Nat → Nat → Int64) : Prop := pm_T (pm_Ev d) 195 Q (8, [(3, .int x3)], [.int r, .ref 85], pm_hp L fz t I J, 0, 0)
def K_X11_isSundays_8 (d : Nat) (fz t : Bool) (Q : pm_R → pm_H → Prop) (x3 : Int32) : pm_R → pm_H → Prop := pm_K d 195 Q 8 [(3, .int x3)] [.ref 85] 118 0 fz 0 0
def t_X11_isSundays_12 (d L : Nat) (fz t : Bool) (Q : pm_R → pm_H → Prop) (r : Int32) (I : Nat → Nat → Int32) (J : Nat → Nat → Int64) : Prop := pm_T (pm_Ev d) 195 Q (12, [], [.int r], pm_hp L fz t I J, 0, 0)
def K_X11_isSundays_12 (d : Nat) (fz t : Bool) (Q : pm_R → pm_H → Prop) : pm_R → pm_H → Prop := pm_K d 195 Q 12 [] [] 118 0 fz 0 0
set_option maxRecDepth 100000 in
theorem b_X11_isSundays_0 {d L : Nat} {fz t : Bool} {Q : pm_R → pm_H → Prop} {x1 : Int32} {x2 : Int32} {x3 : Int32} {I : Nat → Nat → Int32} {J : Nat → Nat → Int64}
    (h : pm_Ev d 119 [.int x1, .int x2, .int (nI 30)] (pm_hp L fz t I J) (K_X11_isSundays_8 d fz t Q x3)) :
    t_X11_isSundays_0 d L fz t Q x1 x2 x3 I J := by
  exact pm_go d [(8, [3]), (12, [])] 400 h
theorem e_X11_isSundays {d L : Nat} {fz t : Bool} {Q : pm_R → pm_H → Prop} {x1 : Int32} {x2 : Int32} {x3 : Int32} {I : Nat → Nat → Int32} {J : Nat → Nat → Int64}
    (h : pm_Ev d 119 [.int x1, .int x2, .int (nI 30)] (pm_hp L fz t I J) (K_X11_isSundays_8 d fz t Q x3)) :
    pm_Ev (d + 1) 195 [.ref 85, .int x1, .int x2, .int x3] (pm_hp L fz t I J) Q := pm_Ev_in rfl (b_X11_isSundays_0 h)
set_option maxRecDepth 100000 in
theorem b_X11_isSundays_8 {d L : Nat} {fz t : Bool} {Q : pm_R → pm_H → Prop} {x3 : Int32} {r : Int32} {I : Nat → Nat → Int32} {J : Nat → Nat → Int64}
    (h : pm_Ev d 118 [.ref 85, .int r, .int x3] (pm_hp L fz t I J) (K_X11_isSundays_12 d fz t Q)) :
    t_X11_isSundays_8 d L fz t Q x3 r I J := by
  exact pm_go d [(8, [3]), (12, [])] 400 h
theorem kb_X11_isSundays_8 {d L : Nat} {fz t : Bool} {Q : pm_R → pm_H → Prop} {x3 : Int32} {r : Int32} {fz1 : Bool} {I : Nat → Nat → Int32} {J : Nat → Nat → Int64}
    (h : pm_Ev d 118 [.ref 85, .int r, .int x3] (pm_hp L fz t I J) (K_X11_isSundays_12 d fz t Q)) :
    K_X11_isSundays_8 d fz t Q x3 (.inl (some (.int r))) (pm_hp L fz1 t I J) := b_X11_isSundays_8 h
set_option maxRecDepth 100000 in
theorem b_X11_isSundays_12 {d L : Nat} {fz t : Bool} {Q : pm_R → pm_H → Prop} {r : Int32} {I : Nat → Nat → Int32} {J : Nat → Nat → Int64}
    (h : ((r = nI 0 ∨ r = nI 1) ∧ Q (.inl (some (.int r))) (pm_hp L fz t I J))) :
    t_X11_isSundays_12 d L fz t Q r I J := by
  exact pm_go d [(8, [3]), (12, [])] 400 h
theorem kb_X11_isSundays_12 {d L : Nat} {fz t : Bool} {Q : pm_R → pm_H → Prop} {r : Int32} {fz1 : Bool} {I : Nat → Nat → Int32} {J : Nat → Nat → Int64}
    (h : ((r = nI 0 ∨ r = nI 1) ∧ Q (.inl (some (.int r))) (pm_hp L fz t I J))) :
    K_X11_isSundays_12 d fz t Q (.inl (some (.int r))) (pm_hp L fz1 t I J) := b_X11_isSundays_12 h
def t_X11_then_0 (d L : Nat) (fz t : Bool) (Q : pm_R → pm_H → Prop) (x1 : Int32) (x2 : Int32) (I : Nat → Nat → Int32) (J : Nat → Nat → Int64) : Prop := pm_T (pm_Ev d) 196 Q (0, [(0, .ref 85), (1, .int x1), (2, .int x2)], [], pm_hp L fz t I J, 0, 0)
def t_X11_then_10 (d L : Nat) (fz t : Bool) (Q : pm_R → pm_H → Prop) (x1 : Int32) (x2 : Int32) (r : Int32) (I : Nat → Nat → Int32) (J : Nat → Nat → Int64) : Prop := pm_T (pm_Ev d) 196 Q (10, [(0, .ref 85), (1, .int x1), (2, .int x2)], [.int r], pm_hp L fz t I J, 0, 0)
def K_X11_then_10 (d : Nat) (fz t : Bool) (Q : pm_R → pm_H → Prop) (x1 : Int32) (x2 : Int32) : pm_R → pm_H → Prop := pm_K d 196 Q 10 [(0, .ref 85), (1, .int x1), (2, .int x2)] [] 118 0 fz 0 0
def t_X11_then_20 (d L : Nat) (fz t : Bool) (Q : pm_R → pm_H → Prop) (x1 : Int32) (x2 : Int32) (r : Int32) (I : Nat → Nat → Int32) (J : Nat → Nat → Int64) : Prop := pm_T (pm_Ev d) 196 Q (20, [(0, .ref 85), (1, .int x1), (2, .int x2)], [.int r], pm_hp L fz t I J, 0, 0)
def K_X11_then_20 (d : Nat) (fz t : Bool) (Q : pm_R → pm_H → Prop) (x1 : Int32) (x2 : Int32) : pm_R → pm_H → Prop := pm_K d 196 Q 20 [(0, .ref 85), (1, .int x1), (2, .int x2)] [] 118 0 fz 0 0
def t_X11_then_29 (d L : Nat) (fz t : Bool) (Q : pm_R → pm_H → Prop) (x1 : Int32) (x2 : Int32) (I : Nat → Nat → Int32) (J : Nat → Nat → Int64) : Prop := pm_T (pm_Ev d) 196 Q (29, [(0, .ref 85), (1, .int x1), (2, .int x2)], [], pm_hp L fz t I J, 0, 0)
def K_X11_then_29 (d : Nat) (fz t : Bool) (Q : pm_R → pm_H → Prop) (x1 : Int32) (x2 : Int32) : pm_R → pm_H → Prop := pm_K d 196 Q 29 [(0, .ref 85), (1, .int x1), (2, .int x2)] [] 118 0 fz 0 0
def t_X11_then_34 (d L : Nat) (fz t : Bool) (Q : pm_R → pm_H → Prop) (x1 : Int32) (I : Nat → Nat → Int32) (J : Nat → Nat → Int64) : Prop := pm_T (pm_Ev d) 196 Q (34, [(0, .ref 85), (1, .int x1)], [], pm_hp L fz t I J, 0, 0)
def K_X11_then_34 (d : Nat) (fz t : Bool) (Q : pm_R → pm_H → Prop) (x1 : Int32) : pm_R → pm_H → Prop := pm_K d 196 Q 34 [(0, .ref 85), (1, .int x1)] [] 118 0 fz 0 0
def t_X11_then_40 (d L : Nat) (fz t : Bool) (Q : pm_R → pm_H → Prop) (x1 : Int32) (I : Nat → Nat → Int32) (J : Nat → Nat → Int64) : Prop := pm_T (pm_Ev d) 196 Q (40, [(0, .ref 85), (1, .int x1)], [], pm_hp L fz t I J, 0, 0)
def K_X11_then_40 (d : Nat) (fz t : Bool) (Q : pm_R → pm_H → Prop) (x1 : Int32) : pm_R → pm_H → Prop := pm_K d 196 Q 40 [(0, .ref 85), (1, .int x1)] [] 118 0 fz 0 0
set_option maxRecDepth 100000 in
theorem b_X11_then_0 {d L : Nat} {fz t : Bool} {Q : pm_R → pm_H → Prop} {x1 : Int32} {x2 : Int32} {I : Nat → Nat → Int32} {J : Nat → Nat → Int64}
    (h : pm_Ev d 181 [.ref 85, .int x1] (pm_hp L fz t (pm_u I 85 0 (nI 0)) J) (K_X11_then_10 d fz t Q x1 x2)) :
    t_X11_then_0 d L fz t Q x1 x2 I J := by
  exact pm_go d [(10, [0, 1, 2]), (20, [0, 1, 2]), (29, [0, 1, 2]), (34, [0, 1]), (40, [0, 1])] 400 h
theorem e_X11_then {d L : Nat} {fz t : Bool} {Q : pm_R → pm_H → Prop} {x1 : Int32} {x2 : Int32} {I : Nat → Nat → Int32} {J : Nat → Nat → Int64}
    (h : pm_Ev d 181 [.ref 85, .int x1] (pm_hp L fz t (pm_u I 85 0 (nI 0)) J) (K_X11_then_10 d fz t Q x1 x2)) :
    pm_Ev (d + 1) 196 [.ref 85, .int x1, .int x2] (pm_hp L fz t I J) Q := pm_Ev_in rfl (b_X11_then_0 h)
set_option maxRecDepth 100000 in
theorem b_X11_then_10 {d L : Nat} {fz t : Bool} {Q : pm_R → pm_H → Prop} {x1 : Int32} {x2 : Int32} {r : Int32} {I : Nat → Nat → Int32} {J : Nat → Nat → Int64}
    (h : ((r = (nI 0) → Q (.inl (some (.int (nI 0)))) (pm_hp L fz t I J)) ∧ (¬ r = (nI 0) → pm_Ev d 195 [.ref 85, .int x2, .int (nI 0), .int (nI 2)] (pm_hp L fz t I J) (K_X11_then_20 d fz t Q x1 x2)))) :
    t_X11_then_10 d L fz t Q x1 x2 r I J := by
  exact pm_go d [(10, [0, 1, 2]), (20, [0, 1, 2]), (29, [0, 1, 2]), (34, [0, 1]), (40, [0, 1])] 400 ⟨fun q0 => ((h).1 q0), fun q0 => ((h).2 q0)⟩
theorem kb_X11_then_10 {d L : Nat} {fz t : Bool} {Q : pm_R → pm_H → Prop} {x1 : Int32} {x2 : Int32} {r : Int32} {fz1 : Bool} {I : Nat → Nat → Int32} {J : Nat → Nat → Int64}
    (h : ((r = (nI 0) → Q (.inl (some (.int (nI 0)))) (pm_hp L fz t I J)) ∧ (¬ r = (nI 0) → pm_Ev d 195 [.ref 85, .int x2, .int (nI 0), .int (nI 2)] (pm_hp L fz t I J) (K_X11_then_20 d fz t Q x1 x2)))) :
    K_X11_then_10 d fz t Q x1 x2 (.inl (some (.int r))) (pm_hp L fz1 t I J) := b_X11_then_10 h
set_option maxRecDepth 100000 in
theorem b_X11_then_20 {d L : Nat} {fz t : Bool} {Q : pm_R → pm_H → Prop} {x1 : Int32} {x2 : Int32} {r : Int32} {I : Nat → Nat → Int32} {J : Nat → Nat → Int64}
    (h : ((¬ r = (nI 0) → pm_Ev d 160 [.ref 85] (pm_hp L fz t I J) (K_X11_then_29 d fz t Q x1 x2)) ∧ (r = (nI 0) → Q (.inl (some (.int (nI 0)))) (pm_hp L fz t I J)))) :
    t_X11_then_20 d L fz t Q x1 x2 r I J := by
  exact pm_go d [(10, [0, 1, 2]), (20, [0, 1, 2]), (29, [0, 1, 2]), (34, [0, 1]), (40, [0, 1])] 400 ⟨fun q0 => ((h).1 q0), fun q0 => ((h).2 q0)⟩
theorem kb_X11_then_20 {d L : Nat} {fz t : Bool} {Q : pm_R → pm_H → Prop} {x1 : Int32} {x2 : Int32} {r : Int32} {fz1 : Bool} {I : Nat → Nat → Int32} {J : Nat → Nat → Int64}
    (h : ((¬ r = (nI 0) → pm_Ev d 160 [.ref 85] (pm_hp L fz t I J) (K_X11_then_29 d fz t Q x1 x2)) ∧ (r = (nI 0) → Q (.inl (some (.int (nI 0)))) (pm_hp L fz t I J)))) :
    K_X11_then_20 d fz t Q x1 x2 (.inl (some (.int r))) (pm_hp L fz1 t I J) := b_X11_then_20 h
set_option maxRecDepth 100000 in
theorem b_X11_then_29 {d L : Nat} {fz t : Bool} {Q : pm_R → pm_H → Prop} {x1 : Int32} {x2 : Int32} {I : Nat → Nat → Int32} {J : Nat → Nat → Int64}
    (h : pm_Ev d 175 [.ref 85, .int x2] (pm_hp L fz t I J) (K_X11_then_34 d fz t Q x1)) :
    t_X11_then_29 d L fz t Q x1 x2 I J := by
  exact pm_go d [(10, [0, 1, 2]), (20, [0, 1, 2]), (29, [0, 1, 2]), (34, [0, 1]), (40, [0, 1])] 400 h
theorem kb_X11_then_29 {d L : Nat} {fz t : Bool} {Q : pm_R → pm_H → Prop} {x1 : Int32} {x2 : Int32} {fz1 : Bool} {I : Nat → Nat → Int32} {J : Nat → Nat → Int64}
    (h : pm_Ev d 175 [.ref 85, .int x2] (pm_hp L fz t I J) (K_X11_then_34 d fz t Q x1)) :
    K_X11_then_29 d fz t Q x1 x2 (.inl none) (pm_hp L fz1 t I J) := b_X11_then_29 h
set_option maxRecDepth 100000 in
theorem b_X11_then_34 {d L : Nat} {fz t : Bool} {Q : pm_R → pm_H → Prop} {x1 : Int32} {I : Nat → Nat → Int32} {J : Nat → Nat → Int64}
    (h : pm_Ev d 169 [.ref 85, .int (nI 34)] (pm_hp L fz t I J) (K_X11_then_40 d fz t Q x1)) :
    t_X11_then_34 d L fz t Q x1 I J := by
  exact pm_go d [(10, [0, 1, 2]), (20, [0, 1, 2]), (29, [0, 1, 2]), (34, [0, 1]), (40, [0, 1])] 400 h
theorem kb_X11_then_34 {d L : Nat} {fz t : Bool} {Q : pm_R → pm_H → Prop} {x1 : Int32} {fz1 : Bool} {I : Nat → Nat → Int32} {J : Nat → Nat → Int64}
    (h : pm_Ev d 169 [.ref 85, .int (nI 34)] (pm_hp L fz t I J) (K_X11_then_40 d fz t Q x1)) :
    K_X11_then_34 d fz t Q x1 (.inl none) (pm_hp L fz1 t I J) := b_X11_then_34 h
set_option maxRecDepth 100000 in
theorem b_X11_then_40 {d L : Nat} {fz t : Bool} {Q : pm_R → pm_H → Prop} {x1 : Int32} {I : Nat → Nat → Int32} {J : Nat → Nat → Int64}
    (h : (vp_in x1 12 ∧ Q (.inl (some (.int (I 107 (x1).toNatClampNeg)))) (pm_hp L fz t I J))) :
    t_X11_then_40 d L fz t Q x1 I J := by
  exact pm_go d [(10, [0, 1, 2]), (20, [0, 1, 2]), (29, [0, 1, 2]), (34, [0, 1]), (40, [0, 1])] 400 ⟨(h).1, (h).2⟩
theorem kb_X11_then_40 {d L : Nat} {fz t : Bool} {Q : pm_R → pm_H → Prop} {x1 : Int32} {fz1 : Bool} {I : Nat → Nat → Int32} {J : Nat → Nat → Int64}
    (h : (vp_in x1 12 ∧ Q (.inl (some (.int (I 107 (x1).toNatClampNeg)))) (pm_hp L fz t I J))) :
    K_X11_then_40 d fz t Q x1 (.inl none) (pm_hp L fz1 t I J) := b_X11_then_40 h
def t_X11_granted_0 (d L : Nat) (fz t : Bool) (Q : pm_R → pm_H → Prop) (x1 : Int32) (I : Nat → Nat → Int32) (J : Nat → Nat → Int64) : Prop := pm_T (pm_Ev d) 197 Q (0, [(0, .ref 85), (1, .int x1)], [], pm_hp L fz t I J, 0, 0)
def t_X11_granted_12 (d L : Nat) (fz t : Bool) (Q : pm_R → pm_H → Prop) (x1 : Int32) (r : Int32) (I : Nat → Nat → Int32) (J : Nat → Nat → Int64) : Prop := pm_T (pm_Ev d) 197 Q (12, [(0, .ref 85), (1, .int x1)], [.int r], pm_hp L fz t I J, 0, 0)
def K_X11_granted_12 (d : Nat) (fz t : Bool) (Q : pm_R → pm_H → Prop) (x1 : Int32) : pm_R → pm_H → Prop := pm_K d 197 Q 12 [(0, .ref 85), (1, .int x1)] [] 118 0 fz 0 0
def t_X11_granted_21 (d L : Nat) (fz t : Bool) (Q : pm_R → pm_H → Prop) (x1 : Int32) (I : Nat → Nat → Int32) (J : Nat → Nat → Int64) : Prop := pm_T (pm_Ev d) 197 Q (21, [(0, .ref 85), (1, .int x1)], [], pm_hp L fz t I J, 0, 0)
def K_X11_granted_21 (d : Nat) (fz t : Bool) (Q : pm_R → pm_H → Prop) (x1 : Int32) : pm_R → pm_H → Prop := pm_K d 197 Q 21 [(0, .ref 85), (1, .int x1)] [] 118 0 fz 0 0
def t_X11_granted_26 (d L : Nat) (fz t : Bool) (Q : pm_R → pm_H → Prop) (I : Nat → Nat → Int32) (J : Nat → Nat → Int64) : Prop := pm_T (pm_Ev d) 197 Q (26, [(0, .ref 85)], [], pm_hp L fz t I J, 0, 0)
def K_X11_granted_26 (d : Nat) (fz t : Bool) (Q : pm_R → pm_H → Prop) : pm_R → pm_H → Prop := pm_K d 197 Q 26 [(0, .ref 85)] [] 118 0 fz 0 0
set_option maxRecDepth 100000 in
theorem b_X11_granted_0 {d L : Nat} {fz t : Bool} {Q : pm_R → pm_H → Prop} {x1 : Int32} {I : Nat → Nat → Int32} {J : Nat → Nat → Int64}
    (h : pm_Ev d 195 [.ref 85, .int x1, .int (nI 0), .int (nI 1)] (pm_hp L fz t (pm_u I 85 0 (nI 0)) J) (K_X11_granted_12 d fz t Q x1)) :
    t_X11_granted_0 d L fz t Q x1 I J := by
  exact pm_go d [(12, [0, 1]), (21, [0, 1]), (26, [0])] 400 h
theorem e_X11_granted {d L : Nat} {fz t : Bool} {Q : pm_R → pm_H → Prop} {x1 : Int32} {I : Nat → Nat → Int32} {J : Nat → Nat → Int64}
    (h : pm_Ev d 195 [.ref 85, .int x1, .int (nI 0), .int (nI 1)] (pm_hp L fz t (pm_u I 85 0 (nI 0)) J) (K_X11_granted_12 d fz t Q x1)) :
    pm_Ev (d + 1) 197 [.ref 85, .int x1] (pm_hp L fz t I J) Q := pm_Ev_in rfl (b_X11_granted_0 h)
set_option maxRecDepth 100000 in
theorem b_X11_granted_12 {d L : Nat} {fz t : Bool} {Q : pm_R → pm_H → Prop} {x1 : Int32} {r : Int32} {I : Nat → Nat → Int32} {J : Nat → Nat → Int64}
    (h : ((¬ r = (nI 0) → pm_Ev d 160 [.ref 85] (pm_hp L fz t I J) (K_X11_granted_21 d fz t Q x1)) ∧ (r = (nI 0) → Q (.inl (some (.int (nI 0)))) (pm_hp L fz t I J)))) :
    t_X11_granted_12 d L fz t Q x1 r I J := by
  exact pm_go d [(12, [0, 1]), (21, [0, 1]), (26, [0])] 400 ⟨fun q0 => ((h).1 q0), fun q0 => ((h).2 q0)⟩
theorem kb_X11_granted_12 {d L : Nat} {fz t : Bool} {Q : pm_R → pm_H → Prop} {x1 : Int32} {r : Int32} {fz1 : Bool} {I : Nat → Nat → Int32} {J : Nat → Nat → Int64}
    (h : ((¬ r = (nI 0) → pm_Ev d 160 [.ref 85] (pm_hp L fz t I J) (K_X11_granted_21 d fz t Q x1)) ∧ (r = (nI 0) → Q (.inl (some (.int (nI 0)))) (pm_hp L fz t I J)))) :
    K_X11_granted_12 d fz t Q x1 (.inl (some (.int r))) (pm_hp L fz1 t I J) := b_X11_granted_12 h
set_option maxRecDepth 100000 in
theorem b_X11_granted_21 {d L : Nat} {fz t : Bool} {Q : pm_R → pm_H → Prop} {x1 : Int32} {I : Nat → Nat → Int32} {J : Nat → Nat → Int64}
    (h : pm_Ev d 175 [.ref 85, .int x1] (pm_hp L fz t I J) (K_X11_granted_26 d fz t Q)) :
    t_X11_granted_21 d L fz t Q x1 I J := by
  exact pm_go d [(12, [0, 1]), (21, [0, 1]), (26, [0])] 400 h
theorem kb_X11_granted_21 {d L : Nat} {fz t : Bool} {Q : pm_R → pm_H → Prop} {x1 : Int32} {fz1 : Bool} {I : Nat → Nat → Int32} {J : Nat → Nat → Int64}
    (h : pm_Ev d 175 [.ref 85, .int x1] (pm_hp L fz t I J) (K_X11_granted_26 d fz t Q)) :
    K_X11_granted_21 d fz t Q x1 (.inl none) (pm_hp L fz1 t I J) := b_X11_granted_21 h
set_option maxRecDepth 100000 in
theorem b_X11_granted_26 {d L : Nat} {fz t : Bool} {Q : pm_R → pm_H → Prop} {I : Nat → Nat → Int32} {J : Nat → Nat → Int64}
    (h : Q (.inl (some (.int (I 103 35)))) (pm_hp L fz t I J)) :
    t_X11_granted_26 d L fz t Q I J := by
  exact pm_go d [(12, [0, 1]), (21, [0, 1]), (26, [0])] 400 ⟨(vp_in_nI (by decide : 35 < 68) (by decide) : vp_in (nI 35) 68), h⟩
theorem kb_X11_granted_26 {d L : Nat} {fz t : Bool} {Q : pm_R → pm_H → Prop} {fz1 : Bool} {I : Nat → Nat → Int32} {J : Nat → Nat → Int64}
    (h : Q (.inl (some (.int (I 103 35)))) (pm_hp L fz t I J)) :
    K_X11_granted_26 d fz t Q (.inl none) (pm_hp L fz1 t I J) := b_X11_granted_26 h
def t_X11_worn_0 (d L : Nat) (fz t : Bool) (Q : pm_R → pm_H → Prop) (x1 : Int32) (I : Nat → Nat → Int32) (J : Nat → Nat → Int64) : Prop := pm_T (pm_Ev d) 198 Q (0, [(0, .ref 85), (1, .int x1)], [], pm_hp L fz t I J, 0, 0)
def t_X11_worn_10 (d L : Nat) (fz t : Bool) (Q : pm_R → pm_H → Prop) (x1 : Int32) (r : Int32) (I : Nat → Nat → Int32) (J : Nat → Nat → Int64) : Prop := pm_T (pm_Ev d) 198 Q (10, [(0, .ref 85), (1, .int x1)], [.int r], pm_hp L fz t I J, 0, 0)
def K_X11_worn_10 (d : Nat) (fz t : Bool) (Q : pm_R → pm_H → Prop) (x1 : Int32) : pm_R → pm_H → Prop := pm_K d 198 Q 10 [(0, .ref 85), (1, .int x1)] [] 118 0 fz 0 0
def t_X11_worn_37 (d L : Nat) (fz t : Bool) (Q : pm_R → pm_H → Prop) (x1 : Int32) (r : Int32) (I : Nat → Nat → Int32) (J : Nat → Nat → Int64) : Prop := pm_T (pm_Ev d) 198 Q (37, [(0, .ref 85), (1, .int x1)], [.int r], pm_hp L fz t I J, 0, 0)
def K_X11_worn_37 (d : Nat) (fz t : Bool) (Q : pm_R → pm_H → Prop) (x1 : Int32) : pm_R → pm_H → Prop := pm_K d 198 Q 37 [(0, .ref 85), (1, .int x1)] [] 118 0 fz 0 0
set_option maxRecDepth 100000 in
theorem b_X11_worn_0 {d L : Nat} {fz t : Bool} {Q : pm_R → pm_H → Prop} {x1 : Int32} {I : Nat → Nat → Int32} {J : Nat → Nat → Int64}
    (h : pm_Ev d 180 [.ref 85, .int x1] (pm_hp L fz t (pm_u I 85 0 (nI 0)) J) (K_X11_worn_10 d fz t Q x1)) :
    t_X11_worn_0 d L fz t Q x1 I J := by
  exact pm_go d [(10, [0, 1]), (37, [0, 1])] 400 h
theorem e_X11_worn {d L : Nat} {fz t : Bool} {Q : pm_R → pm_H → Prop} {x1 : Int32} {I : Nat → Nat → Int32} {J : Nat → Nat → Int64}
    (h : pm_Ev d 180 [.ref 85, .int x1] (pm_hp L fz t (pm_u I 85 0 (nI 0)) J) (K_X11_worn_10 d fz t Q x1)) :
    pm_Ev (d + 1) 198 [.ref 85, .int x1] (pm_hp L fz t I J) Q := pm_Ev_in rfl (b_X11_worn_0 h)
set_option maxRecDepth 100000 in
theorem b_X11_worn_10 {d L : Nat} {fz t : Bool} {Q : pm_R → pm_H → Prop} {x1 : Int32} {r : Int32} {I : Nat → Nat → Int32} {J : Nat → Nat → Int64}
    (h : ((¬ r = (nI 0) → (vp_in ((nI 12) + x1) 68 ∧ ((¬ (I 103 (((nI 12) + x1)).toNatClampNeg) = (nI 9) → pm_Ev d 173 [.ref 85, .int (nI 0), .int x1] (pm_hp L fz t I J) (K_X11_worn_37 d fz t Q x1)) ∧ ((I 103 (((nI 12) + x1)).toNatClampNeg) = (nI 9) → Q (.inl (some (.int (nI 0)))) (pm_hp L fz t I J))))) ∧ (r = (nI 0) → Q (.inl (some (.int (nI 0)))) (pm_hp L fz t I J)))) :
    t_X11_worn_10 d L fz t Q x1 r I J := by
  exact pm_go d [(10, [0, 1]), (37, [0, 1])] 400 ⟨fun q0 => ⟨(((h).1 q0)).1, ⟨fun q1 => (((((h).1 q0)).2).1 q1), fun q1 => (((((h).1 q0)).2).2 q1)⟩⟩, fun q0 => ((h).2 q0)⟩
theorem kb_X11_worn_10 {d L : Nat} {fz t : Bool} {Q : pm_R → pm_H → Prop} {x1 : Int32} {r : Int32} {fz1 : Bool} {I : Nat → Nat → Int32} {J : Nat → Nat → Int64}
    (h : ((¬ r = (nI 0) → (vp_in ((nI 12) + x1) 68 ∧ ((¬ (I 103 (((nI 12) + x1)).toNatClampNeg) = (nI 9) → pm_Ev d 173 [.ref 85, .int (nI 0), .int x1] (pm_hp L fz t I J) (K_X11_worn_37 d fz t Q x1)) ∧ ((I 103 (((nI 12) + x1)).toNatClampNeg) = (nI 9) → Q (.inl (some (.int (nI 0)))) (pm_hp L fz t I J))))) ∧ (r = (nI 0) → Q (.inl (some (.int (nI 0)))) (pm_hp L fz t I J)))) :
    K_X11_worn_10 d fz t Q x1 (.inl (some (.int r))) (pm_hp L fz1 t I J) := b_X11_worn_10 h
set_option maxRecDepth 100000 in
theorem b_X11_worn_37 {d L : Nat} {fz t : Bool} {Q : pm_R → pm_H → Prop} {x1 : Int32} {r : Int32} {I : Nat → Nat → Int32} {J : Nat → Nat → Int64}
    (h : ((¬ r = (nI 0) → (vp_in ((nI 12) + x1) 68 ∧ Q (.inl (some (.int ((nI 9) - (I 103 (((nI 12) + x1)).toNatClampNeg))))) (pm_hp L fz t I J))) ∧ (r = (nI 0) → Q (.inl (some (.int (-1 : Int32)))) (pm_hp L fz t I J)))) :
    t_X11_worn_37 d L fz t Q x1 r I J := by
  exact pm_go d [(10, [0, 1]), (37, [0, 1])] 400 ⟨fun q0 => ⟨(((h).1 q0)).1, (((h).1 q0)).2⟩, fun q0 => ((h).2 q0)⟩
theorem kb_X11_worn_37 {d L : Nat} {fz t : Bool} {Q : pm_R → pm_H → Prop} {x1 : Int32} {r : Int32} {fz1 : Bool} {I : Nat → Nat → Int32} {J : Nat → Nat → Int64}
    (h : ((¬ r = (nI 0) → (vp_in ((nI 12) + x1) 68 ∧ Q (.inl (some (.int ((nI 9) - (I 103 (((nI 12) + x1)).toNatClampNeg))))) (pm_hp L fz t I J))) ∧ (r = (nI 0) → Q (.inl (some (.int (-1 : Int32)))) (pm_hp L fz t I J)))) :
    K_X11_worn_37 d fz t Q x1 (.inl (some (.int r))) (pm_hp L fz1 t I J) := b_X11_worn_37 h
def t_X11_laysNow_0 (d L : Nat) (fz t : Bool) (Q : pm_R → pm_H → Prop) (I : Nat → Nat → Int32) (J : Nat → Nat → Int64) : Prop := pm_T (pm_Ev d) 199 Q (0, [(0, .ref 85)], [], pm_hp L fz t I J, 0, 0)
def t_X11_laysNow_5 (d L : Nat) (fz t : Bool) (Q : pm_R → pm_H → Prop) (I : Nat → Nat → Int32) (J : Nat → Nat → Int64) : Prop := pm_T (pm_Ev d) 199 Q (5, [(0, .ref 85)], [], pm_hp L fz t I J, 0, 0)
def K_X11_laysNow_5 (d : Nat) (fz t : Bool) (Q : pm_R → pm_H → Prop) : pm_R → pm_H → Prop := pm_K d 199 Q 5 [(0, .ref 85)] [] 118 0 fz 0 0
def t_X11_laysNow_17 (d L : Nat) (fz t : Bool) (Q : pm_R → pm_H → Prop) (I : Nat → Nat → Int32) (J : Nat → Nat → Int64) : Prop := pm_T (pm_Ev d) 199 Q (17, [], [], pm_hp L fz t I J, 0, 0)
def K_X11_laysNow_17 (d : Nat) (fz t : Bool) (Q : pm_R → pm_H → Prop) : pm_R → pm_H → Prop := pm_K d 199 Q 17 [] [] 118 0 fz 0 0
set_option maxRecDepth 100000 in
theorem b_X11_laysNow_0 {d L : Nat} {fz t : Bool} {Q : pm_R → pm_H → Prop} {I : Nat → Nat → Int32} {J : Nat → Nat → Int64}
    (h : pm_Ev d 169 [.ref 85, .int (nI 0)] (pm_hp L fz t I J) (K_X11_laysNow_5 d fz t Q)) :
    t_X11_laysNow_0 d L fz t Q I J := by
  exact pm_go d [(5, [0]), (17, [])] 400 h
theorem e_X11_laysNow {d L : Nat} {fz t : Bool} {Q : pm_R → pm_H → Prop} {I : Nat → Nat → Int32} {J : Nat → Nat → Int64}
    (h : pm_Ev d 169 [.ref 85, .int (nI 0)] (pm_hp L fz t I J) (K_X11_laysNow_5 d fz t Q)) :
    pm_Ev (d + 1) 199 [.ref 85] (pm_hp L fz t I J) Q := pm_Ev_in rfl (b_X11_laysNow_0 h)
set_option maxRecDepth 100000 in
theorem b_X11_laysNow_5 {d L : Nat} {fz t : Bool} {Q : pm_R → pm_H → Prop} {I : Nat → Nat → Int32} {J : Nat → Nat → Int64}
    (h : pm_Ev d 122 [.ref 85, .ref 107, .ref 108] (pm_hp L fz t I J) (K_X11_laysNow_17 d fz t Q)) :
    t_X11_laysNow_5 d L fz t Q I J := by
  exact pm_go d [(5, [0]), (17, [])] 400 h
theorem kb_X11_laysNow_5 {d L : Nat} {fz t : Bool} {Q : pm_R → pm_H → Prop} {fz1 : Bool} {I : Nat → Nat → Int32} {J : Nat → Nat → Int64}
    (h : pm_Ev d 122 [.ref 85, .ref 107, .ref 108] (pm_hp L fz t I J) (K_X11_laysNow_17 d fz t Q)) :
    K_X11_laysNow_5 d fz t Q (.inl none) (pm_hp L fz1 t I J) := b_X11_laysNow_5 h
set_option maxRecDepth 100000 in
theorem b_X11_laysNow_17 {d L : Nat} {fz t : Bool} {Q : pm_R → pm_H → Prop} {I : Nat → Nat → Int32} {J : Nat → Nat → Int64}
    (h : Q (.inl none) (pm_hp L fz t I J)) :
    t_X11_laysNow_17 d L fz t Q I J := by
  exact pm_go d [(5, [0]), (17, [])] 400 h
theorem kb_X11_laysNow_17 {d L : Nat} {fz t : Bool} {Q : pm_R → pm_H → Prop} {fz1 : Bool} {I : Nat → Nat → Int32} {J : Nat → Nat → Int64}
    (h : Q (.inl none) (pm_hp L fz t I J)) :
    K_X11_laysNow_17 d fz t Q (.inl none) (pm_hp L fz1 t I J) := b_X11_laysNow_17 h
def t_X11_isLikeNow_0 (d L : Nat) (fz t : Bool) (Q : pm_R → pm_H → Prop) (I : Nat → Nat → Int32) (J : Nat → Nat → Int64) : Prop := pm_T (pm_Ev d) 200 Q (0, [(0, .ref 85)], [], pm_hp L fz t I J, 0, 0)
def t_X11_isLikeNow_2 (d L : Nat) (fz t : Bool) (Q : pm_R → pm_H → Prop) (x1 : Int32) (I : Nat → Nat → Int32) (J : Nat → Nat → Int64) : Prop := pm_T (pm_Ev d) 200 Q (2, [(0, .ref 85), (1, .int x1)], [], pm_hp L fz t I J, 0, 0)
set_option maxRecDepth 100000 in
theorem b_X11_isLikeNow_0 {d L : Nat} {fz t : Bool} {Q : pm_R → pm_H → Prop} {I : Nat → Nat → Int32} {J : Nat → Nat → Int64}
    (h : t_X11_isLikeNow_2 d L fz t Q (nI 0) I J) :
    t_X11_isLikeNow_0 d L fz t Q I J := by
  exact pm_go d [(2, [0, 1])] 400 h
theorem e_X11_isLikeNow {d L : Nat} {fz t : Bool} {Q : pm_R → pm_H → Prop} {I : Nat → Nat → Int32} {J : Nat → Nat → Int64}
    (h : t_X11_isLikeNow_2 d L fz t Q (nI 0) I J) :
    pm_Ev (d + 1) 200 [.ref 85] (pm_hp L fz t I J) Q := pm_Ev_in rfl (b_X11_isLikeNow_0 h)
set_option maxRecDepth 100000 in
theorem b_X11_isLikeNow_2 {d L : Nat} {fz t : Bool} {Q : pm_R → pm_H → Prop} {x1 : Int32} {I : Nat → Nat → Int32} {J : Nat → Nat → Int64}
    (h : (((I 85 3) ≤ x1 → Q (.inl (some (.int (nI 1)))) (pm_hp L fz t I J)) ∧ (¬ (I 85 3) ≤ x1 → (vp_in x1 12 ∧ (vp_in x1 12 ∧ (((I 107 (x1).toNatClampNeg) = (I 108 (x1).toNatClampNeg) → t_X11_isLikeNow_2 d L fz t Q (x1 + (nI 1)) I J) ∧ (¬ (I 107 (x1).toNatClampNeg) = (I 108 (x1).toNatClampNeg) → Q (.inl (some (.int (nI 0)))) (pm_hp L fz t I J)))))))) :
    t_X11_isLikeNow_2 d L fz t Q x1 I J := by
  exact pm_go d [(2, [0, 1])] 400 ⟨fun q0 => ⟨Or.inr rfl, ((h).1 q0)⟩, fun q0 => ⟨(((h).2 q0)).1, ⟨((((h).2 q0)).2).1, ⟨fun q1 => ((((((h).2 q0)).2).2).1 q1), fun q1 => ⟨Or.inl rfl, ((((((h).2 q0)).2).2).2 q1)⟩⟩⟩⟩⟩
def t_X11_changes_0 (d L : Nat) (fz t : Bool) (Q : pm_R → pm_H → Prop) (I : Nat → Nat → Int32) (J : Nat → Nat → Int64) : Prop := pm_T (pm_Ev d) 201 Q (0, [(0, .ref 85)], [], pm_hp L fz t I J, 0, 0)
def t_X11_changes_9 (d L : Nat) (fz t : Bool) (Q : pm_R → pm_H → Prop) (I : Nat → Nat → Int32) (J : Nat → Nat → Int64) : Prop := pm_T (pm_Ev d) 201 Q (9, [(0, .ref 85)], [], pm_hp L fz t I J, 0, 0)
def K_X11_changes_9 (d : Nat) (fz t : Bool) (Q : pm_R → pm_H → Prop) : pm_R → pm_H → Prop := pm_K d 201 Q 9 [(0, .ref 85)] [] 118 0 fz 0 0
def t_X11_changes_13 (d L : Nat) (fz t : Bool) (Q : pm_R → pm_H → Prop) (I : Nat → Nat → Int32) (J : Nat → Nat → Int64) : Prop := pm_T (pm_Ev d) 201 Q (13, [(0, .ref 85)], [], pm_hp L fz t I J, 0, 0)
def K_X11_changes_13 (d : Nat) (fz t : Bool) (Q : pm_R → pm_H → Prop) : pm_R → pm_H → Prop := pm_K d 201 Q 13 [(0, .ref 85)] [] 118 0 fz 0 0
def t_X11_changes_15 (d L : Nat) (fz t : Bool) (Q : pm_R → pm_H → Prop) (x1 : Int32) (I : Nat → Nat → Int32) (J : Nat → Nat → Int64) : Prop := pm_T (pm_Ev d) 201 Q (15, [(0, .ref 85), (1, .int x1)], [], pm_hp L fz t I J, 0, 0)
def t_X11_changes_27 (d L : Nat) (fz t : Bool) (Q : pm_R → pm_H → Prop) (x1 : Int32) (I : Nat → Nat → Int32) (J : Nat → Nat → Int64) : Prop := pm_T (pm_Ev d) 201 Q (27, [(0, .ref 85), (1, .int x1)], [], pm_hp L fz t I J, 0, 0)
def K_X11_changes_27 (d : Nat) (fz t : Bool) (Q : pm_R → pm_H → Prop) (x1 : Int32) : pm_R → pm_H → Prop := pm_K d 201 Q 27 [(0, .ref 85), (1, .int x1)] [] 118 0 fz 0 0
def t_X11_changes_33 (d L : Nat) (fz t : Bool) (Q : pm_R → pm_H → Prop) (x1 : Int32) (I : Nat → Nat → Int32) (J : Nat → Nat → Int64) : Prop := pm_T (pm_Ev d) 201 Q (33, [(0, .ref 85), (1, .int x1)], [], pm_hp L fz t I J, 0, 0)
def K_X11_changes_33 (d : Nat) (fz t : Bool) (Q : pm_R → pm_H → Prop) (x1 : Int32) : pm_R → pm_H → Prop := pm_K d 201 Q 33 [(0, .ref 85), (1, .int x1)] [] 118 0 fz 0 0
def t_X11_changes_37 (d L : Nat) (fz t : Bool) (Q : pm_R → pm_H → Prop) (x1 : Int32) (r : Int32) (I : Nat → Nat → Int32) (J : Nat → Nat → Int64) : Prop := pm_T (pm_Ev d) 201 Q (37, [(0, .ref 85), (1, .int x1)], [.int r], pm_hp L fz t I J, 0, 0)
def K_X11_changes_37 (d : Nat) (fz t : Bool) (Q : pm_R → pm_H → Prop) (x1 : Int32) : pm_R → pm_H → Prop := pm_K d 201 Q 37 [(0, .ref 85), (1, .int x1)] [] 118 0 fz 0 0
set_option maxRecDepth 100000 in
theorem b_X11_changes_0 {d L : Nat} {fz t : Bool} {Q : pm_R → pm_H → Prop} {I : Nat → Nat → Int32} {J : Nat → Nat → Int64}
    (h : pm_Ev d 199 [.ref 85] (pm_hp L fz t (pm_u I 85 0 (nI 0)) J) (K_X11_changes_9 d fz t Q)) :
    t_X11_changes_0 d L fz t Q I J := by
  exact pm_go d [(9, [0]), (13, [0]), (15, [0, 1]), (27, [0, 1]), (33, [0, 1]), (37, [0, 1])] 400 h
theorem e_X11_changes {d L : Nat} {fz t : Bool} {Q : pm_R → pm_H → Prop} {I : Nat → Nat → Int32} {J : Nat → Nat → Int64}
    (h : pm_Ev d 199 [.ref 85] (pm_hp L fz t (pm_u I 85 0 (nI 0)) J) (K_X11_changes_9 d fz t Q)) :
    pm_Ev (d + 1) 201 [.ref 85] (pm_hp L fz t I J) Q := pm_Ev_in rfl (b_X11_changes_0 h)
set_option maxRecDepth 100000 in
theorem b_X11_changes_9 {d L : Nat} {fz t : Bool} {Q : pm_R → pm_H → Prop} {I : Nat → Nat → Int32} {J : Nat → Nat → Int64}
    (h : pm_Ev d 160 [.ref 85] (pm_hp L fz t I J) (K_X11_changes_13 d fz t Q)) :
    t_X11_changes_9 d L fz t Q I J := by
  exact pm_go d [(9, [0]), (13, [0]), (15, [0, 1]), (27, [0, 1]), (33, [0, 1]), (37, [0, 1])] 400 h
theorem kb_X11_changes_9 {d L : Nat} {fz t : Bool} {Q : pm_R → pm_H → Prop} {fz1 : Bool} {I : Nat → Nat → Int32} {J : Nat → Nat → Int64}
    (h : pm_Ev d 160 [.ref 85] (pm_hp L fz t I J) (K_X11_changes_13 d fz t Q)) :
    K_X11_changes_9 d fz t Q (.inl none) (pm_hp L fz1 t I J) := b_X11_changes_9 h
set_option maxRecDepth 100000 in
theorem b_X11_changes_13 {d L : Nat} {fz t : Bool} {Q : pm_R → pm_H → Prop} {I : Nat → Nat → Int32} {J : Nat → Nat → Int64}
    (h : t_X11_changes_15 d L fz t Q (nI 1) I J) :
    t_X11_changes_13 d L fz t Q I J := by
  exact pm_go d [(9, [0]), (13, [0]), (15, [0, 1]), (27, [0, 1]), (33, [0, 1]), (37, [0, 1])] 400 h
theorem kb_X11_changes_13 {d L : Nat} {fz t : Bool} {Q : pm_R → pm_H → Prop} {fz1 : Bool} {I : Nat → Nat → Int32} {J : Nat → Nat → Int64}
    (h : t_X11_changes_15 d L fz t Q (nI 1) I J) :
    K_X11_changes_13 d fz t Q (.inl none) (pm_hp L fz1 t I J) := b_X11_changes_13 h
set_option maxRecDepth 100000 in
theorem b_X11_changes_15 {d L : Nat} {fz t : Bool} {Q : pm_R → pm_H → Prop} {x1 : Int32} {I : Nat → Nat → Int32} {J : Nat → Nat → Int64}
    (h : (((nI 30) < x1 → Q (.inl (some (.int (-1 : Int32)))) (pm_hp L fz t I J)) ∧ (¬ (nI 30) < x1 → pm_Ev d 174 [.ref 85, .int (nI 34)] (pm_hp L fz t I J) (K_X11_changes_27 d fz t Q x1)))) :
    t_X11_changes_15 d L fz t Q x1 I J := by
  exact pm_go d [(9, [0]), (13, [0]), (15, [0, 1]), (27, [0, 1]), (33, [0, 1]), (37, [0, 1])] 400 ⟨fun q0 => ((h).1 q0), fun q0 => ((h).2 q0)⟩
set_option maxRecDepth 100000 in
theorem b_X11_changes_27 {d L : Nat} {fz t : Bool} {Q : pm_R → pm_H → Prop} {x1 : Int32} {I : Nat → Nat → Int32} {J : Nat → Nat → Int64}
    (h : pm_Ev d 169 [.ref 85, .int (nI 34)] (pm_hp L fz t I J) (K_X11_changes_33 d fz t Q x1)) :
    t_X11_changes_27 d L fz t Q x1 I J := by
  exact pm_go d [(9, [0]), (13, [0]), (15, [0, 1]), (27, [0, 1]), (33, [0, 1]), (37, [0, 1])] 400 h
theorem kb_X11_changes_27 {d L : Nat} {fz t : Bool} {Q : pm_R → pm_H → Prop} {x1 : Int32} {fz1 : Bool} {I : Nat → Nat → Int32} {J : Nat → Nat → Int64}
    (h : pm_Ev d 169 [.ref 85, .int (nI 34)] (pm_hp L fz t I J) (K_X11_changes_33 d fz t Q x1)) :
    K_X11_changes_27 d fz t Q x1 (.inl none) (pm_hp L fz1 t I J) := b_X11_changes_27 h
set_option maxRecDepth 100000 in
theorem b_X11_changes_33 {d L : Nat} {fz t : Bool} {Q : pm_R → pm_H → Prop} {x1 : Int32} {I : Nat → Nat → Int32} {J : Nat → Nat → Int64}
    (h : pm_Ev d 200 [.ref 85] (pm_hp L fz t I J) (K_X11_changes_37 d fz t Q x1)) :
    t_X11_changes_33 d L fz t Q x1 I J := by
  exact pm_go d [(9, [0]), (13, [0]), (15, [0, 1]), (27, [0, 1]), (33, [0, 1]), (37, [0, 1])] 400 h
theorem kb_X11_changes_33 {d L : Nat} {fz t : Bool} {Q : pm_R → pm_H → Prop} {x1 : Int32} {fz1 : Bool} {I : Nat → Nat → Int32} {J : Nat → Nat → Int64}
    (h : pm_Ev d 200 [.ref 85] (pm_hp L fz t I J) (K_X11_changes_37 d fz t Q x1)) :
    K_X11_changes_33 d fz t Q x1 (.inl none) (pm_hp L fz1 t I J) := b_X11_changes_33 h
set_option maxRecDepth 100000 in
theorem b_X11_changes_37 {d L : Nat} {fz t : Bool} {Q : pm_R → pm_H → Prop} {x1 : Int32} {r : Int32} {I : Nat → Nat → Int32} {J : Nat → Nat → Int64}
    (h : ((¬ r = (nI 0) → t_X11_changes_15 d L fz t Q (x1 + (nI 1)) I J) ∧ (r = (nI 0) → Q (.inl (some (.int x1))) (pm_hp L fz t I J)))) :
    t_X11_changes_37 d L fz t Q x1 r I J := by
  exact pm_go d [(9, [0]), (13, [0]), (15, [0, 1]), (27, [0, 1]), (33, [0, 1]), (37, [0, 1])] 400 ⟨fun q0 => ((h).1 q0), fun q0 => ((h).2 q0)⟩
theorem kb_X11_changes_37 {d L : Nat} {fz t : Bool} {Q : pm_R → pm_H → Prop} {x1 : Int32} {r : Int32} {fz1 : Bool} {I : Nat → Nat → Int32} {J : Nat → Nat → Int64}
    (h : ((¬ r = (nI 0) → t_X11_changes_15 d L fz t Q (x1 + (nI 1)) I J) ∧ (r = (nI 0) → Q (.inl (some (.int x1))) (pm_hp L fz t I J)))) :
    K_X11_changes_37 d fz t Q x1 (.inl (some (.int r))) (pm_hp L fz1 t I J) := b_X11_changes_37 h
def t_X11_floatOf_0 (d L : Nat) (fz t : Bool) (Q : pm_R → pm_H → Prop) (x1 : Int32) (I : Nat → Nat → Int32) (J : Nat → Nat → Int64) : Prop := pm_T (pm_Ev d) 202 Q (0, [(0, .ref 85), (1, .int x1)], [], pm_hp L fz t I J, 0, 0)
def t_X11_floatOf_7 (d L : Nat) (fz t : Bool) (Q : pm_R → pm_H → Prop) (x1 : Int32) (x2 : Int32) (x3 : Int32) (x4 : Int32) (I : Nat → Nat → Int32) (J : Nat → Nat → Int64) : Prop := pm_T (pm_Ev d) 202 Q (7, [(0, .ref 85), (1, .int x1), (2, .int x2), (3, .int x3), (4, .int x4)], [], pm_hp L fz t I J, 0, 0)
set_option maxRecDepth 100000 in
theorem b_X11_floatOf_0 {d L : Nat} {fz t : Bool} {Q : pm_R → pm_H → Prop} {x1 : Int32} {I : Nat → Nat → Int32} {J : Nat → Nat → Int64}
    (h : t_X11_floatOf_7 d L fz t Q x1 (nI 0) (nI 0) (nI 0) I J) :
    t_X11_floatOf_0 d L fz t Q x1 I J := by
  exact pm_go d [(7, [0, 1, 2, 3, 4])] 400 h
theorem e_X11_floatOf {d L : Nat} {fz t : Bool} {Q : pm_R → pm_H → Prop} {x1 : Int32} {I : Nat → Nat → Int32} {J : Nat → Nat → Int64}
    (h : t_X11_floatOf_7 d L fz t Q x1 (nI 0) (nI 0) (nI 0) I J) :
    pm_Ev (d + 1) 202 [.ref 85, .int x1] (pm_hp L fz t I J) Q := pm_Ev_in rfl (b_X11_floatOf_0 h)
set_option maxRecDepth 100000 in
theorem b_X11_floatOf_7 {d L : Nat} {fz t : Bool} {Q : pm_R → pm_H → Prop} {x1 : Int32} {x2 : Int32} {x3 : Int32} {x4 : Int32} {I : Nat → Nat → Int32} {J : Nat → Nat → Int64}
    (h : (((I 85 3) ≤ x4 → Q (.inl (some (.int x2))) (pm_hp L fz t I J)) ∧ (¬ (I 85 3) ≤ x4 → ((x4 ≤ (nI 0) → (((nI 1) ≤ x2 → t_X11_floatOf_7 d L fz t Q x1 x2 (nI 1) (x4 + (nI 1)) I J) ∧ (¬ (nI 1) ≤ x2 → t_X11_floatOf_7 d L fz t Q x1 (nI 1) (nI 1) (x4 + (nI 1)) I J))) ∧ (¬ x4 ≤ (nI 0) → (vp_in x4 12 ∧ (vp_in (x4 - (nI 1)) 12 ∧ ((¬ (((I 107 (x4).toNatClampNeg) >>> (x1 &&& 31)) &&& (nI 1)) = (((I 107 ((x4 - (nI 1))).toNatClampNeg) >>> (x1 &&& 31)) &&& (nI 1)) → (((nI 1) ≤ x2 → t_X11_floatOf_7 d L fz t Q x1 x2 (nI 1) (x4 + (nI 1)) I J) ∧ (¬ (nI 1) ≤ x2 → t_X11_floatOf_7 d L fz t Q x1 (nI 1) (nI 1) (x4 + (nI 1)) I J))) ∧ ((((I 107 (x4).toNatClampNeg) >>> (x1 &&& 31)) &&& (nI 1)) = (((I 107 ((x4 - (nI 1))).toNatClampNeg) >>> (x1 &&& 31)) &&& (nI 1)) → (((x3 + (nI 1)) ≤ x2 → t_X11_floatOf_7 d L fz t Q x1 x2 (x3 + (nI 1)) (x4 + (nI 1)) I J) ∧ (¬ (x3 + (nI 1)) ≤ x2 → t_X11_floatOf_7 d L fz t Q x1 (x3 + (nI 1)) (x3 + (nI 1)) (x4 + (nI 1)) I J))))))))))) :
    t_X11_floatOf_7 d L fz t Q x1 x2 x3 x4 I J := by
  exact pm_go d [(7, [0, 1, 2, 3, 4])] 400 ⟨fun q0 => ((h).1 q0), fun q0 => ⟨fun q1 => ⟨fun q2 => ((((((h).2 q0)).1 q1)).1 q2), fun q2 => ((((((h).2 q0)).1 q1)).2 q2)⟩, fun q1 => ⟨(((((h).2 q0)).2 q1)).1, ⟨((((((h).2 q0)).2 q1)).2).1, ⟨fun q2 => ⟨fun q3 => ((((((((((h).2 q0)).2 q1)).2).2).1 q2)).1 q3), fun q3 => ((((((((((h).2 q0)).2 q1)).2).2).1 q2)).2 q3)⟩, fun q2 => ⟨fun q3 => ((((((((((h).2 q0)).2 q1)).2).2).2 q2)).1 q3), fun q3 => ((((((((((h).2 q0)).2 q1)).2).2).2 q2)).2 q3)⟩⟩⟩⟩⟩⟩
def t_X11_floats_0 (d L : Nat) (fz t : Bool) (Q : pm_R → pm_H → Prop) (x1 : Int32) (I : Nat → Nat → Int32) (J : Nat → Nat → Int64) : Prop := pm_T (pm_Ev d) 203 Q (0, [(0, .ref 85), (1, .int x1)], [], pm_hp L fz t I J, 0, 0)
def t_X11_floats_28 (d L : Nat) (fz t : Bool) (Q : pm_R → pm_H → Prop) (x1 : Int32) (r : Int32) (I : Nat → Nat → Int32) (J : Nat → Nat → Int64) : Prop := pm_T (pm_Ev d) 203 Q (28, [(0, .ref 85), (1, .int x1)], [.int r], pm_hp L fz t I J, 0, 0)
def K_X11_floats_28 (d : Nat) (fz t : Bool) (Q : pm_R → pm_H → Prop) (x1 : Int32) : pm_R → pm_H → Prop := pm_K d 203 Q 28 [(0, .ref 85), (1, .int x1)] [] 118 0 fz 0 0
def t_X11_floats_38 (d L : Nat) (fz t : Bool) (Q : pm_R → pm_H → Prop) (x1 : Int32) (I : Nat → Nat → Int32) (J : Nat → Nat → Int64) : Prop := pm_T (pm_Ev d) 203 Q (38, [(0, .ref 85), (1, .int x1)], [], pm_hp L fz t I J, 0, 0)
def K_X11_floats_38 (d : Nat) (fz t : Bool) (Q : pm_R → pm_H → Prop) (x1 : Int32) : pm_R → pm_H → Prop := pm_K d 203 Q 38 [(0, .ref 85), (1, .int x1)] [] 118 0 fz 0 0
def t_X11_floats_53 (d L : Nat) (fz t : Bool) (Q : pm_R → pm_H → Prop) (x2 : Int32) (x3 : Int32) (I : Nat → Nat → Int32) (J : Nat → Nat → Int64) : Prop := pm_T (pm_Ev d) 203 Q (53, [(0, .ref 85), (2, .int x2), (3, .int x3)], [], pm_hp L fz t I J, 0, 0)
def t_X11_floats_48 (d L : Nat) (fz t : Bool) (Q : pm_R → pm_H → Prop) (r : Int32) (I : Nat → Nat → Int32) (J : Nat → Nat → Int64) : Prop := pm_T (pm_Ev d) 203 Q (48, [], [.int r], pm_hp L fz t I J, 0, 0)
def K_X11_floats_48 (d : Nat) (fz t : Bool) (Q : pm_R → pm_H → Prop) : pm_R → pm_H → Prop := pm_K d 203 Q 48 [] [] 118 0 fz 0 0
def t_X11_floats_66 (d L : Nat) (fz t : Bool) (Q : pm_R → pm_H → Prop) (x2 : Int32) (x3 : Int32) (r : Int32) (I : Nat → Nat → Int32) (J : Nat → Nat → Int64) : Prop := pm_T (pm_Ev d) 203 Q (66, [(0, .ref 85), (2, .int x2), (3, .int x3)], [.int r], pm_hp L fz t I J, 0, 0)
def K_X11_floats_66 (d : Nat) (fz t : Bool) (Q : pm_R → pm_H → Prop) (x2 : Int32) (x3 : Int32) : pm_R → pm_H → Prop := pm_K d 203 Q 66 [(0, .ref 85), (2, .int x2), (3, .int x3)] [] 118 0 fz 0 0
def t_X11_floats_71 (d L : Nat) (fz t : Bool) (Q : pm_R → pm_H → Prop) (x2 : Int32) (x3 : Int32) (s0 : Int32) (r : Int32) (I : Nat → Nat → Int32) (J : Nat → Nat → Int64) : Prop := pm_T (pm_Ev d) 203 Q (71, [(0, .ref 85), (2, .int x2), (3, .int x3)], [.int r, .int s0], pm_hp L fz t I J, 0, 0)
def K_X11_floats_71 (d : Nat) (fz t : Bool) (Q : pm_R → pm_H → Prop) (x2 : Int32) (x3 : Int32) (s0 : Int32) : pm_R → pm_H → Prop := pm_K d 203 Q 71 [(0, .ref 85), (2, .int x2), (3, .int x3)] [.int s0] 118 0 fz 0 0
set_option maxRecDepth 100000 in
theorem b_X11_floats_0 {d L : Nat} {fz t : Bool} {Q : pm_R → pm_H → Prop} {x1 : Int32} {I : Nat → Nat → Int32} {J : Nat → Nat → Int64}
    (h : ((x1 < (-1 : Int32) → pm_Ev d 118 [.ref 85, .int (nI 0), .int (nI 1)] (pm_hp L fz t (pm_u I 85 0 (nI 0)) J) (K_X11_floats_28 d fz t Q x1)) ∧ (¬ x1 < (-1 : Int32) → (((I 85 1) ≤ x1 → pm_Ev d 118 [.ref 85, .int (nI 0), .int (nI 1)] (pm_hp L fz t (pm_u I 85 0 (nI 0)) J) (K_X11_floats_28 d fz t Q x1)) ∧ (¬ (I 85 1) ≤ x1 → pm_Ev d 118 [.ref 85, .int (nI 1), .int (nI 1)] (pm_hp L fz t (pm_u I 85 0 (nI 0)) J) (K_X11_floats_28 d fz t Q x1)))))) :
    t_X11_floats_0 d L fz t Q x1 I J := by
  exact pm_go d [(28, [0, 1]), (38, [0, 1]), (48, []), (53, [0, 2, 3]), (66, [0, 2, 3]), (71, [0, 2, 3])] 400 ⟨fun q0 => ((h).1 q0), fun q0 => ⟨fun q1 => ((((h).2 q0)).1 q1), fun q1 => ((((h).2 q0)).2 q1)⟩⟩
theorem e_X11_floats {d L : Nat} {fz t : Bool} {Q : pm_R → pm_H → Prop} {x1 : Int32} {I : Nat → Nat → Int32} {J : Nat → Nat → Int64}
    (h : ((x1 < (-1 : Int32) → pm_Ev d 118 [.ref 85, .int (nI 0), .int (nI 1)] (pm_hp L fz t (pm_u I 85 0 (nI 0)) J) (K_X11_floats_28 d fz t Q x1)) ∧ (¬ x1 < (-1 : Int32) → (((I 85 1) ≤ x1 → pm_Ev d 118 [.ref 85, .int (nI 0), .int (nI 1)] (pm_hp L fz t (pm_u I 85 0 (nI 0)) J) (K_X11_floats_28 d fz t Q x1)) ∧ (¬ (I 85 1) ≤ x1 → pm_Ev d 118 [.ref 85, .int (nI 1), .int (nI 1)] (pm_hp L fz t (pm_u I 85 0 (nI 0)) J) (K_X11_floats_28 d fz t Q x1)))))) :
    pm_Ev (d + 1) 203 [.ref 85, .int x1] (pm_hp L fz t I J) Q := pm_Ev_in rfl (b_X11_floats_0 h)
set_option maxRecDepth 100000 in
theorem b_X11_floats_28 {d L : Nat} {fz t : Bool} {Q : pm_R → pm_H → Prop} {x1 : Int32} {r : Int32} {I : Nat → Nat → Int32} {J : Nat → Nat → Int64}
    (h : ((¬ r = (nI 0) → pm_Ev d 169 [.ref 85, .int (nI 0)] (pm_hp L fz t I J) (K_X11_floats_38 d fz t Q x1)) ∧ (r = (nI 0) → Q (.inl (some (.int (nI 0)))) (pm_hp L fz t I J)))) :
    t_X11_floats_28 d L fz t Q x1 r I J := by
  exact pm_go d [(28, [0, 1]), (38, [0, 1]), (48, []), (53, [0, 2, 3]), (66, [0, 2, 3]), (71, [0, 2, 3])] 400 ⟨fun q0 => ((h).1 q0), fun q0 => ((h).2 q0)⟩
theorem kb_X11_floats_28 {d L : Nat} {fz t : Bool} {Q : pm_R → pm_H → Prop} {x1 : Int32} {r : Int32} {fz1 : Bool} {I : Nat → Nat → Int32} {J : Nat → Nat → Int64}
    (h : ((¬ r = (nI 0) → pm_Ev d 169 [.ref 85, .int (nI 0)] (pm_hp L fz t I J) (K_X11_floats_38 d fz t Q x1)) ∧ (r = (nI 0) → Q (.inl (some (.int (nI 0)))) (pm_hp L fz t I J)))) :
    K_X11_floats_28 d fz t Q x1 (.inl (some (.int r))) (pm_hp L fz1 t I J) := b_X11_floats_28 h
set_option maxRecDepth 100000 in
theorem b_X11_floats_38 {d L : Nat} {fz t : Bool} {Q : pm_R → pm_H → Prop} {x1 : Int32} {I : Nat → Nat → Int32} {J : Nat → Nat → Int64}
    (h : ((x1 = (-1 : Int32) → t_X11_floats_53 d L fz t Q (nI 0) (nI 1) I J) ∧ (¬ x1 = (-1 : Int32) → pm_Ev d 202 [.ref 85, .int x1] (pm_hp L fz t I J) (K_X11_floats_48 d fz t Q)))) :
    t_X11_floats_38 d L fz t Q x1 I J := by
  exact pm_go d [(28, [0, 1]), (38, [0, 1]), (48, []), (53, [0, 2, 3]), (66, [0, 2, 3]), (71, [0, 2, 3])] 400 ⟨fun q0 => ((h).1 q0), fun q0 => ((h).2 q0)⟩
theorem kb_X11_floats_38 {d L : Nat} {fz t : Bool} {Q : pm_R → pm_H → Prop} {x1 : Int32} {fz1 : Bool} {I : Nat → Nat → Int32} {J : Nat → Nat → Int64}
    (h : ((x1 = (-1 : Int32) → t_X11_floats_53 d L fz t Q (nI 0) (nI 1) I J) ∧ (¬ x1 = (-1 : Int32) → pm_Ev d 202 [.ref 85, .int x1] (pm_hp L fz t I J) (K_X11_floats_48 d fz t Q)))) :
    K_X11_floats_38 d fz t Q x1 (.inl none) (pm_hp L fz1 t I J) := b_X11_floats_38 h
set_option maxRecDepth 100000 in
theorem b_X11_floats_53 {d L : Nat} {fz t : Bool} {Q : pm_R → pm_H → Prop} {x2 : Int32} {x3 : Int32} {I : Nat → Nat → Int32} {J : Nat → Nat → Int64}
    (h : (((I 85 1) ≤ x3 → Q (.inl (some (.int x2))) (pm_hp L fz t I J)) ∧ (¬ (I 85 1) ≤ x3 → pm_Ev d 202 [.ref 85, .int x3] (pm_hp L fz t I J) (K_X11_floats_66 d fz t Q x2 x3)))) :
    t_X11_floats_53 d L fz t Q x2 x3 I J := by
  exact pm_go d [(28, [0, 1]), (38, [0, 1]), (48, []), (53, [0, 2, 3]), (66, [0, 2, 3]), (71, [0, 2, 3])] 400 ⟨fun q0 => ((h).1 q0), fun q0 => ((h).2 q0)⟩
set_option maxRecDepth 100000 in
theorem b_X11_floats_48 {d L : Nat} {fz t : Bool} {Q : pm_R → pm_H → Prop} {r : Int32} {I : Nat → Nat → Int32} {J : Nat → Nat → Int64}
    (h : Q (.inl (some (.int r))) (pm_hp L fz t I J)) :
    t_X11_floats_48 d L fz t Q r I J := by
  exact pm_go d [(28, [0, 1]), (38, [0, 1]), (48, []), (53, [0, 2, 3]), (66, [0, 2, 3]), (71, [0, 2, 3])] 400 h
theorem kb_X11_floats_48 {d L : Nat} {fz t : Bool} {Q : pm_R → pm_H → Prop} {r : Int32} {fz1 : Bool} {I : Nat → Nat → Int32} {J : Nat → Nat → Int64}
    (h : Q (.inl (some (.int r))) (pm_hp L fz t I J)) :
    K_X11_floats_48 d fz t Q (.inl (some (.int r))) (pm_hp L fz1 t I J) := b_X11_floats_48 h
set_option maxRecDepth 100000 in
theorem b_X11_floats_66 {d L : Nat} {fz t : Bool} {Q : pm_R → pm_H → Prop} {x2 : Int32} {x3 : Int32} {r : Int32} {I : Nat → Nat → Int32} {J : Nat → Nat → Int64}
    (h : pm_Ev d 202 [.ref 85, .int x2] (pm_hp L fz t I J) (K_X11_floats_71 d fz t Q x2 x3 r)) :
    t_X11_floats_66 d L fz t Q x2 x3 r I J := by
  exact pm_go d [(28, [0, 1]), (38, [0, 1]), (48, []), (53, [0, 2, 3]), (66, [0, 2, 3]), (71, [0, 2, 3])] 400 h
theorem kb_X11_floats_66 {d L : Nat} {fz t : Bool} {Q : pm_R → pm_H → Prop} {x2 : Int32} {x3 : Int32} {r : Int32} {fz1 : Bool} {I : Nat → Nat → Int32} {J : Nat → Nat → Int64}
    (h : pm_Ev d 202 [.ref 85, .int x2] (pm_hp L fz t I J) (K_X11_floats_71 d fz t Q x2 x3 r)) :
    K_X11_floats_66 d fz t Q x2 x3 (.inl (some (.int r))) (pm_hp L fz1 t I J) := b_X11_floats_66 h
set_option maxRecDepth 100000 in
theorem b_X11_floats_71 {d L : Nat} {fz t : Bool} {Q : pm_R → pm_H → Prop} {x2 : Int32} {x3 : Int32} {s0 : Int32} {r : Int32} {I : Nat → Nat → Int32} {J : Nat → Nat → Int64}
    (h : ((s0 ≤ r → t_X11_floats_53 d L fz t Q x2 (x3 + (nI 1)) I J) ∧ (¬ s0 ≤ r → t_X11_floats_53 d L fz t Q x3 (x3 + (nI 1)) I J))) :
    t_X11_floats_71 d L fz t Q x2 x3 s0 r I J := by
  exact pm_go d [(28, [0, 1]), (38, [0, 1]), (48, []), (53, [0, 2, 3]), (66, [0, 2, 3]), (71, [0, 2, 3])] 400 ⟨fun q0 => ((h).1 q0), fun q0 => ((h).2 q0)⟩
theorem kb_X11_floats_71 {d L : Nat} {fz t : Bool} {Q : pm_R → pm_H → Prop} {x2 : Int32} {x3 : Int32} {s0 : Int32} {r : Int32} {fz1 : Bool} {I : Nat → Nat → Int32} {J : Nat → Nat → Int64}
    (h : ((s0 ≤ r → t_X11_floats_53 d L fz t Q x2 (x3 + (nI 1)) I J) ∧ (¬ s0 ≤ r → t_X11_floats_53 d L fz t Q x3 (x3 + (nI 1)) I J))) :
    K_X11_floats_71 d fz t Q x2 x3 s0 (.inl (some (.int r))) (pm_hp L fz1 t I J) := b_X11_floats_71 h
def t_X11_stands_0 (d L : Nat) (fz t : Bool) (Q : pm_R → pm_H → Prop) (x1 : Int32) (x2 : Int32) (I : Nat → Nat → Int32) (J : Nat → Nat → Int64) : Prop := pm_T (pm_Ev d) 204 Q (0, [(0, .ref 85), (1, .int x1), (2, .int x2)], [], pm_hp L fz t I J, 0, 0)
def t_X11_stands_10 (d L : Nat) (fz t : Bool) (Q : pm_R → pm_H → Prop) (x1 : Int32) (x2 : Int32) (r : Int32) (I : Nat → Nat → Int32) (J : Nat → Nat → Int64) : Prop := pm_T (pm_Ev d) 204 Q (10, [(0, .ref 85), (1, .int x1), (2, .int x2)], [.int r], pm_hp L fz t I J, 0, 0)
def K_X11_stands_10 (d : Nat) (fz t : Bool) (Q : pm_R → pm_H → Prop) (x1 : Int32) (x2 : Int32) : pm_R → pm_H → Prop := pm_K d 204 Q 10 [(0, .ref 85), (1, .int x1), (2, .int x2)] [] 118 0 fz 0 0
def t_X11_stands_19 (d L : Nat) (fz t : Bool) (Q : pm_R → pm_H → Prop) (x1 : Int32) (x2 : Int32) (r : Int32) (I : Nat → Nat → Int32) (J : Nat → Nat → Int64) : Prop := pm_T (pm_Ev d) 204 Q (19, [(0, .ref 85), (1, .int x1), (2, .int x2)], [.int r], pm_hp L fz t I J, 0, 0)
def K_X11_stands_19 (d : Nat) (fz t : Bool) (Q : pm_R → pm_H → Prop) (x1 : Int32) (x2 : Int32) : pm_R → pm_H → Prop := pm_K d 204 Q 19 [(0, .ref 85), (1, .int x1), (2, .int x2)] [] 118 0 fz 0 0
def t_X11_stands_29 (d L : Nat) (fz t : Bool) (Q : pm_R → pm_H → Prop) (x1 : Int32) (x2 : Int32) (I : Nat → Nat → Int32) (J : Nat → Nat → Int64) : Prop := pm_T (pm_Ev d) 204 Q (29, [(0, .ref 85), (1, .int x1), (2, .int x2)], [], pm_hp L fz t I J, 0, 0)
def K_X11_stands_29 (d : Nat) (fz t : Bool) (Q : pm_R → pm_H → Prop) (x1 : Int32) (x2 : Int32) : pm_R → pm_H → Prop := pm_K d 204 Q 29 [(0, .ref 85), (1, .int x1), (2, .int x2)] [] 118 0 fz 0 0
def t_X11_stands_44 (d L : Nat) (fz t : Bool) (Q : pm_R → pm_H → Prop) (x1 : Int32) (x3 : Int32) (x4 : Int32) (I : Nat → Nat → Int32) (J : Nat → Nat → Int64) : Prop := pm_T (pm_Ev d) 204 Q (44, [(0, .ref 85), (1, .int x1), (3, .int x3), (4, .int x4)], [], pm_hp L fz t I J, 0, 0)
def t_X11_stands_38 (d L : Nat) (fz t : Bool) (Q : pm_R → pm_H → Prop) (r : Int32) (I : Nat → Nat → Int32) (J : Nat → Nat → Int64) : Prop := pm_T (pm_Ev d) 204 Q (38, [], [.int r], pm_hp L fz t I J, 0, 0)
def K_X11_stands_38 (d : Nat) (fz t : Bool) (Q : pm_R → pm_H → Prop) : pm_R → pm_H → Prop := pm_K d 204 Q 38 [] [] 118 0 fz 0 0
def t_X11_stands_56 (d L : Nat) (fz t : Bool) (Q : pm_R → pm_H → Prop) (x1 : Int32) (x3 : Int32) (x4 : Int32) (x5 : Int32) (I : Nat → Nat → Int32) (J : Nat → Nat → Int64) : Prop := pm_T (pm_Ev d) 204 Q (56, [(0, .ref 85), (1, .int x1), (3, .int x3), (4, .int x4), (5, .int x5)], [], pm_hp L fz t I J, 0, 0)
def t_X11_stands_75 (d L : Nat) (fz t : Bool) (Q : pm_R → pm_H → Prop) (x1 : Int32) (x4 : Int32) (x5 : Int32) (s0 : Int32) (r : Int32) (I : Nat → Nat → Int32) (J : Nat → Nat → Int64) : Prop := pm_T (pm_Ev d) 204 Q (75, [(0, .ref 85), (1, .int x1), (4, .int x4), (5, .int x5)], [.int r, .int s0], pm_hp L fz t I J, 0, 0)
def K_X11_stands_75 (d : Nat) (fz t : Bool) (Q : pm_R → pm_H → Prop) (x1 : Int32) (x4 : Int32) (x5 : Int32) (s0 : Int32) : pm_R → pm_H → Prop := pm_K d 204 Q 75 [(0, .ref 85), (1, .int x1), (4, .int x4), (5, .int x5)] [.int s0] 118 0 fz 0 0
set_option maxRecDepth 100000 in
theorem b_X11_stands_0 {d L : Nat} {fz t : Bool} {Q : pm_R → pm_H → Prop} {x1 : Int32} {x2 : Int32} {I : Nat → Nat → Int32} {J : Nat → Nat → Int64}
    (h : pm_Ev d 182 [.ref 85, .int x1] (pm_hp L fz t (pm_u I 85 0 (nI 0)) J) (K_X11_stands_10 d fz t Q x1 x2)) :
    t_X11_stands_0 d L fz t Q x1 x2 I J := by
  exact pm_go d [(10, [0, 1, 2]), (19, [0, 1, 2]), (29, [0, 1, 2]), (38, []), (44, [0, 1, 3, 4]), (56, [0, 1, 3, 4, 5]), (75, [0, 1, 4, 5])] 400 h
theorem e_X11_stands {d L : Nat} {fz t : Bool} {Q : pm_R → pm_H → Prop} {x1 : Int32} {x2 : Int32} {I : Nat → Nat → Int32} {J : Nat → Nat → Int64}
    (h : pm_Ev d 182 [.ref 85, .int x1] (pm_hp L fz t (pm_u I 85 0 (nI 0)) J) (K_X11_stands_10 d fz t Q x1 x2)) :
    pm_Ev (d + 1) 204 [.ref 85, .int x1, .int x2] (pm_hp L fz t I J) Q := pm_Ev_in rfl (b_X11_stands_0 h)
set_option maxRecDepth 100000 in
theorem b_X11_stands_10 {d L : Nat} {fz t : Bool} {Q : pm_R → pm_H → Prop} {x1 : Int32} {x2 : Int32} {r : Int32} {I : Nat → Nat → Int32} {J : Nat → Nat → Int64}
    (h : ((r = (nI 0) → Q (.inl (some (.int (nI 0)))) (pm_hp L fz t I J)) ∧ (¬ r = (nI 0) → pm_Ev d 183 [.ref 85, .int x2, .int (nI 1)] (pm_hp L fz t I J) (K_X11_stands_19 d fz t Q x1 x2)))) :
    t_X11_stands_10 d L fz t Q x1 x2 r I J := by
  exact pm_go d [(10, [0, 1, 2]), (19, [0, 1, 2]), (29, [0, 1, 2]), (38, []), (44, [0, 1, 3, 4]), (56, [0, 1, 3, 4, 5]), (75, [0, 1, 4, 5])] 400 ⟨fun q0 => ((h).1 q0), fun q0 => ((h).2 q0)⟩
theorem kb_X11_stands_10 {d L : Nat} {fz t : Bool} {Q : pm_R → pm_H → Prop} {x1 : Int32} {x2 : Int32} {r : Int32} {fz1 : Bool} {I : Nat → Nat → Int32} {J : Nat → Nat → Int64}
    (h : ((r = (nI 0) → Q (.inl (some (.int (nI 0)))) (pm_hp L fz t I J)) ∧ (¬ r = (nI 0) → pm_Ev d 183 [.ref 85, .int x2, .int (nI 1)] (pm_hp L fz t I J) (K_X11_stands_19 d fz t Q x1 x2)))) :
    K_X11_stands_10 d fz t Q x1 x2 (.inl (some (.int r))) (pm_hp L fz1 t I J) := b_X11_stands_10 h
set_option maxRecDepth 100000 in
theorem b_X11_stands_19 {d L : Nat} {fz t : Bool} {Q : pm_R → pm_H → Prop} {x1 : Int32} {x2 : Int32} {r : Int32} {I : Nat → Nat → Int32} {J : Nat → Nat → Int64}
    (h : ((¬ r = (nI 0) → pm_Ev d 169 [.ref 85, .int (nI 0)] (pm_hp L fz t I J) (K_X11_stands_29 d fz t Q x1 x2)) ∧ (r = (nI 0) → Q (.inl (some (.int (nI 0)))) (pm_hp L fz t I J)))) :
    t_X11_stands_19 d L fz t Q x1 x2 r I J := by
  exact pm_go d [(10, [0, 1, 2]), (19, [0, 1, 2]), (29, [0, 1, 2]), (38, []), (44, [0, 1, 3, 4]), (56, [0, 1, 3, 4, 5]), (75, [0, 1, 4, 5])] 400 ⟨fun q0 => ((h).1 q0), fun q0 => ((h).2 q0)⟩
theorem kb_X11_stands_19 {d L : Nat} {fz t : Bool} {Q : pm_R → pm_H → Prop} {x1 : Int32} {x2 : Int32} {r : Int32} {fz1 : Bool} {I : Nat → Nat → Int32} {J : Nat → Nat → Int64}
    (h : ((¬ r = (nI 0) → pm_Ev d 169 [.ref 85, .int (nI 0)] (pm_hp L fz t I J) (K_X11_stands_29 d fz t Q x1 x2)) ∧ (r = (nI 0) → Q (.inl (some (.int (nI 0)))) (pm_hp L fz t I J)))) :
    K_X11_stands_19 d fz t Q x1 x2 (.inl (some (.int r))) (pm_hp L fz1 t I J) := b_X11_stands_19 h
set_option maxRecDepth 100000 in
theorem b_X11_stands_29 {d L : Nat} {fz t : Bool} {Q : pm_R → pm_H → Prop} {x1 : Int32} {x2 : Int32} {I : Nat → Nat → Int32} {J : Nat → Nat → Int64}
    (h : ((¬ x2 = (nI 0) → t_X11_stands_44 d L fz t Q x1 (nI 0) (nI 0) I J) ∧ (x2 = (nI 0) → pm_Ev d 171 [.ref 85, .int x1] (pm_hp L fz t I J) (K_X11_stands_38 d fz t Q)))) :
    t_X11_stands_29 d L fz t Q x1 x2 I J := by
  exact pm_go d [(10, [0, 1, 2]), (19, [0, 1, 2]), (29, [0, 1, 2]), (38, []), (44, [0, 1, 3, 4]), (56, [0, 1, 3, 4, 5]), (75, [0, 1, 4, 5])] 400 ⟨fun q0 => ((h).1 q0), fun q0 => ((h).2 q0)⟩
theorem kb_X11_stands_29 {d L : Nat} {fz t : Bool} {Q : pm_R → pm_H → Prop} {x1 : Int32} {x2 : Int32} {fz1 : Bool} {I : Nat → Nat → Int32} {J : Nat → Nat → Int64}
    (h : ((¬ x2 = (nI 0) → t_X11_stands_44 d L fz t Q x1 (nI 0) (nI 0) I J) ∧ (x2 = (nI 0) → pm_Ev d 171 [.ref 85, .int x1] (pm_hp L fz t I J) (K_X11_stands_38 d fz t Q)))) :
    K_X11_stands_29 d fz t Q x1 x2 (.inl none) (pm_hp L fz1 t I J) := b_X11_stands_29 h
set_option maxRecDepth 100000 in
theorem b_X11_stands_44 {d L : Nat} {fz t : Bool} {Q : pm_R → pm_H → Prop} {x1 : Int32} {x3 : Int32} {x4 : Int32} {I : Nat → Nat → Int32} {J : Nat → Nat → Int64}
    (h : (((I 85 3) ≤ x4 → Q (.inl (some (.int x3))) (pm_hp L fz t I J)) ∧ (¬ (I 85 3) ≤ x4 → t_X11_stands_56 d L fz t Q x1 x3 x4 (nI 0) I J))) :
    t_X11_stands_44 d L fz t Q x1 x3 x4 I J := by
  exact pm_go d [(10, [0, 1, 2]), (19, [0, 1, 2]), (29, [0, 1, 2]), (38, []), (44, [0, 1, 3, 4]), (56, [0, 1, 3, 4, 5]), (75, [0, 1, 4, 5])] 400 ⟨fun q0 => ((h).1 q0), fun q0 => ((h).2 q0)⟩
set_option maxRecDepth 100000 in
theorem b_X11_stands_38 {d L : Nat} {fz t : Bool} {Q : pm_R → pm_H → Prop} {r : Int32} {I : Nat → Nat → Int32} {J : Nat → Nat → Int64}
    (h : Q (.inl (some (.int r))) (pm_hp L fz t I J)) :
    t_X11_stands_38 d L fz t Q r I J := by
  exact pm_go d [(10, [0, 1, 2]), (19, [0, 1, 2]), (29, [0, 1, 2]), (38, []), (44, [0, 1, 3, 4]), (56, [0, 1, 3, 4, 5]), (75, [0, 1, 4, 5])] 400 h
theorem kb_X11_stands_38 {d L : Nat} {fz t : Bool} {Q : pm_R → pm_H → Prop} {r : Int32} {fz1 : Bool} {I : Nat → Nat → Int32} {J : Nat → Nat → Int64}
    (h : Q (.inl (some (.int r))) (pm_hp L fz t I J)) :
    K_X11_stands_38 d fz t Q (.inl (some (.int r))) (pm_hp L fz1 t I J) := b_X11_stands_38 h
set_option maxRecDepth 100000 in
theorem b_X11_stands_56 {d L : Nat} {fz t : Bool} {Q : pm_R → pm_H → Prop} {x1 : Int32} {x3 : Int32} {x4 : Int32} {x5 : Int32} {I : Nat → Nat → Int32} {J : Nat → Nat → Int64}
    (h : (((I 85 1) ≤ x5 → t_X11_stands_44 d L fz t Q x1 x3 (x4 + (nI 1)) I J) ∧ (¬ (I 85 1) ≤ x5 → pm_Ev d 170 [.ref 85, .int x1, .int x4, .int x5] (pm_hp L fz t I J) (K_X11_stands_75 d fz t Q x1 x4 x5 x3)))) :
    t_X11_stands_56 d L fz t Q x1 x3 x4 x5 I J := by
  exact pm_go d [(10, [0, 1, 2]), (19, [0, 1, 2]), (29, [0, 1, 2]), (38, []), (44, [0, 1, 3, 4]), (56, [0, 1, 3, 4, 5]), (75, [0, 1, 4, 5])] 400 ⟨fun q0 => ((h).1 q0), fun q0 => ((h).2 q0)⟩
set_option maxRecDepth 100000 in
theorem b_X11_stands_75 {d L : Nat} {fz t : Bool} {Q : pm_R → pm_H → Prop} {x1 : Int32} {x4 : Int32} {x5 : Int32} {s0 : Int32} {r : Int32} {I : Nat → Nat → Int32} {J : Nat → Nat → Int64}
    (h : ((r = (nI 0) → t_X11_stands_56 d L fz t Q x1 (s0 + (nI 0)) x4 (x5 + (nI 1)) I J) ∧ (¬ r = (nI 0) → t_X11_stands_56 d L fz t Q x1 (s0 + (nI 1)) x4 (x5 + (nI 1)) I J))) :
    t_X11_stands_75 d L fz t Q x1 x4 x5 s0 r I J := by
  exact pm_go d [(10, [0, 1, 2]), (19, [0, 1, 2]), (29, [0, 1, 2]), (38, []), (44, [0, 1, 3, 4]), (56, [0, 1, 3, 4, 5]), (75, [0, 1, 4, 5])] 400 ⟨fun q0 => ((h).1 q0), fun q0 => ((h).2 q0)⟩
theorem kb_X11_stands_75 {d L : Nat} {fz t : Bool} {Q : pm_R → pm_H → Prop} {x1 : Int32} {x4 : Int32} {x5 : Int32} {s0 : Int32} {r : Int32} {fz1 : Bool} {I : Nat → Nat → Int32} {J : Nat → Nat → Int64}
    (h : ((r = (nI 0) → t_X11_stands_56 d L fz t Q x1 (s0 + (nI 0)) x4 (x5 + (nI 1)) I J) ∧ (¬ r = (nI 0) → t_X11_stands_56 d L fz t Q x1 (s0 + (nI 1)) x4 (x5 + (nI 1)) I J))) :
    K_X11_stands_75 d fz t Q x1 x4 x5 s0 (.inl (some (.int r))) (pm_hp L fz1 t I J) := b_X11_stands_75 h
def t_X11_laysOrder_0 (d L : Nat) (fz t : Bool) (Q : pm_R → pm_H → Prop) (x1 : Int32) (I : Nat → Nat → Int32) (J : Nat → Nat → Int64) : Prop := pm_T (pm_Ev d) 205 Q (0, [(0, .ref 85), (1, .int x1)], [], pm_hp L fz t I J, 0, 0)
def t_X11_laysOrder_2 (d L : Nat) (fz t : Bool) (Q : pm_R → pm_H → Prop) (x1 : Int32) (x2 : Int32) (I : Nat → Nat → Int32) (J : Nat → Nat → Int64) : Prop := pm_T (pm_Ev d) 205 Q (2, [(0, .ref 85), (1, .int x1), (2, .int x2)], [], pm_hp L fz t I J, 0, 0)
def t_X11_laysOrder_8 (d L : Nat) (fz t : Bool) (Q : pm_R → pm_H → Prop) (x1 : Int32) (x2 : Int32) (x3 : Int32) (I : Nat → Nat → Int32) (J : Nat → Nat → Int64) : Prop := pm_T (pm_Ev d) 205 Q (8, [(0, .ref 85), (1, .int x1), (2, .int x2), (3, .int x3)], [], pm_hp L fz t I J, 0, 0)
def t_X11_laysOrder_33 (d L : Nat) (fz t : Bool) (Q : pm_R → pm_H → Prop) (x1 : Int32) (x2 : Int32) (x3 : Int32) (x4 : Int32) (x5 : Int32) (I : Nat → Nat → Int32) (J : Nat → Nat → Int64) : Prop := pm_T (pm_Ev d) 205 Q (33, [(0, .ref 85), (1, .int x1), (2, .int x2), (3, .int x3), (4, .int x4), (5, .int x5)], [], pm_hp L fz t I J, 0, 0)
def t_X11_laysOrder_76 (d L : Nat) (fz t : Bool) (Q : pm_R → pm_H → Prop) (x1 : Int32) (x2 : Int32) (x3 : Int32) (x5 : Int32) (s0 : Int32) (r : Int32) (I : Nat → Nat → Int32) (J : Nat → Nat → Int64) : Prop := pm_T (pm_Ev d) 205 Q (76, [(0, .ref 85), (1, .int x1), (2, .int x2), (3, .int x3), (5, .int x5)], [.int r, .int s0], pm_hp L fz t I J, 0, 0)
def K_X11_laysOrder_76 (d : Nat) (fz t : Bool) (Q : pm_R → pm_H → Prop) (x1 : Int32) (x2 : Int32) (x3 : Int32) (x5 : Int32) (s0 : Int32) : pm_R → pm_H → Prop := pm_K d 205 Q 76 [(0, .ref 85), (1, .int x1), (2, .int x2), (3, .int x3), (5, .int x5)] [.int s0] 118 0 fz 0 0
def t_X11_laysOrder_97 (d L : Nat) (fz t : Bool) (Q : pm_R → pm_H → Prop) (x1 : Int32) (x2 : Int32) (x3 : Int32) (x5 : Int32) (r : Int32) (I : Nat → Nat → Int32) (J : Nat → Nat → Int64) : Prop := pm_T (pm_Ev d) 205 Q (97, [(0, .ref 85), (1, .int x1), (2, .int x2), (3, .int x3), (5, .int x5)], [.int r], pm_hp L fz t I J, 0, 0)
def K_X11_laysOrder_97 (d : Nat) (fz t : Bool) (Q : pm_R → pm_H → Prop) (x1 : Int32) (x2 : Int32) (x3 : Int32) (x5 : Int32) : pm_R → pm_H → Prop := pm_K d 205 Q 97 [(0, .ref 85), (1, .int x1), (2, .int x2), (3, .int x3), (5, .int x5)] [] 118 0 fz 0 0
set_option maxRecDepth 100000 in
theorem b_X11_laysOrder_0 {d L : Nat} {fz t : Bool} {Q : pm_R → pm_H → Prop} {x1 : Int32} {I : Nat → Nat → Int32} {J : Nat → Nat → Int64}
    (h : t_X11_laysOrder_2 d L fz t Q x1 x1 I J) :
    t_X11_laysOrder_0 d L fz t Q x1 I J := by
  exact pm_go d [(2, [0, 1, 2]), (8, [0, 1, 2, 3]), (33, [0, 1, 2, 3, 4, 5]), (76, [0, 1, 2, 3, 5]), (97, [0, 1, 2, 3, 5])] 400 h
theorem e_X11_laysOrder {d L : Nat} {fz t : Bool} {Q : pm_R → pm_H → Prop} {x1 : Int32} {I : Nat → Nat → Int32} {J : Nat → Nat → Int64}
    (h : t_X11_laysOrder_2 d L fz t Q x1 x1 I J) :
    pm_Ev (d + 1) 205 [.ref 85, .int x1] (pm_hp L fz t I J) Q := pm_Ev_in rfl (b_X11_laysOrder_0 h)
set_option maxRecDepth 100000 in
theorem b_X11_laysOrder_2 {d L : Nat} {fz t : Bool} {Q : pm_R → pm_H → Prop} {x1 : Int32} {x2 : Int32} {I : Nat → Nat → Int32} {J : Nat → Nat → Int64}
    (h : ((x2 ≤ (nI 0) → Q (.inl none) (pm_hp L fz t I J)) ∧ (¬ x2 ≤ (nI 0) → t_X11_laysOrder_8 d L fz t Q x1 x2 (nI 0) I J))) :
    t_X11_laysOrder_2 d L fz t Q x1 x2 I J := by
  exact pm_go d [(2, [0, 1, 2]), (8, [0, 1, 2, 3]), (33, [0, 1, 2, 3, 4, 5]), (76, [0, 1, 2, 3, 5]), (97, [0, 1, 2, 3, 5])] 400 ⟨fun q0 => ((h).1 q0), fun q0 => ((h).2 q0)⟩
set_option maxRecDepth 100000 in
theorem b_X11_laysOrder_8 {d L : Nat} {fz t : Bool} {Q : pm_R → pm_H → Prop} {x1 : Int32} {x2 : Int32} {x3 : Int32} {I : Nat → Nat → Int32} {J : Nat → Nat → Int64}
    (h : (((I 85 3) ≤ x3 → t_X11_laysOrder_2 d L fz t Q x1 (x2 + (-1 : Int32)) I J) ∧ (¬ (I 85 3) ≤ x3 → ((¬ x2 = x1 → t_X11_laysOrder_33 d L fz t Q x1 x2 x3 (nI 99999) (nI 0) I J) ∧ (x2 = x1 → t_X11_laysOrder_33 d L fz t Q x1 x2 x3 (nI 0) (nI 0) I J))))) :
    t_X11_laysOrder_8 d L fz t Q x1 x2 x3 I J := by
  exact pm_go d [(2, [0, 1, 2]), (8, [0, 1, 2, 3]), (33, [0, 1, 2, 3, 4, 5]), (76, [0, 1, 2, 3, 5]), (97, [0, 1, 2, 3, 5])] 400 ⟨fun q0 => ((h).1 q0), fun q0 => ⟨fun q1 => ((((h).2 q0)).1 q1), fun q1 => ((((h).2 q0)).2 q1)⟩⟩
set_option maxRecDepth 100000 in
theorem b_X11_laysOrder_33 {d L : Nat} {fz t : Bool} {Q : pm_R → pm_H → Prop} {x1 : Int32} {x2 : Int32} {x3 : Int32} {x4 : Int32} {x5 : Int32} {I : Nat → Nat → Int32} {J : Nat → Nat → Int64}
    (h : (((I 85 3) ≤ x5 → (vp_in (((nI 9) * x2) + x3) 4608 ∧ t_X11_laysOrder_8 d L fz t Q x1 x2 (x3 + (nI 1)) (pm_u I 109 ((((nI 9) * x2) + x3)).toNatClampNeg x4) J)) ∧ (¬ (I 85 3) ≤ x5 → ((¬ ((x2 >>> (x5 &&& 31)) &&& (nI 1)) = (nI 0) → t_X11_laysOrder_33 d L fz t Q x1 x2 x3 x4 (x5 + (nI 1)) I J) ∧ (((x2 >>> (x5 &&& 31)) &&& (nI 1)) = (nI 0) → (vp_in ((nI 22) + x3) 68 ∧ (vp_in ((nI 22) + x5) 68 ∧ pm_Ev d 166 [.ref 85, .int (I 103 (((nI 22) + x3)).toNatClampNeg), .int (I 103 (((nI 22) + x5)).toNatClampNeg)] (pm_hp L fz t I J) (K_X11_laysOrder_76 d fz t Q x1 x2 x3 x5 x4)))))))) :
    t_X11_laysOrder_33 d L fz t Q x1 x2 x3 x4 x5 I J := by
  exact pm_go d [(2, [0, 1, 2]), (8, [0, 1, 2, 3]), (33, [0, 1, 2, 3, 4, 5]), (76, [0, 1, 2, 3, 5]), (97, [0, 1, 2, 3, 5])] 400 ⟨fun q0 => ⟨(((h).1 q0)).1, (((h).1 q0)).2⟩, fun q0 => ⟨fun q1 => ((((h).2 q0)).1 q1), fun q1 => ⟨(((((h).2 q0)).2 q1)).1, ⟨((((((h).2 q0)).2 q1)).2).1, ((((((h).2 q0)).2 q1)).2).2⟩⟩⟩⟩
set_option maxRecDepth 100000 in
theorem b_X11_laysOrder_76 {d L : Nat} {fz t : Bool} {Q : pm_R → pm_H → Prop} {x1 : Int32} {x2 : Int32} {x3 : Int32} {x5 : Int32} {s0 : Int32} {r : Int32} {I : Nat → Nat → Int32} {J : Nat → Nat → Int64}
    (h : (vp_in (((nI 9) * (x2 ||| ((nI 1) <<< (x5 &&& 31)))) + x5) 4608 ∧ pm_Ev d 121 [.int s0, .int (r + (I 109 ((((nI 9) * (x2 ||| ((nI 1) <<< (x5 &&& 31)))) + x5)).toNatClampNeg))] (pm_hp L fz t I J) (K_X11_laysOrder_97 d fz t Q x1 x2 x3 x5))) :
    t_X11_laysOrder_76 d L fz t Q x1 x2 x3 x5 s0 r I J := by
  exact pm_go d [(2, [0, 1, 2]), (8, [0, 1, 2, 3]), (33, [0, 1, 2, 3, 4, 5]), (76, [0, 1, 2, 3, 5]), (97, [0, 1, 2, 3, 5])] 400 ⟨(h).1, (h).2⟩
theorem kb_X11_laysOrder_76 {d L : Nat} {fz t : Bool} {Q : pm_R → pm_H → Prop} {x1 : Int32} {x2 : Int32} {x3 : Int32} {x5 : Int32} {s0 : Int32} {r : Int32} {fz1 : Bool} {I : Nat → Nat → Int32} {J : Nat → Nat → Int64}
    (h : (vp_in (((nI 9) * (x2 ||| ((nI 1) <<< (x5 &&& 31)))) + x5) 4608 ∧ pm_Ev d 121 [.int s0, .int (r + (I 109 ((((nI 9) * (x2 ||| ((nI 1) <<< (x5 &&& 31)))) + x5)).toNatClampNeg))] (pm_hp L fz t I J) (K_X11_laysOrder_97 d fz t Q x1 x2 x3 x5))) :
    K_X11_laysOrder_76 d fz t Q x1 x2 x3 x5 s0 (.inl (some (.int r))) (pm_hp L fz1 t I J) := b_X11_laysOrder_76 h
set_option maxRecDepth 100000 in
theorem b_X11_laysOrder_97 {d L : Nat} {fz t : Bool} {Q : pm_R → pm_H → Prop} {x1 : Int32} {x2 : Int32} {x3 : Int32} {x5 : Int32} {r : Int32} {I : Nat → Nat → Int32} {J : Nat → Nat → Int64}
    (h : t_X11_laysOrder_33 d L fz t Q x1 x2 x3 r (x5 + (nI 1)) I J) :
    t_X11_laysOrder_97 d L fz t Q x1 x2 x3 x5 r I J := by
  exact pm_go d [(2, [0, 1, 2]), (8, [0, 1, 2, 3]), (33, [0, 1, 2, 3, 4, 5]), (76, [0, 1, 2, 3, 5]), (97, [0, 1, 2, 3, 5])] 400 h
theorem kb_X11_laysOrder_97 {d L : Nat} {fz t : Bool} {Q : pm_R → pm_H → Prop} {x1 : Int32} {x2 : Int32} {x3 : Int32} {x5 : Int32} {r : Int32} {fz1 : Bool} {I : Nat → Nat → Int32} {J : Nat → Nat → Int64}
    (h : t_X11_laysOrder_33 d L fz t Q x1 x2 x3 r (x5 + (nI 1)) I J) :
    K_X11_laysOrder_97 d fz t Q x1 x2 x3 x5 (.inl (some (.int r))) (pm_hp L fz1 t I J) := b_X11_laysOrder_97 h
def t_X11_order_0 (d L : Nat) (fz t : Bool) (Q : pm_R → pm_H → Prop) (x1 : Int32) (I : Nat → Nat → Int32) (J : Nat → Nat → Int64) : Prop := pm_T (pm_Ev d) 206 Q (0, [(0, .ref 85), (1, .int x1)], [], pm_hp L fz t I J, 0, 0)
def t_X11_order_28 (d L : Nat) (fz t : Bool) (Q : pm_R → pm_H → Prop) (x1 : Int32) (r : Int32) (I : Nat → Nat → Int32) (J : Nat → Nat → Int64) : Prop := pm_T (pm_Ev d) 206 Q (28, [(0, .ref 85), (1, .int x1)], [.int r], pm_hp L fz t I J, 0, 0)
def K_X11_order_28 (d : Nat) (fz t : Bool) (Q : pm_R → pm_H → Prop) (x1 : Int32) : pm_R → pm_H → Prop := pm_K d 206 Q 28 [(0, .ref 85), (1, .int x1)] [] 118 0 fz 0 0
def t_X11_order_57 (d L : Nat) (fz t : Bool) (Q : pm_R → pm_H → Prop) (x1 : Int32) (I : Nat → Nat → Int32) (J : Nat → Nat → Int64) : Prop := pm_T (pm_Ev d) 206 Q (57, [(0, .ref 85), (1, .int x1)], [], pm_hp L fz t I J, 0, 0)
def K_X11_order_57 (d : Nat) (fz t : Bool) (Q : pm_R → pm_H → Prop) (x1 : Int32) : pm_R → pm_H → Prop := pm_K d 206 Q 57 [(0, .ref 85), (1, .int x1)] [] 118 0 fz 0 0
def t_X11_order_63 (d L : Nat) (fz t : Bool) (Q : pm_R → pm_H → Prop) (x1 : Int32) (x2 : Int32) (x3 : Int32) (I : Nat → Nat → Int32) (J : Nat → Nat → Int64) : Prop := pm_T (pm_Ev d) 206 Q (63, [(0, .ref 85), (1, .int x1), (2, .int x2), (3, .int x3)], [], pm_hp L fz t I J, 0, 0)
def t_X11_order_124 (d L : Nat) (fz t : Bool) (Q : pm_R → pm_H → Prop) (x1 : Int32) (x3 : Int32) (x4 : Int32) (x5 : Int32) (x6 : Int32) (I : Nat → Nat → Int32) (J : Nat → Nat → Int64) : Prop := pm_T (pm_Ev d) 206 Q (124, [(0, .ref 85), (1, .int x1), (3, .int x3), (4, .int x4), (5, .int x5), (6, .int x6)], [], pm_hp L fz t I J, 0, 0)
def t_X11_order_88 (d L : Nat) (fz t : Bool) (Q : pm_R → pm_H → Prop) (x1 : Int32) (x3 : Int32) (r : Int32) (I : Nat → Nat → Int32) (J : Nat → Nat → Int64) : Prop := pm_T (pm_Ev d) 206 Q (88, [(0, .ref 85), (1, .int x1), (3, .int x3)], [.int r], pm_hp L fz t I J, 0, 0)
def K_X11_order_88 (d : Nat) (fz t : Bool) (Q : pm_R → pm_H → Prop) (x1 : Int32) (x3 : Int32) : pm_R → pm_H → Prop := pm_K d 206 Q 88 [(0, .ref 85), (1, .int x1), (3, .int x3)] [] 118 0 fz 0 0
def t_X11_order_141 (d L : Nat) (fz t : Bool) (Q : pm_R → pm_H → Prop) (x1 : Int32) (x3 : Int32) (x4 : Int32) (x5 : Int32) (x6 : Int32) (x7 : Int32) (x8 : Int32) (I : Nat → Nat → Int32) (J : Nat → Nat → Int64) : Prop := pm_T (pm_Ev d) 206 Q (141, [(0, .ref 85), (1, .int x1), (3, .int x3), (4, .int x4), (5, .int x5), (6, .int x6), (7, .int x7), (8, .int x8)], [], pm_hp L fz t I J, 0, 0)
def t_X11_order_271 (d L : Nat) (fz t : Bool) (Q : pm_R → pm_H → Prop) (x1 : Int32) (x3 : Int32) (x6 : Int32) (x7 : Int32) (s0 : Int32) (r : Int32) (I : Nat → Nat → Int32) (J : Nat → Nat → Int64) : Prop := pm_T (pm_Ev d) 206 Q (271, [(0, .ref 85), (1, .int x1), (3, .int x3), (6, .int x6), (7, .int x7)], [.int r, .int s0], pm_hp L fz t I J, 0, 0)
def K_X11_order_271 (d : Nat) (fz t : Bool) (Q : pm_R → pm_H → Prop) (x1 : Int32) (x3 : Int32) (x6 : Int32) (x7 : Int32) (s0 : Int32) : pm_R → pm_H → Prop := pm_K d 206 Q 271 [(0, .ref 85), (1, .int x1), (3, .int x3), (6, .int x6), (7, .int x7)] [.int s0] 118 0 fz 0 0
def t_X11_order_193 (d L : Nat) (fz t : Bool) (Q : pm_R → pm_H → Prop) (x1 : Int32) (x3 : Int32) (x4 : Int32) (x5 : Int32) (x6 : Int32) (x7 : Int32) (x8 : Int32) (r : Int32) (I : Nat → Nat → Int32) (J : Nat → Nat → Int64) : Prop := pm_T (pm_Ev d) 206 Q (193, [(0, .ref 85), (1, .int x1), (3, .int x3), (4, .int x4), (5, .int x5), (6, .int x6), (7, .int x7), (8, .int x8)], [.int r], pm_hp L fz t I J, 0, 0)
def K_X11_order_193 (d : Nat) (fz t : Bool) (Q : pm_R → pm_H → Prop) (x1 : Int32) (x3 : Int32) (x4 : Int32) (x5 : Int32) (x6 : Int32) (x7 : Int32) (x8 : Int32) : pm_R → pm_H → Prop := pm_K d 206 Q 193 [(0, .ref 85), (1, .int x1), (3, .int x3), (4, .int x4), (5, .int x5), (6, .int x6), (7, .int x7), (8, .int x8)] [] 118 0 fz 0 0
set_option maxRecDepth 100000 in
theorem b_X11_order_0 {d L : Nat} {fz t : Bool} {Q : pm_R → pm_H → Prop} {x1 : Int32} {I : Nat → Nat → Int32} {J : Nat → Nat → Int64}
    (h : ((x1 < (-1 : Int32) → pm_Ev d 118 [.ref 85, .int (nI 0), .int (nI 1)] (pm_hp L fz t (pm_u I 85 0 (nI 0)) J) (K_X11_order_28 d fz t Q x1)) ∧ (¬ x1 < (-1 : Int32) → (((I 85 3) ≤ x1 → pm_Ev d 118 [.ref 85, .int (nI 0), .int (nI 1)] (pm_hp L fz t (pm_u I 85 0 (nI 0)) J) (K_X11_order_28 d fz t Q x1)) ∧ (¬ (I 85 3) ≤ x1 → pm_Ev d 118 [.ref 85, .int (nI 1), .int (nI 1)] (pm_hp L fz t (pm_u I 85 0 (nI 0)) J) (K_X11_order_28 d fz t Q x1)))))) :
    t_X11_order_0 d L fz t Q x1 I J := by
  exact pm_go d [(28, [0, 1]), (57, [0, 1]), (63, [0, 1, 2, 3]), (88, [0, 1, 3]), (124, [0, 1, 3, 4, 5, 6]), (141, [0, 1, 3, 4, 5, 6, 7, 8]), (193, [0, 1, 3, 4, 5, 6, 7, 8]), (271, [0, 1, 3, 6, 7])] 400 ⟨fun q0 => ((h).1 q0), fun q0 => ⟨fun q1 => ((((h).2 q0)).1 q1), fun q1 => ((((h).2 q0)).2 q1)⟩⟩
theorem e_X11_order {d L : Nat} {fz t : Bool} {Q : pm_R → pm_H → Prop} {x1 : Int32} {I : Nat → Nat → Int32} {J : Nat → Nat → Int64}
    (h : ((x1 < (-1 : Int32) → pm_Ev d 118 [.ref 85, .int (nI 0), .int (nI 1)] (pm_hp L fz t (pm_u I 85 0 (nI 0)) J) (K_X11_order_28 d fz t Q x1)) ∧ (¬ x1 < (-1 : Int32) → (((I 85 3) ≤ x1 → pm_Ev d 118 [.ref 85, .int (nI 0), .int (nI 1)] (pm_hp L fz t (pm_u I 85 0 (nI 0)) J) (K_X11_order_28 d fz t Q x1)) ∧ (¬ (I 85 3) ≤ x1 → pm_Ev d 118 [.ref 85, .int (nI 1), .int (nI 1)] (pm_hp L fz t (pm_u I 85 0 (nI 0)) J) (K_X11_order_28 d fz t Q x1)))))) :
    pm_Ev (d + 1) 206 [.ref 85, .int x1] (pm_hp L fz t I J) Q := pm_Ev_in rfl (b_X11_order_0 h)
set_option maxRecDepth 100000 in
theorem b_X11_order_28 {d L : Nat} {fz t : Bool} {Q : pm_R → pm_H → Prop} {x1 : Int32} {r : Int32} {I : Nat → Nat → Int32} {J : Nat → Nat → Int64}
    (h : ((¬ r = (nI 0) → (((I 85 3) ≤ (nI 9) → pm_Ev d 205 [.ref 85, .int (((nI 1) <<< ((I 85 3) &&& 31)) - (nI 1))] (pm_hp L fz t I J) (K_X11_order_57 d fz t Q x1)) ∧ (¬ (I 85 3) ≤ (nI 9) → Q (.inl (some (.int (-2 : Int32)))) (pm_hp L fz t I J)))) ∧ (r = (nI 0) → Q (.inl (some (.int (nI 0)))) (pm_hp L fz t I J)))) :
    t_X11_order_28 d L fz t Q x1 r I J := by
  exact pm_go d [(28, [0, 1]), (57, [0, 1]), (63, [0, 1, 2, 3]), (88, [0, 1, 3]), (124, [0, 1, 3, 4, 5, 6]), (141, [0, 1, 3, 4, 5, 6, 7, 8]), (193, [0, 1, 3, 4, 5, 6, 7, 8]), (271, [0, 1, 3, 6, 7])] 400 ⟨fun q0 => ⟨fun q1 => ((((h).1 q0)).1 q1), fun q1 => ((((h).1 q0)).2 q1)⟩, fun q0 => ((h).2 q0)⟩
theorem kb_X11_order_28 {d L : Nat} {fz t : Bool} {Q : pm_R → pm_H → Prop} {x1 : Int32} {r : Int32} {fz1 : Bool} {I : Nat → Nat → Int32} {J : Nat → Nat → Int64}
    (h : ((¬ r = (nI 0) → (((I 85 3) ≤ (nI 9) → pm_Ev d 205 [.ref 85, .int (((nI 1) <<< ((I 85 3) &&& 31)) - (nI 1))] (pm_hp L fz t I J) (K_X11_order_57 d fz t Q x1)) ∧ (¬ (I 85 3) ≤ (nI 9) → Q (.inl (some (.int (-2 : Int32)))) (pm_hp L fz t I J)))) ∧ (r = (nI 0) → Q (.inl (some (.int (nI 0)))) (pm_hp L fz t I J)))) :
    K_X11_order_28 d fz t Q x1 (.inl (some (.int r))) (pm_hp L fz1 t I J) := b_X11_order_28 h
set_option maxRecDepth 100000 in
theorem b_X11_order_57 {d L : Nat} {fz t : Bool} {Q : pm_R → pm_H → Prop} {x1 : Int32} {I : Nat → Nat → Int32} {J : Nat → Nat → Int64}
    (h : t_X11_order_63 d L fz t Q x1 (nI 99999) (nI 0) I J) :
    t_X11_order_57 d L fz t Q x1 I J := by
  exact pm_go d [(28, [0, 1]), (57, [0, 1]), (63, [0, 1, 2, 3]), (88, [0, 1, 3]), (124, [0, 1, 3, 4, 5, 6]), (141, [0, 1, 3, 4, 5, 6, 7, 8]), (193, [0, 1, 3, 4, 5, 6, 7, 8]), (271, [0, 1, 3, 6, 7])] 400 h
theorem kb_X11_order_57 {d L : Nat} {fz t : Bool} {Q : pm_R → pm_H → Prop} {x1 : Int32} {fz1 : Bool} {I : Nat → Nat → Int32} {J : Nat → Nat → Int64}
    (h : t_X11_order_63 d L fz t Q x1 (nI 99999) (nI 0) I J) :
    K_X11_order_57 d fz t Q x1 (.inl none) (pm_hp L fz1 t I J) := b_X11_order_57 h
set_option maxRecDepth 100000 in
theorem b_X11_order_63 {d L : Nat} {fz t : Bool} {Q : pm_R → pm_H → Prop} {x1 : Int32} {x2 : Int32} {x3 : Int32} {I : Nat → Nat → Int32} {J : Nat → Nat → Int64}
    (h : (((I 85 3) ≤ x3 → ((¬ x1 = (-1 : Int32) → t_X11_order_124 d L fz t Q x1 (nI 0) (-1 : Int32) x2 (nI 0) I J) ∧ (x1 = (-1 : Int32) → ((¬ (I 85 3) = (nI 0) → Q (.inl (some (.int x2))) (pm_hp L fz t I J)) ∧ ((I 85 3) = (nI 0) → Q (.inl (some (.int (nI 0)))) (pm_hp L fz t I J)))))) ∧ (¬ (I 85 3) ≤ x3 → (vp_in (((nI 9) * ((nI 1) <<< (x3 &&& 31))) + x3) 4608 ∧ pm_Ev d 121 [.int x2, .int (I 109 ((((nI 9) * ((nI 1) <<< (x3 &&& 31))) + x3)).toNatClampNeg)] (pm_hp L fz t I J) (K_X11_order_88 d fz t Q x1 x3))))) :
    t_X11_order_63 d L fz t Q x1 x2 x3 I J := by
  exact pm_go d [(28, [0, 1]), (57, [0, 1]), (63, [0, 1, 2, 3]), (88, [0, 1, 3]), (124, [0, 1, 3, 4, 5, 6]), (141, [0, 1, 3, 4, 5, 6, 7, 8]), (193, [0, 1, 3, 4, 5, 6, 7, 8]), (271, [0, 1, 3, 6, 7])] 400 ⟨fun q0 => ⟨fun q1 => ((((h).1 q0)).1 q1), fun q1 => ⟨fun q2 => ((((((h).1 q0)).2 q1)).1 q2), fun q2 => ((((((h).1 q0)).2 q1)).2 q2)⟩⟩, fun q0 => ⟨(((h).2 q0)).1, (((h).2 q0)).2⟩⟩
set_option maxRecDepth 100000 in
theorem b_X11_order_124 {d L : Nat} {fz t : Bool} {Q : pm_R → pm_H → Prop} {x1 : Int32} {x3 : Int32} {x4 : Int32} {x5 : Int32} {x6 : Int32} {I : Nat → Nat → Int32} {J : Nat → Nat → Int64}
    (h : ((x1 < x6 → Q (.inl (some (.int x4))) (pm_hp L fz t I J)) ∧ (¬ x1 < x6 → t_X11_order_141 d L fz t Q x1 x3 x4 x5 x6 (-1 : Int32) ((I 85 3) - (nI 1)) I J))) :
    t_X11_order_124 d L fz t Q x1 x3 x4 x5 x6 I J := by
  exact pm_go d [(28, [0, 1]), (57, [0, 1]), (63, [0, 1, 2, 3]), (88, [0, 1, 3]), (124, [0, 1, 3, 4, 5, 6]), (141, [0, 1, 3, 4, 5, 6, 7, 8]), (193, [0, 1, 3, 4, 5, 6, 7, 8]), (271, [0, 1, 3, 6, 7])] 400 ⟨fun q0 => ((h).1 q0), fun q0 => ((h).2 q0)⟩
set_option maxRecDepth 100000 in
theorem b_X11_order_88 {d L : Nat} {fz t : Bool} {Q : pm_R → pm_H → Prop} {x1 : Int32} {x3 : Int32} {r : Int32} {I : Nat → Nat → Int32} {J : Nat → Nat → Int64}
    (h : t_X11_order_63 d L fz t Q x1 r (x3 + (nI 1)) I J) :
    t_X11_order_88 d L fz t Q x1 x3 r I J := by
  exact pm_go d [(28, [0, 1]), (57, [0, 1]), (63, [0, 1, 2, 3]), (88, [0, 1, 3]), (124, [0, 1, 3, 4, 5, 6]), (141, [0, 1, 3, 4, 5, 6, 7, 8]), (193, [0, 1, 3, 4, 5, 6, 7, 8]), (271, [0, 1, 3, 6, 7])] 400 h
theorem kb_X11_order_88 {d L : Nat} {fz t : Bool} {Q : pm_R → pm_H → Prop} {x1 : Int32} {x3 : Int32} {r : Int32} {fz1 : Bool} {I : Nat → Nat → Int32} {J : Nat → Nat → Int64}
    (h : t_X11_order_63 d L fz t Q x1 r (x3 + (nI 1)) I J) :
    K_X11_order_88 d fz t Q x1 x3 (.inl (some (.int r))) (pm_hp L fz1 t I J) := b_X11_order_88 h
set_option maxRecDepth 100000 in
theorem b_X11_order_141 {d L : Nat} {fz t : Bool} {Q : pm_R → pm_H → Prop} {x1 : Int32} {x3 : Int32} {x4 : Int32} {x5 : Int32} {x6 : Int32} {x7 : Int32} {x8 : Int32} {I : Nat → Nat → Int32} {J : Nat → Nat → Int64}
    (h : ((x8 < (nI 0) → ((¬ x4 = (-1 : Int32) → (vp_in ((nI 22) + x4) 68 ∧ (vp_in ((nI 22) + x7) 68 ∧ pm_Ev d 166 [.ref 85, .int (I 103 (((nI 22) + x4)).toNatClampNeg), .int (I 103 (((nI 22) + x7)).toNatClampNeg)] (pm_hp L fz t I J) (K_X11_order_271 d fz t Q x1 x3 x6 x7 x5)))) ∧ (x4 = (-1 : Int32) → t_X11_order_271 d L fz t Q x1 x3 x6 x7 x5 (nI 0) I J))) ∧ (¬ x8 < (nI 0) → ((¬ ((x3 >>> (x8 &&& 31)) &&& (nI 1)) = (nI 1) → ((¬ x4 = (-1 : Int32) → (vp_in ((nI 22) + x4) 68 ∧ (vp_in ((nI 22) + x8) 68 ∧ pm_Ev d 166 [.ref 85, .int (I 103 (((nI 22) + x4)).toNatClampNeg), .int (I 103 (((nI 22) + x8)).toNatClampNeg)] (pm_hp L fz t I J) (K_X11_order_193 d fz t Q x1 x3 x4 x5 x6 x7 x8)))) ∧ (x4 = (-1 : Int32) → t_X11_order_193 d L fz t Q x1 x3 x4 x5 x6 x7 x8 (nI 0) I J))) ∧ (((x3 >>> (x8 &&& 31)) &&& (nI 1)) = (nI 1) → t_X11_order_141 d L fz t Q x1 x3 x4 x5 x6 x7 (x8 + (-1 : Int32)) I J))))) :
    t_X11_order_141 d L fz t Q x1 x3 x4 x5 x6 x7 x8 I J := by
  exact pm_go d [(28, [0, 1]), (57, [0, 1]), (63, [0, 1, 2, 3]), (88, [0, 1, 3]), (124, [0, 1, 3, 4, 5, 6]), (141, [0, 1, 3, 4, 5, 6, 7, 8]), (193, [0, 1, 3, 4, 5, 6, 7, 8]), (271, [0, 1, 3, 6, 7])] 400 ⟨fun q0 => ⟨fun q1 => ⟨(((((h).1 q0)).1 q1)).1, ⟨((((((h).1 q0)).1 q1)).2).1, ((((((h).1 q0)).1 q1)).2).2⟩⟩, fun q1 => ((((h).1 q0)).2 q1)⟩, fun q0 => ⟨fun q1 => ⟨fun q2 => ⟨(((((((h).2 q0)).1 q1)).1 q2)).1, ⟨((((((((h).2 q0)).1 q1)).1 q2)).2).1, ((((((((h).2 q0)).1 q1)).1 q2)).2).2⟩⟩, fun q2 => ((((((h).2 q0)).1 q1)).2 q2)⟩, fun q1 => ((((h).2 q0)).2 q1)⟩⟩
set_option maxRecDepth 100000 in
theorem b_X11_order_271 {d L : Nat} {fz t : Bool} {Q : pm_R → pm_H → Prop} {x1 : Int32} {x3 : Int32} {x6 : Int32} {x7 : Int32} {s0 : Int32} {r : Int32} {I : Nat → Nat → Int32} {J : Nat → Nat → Int64}
    (h : t_X11_order_124 d L fz t Q x1 (x3 ||| ((nI 1) <<< (x7 &&& 31))) x7 (s0 - r) (x6 + (nI 1)) I J) :
    t_X11_order_271 d L fz t Q x1 x3 x6 x7 s0 r I J := by
  exact pm_go d [(28, [0, 1]), (57, [0, 1]), (63, [0, 1, 2, 3]), (88, [0, 1, 3]), (124, [0, 1, 3, 4, 5, 6]), (141, [0, 1, 3, 4, 5, 6, 7, 8]), (193, [0, 1, 3, 4, 5, 6, 7, 8]), (271, [0, 1, 3, 6, 7])] 400 h
theorem kb_X11_order_271 {d L : Nat} {fz t : Bool} {Q : pm_R → pm_H → Prop} {x1 : Int32} {x3 : Int32} {x6 : Int32} {x7 : Int32} {s0 : Int32} {r : Int32} {fz1 : Bool} {I : Nat → Nat → Int32} {J : Nat → Nat → Int64}
    (h : t_X11_order_124 d L fz t Q x1 (x3 ||| ((nI 1) <<< (x7 &&& 31))) x7 (s0 - r) (x6 + (nI 1)) I J) :
    K_X11_order_271 d fz t Q x1 x3 x6 x7 s0 (.inl (some (.int r))) (pm_hp L fz1 t I J) := b_X11_order_271 h
set_option maxRecDepth 100000 in
theorem b_X11_order_193 {d L : Nat} {fz t : Bool} {Q : pm_R → pm_H → Prop} {x1 : Int32} {x3 : Int32} {x4 : Int32} {x5 : Int32} {x6 : Int32} {x7 : Int32} {x8 : Int32} {r : Int32} {I : Nat → Nat → Int32} {J : Nat → Nat → Int64}
    (h : (vp_in (((nI 9) * (x3 ||| ((nI 1) <<< (x8 &&& 31)))) + x8) 4608 ∧ ((¬ (r + (I 109 ((((nI 9) * (x3 ||| ((nI 1) <<< (x8 &&& 31)))) + x8)).toNatClampNeg)) = x5 → t_X11_order_141 d L fz t Q x1 x3 x4 x5 x6 x7 (x8 + (-1 : Int32)) I J) ∧ ((r + (I 109 ((((nI 9) * (x3 ||| ((nI 1) <<< (x8 &&& 31)))) + x8)).toNatClampNeg)) = x5 → t_X11_order_141 d L fz t Q x1 x3 x4 x5 x6 x8 (x8 + (-1 : Int32)) I J)))) :
    t_X11_order_193 d L fz t Q x1 x3 x4 x5 x6 x7 x8 r I J := by
  exact pm_go d [(28, [0, 1]), (57, [0, 1]), (63, [0, 1, 2, 3]), (88, [0, 1, 3]), (124, [0, 1, 3, 4, 5, 6]), (141, [0, 1, 3, 4, 5, 6, 7, 8]), (193, [0, 1, 3, 4, 5, 6, 7, 8]), (271, [0, 1, 3, 6, 7])] 400 ⟨(h).1, ⟨fun q0 => (((h).2).1 q0), fun q0 => (((h).2).2 q0)⟩⟩
theorem kb_X11_order_193 {d L : Nat} {fz t : Bool} {Q : pm_R → pm_H → Prop} {x1 : Int32} {x3 : Int32} {x4 : Int32} {x5 : Int32} {x6 : Int32} {x7 : Int32} {x8 : Int32} {r : Int32} {fz1 : Bool} {I : Nat → Nat → Int32} {J : Nat → Nat → Int64}
    (h : (vp_in (((nI 9) * (x3 ||| ((nI 1) <<< (x8 &&& 31)))) + x8) 4608 ∧ ((¬ (r + (I 109 ((((nI 9) * (x3 ||| ((nI 1) <<< (x8 &&& 31)))) + x8)).toNatClampNeg)) = x5 → t_X11_order_141 d L fz t Q x1 x3 x4 x5 x6 x7 (x8 + (-1 : Int32)) I J) ∧ ((r + (I 109 ((((nI 9) * (x3 ||| ((nI 1) <<< (x8 &&& 31)))) + x8)).toNatClampNeg)) = x5 → t_X11_order_141 d L fz t Q x1 x3 x4 x5 x6 x8 (x8 + (-1 : Int32)) I J)))) :
    K_X11_order_193 d fz t Q x1 x3 x4 x5 x6 x7 x8 (.inl (some (.int r))) (pm_hp L fz1 t I J) := b_X11_order_193 h
def t_X11_punching_0 (d L : Nat) (fz t : Bool) (Q : pm_R → pm_H → Prop) (x1 : Int32) (x2 : Int32) (x3 : Int32) (I : Nat → Nat → Int32) (J : Nat → Nat → Int64) : Prop := pm_T (pm_Ev d) 207 Q (0, [(0, .ref 85), (1, .int x1), (2, .int x2), (3, .int x3)], [], pm_hp L fz t I J, 0, 0)
def t_X11_punching_10 (d L : Nat) (fz t : Bool) (Q : pm_R → pm_H → Prop) (x1 : Int32) (x2 : Int32) (x3 : Int32) (r : Int32) (I : Nat → Nat → Int32) (J : Nat → Nat → Int64) : Prop := pm_T (pm_Ev d) 207 Q (10, [(0, .ref 85), (1, .int x1), (2, .int x2), (3, .int x3)], [.int r], pm_hp L fz t I J, 0, 0)
def K_X11_punching_10 (d : Nat) (fz t : Bool) (Q : pm_R → pm_H → Prop) (x1 : Int32) (x2 : Int32) (x3 : Int32) : pm_R → pm_H → Prop := pm_K d 207 Q 10 [(0, .ref 85), (1, .int x1), (2, .int x2), (3, .int x3)] [] 118 0 fz 0 0
def t_X11_punching_18 (d L : Nat) (fz t : Bool) (Q : pm_R → pm_H → Prop) (x1 : Int32) (x2 : Int32) (x3 : Int32) (r : Int32) (I : Nat → Nat → Int32) (J : Nat → Nat → Int64) : Prop := pm_T (pm_Ev d) 207 Q (18, [(0, .ref 85), (1, .int x1), (2, .int x2), (3, .int x3)], [.int r], pm_hp L fz t I J, 0, 0)
def K_X11_punching_18 (d : Nat) (fz t : Bool) (Q : pm_R → pm_H → Prop) (x1 : Int32) (x2 : Int32) (x3 : Int32) : pm_R → pm_H → Prop := pm_K d 207 Q 18 [(0, .ref 85), (1, .int x1), (2, .int x2), (3, .int x3)] [] 118 0 fz 0 0
def t_X11_punching_27 (d L : Nat) (fz t : Bool) (Q : pm_R → pm_H → Prop) (x1 : Int32) (x2 : Int32) (x3 : Int32) (r : Int32) (I : Nat → Nat → Int32) (J : Nat → Nat → Int64) : Prop := pm_T (pm_Ev d) 207 Q (27, [(0, .ref 85), (1, .int x1), (2, .int x2), (3, .int x3)], [.int r], pm_hp L fz t I J, 0, 0)
def K_X11_punching_27 (d : Nat) (fz t : Bool) (Q : pm_R → pm_H → Prop) (x1 : Int32) (x2 : Int32) (x3 : Int32) : pm_R → pm_H → Prop := pm_K d 207 Q 27 [(0, .ref 85), (1, .int x1), (2, .int x2), (3, .int x3)] [] 118 0 fz 0 0
def t_X11_punching_42 (d L : Nat) (fz t : Bool) (Q : pm_R → pm_H → Prop) (x1 : Int32) (x2 : Int32) (x3 : Int32) (x4 : Int32) (x5 : Int32) (I : Nat → Nat → Int32) (J : Nat → Nat → Int64) : Prop := pm_T (pm_Ev d) 207 Q (42, [(0, .ref 85), (1, .int x1), (2, .int x2), (3, .int x3), (4, .int x4), (5, .int x5)], [], pm_hp L fz t I J, 0, 0)
def K_X11_punching_42 (d : Nat) (fz t : Bool) (Q : pm_R → pm_H → Prop) (x1 : Int32) (x2 : Int32) (x3 : Int32) (x4 : Int32) (x5 : Int32) : pm_R → pm_H → Prop := pm_K d 207 Q 42 [(0, .ref 85), (1, .int x1), (2, .int x2), (3, .int x3), (4, .int x4), (5, .int x5)] [] 118 0 fz 0 0
def t_X11_punching_45 (d L : Nat) (fz t : Bool) (Q : pm_R → pm_H → Prop) (x1 : Int32) (x2 : Int32) (x3 : Int32) (x4 : Int32) (x5 : Int32) (x6 : Int32) (I : Nat → Nat → Int32) (J : Nat → Nat → Int64) : Prop := pm_T (pm_Ev d) 207 Q (45, [(0, .ref 85), (1, .int x1), (2, .int x2), (3, .int x3), (4, .int x4), (5, .int x5), (6, .int x6)], [], pm_hp L fz t I J, 0, 0)
def t_X11_punching_51 (d L : Nat) (fz t : Bool) (Q : pm_R → pm_H → Prop) (x1 : Int32) (x2 : Int32) (x3 : Int32) (x4 : Int32) (x5 : Int32) (x6 : Int32) (s0 : Int32) (r : Int32) (I : Nat → Nat → Int32) (J : Nat → Nat → Int64) : Prop := pm_T (pm_Ev d) 207 Q (51, [(0, .ref 85), (1, .int x1), (2, .int x2), (3, .int x3), (4, .int x4), (5, .int x5), (6, .int x6)], [.int r, .int s0], pm_hp L fz t I J, 0, 0)
def K_X11_punching_51 (d : Nat) (fz t : Bool) (Q : pm_R → pm_H → Prop) (x1 : Int32) (x2 : Int32) (x3 : Int32) (x4 : Int32) (x5 : Int32) (x6 : Int32) (s0 : Int32) : pm_R → pm_H → Prop := pm_K d 207 Q 51 [(0, .ref 85), (1, .int x1), (2, .int x2), (3, .int x3), (4, .int x4), (5, .int x5), (6, .int x6)] [.int s0] 118 0 fz 0 0
def t_X11_punching_68 (d L : Nat) (fz t : Bool) (Q : pm_R → pm_H → Prop) (x1 : Int32) (x2 : Int32) (x3 : Int32) (x4 : Int32) (x5 : Int32) (x6 : Int32) (r : Int32) (I : Nat → Nat → Int32) (J : Nat → Nat → Int64) : Prop := pm_T (pm_Ev d) 207 Q (68, [(0, .ref 85), (1, .int x1), (2, .int x2), (3, .int x3), (4, .int x4), (5, .int x5), (6, .int x6)], [.int r], pm_hp L fz t I J, 0, 0)
def K_X11_punching_68 (d : Nat) (fz t : Bool) (Q : pm_R → pm_H → Prop) (x1 : Int32) (x2 : Int32) (x3 : Int32) (x4 : Int32) (x5 : Int32) (x6 : Int32) : pm_R → pm_H → Prop := pm_K d 207 Q 68 [(0, .ref 85), (1, .int x1), (2, .int x2), (3, .int x3), (4, .int x4), (5, .int x5), (6, .int x6)] [] 118 0 fz 0 0
def t_X11_punching_103 (d L : Nat) (fz t : Bool) (Q : pm_R → pm_H → Prop) (x1 : Int32) (x2 : Int32) (x3 : Int32) (x4 : Int32) (x5 : Int32) (x6 : Int32) (x7 : Int32) (I : Nat → Nat → Int32) (J : Nat → Nat → Int64) : Prop := pm_T (pm_Ev d) 207 Q (103, [(0, .ref 85), (1, .int x1), (2, .int x2), (3, .int x3), (4, .int x4), (5, .int x5), (6, .int x6), (7, .int x7)], [], pm_hp L fz t I J, 0, 0)
def K_X11_punching_103 (d : Nat) (fz t : Bool) (Q : pm_R → pm_H → Prop) (x1 : Int32) (x2 : Int32) (x3 : Int32) (x4 : Int32) (x5 : Int32) (x6 : Int32) (x7 : Int32) : pm_R → pm_H → Prop := pm_K d 207 Q 103 [(0, .ref 85), (1, .int x1), (2, .int x2), (3, .int x3), (4, .int x4), (5, .int x5), (6, .int x6), (7, .int x7)] [] 118 0 fz 0 0
def t_X11_punching_108 (d L : Nat) (fz t : Bool) (Q : pm_R → pm_H → Prop) (x1 : Int32) (x2 : Int32) (x3 : Int32) (x4 : Int32) (x5 : Int32) (x6 : Int32) (x7 : Int32) (r : Int32) (I : Nat → Nat → Int32) (J : Nat → Nat → Int64) : Prop := pm_T (pm_Ev d) 207 Q (108, [(0, .ref 85), (1, .int x1), (2, .int x2), (3, .int x3), (4, .int x4), (5, .int x5), (6, .int x6), (7, .int x7)], [.int r], pm_hp L fz t I J, 0, 0)
def K_X11_punching_108 (d : Nat) (fz t : Bool) (Q : pm_R → pm_H → Prop) (x1 : Int32) (x2 : Int32) (x3 : Int32) (x4 : Int32) (x5 : Int32) (x6 : Int32) (x7 : Int32) : pm_R → pm_H → Prop := pm_K d 207 Q 108 [(0, .ref 85), (1, .int x1), (2, .int x2), (3, .int x3), (4, .int x4), (5, .int x5), (6, .int x6), (7, .int x7)] [] 118 0 fz 0 0
set_option maxRecDepth 100000 in
theorem b_X11_punching_0 {d L : Nat} {fz t : Bool} {Q : pm_R → pm_H → Prop} {x1 : Int32} {x2 : Int32} {x3 : Int32} {I : Nat → Nat → Int32} {J : Nat → Nat → Int64}
    (h : pm_Ev d 180 [.ref 85, .int x1] (pm_hp L fz t (pm_u I 85 0 (nI 0)) J) (K_X11_punching_10 d fz t Q x1 x2 x3)) :
    t_X11_punching_0 d L fz t Q x1 x2 x3 I J := by
  exact pm_go d [(10, [0, 1, 2, 3]), (18, [0, 1, 2, 3]), (27, [0, 1, 2, 3]), (42, [0, 1, 2, 3, 4, 5]), (45, [0, 1, 2, 3, 4, 5, 6]), (51, [0, 1, 2, 3, 4, 5, 6]), (68, [0, 1, 2, 3, 4, 5, 6]), (103, [0, 1, 2, 3, 4, 5, 6, 7]), (108, [0, 1, 2, 3, 4, 5, 6, 7])] 400 h
theorem e_X11_punching {d L : Nat} {fz t : Bool} {Q : pm_R → pm_H → Prop} {x1 : Int32} {x2 : Int32} {x3 : Int32} {I : Nat → Nat → Int32} {J : Nat → Nat → Int64}
    (h : pm_Ev d 180 [.ref 85, .int x1] (pm_hp L fz t (pm_u I 85 0 (nI 0)) J) (K_X11_punching_10 d fz t Q x1 x2 x3)) :
    pm_Ev (d + 1) 207 [.ref 85, .int x1, .int x2, .int x3] (pm_hp L fz t I J) Q := pm_Ev_in rfl (b_X11_punching_0 h)
set_option maxRecDepth 100000 in
theorem b_X11_punching_10 {d L : Nat} {fz t : Bool} {Q : pm_R → pm_H → Prop} {x1 : Int32} {x2 : Int32} {x3 : Int32} {r : Int32} {I : Nat → Nat → Int32} {J : Nat → Nat → Int64}
    (h : ((r = (nI 0) → Q (.inl (some (.int (nI 0)))) (pm_hp L fz t I J)) ∧ (¬ r = (nI 0) → pm_Ev d 182 [.ref 85, .int x2] (pm_hp L fz t I J) (K_X11_punching_18 d fz t Q x1 x2 x3)))) :
    t_X11_punching_10 d L fz t Q x1 x2 x3 r I J := by
  exact pm_go d [(10, [0, 1, 2, 3]), (18, [0, 1, 2, 3]), (27, [0, 1, 2, 3]), (42, [0, 1, 2, 3, 4, 5]), (45, [0, 1, 2, 3, 4, 5, 6]), (51, [0, 1, 2, 3, 4, 5, 6]), (68, [0, 1, 2, 3, 4, 5, 6]), (103, [0, 1, 2, 3, 4, 5, 6, 7]), (108, [0, 1, 2, 3, 4, 5, 6, 7])] 400 ⟨fun q0 => ((h).1 q0), fun q0 => ((h).2 q0)⟩
theorem kb_X11_punching_10 {d L : Nat} {fz t : Bool} {Q : pm_R → pm_H → Prop} {x1 : Int32} {x2 : Int32} {x3 : Int32} {r : Int32} {fz1 : Bool} {I : Nat → Nat → Int32} {J : Nat → Nat → Int64}
    (h : ((r = (nI 0) → Q (.inl (some (.int (nI 0)))) (pm_hp L fz t I J)) ∧ (¬ r = (nI 0) → pm_Ev d 182 [.ref 85, .int x2] (pm_hp L fz t I J) (K_X11_punching_18 d fz t Q x1 x2 x3)))) :
    K_X11_punching_10 d fz t Q x1 x2 x3 (.inl (some (.int r))) (pm_hp L fz1 t I J) := b_X11_punching_10 h
set_option maxRecDepth 100000 in
theorem b_X11_punching_18 {d L : Nat} {fz t : Bool} {Q : pm_R → pm_H → Prop} {x1 : Int32} {x2 : Int32} {x3 : Int32} {r : Int32} {I : Nat → Nat → Int32} {J : Nat → Nat → Int64}
    (h : ((r = (nI 0) → Q (.inl (some (.int (nI 0)))) (pm_hp L fz t I J)) ∧ (¬ r = (nI 0) → pm_Ev d 183 [.ref 85, .int x3, .int (nI 1)] (pm_hp L fz t I J) (K_X11_punching_27 d fz t Q x1 x2 x3)))) :
    t_X11_punching_18 d L fz t Q x1 x2 x3 r I J := by
  exact pm_go d [(10, [0, 1, 2, 3]), (18, [0, 1, 2, 3]), (27, [0, 1, 2, 3]), (42, [0, 1, 2, 3, 4, 5]), (45, [0, 1, 2, 3, 4, 5, 6]), (51, [0, 1, 2, 3, 4, 5, 6]), (68, [0, 1, 2, 3, 4, 5, 6]), (103, [0, 1, 2, 3, 4, 5, 6, 7]), (108, [0, 1, 2, 3, 4, 5, 6, 7])] 400 ⟨fun q0 => ((h).1 q0), fun q0 => ((h).2 q0)⟩
theorem kb_X11_punching_18 {d L : Nat} {fz t : Bool} {Q : pm_R → pm_H → Prop} {x1 : Int32} {x2 : Int32} {x3 : Int32} {r : Int32} {fz1 : Bool} {I : Nat → Nat → Int32} {J : Nat → Nat → Int64}
    (h : ((r = (nI 0) → Q (.inl (some (.int (nI 0)))) (pm_hp L fz t I J)) ∧ (¬ r = (nI 0) → pm_Ev d 183 [.ref 85, .int x3, .int (nI 1)] (pm_hp L fz t I J) (K_X11_punching_27 d fz t Q x1 x2 x3)))) :
    K_X11_punching_18 d fz t Q x1 x2 x3 (.inl (some (.int r))) (pm_hp L fz1 t I J) := b_X11_punching_18 h
set_option maxRecDepth 100000 in
theorem b_X11_punching_27 {d L : Nat} {fz t : Bool} {Q : pm_R → pm_H → Prop} {x1 : Int32} {x2 : Int32} {x3 : Int32} {r : Int32} {I : Nat → Nat → Int32} {J : Nat → Nat → Int64}
    (h : ((¬ r = (nI 0) → pm_Ev d 160 [.ref 85] (pm_hp L fz t I J) (K_X11_punching_42 d fz t Q x1 x2 x3 (-1 : Int32) (nI 0))) ∧ (r = (nI 0) → Q (.inl (some (.int (nI 0)))) (pm_hp L fz t I J)))) :
    t_X11_punching_27 d L fz t Q x1 x2 x3 r I J := by
  exact pm_go d [(10, [0, 1, 2, 3]), (18, [0, 1, 2, 3]), (27, [0, 1, 2, 3]), (42, [0, 1, 2, 3, 4, 5]), (45, [0, 1, 2, 3, 4, 5, 6]), (51, [0, 1, 2, 3, 4, 5, 6]), (68, [0, 1, 2, 3, 4, 5, 6]), (103, [0, 1, 2, 3, 4, 5, 6, 7]), (108, [0, 1, 2, 3, 4, 5, 6, 7])] 400 ⟨fun q0 => ((h).1 q0), fun q0 => ((h).2 q0)⟩
theorem kb_X11_punching_27 {d L : Nat} {fz t : Bool} {Q : pm_R → pm_H → Prop} {x1 : Int32} {x2 : Int32} {x3 : Int32} {r : Int32} {fz1 : Bool} {I : Nat → Nat → Int32} {J : Nat → Nat → Int64}
    (h : ((¬ r = (nI 0) → pm_Ev d 160 [.ref 85] (pm_hp L fz t I J) (K_X11_punching_42 d fz t Q x1 x2 x3 (-1 : Int32) (nI 0))) ∧ (r = (nI 0) → Q (.inl (some (.int (nI 0)))) (pm_hp L fz t I J)))) :
    K_X11_punching_27 d fz t Q x1 x2 x3 (.inl (some (.int r))) (pm_hp L fz1 t I J) := b_X11_punching_27 h
set_option maxRecDepth 100000 in
theorem b_X11_punching_42 {d L : Nat} {fz t : Bool} {Q : pm_R → pm_H → Prop} {x1 : Int32} {x2 : Int32} {x3 : Int32} {x4 : Int32} {x5 : Int32} {I : Nat → Nat → Int32} {J : Nat → Nat → Int64}
    (h : t_X11_punching_45 d L fz t Q x1 x2 x3 x4 x5 (nI 0) I J) :
    t_X11_punching_42 d L fz t Q x1 x2 x3 x4 x5 I J := by
  exact pm_go d [(10, [0, 1, 2, 3]), (18, [0, 1, 2, 3]), (27, [0, 1, 2, 3]), (42, [0, 1, 2, 3, 4, 5]), (45, [0, 1, 2, 3, 4, 5, 6]), (51, [0, 1, 2, 3, 4, 5, 6]), (68, [0, 1, 2, 3, 4, 5, 6]), (103, [0, 1, 2, 3, 4, 5, 6, 7]), (108, [0, 1, 2, 3, 4, 5, 6, 7])] 400 h
theorem kb_X11_punching_42 {d L : Nat} {fz t : Bool} {Q : pm_R → pm_H → Prop} {x1 : Int32} {x2 : Int32} {x3 : Int32} {x4 : Int32} {x5 : Int32} {fz1 : Bool} {I : Nat → Nat → Int32} {J : Nat → Nat → Int64}
    (h : t_X11_punching_45 d L fz t Q x1 x2 x3 x4 x5 (nI 0) I J) :
    K_X11_punching_42 d fz t Q x1 x2 x3 x4 x5 (.inl none) (pm_hp L fz1 t I J) := b_X11_punching_42 h
set_option maxRecDepth 100000 in
theorem b_X11_punching_45 {d L : Nat} {fz t : Bool} {Q : pm_R → pm_H → Prop} {x1 : Int32} {x2 : Int32} {x3 : Int32} {x4 : Int32} {x5 : Int32} {x6 : Int32} {I : Nat → Nat → Int32} {J : Nat → Nat → Int64}
    (h : pm_Ev d 161 [.ref 85] (pm_hp L fz t I J) (K_X11_punching_51 d fz t Q x1 x2 x3 x4 x5 x6 x6)) :
    t_X11_punching_45 d L fz t Q x1 x2 x3 x4 x5 x6 I J := by
  exact pm_go d [(10, [0, 1, 2, 3]), (18, [0, 1, 2, 3]), (27, [0, 1, 2, 3]), (42, [0, 1, 2, 3, 4, 5]), (45, [0, 1, 2, 3, 4, 5, 6]), (51, [0, 1, 2, 3, 4, 5, 6]), (68, [0, 1, 2, 3, 4, 5, 6]), (103, [0, 1, 2, 3, 4, 5, 6, 7]), (108, [0, 1, 2, 3, 4, 5, 6, 7])] 400 h
set_option maxRecDepth 100000 in
theorem b_X11_punching_51 {d L : Nat} {fz t : Bool} {Q : pm_R → pm_H → Prop} {x1 : Int32} {x2 : Int32} {x3 : Int32} {x4 : Int32} {x5 : Int32} {x6 : Int32} {s0 : Int32} {r : Int32} {I : Nat → Nat → Int32} {J : Nat → Nat → Int64}
    (h : ((r < s0 → ((¬ x4 = (-1 : Int32) → ((¬ x3 = (nI 0) → Q (.inl (some (.int x4))) (pm_hp L fz t I J)) ∧ (x3 = (nI 0) → Q (.inl (some (.int x5))) (pm_hp L fz t I J)))) ∧ (x4 = (-1 : Int32) → Q (.inl (some (.int (-1 : Int32)))) (pm_hp L fz t I J)))) ∧ (¬ r < s0 → (vp_in ((nI 2) + x1) 68 ∧ pm_Ev d 123 [.int (x6 ^^^ (I 103 (((nI 2) + x1)).toNatClampNeg))] (pm_hp L fz t I J) (K_X11_punching_68 d fz t Q x1 x2 x3 x4 x5 x6))))) :
    t_X11_punching_51 d L fz t Q x1 x2 x3 x4 x5 x6 s0 r I J := by
  exact pm_go d [(10, [0, 1, 2, 3]), (18, [0, 1, 2, 3]), (27, [0, 1, 2, 3]), (42, [0, 1, 2, 3, 4, 5]), (45, [0, 1, 2, 3, 4, 5, 6]), (51, [0, 1, 2, 3, 4, 5, 6]), (68, [0, 1, 2, 3, 4, 5, 6]), (103, [0, 1, 2, 3, 4, 5, 6, 7]), (108, [0, 1, 2, 3, 4, 5, 6, 7])] 400 ⟨fun q0 => ⟨fun q1 => ⟨fun q2 => ((((((h).1 q0)).1 q1)).1 q2), fun q2 => ((((((h).1 q0)).1 q1)).2 q2)⟩, fun q1 => ((((h).1 q0)).2 q1)⟩, fun q0 => ⟨(((h).2 q0)).1, (((h).2 q0)).2⟩⟩
theorem kb_X11_punching_51 {d L : Nat} {fz t : Bool} {Q : pm_R → pm_H → Prop} {x1 : Int32} {x2 : Int32} {x3 : Int32} {x4 : Int32} {x5 : Int32} {x6 : Int32} {s0 : Int32} {r : Int32} {fz1 : Bool} {I : Nat → Nat → Int32} {J : Nat → Nat → Int64}
    (h : ((r < s0 → ((¬ x4 = (-1 : Int32) → ((¬ x3 = (nI 0) → Q (.inl (some (.int x4))) (pm_hp L fz t I J)) ∧ (x3 = (nI 0) → Q (.inl (some (.int x5))) (pm_hp L fz t I J)))) ∧ (x4 = (-1 : Int32) → Q (.inl (some (.int (-1 : Int32)))) (pm_hp L fz t I J)))) ∧ (¬ r < s0 → (vp_in ((nI 2) + x1) 68 ∧ pm_Ev d 123 [.int (x6 ^^^ (I 103 (((nI 2) + x1)).toNatClampNeg))] (pm_hp L fz t I J) (K_X11_punching_68 d fz t Q x1 x2 x3 x4 x5 x6))))) :
    K_X11_punching_51 d fz t Q x1 x2 x3 x4 x5 x6 s0 (.inl (some (.int r))) (pm_hp L fz1 t I J) := b_X11_punching_51 h
set_option maxRecDepth 100000 in
theorem b_X11_punching_68 {d L : Nat} {fz t : Bool} {Q : pm_R → pm_H → Prop} {x1 : Int32} {x2 : Int32} {x3 : Int32} {x4 : Int32} {x5 : Int32} {x6 : Int32} {r : Int32} {I : Nat → Nat → Int32} {J : Nat → Nat → Int64}
    (h : ((x4 = (-1 : Int32) → (vp_in ((nI 36) + x1) 68 ∧ pm_Ev d 169 [.ref 85, .int (nI 34)] (pm_hp L fz t (pm_u I 103 (((nI 36) + x1)).toNatClampNeg x6) J) (K_X11_punching_103 d fz t Q x1 x2 x3 x4 x5 x6 r))) ∧ (¬ x4 = (-1 : Int32) → ((r < x5 → (vp_in ((nI 36) + x1) 68 ∧ pm_Ev d 169 [.ref 85, .int (nI 34)] (pm_hp L fz t (pm_u I 103 (((nI 36) + x1)).toNatClampNeg x6) J) (K_X11_punching_103 d fz t Q x1 x2 x3 x4 x5 x6 r))) ∧ (¬ r < x5 → t_X11_punching_45 d L fz t Q x1 x2 x3 x4 x5 (x6 + (nI 1)) I J))))) :
    t_X11_punching_68 d L fz t Q x1 x2 x3 x4 x5 x6 r I J := by
  exact pm_go d [(10, [0, 1, 2, 3]), (18, [0, 1, 2, 3]), (27, [0, 1, 2, 3]), (42, [0, 1, 2, 3, 4, 5]), (45, [0, 1, 2, 3, 4, 5, 6]), (51, [0, 1, 2, 3, 4, 5, 6]), (68, [0, 1, 2, 3, 4, 5, 6]), (103, [0, 1, 2, 3, 4, 5, 6, 7]), (108, [0, 1, 2, 3, 4, 5, 6, 7])] 400 ⟨fun q0 => ⟨(((h).1 q0)).1, (((h).1 q0)).2⟩, fun q0 => ⟨fun q1 => ⟨(((((h).2 q0)).1 q1)).1, (((((h).2 q0)).1 q1)).2⟩, fun q1 => ((((h).2 q0)).2 q1)⟩⟩
theorem kb_X11_punching_68 {d L : Nat} {fz t : Bool} {Q : pm_R → pm_H → Prop} {x1 : Int32} {x2 : Int32} {x3 : Int32} {x4 : Int32} {x5 : Int32} {x6 : Int32} {r : Int32} {fz1 : Bool} {I : Nat → Nat → Int32} {J : Nat → Nat → Int64}
    (h : ((x4 = (-1 : Int32) → (vp_in ((nI 36) + x1) 68 ∧ pm_Ev d 169 [.ref 85, .int (nI 34)] (pm_hp L fz t (pm_u I 103 (((nI 36) + x1)).toNatClampNeg x6) J) (K_X11_punching_103 d fz t Q x1 x2 x3 x4 x5 x6 r))) ∧ (¬ x4 = (-1 : Int32) → ((r < x5 → (vp_in ((nI 36) + x1) 68 ∧ pm_Ev d 169 [.ref 85, .int (nI 34)] (pm_hp L fz t (pm_u I 103 (((nI 36) + x1)).toNatClampNeg x6) J) (K_X11_punching_103 d fz t Q x1 x2 x3 x4 x5 x6 r))) ∧ (¬ r < x5 → t_X11_punching_45 d L fz t Q x1 x2 x3 x4 x5 (x6 + (nI 1)) I J))))) :
    K_X11_punching_68 d fz t Q x1 x2 x3 x4 x5 x6 (.inl (some (.int r))) (pm_hp L fz1 t I J) := b_X11_punching_68 h
set_option maxRecDepth 100000 in
theorem b_X11_punching_103 {d L : Nat} {fz t : Bool} {Q : pm_R → pm_H → Prop} {x1 : Int32} {x2 : Int32} {x3 : Int32} {x4 : Int32} {x5 : Int32} {x6 : Int32} {x7 : Int32} {I : Nat → Nat → Int32} {J : Nat → Nat → Int64}
    (h : pm_Ev d 171 [.ref 85, .int x2] (pm_hp L fz t I J) (K_X11_punching_108 d fz t Q x1 x2 x3 x4 x5 x6 x7)) :
    t_X11_punching_103 d L fz t Q x1 x2 x3 x4 x5 x6 x7 I J := by
  exact pm_go d [(10, [0, 1, 2, 3]), (18, [0, 1, 2, 3]), (27, [0, 1, 2, 3]), (42, [0, 1, 2, 3, 4, 5]), (45, [0, 1, 2, 3, 4, 5, 6]), (51, [0, 1, 2, 3, 4, 5, 6]), (68, [0, 1, 2, 3, 4, 5, 6]), (103, [0, 1, 2, 3, 4, 5, 6, 7]), (108, [0, 1, 2, 3, 4, 5, 6, 7])] 400 h
theorem kb_X11_punching_103 {d L : Nat} {fz t : Bool} {Q : pm_R → pm_H → Prop} {x1 : Int32} {x2 : Int32} {x3 : Int32} {x4 : Int32} {x5 : Int32} {x6 : Int32} {x7 : Int32} {fz1 : Bool} {I : Nat → Nat → Int32} {J : Nat → Nat → Int64}
    (h : pm_Ev d 171 [.ref 85, .int x2] (pm_hp L fz t I J) (K_X11_punching_108 d fz t Q x1 x2 x3 x4 x5 x6 x7)) :
    K_X11_punching_103 d fz t Q x1 x2 x3 x4 x5 x6 x7 (.inl none) (pm_hp L fz1 t I J) := b_X11_punching_103 h
set_option maxRecDepth 100000 in
theorem b_X11_punching_108 {d L : Nat} {fz t : Bool} {Q : pm_R → pm_H → Prop} {x1 : Int32} {x2 : Int32} {x3 : Int32} {x4 : Int32} {x5 : Int32} {x6 : Int32} {x7 : Int32} {r : Int32} {I : Nat → Nat → Int32} {J : Nat → Nat → Int64}
    (h : ((¬ r = (-1 : Int32) → t_X11_punching_45 d L fz t Q x1 x2 x3 x6 x7 (x6 + (nI 1)) I J) ∧ (r = (-1 : Int32) → t_X11_punching_45 d L fz t Q x1 x2 x3 x4 x5 (x6 + (nI 1)) I J))) :
    t_X11_punching_108 d L fz t Q x1 x2 x3 x4 x5 x6 x7 r I J := by
  exact pm_go d [(10, [0, 1, 2, 3]), (18, [0, 1, 2, 3]), (27, [0, 1, 2, 3]), (42, [0, 1, 2, 3, 4, 5]), (45, [0, 1, 2, 3, 4, 5, 6]), (51, [0, 1, 2, 3, 4, 5, 6]), (68, [0, 1, 2, 3, 4, 5, 6]), (103, [0, 1, 2, 3, 4, 5, 6, 7]), (108, [0, 1, 2, 3, 4, 5, 6, 7])] 400 ⟨fun q0 => ((h).1 q0), fun q0 => ((h).2 q0)⟩
theorem kb_X11_punching_108 {d L : Nat} {fz t : Bool} {Q : pm_R → pm_H → Prop} {x1 : Int32} {x2 : Int32} {x3 : Int32} {x4 : Int32} {x5 : Int32} {x6 : Int32} {x7 : Int32} {r : Int32} {fz1 : Bool} {I : Nat → Nat → Int32} {J : Nat → Nat → Int64}
    (h : ((¬ r = (-1 : Int32) → t_X11_punching_45 d L fz t Q x1 x2 x3 x6 x7 (x6 + (nI 1)) I J) ∧ (r = (-1 : Int32) → t_X11_punching_45 d L fz t Q x1 x2 x3 x4 x5 (x6 + (nI 1)) I J))) :
    K_X11_punching_108 d fz t Q x1 x2 x3 x4 x5 x6 x7 (.inl (some (.int r))) (pm_hp L fz1 t I J) := b_X11_punching_108 h
def t_X11_same_0 (d L : Nat) (fz t : Bool) (Q : pm_R → pm_H → Prop) (x1 : Int32) (I : Nat → Nat → Int32) (J : Nat → Nat → Int64) : Prop := pm_T (pm_Ev d) 208 Q (0, [(0, .ref 85), (1, .int x1)], [], pm_hp L fz t I J, 0, 0)
def t_X11_same_10 (d L : Nat) (fz t : Bool) (Q : pm_R → pm_H → Prop) (x1 : Int32) (r : Int32) (I : Nat → Nat → Int32) (J : Nat → Nat → Int64) : Prop := pm_T (pm_Ev d) 208 Q (10, [(0, .ref 85), (1, .int x1)], [.int r], pm_hp L fz t I J, 0, 0)
def K_X11_same_10 (d : Nat) (fz t : Bool) (Q : pm_R → pm_H → Prop) (x1 : Int32) : pm_R → pm_H → Prop := pm_K d 208 Q 10 [(0, .ref 85), (1, .int x1)] [] 118 0 fz 0 0
def t_X11_same_19 (d L : Nat) (fz t : Bool) (Q : pm_R → pm_H → Prop) (x1 : Int32) (I : Nat → Nat → Int32) (J : Nat → Nat → Int64) : Prop := pm_T (pm_Ev d) 208 Q (19, [(0, .ref 85), (1, .int x1)], [], pm_hp L fz t I J, 0, 0)
def K_X11_same_19 (d : Nat) (fz t : Bool) (Q : pm_R → pm_H → Prop) (x1 : Int32) : pm_R → pm_H → Prop := pm_K d 208 Q 19 [(0, .ref 85), (1, .int x1)] [] 118 0 fz 0 0
def t_X11_same_23 (d L : Nat) (fz t : Bool) (Q : pm_R → pm_H → Prop) (x1 : Int32) (I : Nat → Nat → Int32) (J : Nat → Nat → Int64) : Prop := pm_T (pm_Ev d) 208 Q (23, [(0, .ref 85), (1, .int x1)], [], pm_hp L fz t I J, 0, 0)
def K_X11_same_23 (d : Nat) (fz t : Bool) (Q : pm_R → pm_H → Prop) (x1 : Int32) : pm_R → pm_H → Prop := pm_K d 208 Q 23 [(0, .ref 85), (1, .int x1)] [] 118 0 fz 0 0
def t_X11_same_27 (d L : Nat) (fz t : Bool) (Q : pm_R → pm_H → Prop) (x1 : Int32) (x2 : Int32) (x3 : Int32) (I : Nat → Nat → Int32) (J : Nat → Nat → Int64) : Prop := pm_T (pm_Ev d) 208 Q (27, [(0, .ref 85), (1, .int x1), (2, .int x2), (3, .int x3)], [], pm_hp L fz t I J, 0, 0)
def t_X11_same_32 (d L : Nat) (fz t : Bool) (Q : pm_R → pm_H → Prop) (x1 : Int32) (x2 : Int32) (x3 : Int32) (s0 : Int32) (r : Int32) (I : Nat → Nat → Int32) (J : Nat → Nat → Int64) : Prop := pm_T (pm_Ev d) 208 Q (32, [(0, .ref 85), (1, .int x1), (2, .int x2), (3, .int x3)], [.int r, .int s0], pm_hp L fz t I J, 0, 0)
def K_X11_same_32 (d : Nat) (fz t : Bool) (Q : pm_R → pm_H → Prop) (x1 : Int32) (x2 : Int32) (x3 : Int32) (s0 : Int32) : pm_R → pm_H → Prop := pm_K d 208 Q 32 [(0, .ref 85), (1, .int x1), (2, .int x2), (3, .int x3)] [.int s0] 118 0 fz 0 0
def t_X11_same_51 (d L : Nat) (fz t : Bool) (Q : pm_R → pm_H → Prop) (x1 : Int32) (x2 : Int32) (x3 : Int32) (I : Nat → Nat → Int32) (J : Nat → Nat → Int64) : Prop := pm_T (pm_Ev d) 208 Q (51, [(0, .ref 85), (1, .int x1), (2, .int x2), (3, .int x3)], [], pm_hp L fz t I J, 0, 0)
def K_X11_same_51 (d : Nat) (fz t : Bool) (Q : pm_R → pm_H → Prop) (x1 : Int32) (x2 : Int32) (x3 : Int32) : pm_R → pm_H → Prop := pm_K d 208 Q 51 [(0, .ref 85), (1, .int x1), (2, .int x2), (3, .int x3)] [] 118 0 fz 0 0
def t_X11_same_56 (d L : Nat) (fz t : Bool) (Q : pm_R → pm_H → Prop) (x1 : Int32) (x3 : Int32) (s0 : Int32) (r : Int32) (I : Nat → Nat → Int32) (J : Nat → Nat → Int64) : Prop := pm_T (pm_Ev d) 208 Q (56, [(0, .ref 85), (1, .int x1), (3, .int x3)], [.int r, .int s0], pm_hp L fz t I J, 0, 0)
def K_X11_same_56 (d : Nat) (fz t : Bool) (Q : pm_R → pm_H → Prop) (x1 : Int32) (x3 : Int32) (s0 : Int32) : pm_R → pm_H → Prop := pm_K d 208 Q 56 [(0, .ref 85), (1, .int x1), (3, .int x3)] [.int s0] 118 0 fz 0 0
set_option maxRecDepth 100000 in
theorem b_X11_same_0 {d L : Nat} {fz t : Bool} {Q : pm_R → pm_H → Prop} {x1 : Int32} {I : Nat → Nat → Int32} {J : Nat → Nat → Int64}
    (h : pm_Ev d 180 [.ref 85, .int x1] (pm_hp L fz t (pm_u I 85 0 (nI 0)) J) (K_X11_same_10 d fz t Q x1)) :
    t_X11_same_0 d L fz t Q x1 I J := by
  exact pm_go d [(10, [0, 1]), (19, [0, 1]), (23, [0, 1]), (27, [0, 1, 2, 3]), (32, [0, 1, 2, 3]), (51, [0, 1, 2, 3]), (56, [0, 1, 3])] 400 h
theorem e_X11_same {d L : Nat} {fz t : Bool} {Q : pm_R → pm_H → Prop} {x1 : Int32} {I : Nat → Nat → Int32} {J : Nat → Nat → Int64}
    (h : pm_Ev d 180 [.ref 85, .int x1] (pm_hp L fz t (pm_u I 85 0 (nI 0)) J) (K_X11_same_10 d fz t Q x1)) :
    pm_Ev (d + 1) 208 [.ref 85, .int x1] (pm_hp L fz t I J) Q := pm_Ev_in rfl (b_X11_same_0 h)
set_option maxRecDepth 100000 in
theorem b_X11_same_10 {d L : Nat} {fz t : Bool} {Q : pm_R → pm_H → Prop} {x1 : Int32} {r : Int32} {I : Nat → Nat → Int32} {J : Nat → Nat → Int64}
    (h : ((¬ r = (nI 0) → pm_Ev d 199 [.ref 85] (pm_hp L fz t I J) (K_X11_same_19 d fz t Q x1)) ∧ (r = (nI 0) → Q (.inl (some (.int (nI 0)))) (pm_hp L fz t I J)))) :
    t_X11_same_10 d L fz t Q x1 r I J := by
  exact pm_go d [(10, [0, 1]), (19, [0, 1]), (23, [0, 1]), (27, [0, 1, 2, 3]), (32, [0, 1, 2, 3]), (51, [0, 1, 2, 3]), (56, [0, 1, 3])] 400 ⟨fun q0 => ((h).1 q0), fun q0 => ((h).2 q0)⟩
theorem kb_X11_same_10 {d L : Nat} {fz t : Bool} {Q : pm_R → pm_H → Prop} {x1 : Int32} {r : Int32} {fz1 : Bool} {I : Nat → Nat → Int32} {J : Nat → Nat → Int64}
    (h : ((¬ r = (nI 0) → pm_Ev d 199 [.ref 85] (pm_hp L fz t I J) (K_X11_same_19 d fz t Q x1)) ∧ (r = (nI 0) → Q (.inl (some (.int (nI 0)))) (pm_hp L fz t I J)))) :
    K_X11_same_10 d fz t Q x1 (.inl (some (.int r))) (pm_hp L fz1 t I J) := b_X11_same_10 h
set_option maxRecDepth 100000 in
theorem b_X11_same_19 {d L : Nat} {fz t : Bool} {Q : pm_R → pm_H → Prop} {x1 : Int32} {I : Nat → Nat → Int32} {J : Nat → Nat → Int64}
    (h : pm_Ev d 160 [.ref 85] (pm_hp L fz t I J) (K_X11_same_23 d fz t Q x1)) :
    t_X11_same_19 d L fz t Q x1 I J := by
  exact pm_go d [(10, [0, 1]), (19, [0, 1]), (23, [0, 1]), (27, [0, 1, 2, 3]), (32, [0, 1, 2, 3]), (51, [0, 1, 2, 3]), (56, [0, 1, 3])] 400 h
theorem kb_X11_same_19 {d L : Nat} {fz t : Bool} {Q : pm_R → pm_H → Prop} {x1 : Int32} {fz1 : Bool} {I : Nat → Nat → Int32} {J : Nat → Nat → Int64}
    (h : pm_Ev d 160 [.ref 85] (pm_hp L fz t I J) (K_X11_same_23 d fz t Q x1)) :
    K_X11_same_19 d fz t Q x1 (.inl none) (pm_hp L fz1 t I J) := b_X11_same_19 h
set_option maxRecDepth 100000 in
theorem b_X11_same_23 {d L : Nat} {fz t : Bool} {Q : pm_R → pm_H → Prop} {x1 : Int32} {I : Nat → Nat → Int32} {J : Nat → Nat → Int64}
    (h : t_X11_same_27 d L fz t Q x1 (nI 0) (nI 0) I J) :
    t_X11_same_23 d L fz t Q x1 I J := by
  exact pm_go d [(10, [0, 1]), (19, [0, 1]), (23, [0, 1]), (27, [0, 1, 2, 3]), (32, [0, 1, 2, 3]), (51, [0, 1, 2, 3]), (56, [0, 1, 3])] 400 h
theorem kb_X11_same_23 {d L : Nat} {fz t : Bool} {Q : pm_R → pm_H → Prop} {x1 : Int32} {fz1 : Bool} {I : Nat → Nat → Int32} {J : Nat → Nat → Int64}
    (h : t_X11_same_27 d L fz t Q x1 (nI 0) (nI 0) I J) :
    K_X11_same_23 d fz t Q x1 (.inl none) (pm_hp L fz1 t I J) := b_X11_same_23 h
set_option maxRecDepth 100000 in
theorem b_X11_same_27 {d L : Nat} {fz t : Bool} {Q : pm_R → pm_H → Prop} {x1 : Int32} {x2 : Int32} {x3 : Int32} {I : Nat → Nat → Int32} {J : Nat → Nat → Int64}
    (h : pm_Ev d 161 [.ref 85] (pm_hp L fz t I J) (K_X11_same_32 d fz t Q x1 x2 x3 x3)) :
    t_X11_same_27 d L fz t Q x1 x2 x3 I J := by
  exact pm_go d [(10, [0, 1]), (19, [0, 1]), (23, [0, 1]), (27, [0, 1, 2, 3]), (32, [0, 1, 2, 3]), (51, [0, 1, 2, 3]), (56, [0, 1, 3])] 400 h
set_option maxRecDepth 100000 in
theorem b_X11_same_32 {d L : Nat} {fz t : Bool} {Q : pm_R → pm_H → Prop} {x1 : Int32} {x2 : Int32} {x3 : Int32} {s0 : Int32} {r : Int32} {I : Nat → Nat → Int32} {J : Nat → Nat → Int64}
    (h : ((r < s0 → Q (.inl (some (.int x2))) (pm_hp L fz t I J)) ∧ (¬ r < s0 → (vp_in ((nI 36) + x1) 68 ∧ pm_Ev d 169 [.ref 85, .int (nI 34)] (pm_hp L fz t (pm_u I 103 (((nI 36) + x1)).toNatClampNeg x3) J) (K_X11_same_51 d fz t Q x1 x2 x3))))) :
    t_X11_same_32 d L fz t Q x1 x2 x3 s0 r I J := by
  exact pm_go d [(10, [0, 1]), (19, [0, 1]), (23, [0, 1]), (27, [0, 1, 2, 3]), (32, [0, 1, 2, 3]), (51, [0, 1, 2, 3]), (56, [0, 1, 3])] 400 ⟨fun q0 => ((h).1 q0), fun q0 => ⟨(((h).2 q0)).1, (((h).2 q0)).2⟩⟩
theorem kb_X11_same_32 {d L : Nat} {fz t : Bool} {Q : pm_R → pm_H → Prop} {x1 : Int32} {x2 : Int32} {x3 : Int32} {s0 : Int32} {r : Int32} {fz1 : Bool} {I : Nat → Nat → Int32} {J : Nat → Nat → Int64}
    (h : ((r < s0 → Q (.inl (some (.int x2))) (pm_hp L fz t I J)) ∧ (¬ r < s0 → (vp_in ((nI 36) + x1) 68 ∧ pm_Ev d 169 [.ref 85, .int (nI 34)] (pm_hp L fz t (pm_u I 103 (((nI 36) + x1)).toNatClampNeg x3) J) (K_X11_same_51 d fz t Q x1 x2 x3))))) :
    K_X11_same_32 d fz t Q x1 x2 x3 s0 (.inl (some (.int r))) (pm_hp L fz1 t I J) := b_X11_same_32 h
set_option maxRecDepth 100000 in
theorem b_X11_same_51 {d L : Nat} {fz t : Bool} {Q : pm_R → pm_H → Prop} {x1 : Int32} {x2 : Int32} {x3 : Int32} {I : Nat → Nat → Int32} {J : Nat → Nat → Int64}
    (h : pm_Ev d 200 [.ref 85] (pm_hp L fz t I J) (K_X11_same_56 d fz t Q x1 x3 x2)) :
    t_X11_same_51 d L fz t Q x1 x2 x3 I J := by
  exact pm_go d [(10, [0, 1]), (19, [0, 1]), (23, [0, 1]), (27, [0, 1, 2, 3]), (32, [0, 1, 2, 3]), (51, [0, 1, 2, 3]), (56, [0, 1, 3])] 400 h
theorem kb_X11_same_51 {d L : Nat} {fz t : Bool} {Q : pm_R → pm_H → Prop} {x1 : Int32} {x2 : Int32} {x3 : Int32} {fz1 : Bool} {I : Nat → Nat → Int32} {J : Nat → Nat → Int64}
    (h : pm_Ev d 200 [.ref 85] (pm_hp L fz t I J) (K_X11_same_56 d fz t Q x1 x3 x2)) :
    K_X11_same_51 d fz t Q x1 x2 x3 (.inl none) (pm_hp L fz1 t I J) := b_X11_same_51 h
set_option maxRecDepth 100000 in
theorem b_X11_same_56 {d L : Nat} {fz t : Bool} {Q : pm_R → pm_H → Prop} {x1 : Int32} {x3 : Int32} {s0 : Int32} {r : Int32} {I : Nat → Nat → Int32} {J : Nat → Nat → Int64}
    (h : ((r = (nI 0) → t_X11_same_27 d L fz t Q x1 (s0 + (nI 0)) (x3 + (nI 1)) I J) ∧ (¬ r = (nI 0) → t_X11_same_27 d L fz t Q x1 (s0 + (nI 1)) (x3 + (nI 1)) I J))) :
    t_X11_same_56 d L fz t Q x1 x3 s0 r I J := by
  exact pm_go d [(10, [0, 1]), (19, [0, 1]), (23, [0, 1]), (27, [0, 1, 2, 3]), (32, [0, 1, 2, 3]), (51, [0, 1, 2, 3]), (56, [0, 1, 3])] 400 ⟨fun q0 => ((h).1 q0), fun q0 => ((h).2 q0)⟩
theorem kb_X11_same_56 {d L : Nat} {fz t : Bool} {Q : pm_R → pm_H → Prop} {x1 : Int32} {x3 : Int32} {s0 : Int32} {r : Int32} {fz1 : Bool} {I : Nat → Nat → Int32} {J : Nat → Nat → Int64}
    (h : ((r = (nI 0) → t_X11_same_27 d L fz t Q x1 (s0 + (nI 0)) (x3 + (nI 1)) I J) ∧ (¬ r = (nI 0) → t_X11_same_27 d L fz t Q x1 (s0 + (nI 1)) (x3 + (nI 1)) I J))) :
    K_X11_same_56 d fz t Q x1 x3 s0 (.inl (some (.int r))) (pm_hp L fz1 t I J) := b_X11_same_56 h
def t_X11_see_0 (d L : Nat) (fz t : Bool) (Q : pm_R → pm_H → Prop) (x1 : Int32) (x2 : Int32) (x3 : Int32) (x4 : Int32) (I : Nat → Nat → Int32) (J : Nat → Nat → Int64) : Prop := pm_T (pm_Ev d) 209 Q (0, [(0, .ref 85), (1, .int x1), (2, .int x2), (3, .int x3), (4, .int x4)], [], pm_hp L fz t I J, 0, 0)
def t_X11_see_10 (d L : Nat) (fz t : Bool) (Q : pm_R → pm_H → Prop) (x1 : Int32) (x2 : Int32) (x3 : Int32) (x4 : Int32) (r : Int32) (I : Nat → Nat → Int32) (J : Nat → Nat → Int64) : Prop := pm_T (pm_Ev d) 209 Q (10, [(0, .ref 85), (1, .int x1), (2, .int x2), (3, .int x3), (4, .int x4)], [.int r], pm_hp L fz t I J, 0, 0)
def K_X11_see_10 (d : Nat) (fz t : Bool) (Q : pm_R → pm_H → Prop) (x1 : Int32) (x2 : Int32) (x3 : Int32) (x4 : Int32) : pm_R → pm_H → Prop := pm_K d 209 Q 10 [(0, .ref 85), (1, .int x1), (2, .int x2), (3, .int x3), (4, .int x4)] [] 118 0 fz 0 0
def t_X11_see_35 (d L : Nat) (fz t : Bool) (Q : pm_R → pm_H → Prop) (x1 : Int32) (x2 : Int32) (x3 : Int32) (x4 : Int32) (r : Int32) (I : Nat → Nat → Int32) (J : Nat → Nat → Int64) : Prop := pm_T (pm_Ev d) 209 Q (35, [(0, .ref 85), (1, .int x1), (2, .int x2), (3, .int x3), (4, .int x4)], [.int r], pm_hp L fz t I J, 0, 0)
def K_X11_see_35 (d : Nat) (fz t : Bool) (Q : pm_R → pm_H → Prop) (x1 : Int32) (x2 : Int32) (x3 : Int32) (x4 : Int32) : pm_R → pm_H → Prop := pm_K d 209 Q 35 [(0, .ref 85), (1, .int x1), (2, .int x2), (3, .int x3), (4, .int x4)] [] 118 0 fz 0 0
def t_X11_see_64 (d L : Nat) (fz t : Bool) (Q : pm_R → pm_H → Prop) (r : Int32) (I : Nat → Nat → Int32) (J : Nat → Nat → Int64) : Prop := pm_T (pm_Ev d) 209 Q (64, [], [.int r], pm_hp L fz t I J, 0, 0)
def K_X11_see_64 (d : Nat) (fz t : Bool) (Q : pm_R → pm_H → Prop) : pm_R → pm_H → Prop := pm_K d 209 Q 64 [] [] 118 0 fz 0 0
def t_X11_see_56 (d L : Nat) (fz t : Bool) (Q : pm_R → pm_H → Prop) (x1 : Int32) (x2 : Int32) (x3 : Int32) (x4 : Int32) (r : Int32) (I : Nat → Nat → Int32) (J : Nat → Nat → Int64) : Prop := pm_T (pm_Ev d) 209 Q (56, [(0, .ref 85), (1, .int x1), (2, .int x2), (3, .int x3), (4, .int x4)], [.int r], pm_hp L fz t I J, 0, 0)
def K_X11_see_56 (d : Nat) (fz t : Bool) (Q : pm_R → pm_H → Prop) (x1 : Int32) (x2 : Int32) (x3 : Int32) (x4 : Int32) : pm_R → pm_H → Prop := pm_K d 209 Q 56 [(0, .ref 85), (1, .int x1), (2, .int x2), (3, .int x3), (4, .int x4)] [] 118 0 fz 0 0
set_option maxRecDepth 100000 in
theorem b_X11_see_0 {d L : Nat} {fz t : Bool} {Q : pm_R → pm_H → Prop} {x1 : Int32} {x2 : Int32} {x3 : Int32} {x4 : Int32} {I : Nat → Nat → Int32} {J : Nat → Nat → Int64}
    (h : pm_Ev d 181 [.ref 85, .int x1] (pm_hp L fz t (pm_u I 85 0 (nI 0)) J) (K_X11_see_10 d fz t Q x1 x2 x3 x4)) :
    t_X11_see_0 d L fz t Q x1 x2 x3 x4 I J := by
  exact pm_go d [(10, [0, 1, 2, 3, 4]), (35, [0, 1, 2, 3, 4]), (56, [0, 1, 2, 3, 4]), (64, [])] 400 h
theorem e_X11_see {d L : Nat} {fz t : Bool} {Q : pm_R → pm_H → Prop} {x1 : Int32} {x2 : Int32} {x3 : Int32} {x4 : Int32} {I : Nat → Nat → Int32} {J : Nat → Nat → Int64}
    (h : pm_Ev d 181 [.ref 85, .int x1] (pm_hp L fz t (pm_u I 85 0 (nI 0)) J) (K_X11_see_10 d fz t Q x1 x2 x3 x4)) :
    pm_Ev (d + 1) 209 [.ref 85, .int x1, .int x2, .int x3, .int x4] (pm_hp L fz t I J) Q := pm_Ev_in rfl (b_X11_see_0 h)
set_option maxRecDepth 100000 in
theorem b_X11_see_10 {d L : Nat} {fz t : Bool} {Q : pm_R → pm_H → Prop} {x1 : Int32} {x2 : Int32} {x3 : Int32} {x4 : Int32} {r : Int32} {I : Nat → Nat → Int32} {J : Nat → Nat → Int64}
    (h : ((r = (nI 0) → Q (.inl (some (.int (nI 0)))) (pm_hp L fz t I J)) ∧ (¬ r = (nI 0) → ((x2 < (nI 0) → pm_Ev d 118 [.ref 85, .int (nI 0), .int (nI 1)] (pm_hp L fz t I J) (K_X11_see_35 d fz t Q x1 x2 x3 x4)) ∧ (¬ x2 < (nI 0) → (((I 85 1) ≤ x2 → pm_Ev d 118 [.ref 85, .int (nI 0), .int (nI 1)] (pm_hp L fz t I J) (K_X11_see_35 d fz t Q x1 x2 x3 x4)) ∧ (¬ (I 85 1) ≤ x2 → pm_Ev d 118 [.ref 85, .int (nI 1), .int (nI 1)] (pm_hp L fz t I J) (K_X11_see_35 d fz t Q x1 x2 x3 x4)))))))) :
    t_X11_see_10 d L fz t Q x1 x2 x3 x4 r I J := by
  exact pm_go d [(10, [0, 1, 2, 3, 4]), (35, [0, 1, 2, 3, 4]), (56, [0, 1, 2, 3, 4]), (64, [])] 400 ⟨fun q0 => ((h).1 q0), fun q0 => ⟨fun q1 => ((((h).2 q0)).1 q1), fun q1 => ⟨fun q2 => ((((((h).2 q0)).2 q1)).1 q2), fun q2 => ((((((h).2 q0)).2 q1)).2 q2)⟩⟩⟩
theorem kb_X11_see_10 {d L : Nat} {fz t : Bool} {Q : pm_R → pm_H → Prop} {x1 : Int32} {x2 : Int32} {x3 : Int32} {x4 : Int32} {r : Int32} {fz1 : Bool} {I : Nat → Nat → Int32} {J : Nat → Nat → Int64}
    (h : ((r = (nI 0) → Q (.inl (some (.int (nI 0)))) (pm_hp L fz t I J)) ∧ (¬ r = (nI 0) → ((x2 < (nI 0) → pm_Ev d 118 [.ref 85, .int (nI 0), .int (nI 1)] (pm_hp L fz t I J) (K_X11_see_35 d fz t Q x1 x2 x3 x4)) ∧ (¬ x2 < (nI 0) → (((I 85 1) ≤ x2 → pm_Ev d 118 [.ref 85, .int (nI 0), .int (nI 1)] (pm_hp L fz t I J) (K_X11_see_35 d fz t Q x1 x2 x3 x4)) ∧ (¬ (I 85 1) ≤ x2 → pm_Ev d 118 [.ref 85, .int (nI 1), .int (nI 1)] (pm_hp L fz t I J) (K_X11_see_35 d fz t Q x1 x2 x3 x4)))))))) :
    K_X11_see_10 d fz t Q x1 x2 x3 x4 (.inl (some (.int r))) (pm_hp L fz1 t I J) := b_X11_see_10 h
set_option maxRecDepth 100000 in
theorem b_X11_see_35 {d L : Nat} {fz t : Bool} {Q : pm_R → pm_H → Prop} {x1 : Int32} {x2 : Int32} {x3 : Int32} {x4 : Int32} {r : Int32} {I : Nat → Nat → Int32} {J : Nat → Nat → Int64}
    (h : ((¬ r = (nI 0) → (((I 85 55) = (nI 8) → pm_Ev d 158 [.ref 85, .int (nI 2)] (pm_hp L fz t I J) (K_X11_see_64 d fz t Q)) ∧ (¬ (I 85 55) = (nI 8) → pm_Ev d 119 [.int x3, .int (nI 0), .int (nI 20)] (pm_hp L fz t I J) (K_X11_see_56 d fz t Q x1 x2 x3 x4)))) ∧ (r = (nI 0) → Q (.inl (some (.int (nI 0)))) (pm_hp L fz t I J)))) :
    t_X11_see_35 d L fz t Q x1 x2 x3 x4 r I J := by
  exact pm_go d [(10, [0, 1, 2, 3, 4]), (35, [0, 1, 2, 3, 4]), (56, [0, 1, 2, 3, 4]), (64, [])] 400 ⟨fun q0 => ⟨fun q1 => ((((h).1 q0)).1 q1), fun q1 => ((((h).1 q0)).2 q1)⟩, fun q0 => ((h).2 q0)⟩
theorem kb_X11_see_35 {d L : Nat} {fz t : Bool} {Q : pm_R → pm_H → Prop} {x1 : Int32} {x2 : Int32} {x3 : Int32} {x4 : Int32} {r : Int32} {fz1 : Bool} {I : Nat → Nat → Int32} {J : Nat → Nat → Int64}
    (h : ((¬ r = (nI 0) → (((I 85 55) = (nI 8) → pm_Ev d 158 [.ref 85, .int (nI 2)] (pm_hp L fz t I J) (K_X11_see_64 d fz t Q)) ∧ (¬ (I 85 55) = (nI 8) → pm_Ev d 119 [.int x3, .int (nI 0), .int (nI 20)] (pm_hp L fz t I J) (K_X11_see_56 d fz t Q x1 x2 x3 x4)))) ∧ (r = (nI 0) → Q (.inl (some (.int (nI 0)))) (pm_hp L fz t I J)))) :
    K_X11_see_35 d fz t Q x1 x2 x3 x4 (.inl (some (.int r))) (pm_hp L fz1 t I J) := b_X11_see_35 h
set_option maxRecDepth 100000 in
theorem b_X11_see_64 {d L : Nat} {fz t : Bool} {Q : pm_R → pm_H → Prop} {r : Int32} {I : Nat → Nat → Int32} {J : Nat → Nat → Int64}
    (h : Q (.inl (some (.int r))) (pm_hp L fz t I J)) :
    t_X11_see_64 d L fz t Q r I J := by
  exact pm_go d [(10, [0, 1, 2, 3, 4]), (35, [0, 1, 2, 3, 4]), (56, [0, 1, 2, 3, 4]), (64, [])] 400 h
theorem kb_X11_see_64 {d L : Nat} {fz t : Bool} {Q : pm_R → pm_H → Prop} {r : Int32} {fz1 : Bool} {I : Nat → Nat → Int32} {J : Nat → Nat → Int64}
    (h : Q (.inl (some (.int r))) (pm_hp L fz t I J)) :
    K_X11_see_64 d fz t Q (.inl (some (.int r))) (pm_hp L fz1 t I J) := b_X11_see_64 h
set_option maxRecDepth 100000 in
theorem b_X11_see_56 {d L : Nat} {fz t : Bool} {Q : pm_R → pm_H → Prop} {x1 : Int32} {x2 : Int32} {x3 : Int32} {x4 : Int32} {r : Int32} {I : Nat → Nat → Int32} {J : Nat → Nat → Int64}
    (h : ((¬ r = (nI 0) → (vp_in ((nI 4) * (I 85 55)) 32 ∧ (vp_in (((nI 4) * (I 85 55)) + (nI 1)) 32 ∧ (vp_in (((nI 4) * (I 85 55)) + (nI 2)) 32 ∧ ((x4 = (nI 0) → (vp_in (((nI 4) * (I 85 55)) + (nI 3)) 32 ∧ Q (.inl (some (.int ((I 85 55) + (nI 1))))) (pm_hp L fz t (pm_u (pm_u (pm_u (pm_u (pm_u I 110 (((nI 4) * (I 85 55))).toNatClampNeg x1) 110 ((((nI 4) * (I 85 55)) + (nI 1))).toNatClampNeg x2) 110 ((((nI 4) * (I 85 55)) + (nI 2))).toNatClampNeg x3) 110 ((((nI 4) * (I 85 55)) + (nI 3))).toNatClampNeg (nI 0)) 85 55 ((I 85 55) + (nI 1))) J))) ∧ (¬ x4 = (nI 0) → (vp_in (((nI 4) * (I 85 55)) + (nI 3)) 32 ∧ Q (.inl (some (.int ((I 85 55) + (nI 1))))) (pm_hp L fz t (pm_u (pm_u (pm_u (pm_u (pm_u I 110 (((nI 4) * (I 85 55))).toNatClampNeg x1) 110 ((((nI 4) * (I 85 55)) + (nI 1))).toNatClampNeg x2) 110 ((((nI 4) * (I 85 55)) + (nI 2))).toNatClampNeg x3) 110 ((((nI 4) * (I 85 55)) + (nI 3))).toNatClampNeg (nI 1)) 85 55 ((I 85 55) + (nI 1))) J)))))))) ∧ (r = (nI 0) → pm_Ev d 158 [.ref 85, .int (nI 2)] (pm_hp L fz t I J) (K_X11_see_64 d fz t Q)))) :
    t_X11_see_56 d L fz t Q x1 x2 x3 x4 r I J := by
  exact pm_go d [(10, [0, 1, 2, 3, 4]), (35, [0, 1, 2, 3, 4]), (56, [0, 1, 2, 3, 4]), (64, [])] 400 ⟨fun q0 => ⟨(((h).1 q0)).1, ⟨((((h).1 q0)).2).1, ⟨(((((h).1 q0)).2).2).1, ⟨fun q1 => ⟨((((((((h).1 q0)).2).2).2).1 q1)).1, ((((((((h).1 q0)).2).2).2).1 q1)).2⟩, fun q1 => ⟨((((((((h).1 q0)).2).2).2).2 q1)).1, ((((((((h).1 q0)).2).2).2).2 q1)).2⟩⟩⟩⟩⟩, fun q0 => ((h).2 q0)⟩
theorem kb_X11_see_56 {d L : Nat} {fz t : Bool} {Q : pm_R → pm_H → Prop} {x1 : Int32} {x2 : Int32} {x3 : Int32} {x4 : Int32} {r : Int32} {fz1 : Bool} {I : Nat → Nat → Int32} {J : Nat → Nat → Int64}
    (h : ((¬ r = (nI 0) → (vp_in ((nI 4) * (I 85 55)) 32 ∧ (vp_in (((nI 4) * (I 85 55)) + (nI 1)) 32 ∧ (vp_in (((nI 4) * (I 85 55)) + (nI 2)) 32 ∧ ((x4 = (nI 0) → (vp_in (((nI 4) * (I 85 55)) + (nI 3)) 32 ∧ Q (.inl (some (.int ((I 85 55) + (nI 1))))) (pm_hp L fz t (pm_u (pm_u (pm_u (pm_u (pm_u I 110 (((nI 4) * (I 85 55))).toNatClampNeg x1) 110 ((((nI 4) * (I 85 55)) + (nI 1))).toNatClampNeg x2) 110 ((((nI 4) * (I 85 55)) + (nI 2))).toNatClampNeg x3) 110 ((((nI 4) * (I 85 55)) + (nI 3))).toNatClampNeg (nI 0)) 85 55 ((I 85 55) + (nI 1))) J))) ∧ (¬ x4 = (nI 0) → (vp_in (((nI 4) * (I 85 55)) + (nI 3)) 32 ∧ Q (.inl (some (.int ((I 85 55) + (nI 1))))) (pm_hp L fz t (pm_u (pm_u (pm_u (pm_u (pm_u I 110 (((nI 4) * (I 85 55))).toNatClampNeg x1) 110 ((((nI 4) * (I 85 55)) + (nI 1))).toNatClampNeg x2) 110 ((((nI 4) * (I 85 55)) + (nI 2))).toNatClampNeg x3) 110 ((((nI 4) * (I 85 55)) + (nI 3))).toNatClampNeg (nI 1)) 85 55 ((I 85 55) + (nI 1))) J)))))))) ∧ (r = (nI 0) → pm_Ev d 158 [.ref 85, .int (nI 2)] (pm_hp L fz t I J) (K_X11_see_64 d fz t Q)))) :
    K_X11_see_56 d fz t Q x1 x2 x3 x4 (.inl (some (.int r))) (pm_hp L fz1 t I J) := b_X11_see_56 h
def t_X11_forget_0 (d L : Nat) (fz t : Bool) (Q : pm_R → pm_H → Prop) (I : Nat → Nat → Int32) (J : Nat → Nat → Int64) : Prop := pm_T (pm_Ev d) 210 Q (0, [(0, .ref 85)], [], pm_hp L fz t I J, 0, 0)
set_option maxRecDepth 100000 in
theorem b_X11_forget_0 {d L : Nat} {fz t : Bool} {Q : pm_R → pm_H → Prop} {I : Nat → Nat → Int32} {J : Nat → Nat → Int64}
    (h : Q (.inl none) (pm_hp L fz t (pm_u (pm_u I 85 0 (nI 0)) 85 55 (nI 0)) J)) :
    t_X11_forget_0 d L fz t Q I J := by
  exact pm_go d [] 400 h
theorem e_X11_forget {d L : Nat} {fz t : Bool} {Q : pm_R → pm_H → Prop} {I : Nat → Nat → Int32} {J : Nat → Nat → Int64}
    (h : Q (.inl none) (pm_hp L fz t (pm_u (pm_u I 85 0 (nI 0)) 85 55 (nI 0)) J)) :
    pm_Ev (d + 1) 210 [.ref 85] (pm_hp L fz t I J) Q := pm_Ev_in rfl (b_X11_forget_0 h)
def t_X11_isSeen_0 (d L : Nat) (fz t : Bool) (Q : pm_R → pm_H → Prop) (I : Nat → Nat → Int32) (J : Nat → Nat → Int64) : Prop := pm_T (pm_Ev d) 211 Q (0, [(0, .ref 85)], [], pm_hp L fz t I J, 0, 0)
def t_X11_isSeen_4 (d L : Nat) (fz t : Bool) (Q : pm_R → pm_H → Prop) (x1 : Int32) (x2 : Int32) (I : Nat → Nat → Int32) (J : Nat → Nat → Int64) : Prop := pm_T (pm_Ev d) 211 Q (4, [(0, .ref 85), (1, .int x1), (2, .int x2)], [], pm_hp L fz t I J, 0, 0)
def t_X11_isSeen_49 (d L : Nat) (fz t : Bool) (Q : pm_R → pm_H → Prop) (x1 : Int32) (x2 : Int32) (I : Nat → Nat → Int32) (J : Nat → Nat → Int64) : Prop := pm_T (pm_Ev d) 211 Q (49, [(0, .ref 85), (1, .int x1), (2, .int x2)], [], pm_hp L fz t I J, 0, 0)
def t_X11_isSeen_60 (d L : Nat) (fz t : Bool) (Q : pm_R → pm_H → Prop) (x1 : Int32) (x2 : Int32) (I : Nat → Nat → Int32) (J : Nat → Nat → Int64) : Prop := pm_T (pm_Ev d) 211 Q (60, [(0, .ref 85), (1, .int x1), (2, .int x2)], [], pm_hp L fz t I J, 0, 0)
def K_X11_isSeen_60 (d : Nat) (fz t : Bool) (Q : pm_R → pm_H → Prop) (x1 : Int32) (x2 : Int32) : pm_R → pm_H → Prop := pm_K d 211 Q 60 [(0, .ref 85), (1, .int x1), (2, .int x2)] [] 118 0 fz 0 0
def t_X11_isSeen_62 (d L : Nat) (fz t : Bool) (Q : pm_R → pm_H → Prop) (x1 : Int32) (x2 : Int32) (x3 : Int32) (I : Nat → Nat → Int32) (J : Nat → Nat → Int64) : Prop := pm_T (pm_Ev d) 211 Q (62, [(0, .ref 85), (1, .int x1), (2, .int x2), (3, .int x3)], [], pm_hp L fz t I J, 0, 0)
def t_X11_isSeen_137 (d L : Nat) (fz t : Bool) (Q : pm_R → pm_H → Prop) (x1 : Int32) (x2 : Int32) (I : Nat → Nat → Int32) (J : Nat → Nat → Int64) : Prop := pm_T (pm_Ev d) 211 Q (137, [(0, .ref 85), (1, .int x1), (2, .int x2)], [], pm_hp L fz t I J, 0, 0)
def K_X11_isSeen_137 (d : Nat) (fz t : Bool) (Q : pm_R → pm_H → Prop) (x1 : Int32) (x2 : Int32) : pm_R → pm_H → Prop := pm_K d 211 Q 137 [(0, .ref 85), (1, .int x1), (2, .int x2)] [] 118 0 fz 0 0
set_option maxRecDepth 100000 in
theorem b_X11_isSeen_0 {d L : Nat} {fz t : Bool} {Q : pm_R → pm_H → Prop} {I : Nat → Nat → Int32} {J : Nat → Nat → Int64}
    (h : t_X11_isSeen_4 d L fz t Q (-1 : Int32) (nI 0) I J) :
    t_X11_isSeen_0 d L fz t Q I J := by
  exact pm_go d [(4, [0, 1, 2]), (49, [0, 1, 2]), (60, [0, 1, 2]), (62, [0, 1, 2, 3]), (137, [0, 1, 2])] 400 h
theorem e_X11_isSeen {d L : Nat} {fz t : Bool} {Q : pm_R → pm_H → Prop} {I : Nat → Nat → Int32} {J : Nat → Nat → Int64}
    (h : t_X11_isSeen_4 d L fz t Q (-1 : Int32) (nI 0) I J) :
    pm_Ev (d + 1) 211 [.ref 85] (pm_hp L fz t I J) Q := pm_Ev_in rfl (b_X11_isSeen_0 h)
set_option maxRecDepth 100000 in
theorem b_X11_isSeen_4 {d L : Nat} {fz t : Bool} {Q : pm_R → pm_H → Prop} {x1 : Int32} {x2 : Int32} {I : Nat → Nat → Int32} {J : Nat → Nat → Int64}
    (h : (((I 85 55) ≤ x2 → t_X11_isSeen_49 d L fz t Q x1 (nI 0) I J) ∧ (¬ (I 85 55) ≤ x2 → (vp_in (((nI 4) * x2) + (nI 2)) 32 ∧ (((I 110 ((((nI 4) * x2) + (nI 2))).toNatClampNeg) ≤ x1 → t_X11_isSeen_4 d L fz t Q x1 (x2 + (nI 1)) I J) ∧ (¬ (I 110 ((((nI 4) * x2) + (nI 2))).toNatClampNeg) ≤ x1 → (vp_in (((nI 4) * x2) + (nI 2)) 32 ∧ t_X11_isSeen_4 d L fz t Q (I 110 ((((nI 4) * x2) + (nI 2))).toNatClampNeg) (x2 + (nI 1)) I J))))))) :
    t_X11_isSeen_4 d L fz t Q x1 x2 I J := by
  exact pm_go d [(4, [0, 1, 2]), (49, [0, 1, 2]), (60, [0, 1, 2]), (62, [0, 1, 2, 3]), (137, [0, 1, 2])] 400 ⟨fun q0 => ((h).1 q0), fun q0 => ⟨(((h).2 q0)).1, ⟨fun q1 => (((((h).2 q0)).2).1 q1), fun q1 => ⟨((((((h).2 q0)).2).2 q1)).1, ((((((h).2 q0)).2).2 q1)).2⟩⟩⟩⟩
set_option maxRecDepth 100000 in
theorem b_X11_isSeen_49 {d L : Nat} {fz t : Bool} {Q : pm_R → pm_H → Prop} {x1 : Int32} {x2 : Int32} {I : Nat → Nat → Int32} {J : Nat → Nat → Int64}
    (h : ((x1 < x2 → Q (.inl (some (.int (nI 1)))) (pm_hp L fz t I J)) ∧ (¬ x1 < x2 → pm_Ev d 169 [.ref 85, .int (nI 34)] (pm_hp L fz t I J) (K_X11_isSeen_60 d fz t Q x1 x2)))) :
    t_X11_isSeen_49 d L fz t Q x1 x2 I J := by
  exact pm_go d [(4, [0, 1, 2]), (49, [0, 1, 2]), (60, [0, 1, 2]), (62, [0, 1, 2, 3]), (137, [0, 1, 2])] 400 ⟨fun q0 => ⟨Or.inr rfl, ((h).1 q0)⟩, fun q0 => ((h).2 q0)⟩
set_option maxRecDepth 100000 in
theorem b_X11_isSeen_60 {d L : Nat} {fz t : Bool} {Q : pm_R → pm_H → Prop} {x1 : Int32} {x2 : Int32} {I : Nat → Nat → Int32} {J : Nat → Nat → Int64}
    (h : t_X11_isSeen_62 d L fz t Q x1 x2 (nI 0) I J) :
    t_X11_isSeen_60 d L fz t Q x1 x2 I J := by
  exact pm_go d [(4, [0, 1, 2]), (49, [0, 1, 2]), (60, [0, 1, 2]), (62, [0, 1, 2, 3]), (137, [0, 1, 2])] 400 h
theorem kb_X11_isSeen_60 {d L : Nat} {fz t : Bool} {Q : pm_R → pm_H → Prop} {x1 : Int32} {x2 : Int32} {fz1 : Bool} {I : Nat → Nat → Int32} {J : Nat → Nat → Int64}
    (h : t_X11_isSeen_62 d L fz t Q x1 x2 (nI 0) I J) :
    K_X11_isSeen_60 d fz t Q x1 x2 (.inl none) (pm_hp L fz1 t I J) := b_X11_isSeen_60 h
set_option maxRecDepth 100000 in
theorem b_X11_isSeen_62 {d L : Nat} {fz t : Bool} {Q : pm_R → pm_H → Prop} {x1 : Int32} {x2 : Int32} {x3 : Int32} {I : Nat → Nat → Int32} {J : Nat → Nat → Int64}
    (h : (((I 85 55) ≤ x3 → pm_Ev d 174 [.ref 85, .int (nI 34)] (pm_hp L fz t I J) (K_X11_isSeen_137 d fz t Q x1 x2)) ∧ (¬ (I 85 55) ≤ x3 → (vp_in (((nI 4) * x3) + (nI 2)) 32 ∧ ((¬ (I 110 ((((nI 4) * x3) + (nI 2))).toNatClampNeg) = x2 → t_X11_isSeen_62 d L fz t Q x1 x2 (x3 + (nI 1)) I J) ∧ ((I 110 ((((nI 4) * x3) + (nI 2))).toNatClampNeg) = x2 → (vp_in ((nI 4) * x3) 32 ∧ (vp_in (I 110 (((nI 4) * x3)).toNatClampNeg) 12 ∧ (vp_in (((nI 4) * x3) + (nI 1)) 32 ∧ (vp_in (((nI 4) * x3) + (nI 3)) 32 ∧ (((((I 107 ((I 110 (((nI 4) * x3)).toNatClampNeg)).toNatClampNeg) >>> ((I 110 ((((nI 4) * x3) + (nI 1))).toNatClampNeg) &&& 31)) &&& (nI 1)) = (I 110 ((((nI 4) * x3) + (nI 3))).toNatClampNeg) → t_X11_isSeen_62 d L fz t Q x1 x2 (x3 + (nI 1)) I J) ∧ (¬ (((I 107 ((I 110 (((nI 4) * x3)).toNatClampNeg)).toNatClampNeg) >>> ((I 110 ((((nI 4) * x3) + (nI 1))).toNatClampNeg) &&& 31)) &&& (nI 1)) = (I 110 ((((nI 4) * x3) + (nI 3))).toNatClampNeg) → Q (.inl (some (.int (nI 0)))) (pm_hp L fz t I J))))))))))))) :
    t_X11_isSeen_62 d L fz t Q x1 x2 x3 I J := by
  exact pm_go d [(4, [0, 1, 2]), (49, [0, 1, 2]), (60, [0, 1, 2]), (62, [0, 1, 2, 3]), (137, [0, 1, 2])] 400 ⟨fun q0 => ((h).1 q0), fun q0 => ⟨(((h).2 q0)).1, ⟨fun q1 => (((((h).2 q0)).2).1 q1), fun q1 => ⟨((((((h).2 q0)).2).2 q1)).1, ⟨(((((((h).2 q0)).2).2 q1)).2).1, ⟨((((((((h).2 q0)).2).2 q1)).2).2).1, ⟨(((((((((h).2 q0)).2).2 q1)).2).2).2).1, ⟨fun q2 => (((((((((((h).2 q0)).2).2 q1)).2).2).2).2).1 q2), fun q2 => ⟨Or.inl rfl, (((((((((((h).2 q0)).2).2 q1)).2).2).2).2).2 q2)⟩⟩⟩⟩⟩⟩⟩⟩⟩
set_option maxRecDepth 100000 in
theorem b_X11_isSeen_137 {d L : Nat} {fz t : Bool} {Q : pm_R → pm_H → Prop} {x1 : Int32} {x2 : Int32} {I : Nat → Nat → Int32} {J : Nat → Nat → Int64}
    (h : t_X11_isSeen_49 d L fz t Q x1 (x2 + (nI 1)) I J) :
    t_X11_isSeen_137 d L fz t Q x1 x2 I J := by
  exact pm_go d [(4, [0, 1, 2]), (49, [0, 1, 2]), (60, [0, 1, 2]), (62, [0, 1, 2, 3]), (137, [0, 1, 2])] 400 h
theorem kb_X11_isSeen_137 {d L : Nat} {fz t : Bool} {Q : pm_R → pm_H → Prop} {x1 : Int32} {x2 : Int32} {fz1 : Bool} {I : Nat → Nat → Int32} {J : Nat → Nat → Int64}
    (h : t_X11_isSeen_49 d L fz t Q x1 (x2 + (nI 1)) I J) :
    K_X11_isSeen_137 d fz t Q x1 x2 (.inl none) (pm_hp L fz1 t I J) := b_X11_isSeen_137 h
def t_X11_triesTurned_0 (d L : Nat) (fz t : Bool) (Q : pm_R → pm_H → Prop) (x1 : Int32) (I : Nat → Nat → Int32) (J : Nat → Nat → Int64) : Prop := pm_T (pm_Ev d) 212 Q (0, [(0, .ref 85), (1, .int x1)], [], pm_hp L fz t I J, 0, 0)
def t_X11_triesTurned_4 (d L : Nat) (fz t : Bool) (Q : pm_R → pm_H → Prop) (x1 : Int32) (I : Nat → Nat → Int32) (J : Nat → Nat → Int64) : Prop := pm_T (pm_Ev d) 212 Q (4, [(0, .ref 85), (1, .int x1)], [], pm_hp L fz t I J, 0, 0)
def K_X11_triesTurned_4 (d : Nat) (fz t : Bool) (Q : pm_R → pm_H → Prop) (x1 : Int32) : pm_R → pm_H → Prop := pm_K d 212 Q 4 [(0, .ref 85), (1, .int x1)] [] 118 0 fz 0 0
def t_X11_triesTurned_24 (d L : Nat) (fz t : Bool) (Q : pm_R → pm_H → Prop) (s1 : Int32) (r : Int32) (I : Nat → Nat → Int32) (J : Nat → Nat → Int64) : Prop := pm_T (pm_Ev d) 212 Q (24, [], [.int r, .int s1, .ref 103], pm_hp L fz t I J, 0, 0)
def K_X11_triesTurned_24 (d : Nat) (fz t : Bool) (Q : pm_R → pm_H → Prop) (s1 : Int32) : pm_R → pm_H → Prop := pm_K d 212 Q 24 [] [.int s1, .ref 103] 118 0 fz 0 0
set_option maxRecDepth 100000 in
theorem b_X11_triesTurned_0 {d L : Nat} {fz t : Bool} {Q : pm_R → pm_H → Prop} {x1 : Int32} {I : Nat → Nat → Int32} {J : Nat → Nat → Int64}
    (h : pm_Ev d 160 [.ref 85] (pm_hp L fz t I J) (K_X11_triesTurned_4 d fz t Q x1)) :
    t_X11_triesTurned_0 d L fz t Q x1 I J := by
  exact pm_go d [(4, [0, 1]), (24, [])] 400 h
theorem e_X11_triesTurned {d L : Nat} {fz t : Bool} {Q : pm_R → pm_H → Prop} {x1 : Int32} {I : Nat → Nat → Int32} {J : Nat → Nat → Int64}
    (h : pm_Ev d 160 [.ref 85] (pm_hp L fz t I J) (K_X11_triesTurned_4 d fz t Q x1)) :
    pm_Ev (d + 1) 212 [.ref 85, .int x1] (pm_hp L fz t I J) Q := pm_Ev_in rfl (b_X11_triesTurned_0 h)
set_option maxRecDepth 100000 in
theorem b_X11_triesTurned_4 {d L : Nat} {fz t : Bool} {Q : pm_R → pm_H → Prop} {x1 : Int32} {I : Nat → Nat → Int32} {J : Nat → Nat → Int64}
    (h : (vp_in ((nI 2) + x1) 68 ∧ pm_Ev d 190 [.ref 85, .int (I 103 (((nI 2) + x1)).toNatClampNeg)] (pm_hp L fz t I J) (K_X11_triesTurned_24 d fz t Q ((nI 36) + x1)))) :
    t_X11_triesTurned_4 d L fz t Q x1 I J := by
  exact pm_go d [(4, [0, 1]), (24, [])] 400 ⟨(h).1, (h).2⟩
theorem kb_X11_triesTurned_4 {d L : Nat} {fz t : Bool} {Q : pm_R → pm_H → Prop} {x1 : Int32} {fz1 : Bool} {I : Nat → Nat → Int32} {J : Nat → Nat → Int64}
    (h : (vp_in ((nI 2) + x1) 68 ∧ pm_Ev d 190 [.ref 85, .int (I 103 (((nI 2) + x1)).toNatClampNeg)] (pm_hp L fz t I J) (K_X11_triesTurned_24 d fz t Q ((nI 36) + x1)))) :
    K_X11_triesTurned_4 d fz t Q x1 (.inl none) (pm_hp L fz1 t I J) := b_X11_triesTurned_4 h
set_option maxRecDepth 100000 in
theorem b_X11_triesTurned_24 {d L : Nat} {fz t : Bool} {Q : pm_R → pm_H → Prop} {s1 : Int32} {r : Int32} {I : Nat → Nat → Int32} {J : Nat → Nat → Int64}
    (h : (vp_in s1 68 ∧ Q (.inl none) (pm_hp L fz t (pm_u I 103 (s1).toNatClampNeg r) J))) :
    t_X11_triesTurned_24 d L fz t Q s1 r I J := by
  exact pm_go d [(4, [0, 1]), (24, [])] 400 ⟨(h).1, (h).2⟩
theorem kb_X11_triesTurned_24 {d L : Nat} {fz t : Bool} {Q : pm_R → pm_H → Prop} {s1 : Int32} {r : Int32} {fz1 : Bool} {I : Nat → Nat → Int32} {J : Nat → Nat → Int64}
    (h : (vp_in s1 68 ∧ Q (.inl none) (pm_hp L fz t (pm_u I 103 (s1).toNatClampNeg r) J))) :
    K_X11_triesTurned_24 d fz t Q s1 (.inl (some (.int r))) (pm_hp L fz1 t I J) := b_X11_triesTurned_24 h
def t_X11_backwards_0 (d L : Nat) (fz t : Bool) (Q : pm_R → pm_H → Prop) (x1 : Int32) (I : Nat → Nat → Int32) (J : Nat → Nat → Int64) : Prop := pm_T (pm_Ev d) 213 Q (0, [(0, .ref 85), (1, .int x1)], [], pm_hp L fz t I J, 0, 0)
def t_X11_backwards_11 (d L : Nat) (fz t : Bool) (Q : pm_R → pm_H → Prop) (x1 : Int32) (r : Int32) (I : Nat → Nat → Int32) (J : Nat → Nat → Int64) : Prop := pm_T (pm_Ev d) 213 Q (11, [(0, .ref 85), (1, .int x1)], [.int r], pm_hp L fz t I J, 0, 0)
def K_X11_backwards_11 (d : Nat) (fz t : Bool) (Q : pm_R → pm_H → Prop) (x1 : Int32) : pm_R → pm_H → Prop := pm_K d 213 Q 11 [(0, .ref 85), (1, .int x1)] [] 118 0 fz 0 0
def t_X11_backwards_20 (d L : Nat) (fz t : Bool) (Q : pm_R → pm_H → Prop) (x1 : Int32) (I : Nat → Nat → Int32) (J : Nat → Nat → Int64) : Prop := pm_T (pm_Ev d) 213 Q (20, [(0, .ref 85), (1, .int x1)], [], pm_hp L fz t I J, 0, 0)
def K_X11_backwards_20 (d : Nat) (fz t : Bool) (Q : pm_R → pm_H → Prop) (x1 : Int32) : pm_R → pm_H → Prop := pm_K d 213 Q 20 [(0, .ref 85), (1, .int x1)] [] 118 0 fz 0 0
def t_X11_backwards_45 (d L : Nat) (fz t : Bool) (Q : pm_R → pm_H → Prop) (x1 : Int32) (x2 : Int32) (x3 : Int32) (x4 : Int32) (I : Nat → Nat → Int32) (J : Nat → Nat → Int64) : Prop := pm_T (pm_Ev d) 213 Q (45, [(0, .ref 85), (1, .int x1), (2, .int x2), (3, .int x3), (4, .int x4)], [], pm_hp L fz t I J, 0, 0)
def t_X11_backwards_29 (d L : Nat) (fz t : Bool) (Q : pm_R → pm_H → Prop) (r : Int32) (I : Nat → Nat → Int32) (J : Nat → Nat → Int64) : Prop := pm_T (pm_Ev d) 213 Q (29, [], [.int r], pm_hp L fz t I J, 0, 0)
def K_X11_backwards_29 (d : Nat) (fz t : Bool) (Q : pm_R → pm_H → Prop) : pm_R → pm_H → Prop := pm_K d 213 Q 29 [] [] 118 0 fz 0 0
def t_X11_backwards_60 (d L : Nat) (fz t : Bool) (Q : pm_R → pm_H → Prop) (x1 : Int32) (x2 : Int32) (x3 : Int32) (x4 : Int32) (I : Nat → Nat → Int32) (J : Nat → Nat → Int64) : Prop := pm_T (pm_Ev d) 213 Q (60, [(0, .ref 85), (1, .int x1), (2, .int x2), (3, .int x3), (4, .int x4)], [], pm_hp L fz t I J, 0, 0)
def K_X11_backwards_60 (d : Nat) (fz t : Bool) (Q : pm_R → pm_H → Prop) (x1 : Int32) (x2 : Int32) (x3 : Int32) (x4 : Int32) : pm_R → pm_H → Prop := pm_K d 213 Q 60 [(0, .ref 85), (1, .int x1), (2, .int x2), (3, .int x3), (4, .int x4)] [] 118 0 fz 0 0
def t_X11_backwards_64 (d L : Nat) (fz t : Bool) (Q : pm_R → pm_H → Prop) (x1 : Int32) (x2 : Int32) (x3 : Int32) (x4 : Int32) (r : Int32) (I : Nat → Nat → Int32) (J : Nat → Nat → Int64) : Prop := pm_T (pm_Ev d) 213 Q (64, [(0, .ref 85), (1, .int x1), (2, .int x2), (3, .int x3), (4, .int x4)], [.int r], pm_hp L fz t I J, 0, 0)
def K_X11_backwards_64 (d : Nat) (fz t : Bool) (Q : pm_R → pm_H → Prop) (x1 : Int32) (x2 : Int32) (x3 : Int32) (x4 : Int32) : pm_R → pm_H → Prop := pm_K d 213 Q 64 [(0, .ref 85), (1, .int x1), (2, .int x2), (3, .int x3), (4, .int x4)] [] 118 0 fz 0 0
set_option maxRecDepth 100000 in
theorem b_X11_backwards_0 {d L : Nat} {fz t : Bool} {Q : pm_R → pm_H → Prop} {x1 : Int32} {I : Nat → Nat → Int32} {J : Nat → Nat → Int64}
    (h : pm_Ev d 183 [.ref 85, .int x1, .int (nI 2)] (pm_hp L fz t (pm_u I 85 0 (nI 0)) J) (K_X11_backwards_11 d fz t Q x1)) :
    t_X11_backwards_0 d L fz t Q x1 I J := by
  exact pm_go d [(11, [0, 1]), (20, [0, 1]), (29, []), (45, [0, 1, 2, 3, 4]), (60, [0, 1, 2, 3, 4]), (64, [0, 1, 2, 3, 4])] 400 h
theorem e_X11_backwards {d L : Nat} {fz t : Bool} {Q : pm_R → pm_H → Prop} {x1 : Int32} {I : Nat → Nat → Int32} {J : Nat → Nat → Int64}
    (h : pm_Ev d 183 [.ref 85, .int x1, .int (nI 2)] (pm_hp L fz t (pm_u I 85 0 (nI 0)) J) (K_X11_backwards_11 d fz t Q x1)) :
    pm_Ev (d + 1) 213 [.ref 85, .int x1] (pm_hp L fz t I J) Q := pm_Ev_in rfl (b_X11_backwards_0 h)
set_option maxRecDepth 100000 in
theorem b_X11_backwards_11 {d L : Nat} {fz t : Bool} {Q : pm_R → pm_H → Prop} {x1 : Int32} {r : Int32} {I : Nat → Nat → Int32} {J : Nat → Nat → Int64}
    (h : ((¬ r = (nI 0) → pm_Ev d 160 [.ref 85] (pm_hp L fz t I J) (K_X11_backwards_20 d fz t Q x1)) ∧ (r = (nI 0) → Q (.inl (some (.int (nI 0)))) (pm_hp L fz t I J)))) :
    t_X11_backwards_11 d L fz t Q x1 r I J := by
  exact pm_go d [(11, [0, 1]), (20, [0, 1]), (29, []), (45, [0, 1, 2, 3, 4]), (60, [0, 1, 2, 3, 4]), (64, [0, 1, 2, 3, 4])] 400 ⟨fun q0 => ((h).1 q0), fun q0 => ((h).2 q0)⟩
theorem kb_X11_backwards_11 {d L : Nat} {fz t : Bool} {Q : pm_R → pm_H → Prop} {x1 : Int32} {r : Int32} {fz1 : Bool} {I : Nat → Nat → Int32} {J : Nat → Nat → Int64}
    (h : ((¬ r = (nI 0) → pm_Ev d 160 [.ref 85] (pm_hp L fz t I J) (K_X11_backwards_20 d fz t Q x1)) ∧ (r = (nI 0) → Q (.inl (some (.int (nI 0)))) (pm_hp L fz t I J)))) :
    K_X11_backwards_11 d fz t Q x1 (.inl (some (.int r))) (pm_hp L fz1 t I J) := b_X11_backwards_11 h
set_option maxRecDepth 100000 in
theorem b_X11_backwards_20 {d L : Nat} {fz t : Bool} {Q : pm_R → pm_H → Prop} {x1 : Int32} {I : Nat → Nat → Int32} {J : Nat → Nat → Int64}
    (h : ((¬ x1 = (nI 2) → t_X11_backwards_45 d L fz t Q x1 (nI 0) (-1 : Int32) (nI 0) I J) ∧ (x1 = (nI 2) → pm_Ev d 211 [.ref 85] (pm_hp L fz t I J) (K_X11_backwards_29 d fz t Q)))) :
    t_X11_backwards_20 d L fz t Q x1 I J := by
  exact pm_go d [(11, [0, 1]), (20, [0, 1]), (29, []), (45, [0, 1, 2, 3, 4]), (60, [0, 1, 2, 3, 4]), (64, [0, 1, 2, 3, 4])] 400 ⟨fun q0 => ((h).1 q0), fun q0 => ((h).2 q0)⟩
theorem kb_X11_backwards_20 {d L : Nat} {fz t : Bool} {Q : pm_R → pm_H → Prop} {x1 : Int32} {fz1 : Bool} {I : Nat → Nat → Int32} {J : Nat → Nat → Int64}
    (h : ((¬ x1 = (nI 2) → t_X11_backwards_45 d L fz t Q x1 (nI 0) (-1 : Int32) (nI 0) I J) ∧ (x1 = (nI 2) → pm_Ev d 211 [.ref 85] (pm_hp L fz t I J) (K_X11_backwards_29 d fz t Q)))) :
    K_X11_backwards_20 d fz t Q x1 (.inl none) (pm_hp L fz1 t I J) := b_X11_backwards_20 h
set_option maxRecDepth 100000 in
theorem b_X11_backwards_45 {d L : Nat} {fz t : Bool} {Q : pm_R → pm_H → Prop} {x1 : Int32} {x2 : Int32} {x3 : Int32} {x4 : Int32} {I : Nat → Nat → Int32} {J : Nat → Nat → Int64}
    (h : (((I 85 2) ≤ x4 → ((¬ x1 = (nI 0) → Q (.inl (some (.int x3))) (pm_hp L fz t I J)) ∧ (x1 = (nI 0) → Q (.inl (some (.int x2))) (pm_hp L fz t I J)))) ∧ (¬ (I 85 2) ≤ x4 → pm_Ev d 212 [.ref 85, .int x4] (pm_hp L fz t I J) (K_X11_backwards_60 d fz t Q x1 x2 x3 x4)))) :
    t_X11_backwards_45 d L fz t Q x1 x2 x3 x4 I J := by
  exact pm_go d [(11, [0, 1]), (20, [0, 1]), (29, []), (45, [0, 1, 2, 3, 4]), (60, [0, 1, 2, 3, 4]), (64, [0, 1, 2, 3, 4])] 400 ⟨fun q0 => ⟨fun q1 => ((((h).1 q0)).1 q1), fun q1 => ((((h).1 q0)).2 q1)⟩, fun q0 => ((h).2 q0)⟩
set_option maxRecDepth 100000 in
theorem b_X11_backwards_29 {d L : Nat} {fz t : Bool} {Q : pm_R → pm_H → Prop} {r : Int32} {I : Nat → Nat → Int32} {J : Nat → Nat → Int64}
    (h : ((r = (nI 0) → Q (.inl (some (.int (nI 0)))) (pm_hp L fz t I J)) ∧ (¬ r = (nI 0) → Q (.inl (some (.int (nI 1)))) (pm_hp L fz t I J)))) :
    t_X11_backwards_29 d L fz t Q r I J := by
  exact pm_go d [(11, [0, 1]), (20, [0, 1]), (29, []), (45, [0, 1, 2, 3, 4]), (60, [0, 1, 2, 3, 4]), (64, [0, 1, 2, 3, 4])] 400 ⟨fun q0 => ((h).1 q0), fun q0 => ((h).2 q0)⟩
theorem kb_X11_backwards_29 {d L : Nat} {fz t : Bool} {Q : pm_R → pm_H → Prop} {r : Int32} {fz1 : Bool} {I : Nat → Nat → Int32} {J : Nat → Nat → Int64}
    (h : ((r = (nI 0) → Q (.inl (some (.int (nI 0)))) (pm_hp L fz t I J)) ∧ (¬ r = (nI 0) → Q (.inl (some (.int (nI 1)))) (pm_hp L fz t I J)))) :
    K_X11_backwards_29 d fz t Q (.inl (some (.int r))) (pm_hp L fz1 t I J) := b_X11_backwards_29 h
set_option maxRecDepth 100000 in
theorem b_X11_backwards_60 {d L : Nat} {fz t : Bool} {Q : pm_R → pm_H → Prop} {x1 : Int32} {x2 : Int32} {x3 : Int32} {x4 : Int32} {I : Nat → Nat → Int32} {J : Nat → Nat → Int64}
    (h : pm_Ev d 211 [.ref 85] (pm_hp L fz t I J) (K_X11_backwards_64 d fz t Q x1 x2 x3 x4)) :
    t_X11_backwards_60 d L fz t Q x1 x2 x3 x4 I J := by
  exact pm_go d [(11, [0, 1]), (20, [0, 1]), (29, []), (45, [0, 1, 2, 3, 4]), (60, [0, 1, 2, 3, 4]), (64, [0, 1, 2, 3, 4])] 400 h
theorem kb_X11_backwards_60 {d L : Nat} {fz t : Bool} {Q : pm_R → pm_H → Prop} {x1 : Int32} {x2 : Int32} {x3 : Int32} {x4 : Int32} {fz1 : Bool} {I : Nat → Nat → Int32} {J : Nat → Nat → Int64}
    (h : pm_Ev d 211 [.ref 85] (pm_hp L fz t I J) (K_X11_backwards_64 d fz t Q x1 x2 x3 x4)) :
    K_X11_backwards_60 d fz t Q x1 x2 x3 x4 (.inl none) (pm_hp L fz1 t I J) := b_X11_backwards_60 h
set_option maxRecDepth 100000 in
theorem b_X11_backwards_64 {d L : Nat} {fz t : Bool} {Q : pm_R → pm_H → Prop} {x1 : Int32} {x2 : Int32} {x3 : Int32} {x4 : Int32} {r : Int32} {I : Nat → Nat → Int32} {J : Nat → Nat → Int64}
    (h : ((¬ r = (nI 0) → ((¬ x3 = (-1 : Int32) → t_X11_backwards_45 d L fz t Q x1 (x2 + (nI 1)) x3 (x4 + (nI 1)) I J) ∧ (x3 = (-1 : Int32) → t_X11_backwards_45 d L fz t Q x1 (x2 + (nI 1)) x4 (x4 + (nI 1)) I J))) ∧ (r = (nI 0) → t_X11_backwards_45 d L fz t Q x1 x2 x3 (x4 + (nI 1)) I J))) :
    t_X11_backwards_64 d L fz t Q x1 x2 x3 x4 r I J := by
  exact pm_go d [(11, [0, 1]), (20, [0, 1]), (29, []), (45, [0, 1, 2, 3, 4]), (60, [0, 1, 2, 3, 4]), (64, [0, 1, 2, 3, 4])] 400 ⟨fun q0 => ⟨fun q1 => ((((h).1 q0)).1 q1), fun q1 => ((((h).1 q0)).2 q1)⟩, fun q0 => ((h).2 q0)⟩
theorem kb_X11_backwards_64 {d L : Nat} {fz t : Bool} {Q : pm_R → pm_H → Prop} {x1 : Int32} {x2 : Int32} {x3 : Int32} {x4 : Int32} {r : Int32} {fz1 : Bool} {I : Nat → Nat → Int32} {J : Nat → Nat → Int64}
    (h : ((¬ r = (nI 0) → ((¬ x3 = (-1 : Int32) → t_X11_backwards_45 d L fz t Q x1 (x2 + (nI 1)) x3 (x4 + (nI 1)) I J) ∧ (x3 = (-1 : Int32) → t_X11_backwards_45 d L fz t Q x1 (x2 + (nI 1)) x4 (x4 + (nI 1)) I J))) ∧ (r = (nI 0) → t_X11_backwards_45 d L fz t Q x1 x2 x3 (x4 + (nI 1)) I J))) :
    K_X11_backwards_64 d fz t Q x1 x2 x3 x4 (.inl (some (.int r))) (pm_hp L fz1 t I J) := b_X11_backwards_64 h
def t_X11_punched_0 (d L : Nat) (fz t : Bool) (Q : pm_R → pm_H → Prop) (x1 : Int32) (x2 : Int32) (I : Nat → Nat → Int32) (J : Nat → Nat → Int64) : Prop := pm_T (pm_Ev d) 214 Q (0, [(0, .ref 85), (1, .int x1), (2, .int x2)], [], pm_hp L fz t I J, 0, 0)
def t_X11_punched_10 (d L : Nat) (fz t : Bool) (Q : pm_R → pm_H → Prop) (x1 : Int32) (x2 : Int32) (r : Int32) (I : Nat → Nat → Int32) (J : Nat → Nat → Int64) : Prop := pm_T (pm_Ev d) 214 Q (10, [(0, .ref 85), (1, .int x1), (2, .int x2)], [.int r], pm_hp L fz t I J, 0, 0)
def K_X11_punched_10 (d : Nat) (fz t : Bool) (Q : pm_R → pm_H → Prop) (x1 : Int32) (x2 : Int32) : pm_R → pm_H → Prop := pm_K d 214 Q 10 [(0, .ref 85), (1, .int x1), (2, .int x2)] [] 118 0 fz 0 0
def t_X11_punched_19 (d L : Nat) (fz t : Bool) (Q : pm_R → pm_H → Prop) (x1 : Int32) (x2 : Int32) (r : Int32) (I : Nat → Nat → Int32) (J : Nat → Nat → Int64) : Prop := pm_T (pm_Ev d) 214 Q (19, [(0, .ref 85), (1, .int x1), (2, .int x2)], [.int r], pm_hp L fz t I J, 0, 0)
def K_X11_punched_19 (d : Nat) (fz t : Bool) (Q : pm_R → pm_H → Prop) (x1 : Int32) (x2 : Int32) : pm_R → pm_H → Prop := pm_K d 214 Q 19 [(0, .ref 85), (1, .int x1), (2, .int x2)] [] 118 0 fz 0 0
def t_X11_punched_32 (d L : Nat) (fz t : Bool) (Q : pm_R → pm_H → Prop) (x1 : Int32) (x2 : Int32) (x3 : Int32) (x4 : Int32) (x5 : Int32) (I : Nat → Nat → Int32) (J : Nat → Nat → Int64) : Prop := pm_T (pm_Ev d) 214 Q (32, [(0, .ref 85), (1, .int x1), (2, .int x2), (3, .int x3), (4, .int x4), (5, .int x5)], [], pm_hp L fz t I J, 0, 0)
def t_X11_punched_38 (d L : Nat) (fz t : Bool) (Q : pm_R → pm_H → Prop) (x1 : Int32) (x2 : Int32) (x3 : Int32) (x4 : Int32) (x5 : Int32) (s0 : Int32) (r : Int32) (I : Nat → Nat → Int32) (J : Nat → Nat → Int64) : Prop := pm_T (pm_Ev d) 214 Q (38, [(0, .ref 85), (1, .int x1), (2, .int x2), (3, .int x3), (4, .int x4), (5, .int x5)], [.int r, .int s0], pm_hp L fz t I J, 0, 0)
def K_X11_punched_38 (d : Nat) (fz t : Bool) (Q : pm_R → pm_H → Prop) (x1 : Int32) (x2 : Int32) (x3 : Int32) (x4 : Int32) (x5 : Int32) (s0 : Int32) : pm_R → pm_H → Prop := pm_K d 214 Q 38 [(0, .ref 85), (1, .int x1), (2, .int x2), (3, .int x3), (4, .int x4), (5, .int x5)] [.int s0] 118 0 fz 0 0
def t_X11_punched_45 (d L : Nat) (fz t : Bool) (Q : pm_R → pm_H → Prop) (x1 : Int32) (x2 : Int32) (x3 : Int32) (x4 : Int32) (x5 : Int32) (I : Nat → Nat → Int32) (J : Nat → Nat → Int64) : Prop := pm_T (pm_Ev d) 214 Q (45, [(0, .ref 85), (1, .int x1), (2, .int x2), (3, .int x3), (4, .int x4), (5, .int x5)], [], pm_hp L fz t I J, 0, 0)
def K_X11_punched_45 (d : Nat) (fz t : Bool) (Q : pm_R → pm_H → Prop) (x1 : Int32) (x2 : Int32) (x3 : Int32) (x4 : Int32) (x5 : Int32) : pm_R → pm_H → Prop := pm_K d 214 Q 45 [(0, .ref 85), (1, .int x1), (2, .int x2), (3, .int x3), (4, .int x4), (5, .int x5)] [] 118 0 fz 0 0
def t_X11_punched_60 (d L : Nat) (fz t : Bool) (Q : pm_R → pm_H → Prop) (x1 : Int32) (x2 : Int32) (x3 : Int32) (x4 : Int32) (x5 : Int32) (r : Int32) (I : Nat → Nat → Int32) (J : Nat → Nat → Int64) : Prop := pm_T (pm_Ev d) 214 Q (60, [(0, .ref 85), (1, .int x1), (2, .int x2), (3, .int x3), (4, .int x4), (5, .int x5)], [.int r], pm_hp L fz t I J, 0, 0)
def K_X11_punched_60 (d : Nat) (fz t : Bool) (Q : pm_R → pm_H → Prop) (x1 : Int32) (x2 : Int32) (x3 : Int32) (x4 : Int32) (x5 : Int32) : pm_R → pm_H → Prop := pm_K d 214 Q 60 [(0, .ref 85), (1, .int x1), (2, .int x2), (3, .int x3), (4, .int x4), (5, .int x5)] [] 118 0 fz 0 0
set_option maxRecDepth 100000 in
theorem b_X11_punched_0 {d L : Nat} {fz t : Bool} {Q : pm_R → pm_H → Prop} {x1 : Int32} {x2 : Int32} {I : Nat → Nat → Int32} {J : Nat → Nat → Int64}
    (h : pm_Ev d 180 [.ref 85, .int x1] (pm_hp L fz t (pm_u I 85 0 (nI 0)) J) (K_X11_punched_10 d fz t Q x1 x2)) :
    t_X11_punched_0 d L fz t Q x1 x2 I J := by
  exact pm_go d [(10, [0, 1, 2]), (19, [0, 1, 2]), (32, [0, 1, 2, 3, 4, 5]), (38, [0, 1, 2, 3, 4, 5]), (45, [0, 1, 2, 3, 4, 5]), (60, [0, 1, 2, 3, 4, 5])] 400 h
theorem e_X11_punched {d L : Nat} {fz t : Bool} {Q : pm_R → pm_H → Prop} {x1 : Int32} {x2 : Int32} {I : Nat → Nat → Int32} {J : Nat → Nat → Int64}
    (h : pm_Ev d 180 [.ref 85, .int x1] (pm_hp L fz t (pm_u I 85 0 (nI 0)) J) (K_X11_punched_10 d fz t Q x1 x2)) :
    pm_Ev (d + 1) 214 [.ref 85, .int x1, .int x2] (pm_hp L fz t I J) Q := pm_Ev_in rfl (b_X11_punched_0 h)
set_option maxRecDepth 100000 in
theorem b_X11_punched_10 {d L : Nat} {fz t : Bool} {Q : pm_R → pm_H → Prop} {x1 : Int32} {x2 : Int32} {r : Int32} {I : Nat → Nat → Int32} {J : Nat → Nat → Int64}
    (h : ((r = (nI 0) → Q (.inl (some (.int (nI 0)))) (pm_hp L fz t I J)) ∧ (¬ r = (nI 0) → pm_Ev d 183 [.ref 85, .int x2, .int (nI 1)] (pm_hp L fz t I J) (K_X11_punched_19 d fz t Q x1 x2)))) :
    t_X11_punched_10 d L fz t Q x1 x2 r I J := by
  exact pm_go d [(10, [0, 1, 2]), (19, [0, 1, 2]), (32, [0, 1, 2, 3, 4, 5]), (38, [0, 1, 2, 3, 4, 5]), (45, [0, 1, 2, 3, 4, 5]), (60, [0, 1, 2, 3, 4, 5])] 400 ⟨fun q0 => ((h).1 q0), fun q0 => ((h).2 q0)⟩
theorem kb_X11_punched_10 {d L : Nat} {fz t : Bool} {Q : pm_R → pm_H → Prop} {x1 : Int32} {x2 : Int32} {r : Int32} {fz1 : Bool} {I : Nat → Nat → Int32} {J : Nat → Nat → Int64}
    (h : ((r = (nI 0) → Q (.inl (some (.int (nI 0)))) (pm_hp L fz t I J)) ∧ (¬ r = (nI 0) → pm_Ev d 183 [.ref 85, .int x2, .int (nI 1)] (pm_hp L fz t I J) (K_X11_punched_19 d fz t Q x1 x2)))) :
    K_X11_punched_10 d fz t Q x1 x2 (.inl (some (.int r))) (pm_hp L fz1 t I J) := b_X11_punched_10 h
set_option maxRecDepth 100000 in
theorem b_X11_punched_19 {d L : Nat} {fz t : Bool} {Q : pm_R → pm_H → Prop} {x1 : Int32} {x2 : Int32} {r : Int32} {I : Nat → Nat → Int32} {J : Nat → Nat → Int64}
    (h : ((¬ r = (nI 0) → t_X11_punched_32 d L fz t Q x1 x2 (nI 0) (-1 : Int32) (nI 0) I J) ∧ (r = (nI 0) → Q (.inl (some (.int (nI 0)))) (pm_hp L fz t I J)))) :
    t_X11_punched_19 d L fz t Q x1 x2 r I J := by
  exact pm_go d [(10, [0, 1, 2]), (19, [0, 1, 2]), (32, [0, 1, 2, 3, 4, 5]), (38, [0, 1, 2, 3, 4, 5]), (45, [0, 1, 2, 3, 4, 5]), (60, [0, 1, 2, 3, 4, 5])] 400 ⟨fun q0 => ((h).1 q0), fun q0 => ((h).2 q0)⟩
theorem kb_X11_punched_19 {d L : Nat} {fz t : Bool} {Q : pm_R → pm_H → Prop} {x1 : Int32} {x2 : Int32} {r : Int32} {fz1 : Bool} {I : Nat → Nat → Int32} {J : Nat → Nat → Int64}
    (h : ((¬ r = (nI 0) → t_X11_punched_32 d L fz t Q x1 x2 (nI 0) (-1 : Int32) (nI 0) I J) ∧ (r = (nI 0) → Q (.inl (some (.int (nI 0)))) (pm_hp L fz t I J)))) :
    K_X11_punched_19 d fz t Q x1 x2 (.inl (some (.int r))) (pm_hp L fz1 t I J) := b_X11_punched_19 h
set_option maxRecDepth 100000 in
theorem b_X11_punched_32 {d L : Nat} {fz t : Bool} {Q : pm_R → pm_H → Prop} {x1 : Int32} {x2 : Int32} {x3 : Int32} {x4 : Int32} {x5 : Int32} {I : Nat → Nat → Int32} {J : Nat → Nat → Int64}
    (h : pm_Ev d 161 [.ref 85] (pm_hp L fz t I J) (K_X11_punched_38 d fz t Q x1 x2 x3 x4 x5 x5)) :
    t_X11_punched_32 d L fz t Q x1 x2 x3 x4 x5 I J := by
  exact pm_go d [(10, [0, 1, 2]), (19, [0, 1, 2]), (32, [0, 1, 2, 3, 4, 5]), (38, [0, 1, 2, 3, 4, 5]), (45, [0, 1, 2, 3, 4, 5]), (60, [0, 1, 2, 3, 4, 5])] 400 h
set_option maxRecDepth 100000 in
theorem b_X11_punched_38 {d L : Nat} {fz t : Bool} {Q : pm_R → pm_H → Prop} {x1 : Int32} {x2 : Int32} {x3 : Int32} {x4 : Int32} {x5 : Int32} {s0 : Int32} {r : Int32} {I : Nat → Nat → Int32} {J : Nat → Nat → Int64}
    (h : ((r < s0 → ((¬ x2 = (nI 0) → Q (.inl (some (.int x4))) (pm_hp L fz t I J)) ∧ (x2 = (nI 0) → Q (.inl (some (.int x3))) (pm_hp L fz t I J)))) ∧ (¬ r < s0 → pm_Ev d 160 [.ref 85] (pm_hp L fz t I J) (K_X11_punched_45 d fz t Q x1 x2 x3 x4 x5)))) :
    t_X11_punched_38 d L fz t Q x1 x2 x3 x4 x5 s0 r I J := by
  exact pm_go d [(10, [0, 1, 2]), (19, [0, 1, 2]), (32, [0, 1, 2, 3, 4, 5]), (38, [0, 1, 2, 3, 4, 5]), (45, [0, 1, 2, 3, 4, 5]), (60, [0, 1, 2, 3, 4, 5])] 400 ⟨fun q0 => ⟨fun q1 => ((((h).1 q0)).1 q1), fun q1 => ((((h).1 q0)).2 q1)⟩, fun q0 => ((h).2 q0)⟩
theorem kb_X11_punched_38 {d L : Nat} {fz t : Bool} {Q : pm_R → pm_H → Prop} {x1 : Int32} {x2 : Int32} {x3 : Int32} {x4 : Int32} {x5 : Int32} {s0 : Int32} {r : Int32} {fz1 : Bool} {I : Nat → Nat → Int32} {J : Nat → Nat → Int64}
    (h : ((r < s0 → ((¬ x2 = (nI 0) → Q (.inl (some (.int x4))) (pm_hp L fz t I J)) ∧ (x2 = (nI 0) → Q (.inl (some (.int x3))) (pm_hp L fz t I J)))) ∧ (¬ r < s0 → pm_Ev d 160 [.ref 85] (pm_hp L fz t I J) (K_X11_punched_45 d fz t Q x1 x2 x3 x4 x5)))) :
    K_X11_punched_38 d fz t Q x1 x2 x3 x4 x5 s0 (.inl (some (.int r))) (pm_hp L fz1 t I J) := b_X11_punched_38 h
set_option maxRecDepth 100000 in
theorem b_X11_punched_45 {d L : Nat} {fz t : Bool} {Q : pm_R → pm_H → Prop} {x1 : Int32} {x2 : Int32} {x3 : Int32} {x4 : Int32} {x5 : Int32} {I : Nat → Nat → Int32} {J : Nat → Nat → Int64}
    (h : (vp_in ((nI 36) + x1) 68 ∧ pm_Ev d 211 [.ref 85] (pm_hp L fz t (pm_u I 103 (((nI 36) + x1)).toNatClampNeg x5) J) (K_X11_punched_60 d fz t Q x1 x2 x3 x4 x5))) :
    t_X11_punched_45 d L fz t Q x1 x2 x3 x4 x5 I J := by
  exact pm_go d [(10, [0, 1, 2]), (19, [0, 1, 2]), (32, [0, 1, 2, 3, 4, 5]), (38, [0, 1, 2, 3, 4, 5]), (45, [0, 1, 2, 3, 4, 5]), (60, [0, 1, 2, 3, 4, 5])] 400 ⟨(h).1, (h).2⟩
theorem kb_X11_punched_45 {d L : Nat} {fz t : Bool} {Q : pm_R → pm_H → Prop} {x1 : Int32} {x2 : Int32} {x3 : Int32} {x4 : Int32} {x5 : Int32} {fz1 : Bool} {I : Nat → Nat → Int32} {J : Nat → Nat → Int64}
    (h : (vp_in ((nI 36) + x1) 68 ∧ pm_Ev d 211 [.ref 85] (pm_hp L fz t (pm_u I 103 (((nI 36) + x1)).toNatClampNeg x5) J) (K_X11_punched_60 d fz t Q x1 x2 x3 x4 x5))) :
    K_X11_punched_45 d fz t Q x1 x2 x3 x4 x5 (.inl none) (pm_hp L fz1 t I J) := b_X11_punched_45 h
set_option maxRecDepth 100000 in
theorem b_X11_punched_60 {d L : Nat} {fz t : Bool} {Q : pm_R → pm_H → Prop} {x1 : Int32} {x2 : Int32} {x3 : Int32} {x4 : Int32} {x5 : Int32} {r : Int32} {I : Nat → Nat → Int32} {J : Nat → Nat → Int64}
    (h : ((¬ r = (nI 0) → ((¬ x4 = (-1 : Int32) → t_X11_punched_32 d L fz t Q x1 x2 (x3 + (nI 1)) x4 (x5 + (nI 1)) I J) ∧ (x4 = (-1 : Int32) → t_X11_punched_32 d L fz t Q x1 x2 (x3 + (nI 1)) x5 (x5 + (nI 1)) I J))) ∧ (r = (nI 0) → t_X11_punched_32 d L fz t Q x1 x2 x3 x4 (x5 + (nI 1)) I J))) :
    t_X11_punched_60 d L fz t Q x1 x2 x3 x4 x5 r I J := by
  exact pm_go d [(10, [0, 1, 2]), (19, [0, 1, 2]), (32, [0, 1, 2, 3, 4, 5]), (38, [0, 1, 2, 3, 4, 5]), (45, [0, 1, 2, 3, 4, 5]), (60, [0, 1, 2, 3, 4, 5])] 400 ⟨fun q0 => ⟨fun q1 => ((((h).1 q0)).1 q1), fun q1 => ((((h).1 q0)).2 q1)⟩, fun q0 => ((h).2 q0)⟩
theorem kb_X11_punched_60 {d L : Nat} {fz t : Bool} {Q : pm_R → pm_H → Prop} {x1 : Int32} {x2 : Int32} {x3 : Int32} {x4 : Int32} {x5 : Int32} {r : Int32} {fz1 : Bool} {I : Nat → Nat → Int32} {J : Nat → Nat → Int64}
    (h : ((¬ r = (nI 0) → ((¬ x4 = (-1 : Int32) → t_X11_punched_32 d L fz t Q x1 x2 (x3 + (nI 1)) x4 (x5 + (nI 1)) I J) ∧ (x4 = (-1 : Int32) → t_X11_punched_32 d L fz t Q x1 x2 (x3 + (nI 1)) x5 (x5 + (nI 1)) I J))) ∧ (r = (nI 0) → t_X11_punched_32 d L fz t Q x1 x2 x3 x4 (x5 + (nI 1)) I J))) :
    K_X11_punched_60 d fz t Q x1 x2 x3 x4 x5 (.inl (some (.int r))) (pm_hp L fz1 t I J) := b_X11_punched_60 h
def t_X11_next_0 (d L : Nat) (fz t : Bool) (Q : pm_R → pm_H → Prop) (x1 : Int32) (I : Nat → Nat → Int32) (J : Nat → Nat → Int64) : Prop := pm_T (pm_Ev d) 215 Q (0, [(0, .ref 85), (1, .int x1)], [], pm_hp L fz t I J, 0, 0)
def t_X11_next_11 (d L : Nat) (fz t : Bool) (Q : pm_R → pm_H → Prop) (x1 : Int32) (r : Int32) (I : Nat → Nat → Int32) (J : Nat → Nat → Int64) : Prop := pm_T (pm_Ev d) 215 Q (11, [(0, .ref 85), (1, .int x1)], [.int r], pm_hp L fz t I J, 0, 0)
def K_X11_next_11 (d : Nat) (fz t : Bool) (Q : pm_R → pm_H → Prop) (x1 : Int32) : pm_R → pm_H → Prop := pm_K d 215 Q 11 [(0, .ref 85), (1, .int x1)] [] 118 0 fz 0 0
def t_X11_next_20 (d L : Nat) (fz t : Bool) (Q : pm_R → pm_H → Prop) (x1 : Int32) (x2 : Int32) (x3 : Int32) (I : Nat → Nat → Int32) (J : Nat → Nat → Int64) : Prop := pm_T (pm_Ev d) 215 Q (20, [(0, .ref 85), (1, .int x1), (2, .int x2), (3, .int x3)], [], pm_hp L fz t I J, 0, 0)
def t_X11_next_108 (d L : Nat) (fz t : Bool) (Q : pm_R → pm_H → Prop) (x1 : Int32) (x2 : Int32) (x3 : Int32) (x4 : Int32) (x5 : Int32) (I : Nat → Nat → Int32) (J : Nat → Nat → Int64) : Prop := pm_T (pm_Ev d) 215 Q (108, [(0, .ref 85), (1, .int x1), (2, .int x2), (3, .int x3), (4, .int x4), (5, .int x5)], [], pm_hp L fz t I J, 0, 0)
def t_X11_next_33 (d L : Nat) (fz t : Bool) (Q : pm_R → pm_H → Prop) (x1 : Int32) (x2 : Int32) (x3 : Int32) (I : Nat → Nat → Int32) (J : Nat → Nat → Int64) : Prop := pm_T (pm_Ev d) 215 Q (33, [(0, .ref 85), (1, .int x1), (2, .int x2), (3, .int x3)], [], pm_hp L fz t I J, 0, 0)
def K_X11_next_33 (d : Nat) (fz t : Bool) (Q : pm_R → pm_H → Prop) (x1 : Int32) (x2 : Int32) (x3 : Int32) : pm_R → pm_H → Prop := pm_K d 215 Q 33 [(0, .ref 85), (1, .int x1), (2, .int x2), (3, .int x3)] [] 118 0 fz 0 0
def t_X11_next_123 (d L : Nat) (fz t : Bool) (Q : pm_R → pm_H → Prop) (x1 : Int32) (x2 : Int32) (x3 : Int32) (x4 : Int32) (x5 : Int32) (x6 : Int32) (x7 : Int32) (I : Nat → Nat → Int32) (J : Nat → Nat → Int64) : Prop := pm_T (pm_Ev d) 215 Q (123, [(0, .ref 85), (1, .int x1), (2, .int x2), (3, .int x3), (4, .int x4), (5, .int x5), (6, .int x6), (7, .int x7)], [], pm_hp L fz t I J, 0, 0)
def t_X11_next_37 (d L : Nat) (fz t : Bool) (Q : pm_R → pm_H → Prop) (x1 : Int32) (x2 : Int32) (x3 : Int32) (r : Int32) (I : Nat → Nat → Int32) (J : Nat → Nat → Int64) : Prop := pm_T (pm_Ev d) 215 Q (37, [(0, .ref 85), (1, .int x1), (2, .int x2), (3, .int x3)], [.int r], pm_hp L fz t I J, 0, 0)
def K_X11_next_37 (d : Nat) (fz t : Bool) (Q : pm_R → pm_H → Prop) (x1 : Int32) (x2 : Int32) (x3 : Int32) : pm_R → pm_H → Prop := pm_K d 215 Q 37 [(0, .ref 85), (1, .int x1), (2, .int x2), (3, .int x3)] [] 118 0 fz 0 0
def t_X11_next_135 (d L : Nat) (fz t : Bool) (Q : pm_R → pm_H → Prop) (x1 : Int32) (x2 : Int32) (x3 : Int32) (x4 : Int32) (x5 : Int32) (x6 : Int32) (x7 : Int32) (x8 : Int32) (x9 : Int32) (I : Nat → Nat → Int32) (J : Nat → Nat → Int64) : Prop := pm_T (pm_Ev d) 215 Q (135, [(0, .ref 85), (1, .int x1), (2, .int x2), (3, .int x3), (4, .int x4), (5, .int x5), (6, .int x6), (7, .int x7), (8, .int x8), (9, .int x9)], [], pm_hp L fz t I J, 0, 0)
def t_X11_next_48 (d L : Nat) (fz t : Bool) (Q : pm_R → pm_H → Prop) (x1 : Int32) (x2 : Int32) (x3 : Int32) (I : Nat → Nat → Int32) (J : Nat → Nat → Int64) : Prop := pm_T (pm_Ev d) 215 Q (48, [(0, .ref 85), (1, .int x1), (2, .int x2), (3, .int x3)], [], pm_hp L fz t I J, 0, 0)
def K_X11_next_48 (d : Nat) (fz t : Bool) (Q : pm_R → pm_H → Prop) (x1 : Int32) (x2 : Int32) (x3 : Int32) : pm_R → pm_H → Prop := pm_K d 215 Q 48 [(0, .ref 85), (1, .int x1), (2, .int x2), (3, .int x3)] [] 118 0 fz 0 0
def t_X11_next_54 (d L : Nat) (fz t : Bool) (Q : pm_R → pm_H → Prop) (x1 : Int32) (x2 : Int32) (x3 : Int32) (I : Nat → Nat → Int32) (J : Nat → Nat → Int64) : Prop := pm_T (pm_Ev d) 215 Q (54, [(0, .ref 85), (1, .int x1), (2, .int x2), (3, .int x3)], [], pm_hp L fz t I J, 0, 0)
def K_X11_next_54 (d : Nat) (fz t : Bool) (Q : pm_R → pm_H → Prop) (x1 : Int32) (x2 : Int32) (x3 : Int32) : pm_R → pm_H → Prop := pm_K d 215 Q 54 [(0, .ref 85), (1, .int x1), (2, .int x2), (3, .int x3)] [] 118 0 fz 0 0
def t_X11_next_57 (d L : Nat) (fz t : Bool) (Q : pm_R → pm_H → Prop) (x1 : Int32) (x2 : Int32) (x3 : Int32) (x4 : Int32) (I : Nat → Nat → Int32) (J : Nat → Nat → Int64) : Prop := pm_T (pm_Ev d) 215 Q (57, [(0, .ref 85), (1, .int x1), (2, .int x2), (3, .int x3), (4, .int x4)], [], pm_hp L fz t I J, 0, 0)
set_option maxRecDepth 100000 in
theorem b_X11_next_0 {d L : Nat} {fz t : Bool} {Q : pm_R → pm_H → Prop} {x1 : Int32} {I : Nat → Nat → Int32} {J : Nat → Nat → Int64}
    (h : pm_Ev d 183 [.ref 85, .int x1, .int (nI 1)] (pm_hp L fz t (pm_u I 85 0 (nI 0)) J) (K_X11_next_11 d fz t Q x1)) :
    t_X11_next_0 d L fz t Q x1 I J := by
  exact pm_go d [(11, [0, 1]), (20, [0, 1, 2, 3]), (33, [0, 1, 2, 3]), (37, [0, 1, 2, 3]), (48, [0, 1, 2, 3]), (54, [0, 1, 2, 3]), (57, [0, 1, 2, 3, 4]), (108, [0, 1, 2, 3, 4, 5]), (123, [0, 1, 2, 3, 4, 5, 6, 7]), (135, [0, 1, 2, 3, 4, 5, 6, 7, 8, 9])] 400 h
theorem e_X11_next {d L : Nat} {fz t : Bool} {Q : pm_R → pm_H → Prop} {x1 : Int32} {I : Nat → Nat → Int32} {J : Nat → Nat → Int64}
    (h : pm_Ev d 183 [.ref 85, .int x1, .int (nI 1)] (pm_hp L fz t (pm_u I 85 0 (nI 0)) J) (K_X11_next_11 d fz t Q x1)) :
    pm_Ev (d + 1) 215 [.ref 85, .int x1] (pm_hp L fz t I J) Q := pm_Ev_in rfl (b_X11_next_0 h)
set_option maxRecDepth 100000 in
theorem b_X11_next_11 {d L : Nat} {fz t : Bool} {Q : pm_R → pm_H → Prop} {x1 : Int32} {r : Int32} {I : Nat → Nat → Int32} {J : Nat → Nat → Int64}
    (h : ((¬ r = (nI 0) → t_X11_next_20 d L fz t Q x1 (nI 0) (nI 0) I J) ∧ (r = (nI 0) → Q (.inl (some (.int (nI 0)))) (pm_hp L fz t I J)))) :
    t_X11_next_11 d L fz t Q x1 r I J := by
  exact pm_go d [(11, [0, 1]), (20, [0, 1, 2, 3]), (33, [0, 1, 2, 3]), (37, [0, 1, 2, 3]), (48, [0, 1, 2, 3]), (54, [0, 1, 2, 3]), (57, [0, 1, 2, 3, 4]), (108, [0, 1, 2, 3, 4, 5]), (123, [0, 1, 2, 3, 4, 5, 6, 7]), (135, [0, 1, 2, 3, 4, 5, 6, 7, 8, 9])] 400 ⟨fun q0 => ((h).1 q0), fun q0 => ((h).2 q0)⟩
theorem kb_X11_next_11 {d L : Nat} {fz t : Bool} {Q : pm_R → pm_H → Prop} {x1 : Int32} {r : Int32} {fz1 : Bool} {I : Nat → Nat → Int32} {J : Nat → Nat → Int64}
    (h : ((¬ r = (nI 0) → t_X11_next_20 d L fz t Q x1 (nI 0) (nI 0) I J) ∧ (r = (nI 0) → Q (.inl (some (.int (nI 0)))) (pm_hp L fz t I J)))) :
    K_X11_next_11 d fz t Q x1 (.inl (some (.int r))) (pm_hp L fz1 t I J) := b_X11_next_11 h
set_option maxRecDepth 100000 in
theorem b_X11_next_20 {d L : Nat} {fz t : Bool} {Q : pm_R → pm_H → Prop} {x1 : Int32} {x2 : Int32} {x3 : Int32} {I : Nat → Nat → Int32} {J : Nat → Nat → Int64}
    (h : (((I 85 2) ≤ x3 → t_X11_next_108 d L fz t Q x1 x2 (-1 : Int32) (nI 0) (nI 0) I J) ∧ (¬ (I 85 2) ≤ x3 → pm_Ev d 212 [.ref 85, .int x3] (pm_hp L fz t I J) (K_X11_next_33 d fz t Q x1 x2 x3)))) :
    t_X11_next_20 d L fz t Q x1 x2 x3 I J := by
  exact pm_go d [(11, [0, 1]), (20, [0, 1, 2, 3]), (33, [0, 1, 2, 3]), (37, [0, 1, 2, 3]), (48, [0, 1, 2, 3]), (54, [0, 1, 2, 3]), (57, [0, 1, 2, 3, 4]), (108, [0, 1, 2, 3, 4, 5]), (123, [0, 1, 2, 3, 4, 5, 6, 7]), (135, [0, 1, 2, 3, 4, 5, 6, 7, 8, 9])] 400 ⟨fun q0 => ((h).1 q0), fun q0 => ((h).2 q0)⟩
set_option maxRecDepth 100000 in
theorem b_X11_next_108 {d L : Nat} {fz t : Bool} {Q : pm_R → pm_H → Prop} {x1 : Int32} {x2 : Int32} {x3 : Int32} {x4 : Int32} {x5 : Int32} {I : Nat → Nat → Int32} {J : Nat → Nat → Int64}
    (h : (((I 85 3) ≤ x5 → ((¬ x1 = (nI 0) → Q (.inl (some (.int x4))) (pm_hp L fz t I J)) ∧ (x1 = (nI 0) → Q (.inl (some (.int x3))) (pm_hp L fz t I J)))) ∧ (¬ (I 85 3) ≤ x5 → t_X11_next_123 d L fz t Q x1 x2 x3 x4 x5 (nI 0) (nI 0) I J))) :
    t_X11_next_108 d L fz t Q x1 x2 x3 x4 x5 I J := by
  exact pm_go d [(11, [0, 1]), (20, [0, 1, 2, 3]), (33, [0, 1, 2, 3]), (37, [0, 1, 2, 3]), (48, [0, 1, 2, 3]), (54, [0, 1, 2, 3]), (57, [0, 1, 2, 3, 4]), (108, [0, 1, 2, 3, 4, 5]), (123, [0, 1, 2, 3, 4, 5, 6, 7]), (135, [0, 1, 2, 3, 4, 5, 6, 7, 8, 9])] 400 ⟨fun q0 => ⟨fun q1 => ((((h).1 q0)).1 q1), fun q1 => ((((h).1 q0)).2 q1)⟩, fun q0 => ((h).2 q0)⟩
set_option maxRecDepth 100000 in
theorem b_X11_next_33 {d L : Nat} {fz t : Bool} {Q : pm_R → pm_H → Prop} {x1 : Int32} {x2 : Int32} {x3 : Int32} {I : Nat → Nat → Int32} {J : Nat → Nat → Int64}
    (h : pm_Ev d 211 [.ref 85] (pm_hp L fz t I J) (K_X11_next_37 d fz t Q x1 x2 x3)) :
    t_X11_next_33 d L fz t Q x1 x2 x3 I J := by
  exact pm_go d [(11, [0, 1]), (20, [0, 1, 2, 3]), (33, [0, 1, 2, 3]), (37, [0, 1, 2, 3]), (48, [0, 1, 2, 3]), (54, [0, 1, 2, 3]), (57, [0, 1, 2, 3, 4]), (108, [0, 1, 2, 3, 4, 5]), (123, [0, 1, 2, 3, 4, 5, 6, 7]), (135, [0, 1, 2, 3, 4, 5, 6, 7, 8, 9])] 400 h
theorem kb_X11_next_33 {d L : Nat} {fz t : Bool} {Q : pm_R → pm_H → Prop} {x1 : Int32} {x2 : Int32} {x3 : Int32} {fz1 : Bool} {I : Nat → Nat → Int32} {J : Nat → Nat → Int64}
    (h : pm_Ev d 211 [.ref 85] (pm_hp L fz t I J) (K_X11_next_37 d fz t Q x1 x2 x3)) :
    K_X11_next_33 d fz t Q x1 x2 x3 (.inl none) (pm_hp L fz1 t I J) := b_X11_next_33 h
set_option maxRecDepth 100000 in
theorem b_X11_next_123 {d L : Nat} {fz t : Bool} {Q : pm_R → pm_H → Prop} {x1 : Int32} {x2 : Int32} {x3 : Int32} {x4 : Int32} {x5 : Int32} {x6 : Int32} {x7 : Int32} {I : Nat → Nat → Int32} {J : Nat → Nat → Int64}
    (h : ((x2 ≤ x7 → ((x4 < x6 → t_X11_next_108 d L fz t Q x1 x2 x5 x6 (x5 + (nI 1)) I J) ∧ (¬ x4 < x6 → t_X11_next_108 d L fz t Q x1 x2 x3 x4 (x5 + (nI 1)) I J))) ∧ (¬ x2 ≤ x7 → t_X11_next_135 d L fz t Q x1 x2 x3 x4 x5 x6 x7 (nI 1) (nI 0) I J))) :
    t_X11_next_123 d L fz t Q x1 x2 x3 x4 x5 x6 x7 I J := by
  exact pm_go d [(11, [0, 1]), (20, [0, 1, 2, 3]), (33, [0, 1, 2, 3]), (37, [0, 1, 2, 3]), (48, [0, 1, 2, 3]), (54, [0, 1, 2, 3]), (57, [0, 1, 2, 3, 4]), (108, [0, 1, 2, 3, 4, 5]), (123, [0, 1, 2, 3, 4, 5, 6, 7]), (135, [0, 1, 2, 3, 4, 5, 6, 7, 8, 9])] 400 ⟨fun q0 => ⟨fun q1 => ((((h).1 q0)).1 q1), fun q1 => ((((h).1 q0)).2 q1)⟩, fun q0 => ((h).2 q0)⟩
set_option maxRecDepth 100000 in
theorem b_X11_next_37 {d L : Nat} {fz t : Bool} {Q : pm_R → pm_H → Prop} {x1 : Int32} {x2 : Int32} {x3 : Int32} {r : Int32} {I : Nat → Nat → Int32} {J : Nat → Nat → Int64}
    (h : ((¬ r = (nI 0) → pm_Ev d 212 [.ref 85, .int x3] (pm_hp L fz t I J) (K_X11_next_48 d fz t Q x1 x2 x3)) ∧ (r = (nI 0) → t_X11_next_20 d L fz t Q x1 x2 (x3 + (nI 1)) I J))) :
    t_X11_next_37 d L fz t Q x1 x2 x3 r I J := by
  exact pm_go d [(11, [0, 1]), (20, [0, 1, 2, 3]), (33, [0, 1, 2, 3]), (37, [0, 1, 2, 3]), (48, [0, 1, 2, 3]), (54, [0, 1, 2, 3]), (57, [0, 1, 2, 3, 4]), (108, [0, 1, 2, 3, 4, 5]), (123, [0, 1, 2, 3, 4, 5, 6, 7]), (135, [0, 1, 2, 3, 4, 5, 6, 7, 8, 9])] 400 ⟨fun q0 => ((h).1 q0), fun q0 => ((h).2 q0)⟩
theorem kb_X11_next_37 {d L : Nat} {fz t : Bool} {Q : pm_R → pm_H → Prop} {x1 : Int32} {x2 : Int32} {x3 : Int32} {r : Int32} {fz1 : Bool} {I : Nat → Nat → Int32} {J : Nat → Nat → Int64}
    (h : ((¬ r = (nI 0) → pm_Ev d 212 [.ref 85, .int x3] (pm_hp L fz t I J) (K_X11_next_48 d fz t Q x1 x2 x3)) ∧ (r = (nI 0) → t_X11_next_20 d L fz t Q x1 x2 (x3 + (nI 1)) I J))) :
    K_X11_next_37 d fz t Q x1 x2 x3 (.inl (some (.int r))) (pm_hp L fz1 t I J) := b_X11_next_37 h
set_option maxRecDepth 100000 in
theorem b_X11_next_135 {d L : Nat} {fz t : Bool} {Q : pm_R → pm_H → Prop} {x1 : Int32} {x2 : Int32} {x3 : Int32} {x4 : Int32} {x5 : Int32} {x6 : Int32} {x7 : Int32} {x8 : Int32} {x9 : Int32} {I : Nat → Nat → Int32} {J : Nat → Nat → Int64}
    (h : ((x7 ≤ x9 → ((x8 = (nI 0) → t_X11_next_123 d L fz t Q x1 x2 x3 x4 x5 (x6 + (nI 0)) (x7 + (nI 1)) I J) ∧ (¬ x8 = (nI 0) → t_X11_next_123 d L fz t Q x1 x2 x3 x4 x5 (x6 + (nI 1)) (x7 + (nI 1)) I J))) ∧ (¬ x7 ≤ x9 → ((x8 = (nI 0) → t_X11_next_123 d L fz t Q x1 x2 x3 x4 x5 (x6 + (nI 0)) (x7 + (nI 1)) I J) ∧ (¬ x8 = (nI 0) → (vp_in (((nI 12) * x7) + x5) 120 ∧ (vp_in (((nI 12) * x9) + x5) 120 ∧ (((I 111 ((((nI 12) * x7) + x5)).toNatClampNeg) = (I 111 ((((nI 12) * x9) + x5)).toNatClampNeg) → t_X11_next_135 d L fz t Q x1 x2 x3 x4 x5 x6 x7 (nI 0) (x9 + (nI 1)) I J) ∧ (¬ (I 111 ((((nI 12) * x7) + x5)).toNatClampNeg) = (I 111 ((((nI 12) * x9) + x5)).toNatClampNeg) → t_X11_next_135 d L fz t Q x1 x2 x3 x4 x5 x6 x7 (nI 1) (x9 + (nI 1)) I J))))))))) :
    t_X11_next_135 d L fz t Q x1 x2 x3 x4 x5 x6 x7 x8 x9 I J := by
  exact pm_go d [(11, [0, 1]), (20, [0, 1, 2, 3]), (33, [0, 1, 2, 3]), (37, [0, 1, 2, 3]), (48, [0, 1, 2, 3]), (54, [0, 1, 2, 3]), (57, [0, 1, 2, 3, 4]), (108, [0, 1, 2, 3, 4, 5]), (123, [0, 1, 2, 3, 4, 5, 6, 7]), (135, [0, 1, 2, 3, 4, 5, 6, 7, 8, 9])] 400 ⟨fun q0 => ⟨fun q1 => ((((h).1 q0)).1 q1), fun q1 => ((((h).1 q0)).2 q1)⟩, fun q0 => ⟨fun q1 => ⟨fun _ => ((((h).2 q0)).1 q1), fun n => absurd q1 n⟩, fun q1 => ⟨(((((h).2 q0)).2 q1)).1, ⟨((((((h).2 q0)).2 q1)).2).1, ⟨fun q2 => ((((((((h).2 q0)).2 q1)).2).2).1 q2), fun q2 => ((((((((h).2 q0)).2 q1)).2).2).2 q2)⟩⟩⟩⟩⟩
set_option maxRecDepth 100000 in
theorem b_X11_next_48 {d L : Nat} {fz t : Bool} {Q : pm_R → pm_H → Prop} {x1 : Int32} {x2 : Int32} {x3 : Int32} {I : Nat → Nat → Int32} {J : Nat → Nat → Int64}
    (h : pm_Ev d 169 [.ref 85, .int (nI 34)] (pm_hp L fz t I J) (K_X11_next_54 d fz t Q x1 x2 x3)) :
    t_X11_next_48 d L fz t Q x1 x2 x3 I J := by
  exact pm_go d [(11, [0, 1]), (20, [0, 1, 2, 3]), (33, [0, 1, 2, 3]), (37, [0, 1, 2, 3]), (48, [0, 1, 2, 3]), (54, [0, 1, 2, 3]), (57, [0, 1, 2, 3, 4]), (108, [0, 1, 2, 3, 4, 5]), (123, [0, 1, 2, 3, 4, 5, 6, 7]), (135, [0, 1, 2, 3, 4, 5, 6, 7, 8, 9])] 400 h
theorem kb_X11_next_48 {d L : Nat} {fz t : Bool} {Q : pm_R → pm_H → Prop} {x1 : Int32} {x2 : Int32} {x3 : Int32} {fz1 : Bool} {I : Nat → Nat → Int32} {J : Nat → Nat → Int64}
    (h : pm_Ev d 169 [.ref 85, .int (nI 34)] (pm_hp L fz t I J) (K_X11_next_54 d fz t Q x1 x2 x3)) :
    K_X11_next_48 d fz t Q x1 x2 x3 (.inl none) (pm_hp L fz1 t I J) := b_X11_next_48 h
set_option maxRecDepth 100000 in
theorem b_X11_next_54 {d L : Nat} {fz t : Bool} {Q : pm_R → pm_H → Prop} {x1 : Int32} {x2 : Int32} {x3 : Int32} {I : Nat → Nat → Int32} {J : Nat → Nat → Int64}
    (h : t_X11_next_57 d L fz t Q x1 x2 x3 (nI 0) I J) :
    t_X11_next_54 d L fz t Q x1 x2 x3 I J := by
  exact pm_go d [(11, [0, 1]), (20, [0, 1, 2, 3]), (33, [0, 1, 2, 3]), (37, [0, 1, 2, 3]), (48, [0, 1, 2, 3]), (54, [0, 1, 2, 3]), (57, [0, 1, 2, 3, 4]), (108, [0, 1, 2, 3, 4, 5]), (123, [0, 1, 2, 3, 4, 5, 6, 7]), (135, [0, 1, 2, 3, 4, 5, 6, 7, 8, 9])] 400 h
theorem kb_X11_next_54 {d L : Nat} {fz t : Bool} {Q : pm_R → pm_H → Prop} {x1 : Int32} {x2 : Int32} {x3 : Int32} {fz1 : Bool} {I : Nat → Nat → Int32} {J : Nat → Nat → Int64}
    (h : t_X11_next_57 d L fz t Q x1 x2 x3 (nI 0) I J) :
    K_X11_next_54 d fz t Q x1 x2 x3 (.inl none) (pm_hp L fz1 t I J) := b_X11_next_54 h
set_option maxRecDepth 100000 in
theorem b_X11_next_57 {d L : Nat} {fz t : Bool} {Q : pm_R → pm_H → Prop} {x1 : Int32} {x2 : Int32} {x3 : Int32} {x4 : Int32} {I : Nat → Nat → Int32} {J : Nat → Nat → Int64}
    (h : (((I 85 3) ≤ x4 → t_X11_next_20 d L fz t Q x1 (x2 + (nI 1)) (x3 + (nI 1)) I J) ∧ (¬ (I 85 3) ≤ x4 → (vp_in x4 12 ∧ (vp_in (((nI 12) * x2) + x4) 120 ∧ t_X11_next_57 d L fz t Q x1 x2 x3 (x4 + (nI 1)) (pm_u I 111 ((((nI 12) * x2) + x4)).toNatClampNeg (I 107 (x4).toNatClampNeg)) J))))) :
    t_X11_next_57 d L fz t Q x1 x2 x3 x4 I J := by
  exact pm_go d [(11, [0, 1]), (20, [0, 1, 2, 3]), (33, [0, 1, 2, 3]), (37, [0, 1, 2, 3]), (48, [0, 1, 2, 3]), (54, [0, 1, 2, 3]), (57, [0, 1, 2, 3, 4]), (108, [0, 1, 2, 3, 4, 5]), (123, [0, 1, 2, 3, 4, 5, 6, 7]), (135, [0, 1, 2, 3, 4, 5, 6, 7, 8, 9])] 400 ⟨fun q0 => ((h).1 q0), fun q0 => ⟨(((h).2 q0)).1, ⟨((((h).2 q0)).2).1, ((((h).2 q0)).2).2⟩⟩⟩
def t_X11_toCut_0 (d L : Nat) (fz t : Bool) (Q : pm_R → pm_H → Prop) (x1 : Int32) (x2 : Int32) (x3 : Int32) (x4 : Int32) (I : Nat → Nat → Int32) (J : Nat → Nat → Int64) : Prop := pm_T (pm_Ev d) 216 Q (0, [(0, .ref 85), (1, .int x1), (2, .int x2), (3, .int x3), (4, .int x4)], [], pm_hp L fz t I J, 0, 0)
def t_X11_toCut_12 (d L : Nat) (fz t : Bool) (Q : pm_R → pm_H → Prop) (x1 : Int32) (x2 : Int32) (x3 : Int32) (x4 : Int32) (r : Int32) (I : Nat → Nat → Int32) (J : Nat → Nat → Int64) : Prop := pm_T (pm_Ev d) 216 Q (12, [(0, .ref 85), (1, .int x1), (2, .int x2), (3, .int x3), (4, .int x4)], [.int r], pm_hp L fz t I J, 0, 0)
def K_X11_toCut_12 (d : Nat) (fz t : Bool) (Q : pm_R → pm_H → Prop) (x1 : Int32) (x2 : Int32) (x3 : Int32) (x4 : Int32) : pm_R → pm_H → Prop := pm_K d 216 Q 12 [(0, .ref 85), (1, .int x1), (2, .int x2), (3, .int x3), (4, .int x4)] [] 118 0 fz 0 0
def t_X11_toCut_23 (d L : Nat) (fz t : Bool) (Q : pm_R → pm_H → Prop) (x1 : Int32) (x2 : Int32) (x3 : Int32) (x4 : Int32) (r : Int32) (I : Nat → Nat → Int32) (J : Nat → Nat → Int64) : Prop := pm_T (pm_Ev d) 216 Q (23, [(0, .ref 85), (1, .int x1), (2, .int x2), (3, .int x3), (4, .int x4)], [.int r, .ref 85], pm_hp L fz t I J, 0, 0)
def K_X11_toCut_23 (d : Nat) (fz t : Bool) (Q : pm_R → pm_H → Prop) (x1 : Int32) (x2 : Int32) (x3 : Int32) (x4 : Int32) : pm_R → pm_H → Prop := pm_K d 216 Q 23 [(0, .ref 85), (1, .int x1), (2, .int x2), (3, .int x3), (4, .int x4)] [.ref 85] 118 0 fz 0 0
def t_X11_toCut_55 (d L : Nat) (fz t : Bool) (Q : pm_R → pm_H → Prop) (x1 : Int32) (x2 : Int32) (x3 : Int32) (x4 : Int32) (r : Int32) (I : Nat → Nat → Int32) (J : Nat → Nat → Int64) : Prop := pm_T (pm_Ev d) 216 Q (55, [(0, .ref 85), (1, .int x1), (2, .int x2), (3, .int x3), (4, .int x4)], [.int r], pm_hp L fz t I J, 0, 0)
def K_X11_toCut_55 (d : Nat) (fz t : Bool) (Q : pm_R → pm_H → Prop) (x1 : Int32) (x2 : Int32) (x3 : Int32) (x4 : Int32) : pm_R → pm_H → Prop := pm_K d 216 Q 55 [(0, .ref 85), (1, .int x1), (2, .int x2), (3, .int x3), (4, .int x4)] [] 118 0 fz 0 0
def t_X11_toCut_33 (d L : Nat) (fz t : Bool) (Q : pm_R → pm_H → Prop) (x1 : Int32) (x2 : Int32) (x3 : Int32) (x4 : Int32) (r : Int32) (I : Nat → Nat → Int32) (J : Nat → Nat → Int64) : Prop := pm_T (pm_Ev d) 216 Q (33, [(0, .ref 85), (1, .int x1), (2, .int x2), (3, .int x3), (4, .int x4)], [.int r, .ref 85], pm_hp L fz t I J, 0, 0)
def K_X11_toCut_33 (d : Nat) (fz t : Bool) (Q : pm_R → pm_H → Prop) (x1 : Int32) (x2 : Int32) (x3 : Int32) (x4 : Int32) : pm_R → pm_H → Prop := pm_K d 216 Q 33 [(0, .ref 85), (1, .int x1), (2, .int x2), (3, .int x3), (4, .int x4)] [.ref 85] 118 0 fz 0 0
def t_X11_toCut_66 (d L : Nat) (fz t : Bool) (Q : pm_R → pm_H → Prop) (x1 : Int32) (x2 : Int32) (x3 : Int32) (x4 : Int32) (x5 : Int32) (x6 : Int32) (I : Nat → Nat → Int32) (J : Nat → Nat → Int64) : Prop := pm_T (pm_Ev d) 216 Q (66, [(0, .ref 85), (1, .int x1), (2, .int x2), (3, .int x3), (4, .int x4), (5, .int x5), (6, .int x6)], [], pm_hp L fz t I J, 0, 0)
def t_X11_toCut_43 (d L : Nat) (fz t : Bool) (Q : pm_R → pm_H → Prop) (x1 : Int32) (x2 : Int32) (x3 : Int32) (x4 : Int32) (r : Int32) (I : Nat → Nat → Int32) (J : Nat → Nat → Int64) : Prop := pm_T (pm_Ev d) 216 Q (43, [(0, .ref 85), (1, .int x1), (2, .int x2), (3, .int x3), (4, .int x4)], [.int r, .ref 85], pm_hp L fz t I J, 0, 0)
def K_X11_toCut_43 (d : Nat) (fz t : Bool) (Q : pm_R → pm_H → Prop) (x1 : Int32) (x2 : Int32) (x3 : Int32) (x4 : Int32) : pm_R → pm_H → Prop := pm_K d 216 Q 43 [(0, .ref 85), (1, .int x1), (2, .int x2), (3, .int x3), (4, .int x4)] [.ref 85] 118 0 fz 0 0
def t_X11_toCut_90 (d L : Nat) (fz t : Bool) (Q : pm_R → pm_H → Prop) (x1 : Int32) (x2 : Int32) (x3 : Int32) (x4 : Int32) (x5 : Int32) (x6 : Int32) (I : Nat → Nat → Int32) (J : Nat → Nat → Int64) : Prop := pm_T (pm_Ev d) 216 Q (90, [(0, .ref 85), (1, .int x1), (2, .int x2), (3, .int x3), (4, .int x4), (5, .int x5), (6, .int x6)], [], pm_hp L fz t I J, 0, 0)
def t_X11_toCut_99 (d L : Nat) (fz t : Bool) (Q : pm_R → pm_H → Prop) (x1 : Int32) (x2 : Int32) (x3 : Int32) (x4 : Int32) (x5 : Int32) (x6 : Int32) (x7 : Int32) (I : Nat → Nat → Int32) (J : Nat → Nat → Int64) : Prop := pm_T (pm_Ev d) 216 Q (99, [(0, .ref 85), (1, .int x1), (2, .int x2), (3, .int x3), (4, .int x4), (5, .int x5), (6, .int x6), (7, .int x7)], [], pm_hp L fz t I J, 0, 0)
def t_X11_toCut_128 (d L : Nat) (fz t : Bool) (Q : pm_R → pm_H → Prop) (x1 : Int32) (x2 : Int32) (x3 : Int32) (x4 : Int32) (x5 : Int32) (x6 : Int32) (x7 : Int32) (s0 : Int32) (s2 : Int32) (r : Int32) (I : Nat → Nat → Int32) (J : Nat → Nat → Int64) : Prop := pm_T (pm_Ev d) 216 Q (128, [(0, .ref 85), (1, .int x1), (2, .int x2), (3, .int x3), (4, .int x4), (5, .int x5), (6, .int x6), (7, .int x7)], [.int r, .int s2, .ref 112, .int s0], pm_hp L fz t I J, 0, 0)
def K_X11_toCut_128 (d : Nat) (fz t : Bool) (Q : pm_R → pm_H → Prop) (x1 : Int32) (x2 : Int32) (x3 : Int32) (x4 : Int32) (x5 : Int32) (x6 : Int32) (x7 : Int32) (s0 : Int32) (s2 : Int32) : pm_R → pm_H → Prop := pm_K d 216 Q 128 [(0, .ref 85), (1, .int x1), (2, .int x2), (3, .int x3), (4, .int x4), (5, .int x5), (6, .int x6), (7, .int x7)] [.int s2, .ref 112, .int s0] 118 0 fz 0 0
def t_X11_toCut_170 (d L : Nat) (fz t : Bool) (Q : pm_R → pm_H → Prop) (x1 : Int32) (x2 : Int32) (x3 : Int32) (x4 : Int32) (x5 : Int32) (x6 : Int32) (x7 : Int32) (x8 : Int32) (x9 : Int32) (s1 : Int32) (r : Int32) (I : Nat → Nat → Int32) (J : Nat → Nat → Int64) : Prop := pm_T (pm_Ev d) 216 Q (170, [(0, .ref 85), (1, .int x1), (2, .int x2), (3, .int x3), (4, .int x4), (5, .int x5), (6, .int x6), (7, .int x7), (8, .int x8), (9, .int x9)], [.int r, .int s1, .ref 112], pm_hp L fz t I J, 0, 0)
def K_X11_toCut_170 (d : Nat) (fz t : Bool) (Q : pm_R → pm_H → Prop) (x1 : Int32) (x2 : Int32) (x3 : Int32) (x4 : Int32) (x5 : Int32) (x6 : Int32) (x7 : Int32) (x8 : Int32) (x9 : Int32) (s1 : Int32) : pm_R → pm_H → Prop := pm_K d 216 Q 170 [(0, .ref 85), (1, .int x1), (2, .int x2), (3, .int x3), (4, .int x4), (5, .int x5), (6, .int x6), (7, .int x7), (8, .int x8), (9, .int x9)] [.int s1, .ref 112] 118 0 fz 0 0
set_option maxRecDepth 100000 in
theorem b_X11_toCut_0 {d L : Nat} {fz t : Bool} {Q : pm_R → pm_H → Prop} {x1 : Int32} {x2 : Int32} {x3 : Int32} {x4 : Int32} {I : Nat → Nat → Int32} {J : Nat → Nat → Int64}
    (h : pm_Ev d 183 [.ref 85, .int x4, .int (nI 1)] (pm_hp L fz t (pm_u I 85 0 (nI 0)) J) (K_X11_toCut_12 d fz t Q x1 x2 x3 x4)) :
    t_X11_toCut_0 d L fz t Q x1 x2 x3 x4 I J := by
  exact pm_go d [(12, [0, 1, 2, 3, 4]), (23, [0, 1, 2, 3, 4]), (33, [0, 1, 2, 3, 4]), (43, [0, 1, 2, 3, 4]), (55, [0, 1, 2, 3, 4]), (66, [0, 1, 2, 3, 4, 5, 6]), (90, [0, 1, 2, 3, 4, 5, 6]), (99, [0, 1, 2, 3, 4, 5, 6, 7]), (128, [0, 1, 2, 3, 4, 5, 6, 7]), (170, [0, 1, 2, 3, 4, 5, 6, 7, 8, 9])] 400 h
theorem e_X11_toCut {d L : Nat} {fz t : Bool} {Q : pm_R → pm_H → Prop} {x1 : Int32} {x2 : Int32} {x3 : Int32} {x4 : Int32} {I : Nat → Nat → Int32} {J : Nat → Nat → Int64}
    (h : pm_Ev d 183 [.ref 85, .int x4, .int (nI 1)] (pm_hp L fz t (pm_u I 85 0 (nI 0)) J) (K_X11_toCut_12 d fz t Q x1 x2 x3 x4)) :
    pm_Ev (d + 1) 216 [.ref 85, .int x1, .int x2, .int x3, .int x4] (pm_hp L fz t I J) Q := pm_Ev_in rfl (b_X11_toCut_0 h)
set_option maxRecDepth 100000 in
theorem b_X11_toCut_12 {d L : Nat} {fz t : Bool} {Q : pm_R → pm_H → Prop} {x1 : Int32} {x2 : Int32} {x3 : Int32} {x4 : Int32} {r : Int32} {I : Nat → Nat → Int32} {J : Nat → Nat → Int64}
    (h : ((r = (nI 0) → Q (.inl (some (.int (nI 0)))) (pm_hp L fz t I J)) ∧ (¬ r = (nI 0) → pm_Ev d 119 [.int x1, .int (nI 1), .int (nI 30)] (pm_hp L fz t I J) (K_X11_toCut_23 d fz t Q x1 x2 x3 x4)))) :
    t_X11_toCut_12 d L fz t Q x1 x2 x3 x4 r I J := by
  exact pm_go d [(12, [0, 1, 2, 3, 4]), (23, [0, 1, 2, 3, 4]), (33, [0, 1, 2, 3, 4]), (43, [0, 1, 2, 3, 4]), (55, [0, 1, 2, 3, 4]), (66, [0, 1, 2, 3, 4, 5, 6]), (90, [0, 1, 2, 3, 4, 5, 6]), (99, [0, 1, 2, 3, 4, 5, 6, 7]), (128, [0, 1, 2, 3, 4, 5, 6, 7]), (170, [0, 1, 2, 3, 4, 5, 6, 7, 8, 9])] 400 ⟨fun q0 => ((h).1 q0), fun q0 => ((h).2 q0)⟩
theorem kb_X11_toCut_12 {d L : Nat} {fz t : Bool} {Q : pm_R → pm_H → Prop} {x1 : Int32} {x2 : Int32} {x3 : Int32} {x4 : Int32} {r : Int32} {fz1 : Bool} {I : Nat → Nat → Int32} {J : Nat → Nat → Int64}
    (h : ((r = (nI 0) → Q (.inl (some (.int (nI 0)))) (pm_hp L fz t I J)) ∧ (¬ r = (nI 0) → pm_Ev d 119 [.int x1, .int (nI 1), .int (nI 30)] (pm_hp L fz t I J) (K_X11_toCut_23 d fz t Q x1 x2 x3 x4)))) :
    K_X11_toCut_12 d fz t Q x1 x2 x3 x4 (.inl (some (.int r))) (pm_hp L fz1 t I J) := b_X11_toCut_12 h
set_option maxRecDepth 100000 in
theorem b_X11_toCut_23 {d L : Nat} {fz t : Bool} {Q : pm_R → pm_H → Prop} {x1 : Int32} {x2 : Int32} {x3 : Int32} {x4 : Int32} {r : Int32} {I : Nat → Nat → Int32} {J : Nat → Nat → Int64}
    (h : ((r = (nI 0) → pm_Ev d 118 [.ref 85, .int (nI 0), .int (nI 2)] (pm_hp L fz t I J) (K_X11_toCut_55 d fz t Q x1 x2 x3 x4)) ∧ (¬ r = (nI 0) → pm_Ev d 119 [.int x2, .int (nI 0), .int (nI 9)] (pm_hp L fz t I J) (K_X11_toCut_33 d fz t Q x1 x2 x3 x4)))) :
    t_X11_toCut_23 d L fz t Q x1 x2 x3 x4 r I J := by
  exact pm_go d [(12, [0, 1, 2, 3, 4]), (23, [0, 1, 2, 3, 4]), (33, [0, 1, 2, 3, 4]), (43, [0, 1, 2, 3, 4]), (55, [0, 1, 2, 3, 4]), (66, [0, 1, 2, 3, 4, 5, 6]), (90, [0, 1, 2, 3, 4, 5, 6]), (99, [0, 1, 2, 3, 4, 5, 6, 7]), (128, [0, 1, 2, 3, 4, 5, 6, 7]), (170, [0, 1, 2, 3, 4, 5, 6, 7, 8, 9])] 400 ⟨fun q0 => ((h).1 q0), fun q0 => ((h).2 q0)⟩
theorem kb_X11_toCut_23 {d L : Nat} {fz t : Bool} {Q : pm_R → pm_H → Prop} {x1 : Int32} {x2 : Int32} {x3 : Int32} {x4 : Int32} {r : Int32} {fz1 : Bool} {I : Nat → Nat → Int32} {J : Nat → Nat → Int64}
    (h : ((r = (nI 0) → pm_Ev d 118 [.ref 85, .int (nI 0), .int (nI 2)] (pm_hp L fz t I J) (K_X11_toCut_55 d fz t Q x1 x2 x3 x4)) ∧ (¬ r = (nI 0) → pm_Ev d 119 [.int x2, .int (nI 0), .int (nI 9)] (pm_hp L fz t I J) (K_X11_toCut_33 d fz t Q x1 x2 x3 x4)))) :
    K_X11_toCut_23 d fz t Q x1 x2 x3 x4 (.inl (some (.int r))) (pm_hp L fz1 t I J) := b_X11_toCut_23 h
set_option maxRecDepth 100000 in
theorem b_X11_toCut_55 {d L : Nat} {fz t : Bool} {Q : pm_R → pm_H → Prop} {x1 : Int32} {x2 : Int32} {x3 : Int32} {x4 : Int32} {r : Int32} {I : Nat → Nat → Int32} {J : Nat → Nat → Int64}
    (h : ((¬ r = (nI 0) → t_X11_toCut_66 d L fz t Q x1 x2 x3 x4 (nI 0) (nI 0) I J) ∧ (r = (nI 0) → Q (.inl (some (.int (nI 0)))) (pm_hp L fz t I J)))) :
    t_X11_toCut_55 d L fz t Q x1 x2 x3 x4 r I J := by
  exact pm_go d [(12, [0, 1, 2, 3, 4]), (23, [0, 1, 2, 3, 4]), (33, [0, 1, 2, 3, 4]), (43, [0, 1, 2, 3, 4]), (55, [0, 1, 2, 3, 4]), (66, [0, 1, 2, 3, 4, 5, 6]), (90, [0, 1, 2, 3, 4, 5, 6]), (99, [0, 1, 2, 3, 4, 5, 6, 7]), (128, [0, 1, 2, 3, 4, 5, 6, 7]), (170, [0, 1, 2, 3, 4, 5, 6, 7, 8, 9])] 400 ⟨fun q0 => ((h).1 q0), fun q0 => ((h).2 q0)⟩
theorem kb_X11_toCut_55 {d L : Nat} {fz t : Bool} {Q : pm_R → pm_H → Prop} {x1 : Int32} {x2 : Int32} {x3 : Int32} {x4 : Int32} {r : Int32} {fz1 : Bool} {I : Nat → Nat → Int32} {J : Nat → Nat → Int64}
    (h : ((¬ r = (nI 0) → t_X11_toCut_66 d L fz t Q x1 x2 x3 x4 (nI 0) (nI 0) I J) ∧ (r = (nI 0) → Q (.inl (some (.int (nI 0)))) (pm_hp L fz t I J)))) :
    K_X11_toCut_55 d fz t Q x1 x2 x3 x4 (.inl (some (.int r))) (pm_hp L fz1 t I J) := b_X11_toCut_55 h
set_option maxRecDepth 100000 in
theorem b_X11_toCut_33 {d L : Nat} {fz t : Bool} {Q : pm_R → pm_H → Prop} {x1 : Int32} {x2 : Int32} {x3 : Int32} {x4 : Int32} {r : Int32} {I : Nat → Nat → Int32} {J : Nat → Nat → Int64}
    (h : ((r = (nI 0) → pm_Ev d 118 [.ref 85, .int (nI 0), .int (nI 2)] (pm_hp L fz t I J) (K_X11_toCut_55 d fz t Q x1 x2 x3 x4)) ∧ (¬ r = (nI 0) → pm_Ev d 119 [.int x3, .int (nI 0), .int (nI 50)] (pm_hp L fz t I J) (K_X11_toCut_43 d fz t Q x1 x2 x3 x4)))) :
    t_X11_toCut_33 d L fz t Q x1 x2 x3 x4 r I J := by
  exact pm_go d [(12, [0, 1, 2, 3, 4]), (23, [0, 1, 2, 3, 4]), (33, [0, 1, 2, 3, 4]), (43, [0, 1, 2, 3, 4]), (55, [0, 1, 2, 3, 4]), (66, [0, 1, 2, 3, 4, 5, 6]), (90, [0, 1, 2, 3, 4, 5, 6]), (99, [0, 1, 2, 3, 4, 5, 6, 7]), (128, [0, 1, 2, 3, 4, 5, 6, 7]), (170, [0, 1, 2, 3, 4, 5, 6, 7, 8, 9])] 400 ⟨fun q0 => ((h).1 q0), fun q0 => ((h).2 q0)⟩
theorem kb_X11_toCut_33 {d L : Nat} {fz t : Bool} {Q : pm_R → pm_H → Prop} {x1 : Int32} {x2 : Int32} {x3 : Int32} {x4 : Int32} {r : Int32} {fz1 : Bool} {I : Nat → Nat → Int32} {J : Nat → Nat → Int64}
    (h : ((r = (nI 0) → pm_Ev d 118 [.ref 85, .int (nI 0), .int (nI 2)] (pm_hp L fz t I J) (K_X11_toCut_55 d fz t Q x1 x2 x3 x4)) ∧ (¬ r = (nI 0) → pm_Ev d 119 [.int x3, .int (nI 0), .int (nI 50)] (pm_hp L fz t I J) (K_X11_toCut_43 d fz t Q x1 x2 x3 x4)))) :
    K_X11_toCut_33 d fz t Q x1 x2 x3 x4 (.inl (some (.int r))) (pm_hp L fz1 t I J) := b_X11_toCut_33 h
set_option maxRecDepth 100000 in
theorem b_X11_toCut_66 {d L : Nat} {fz t : Bool} {Q : pm_R → pm_H → Prop} {x1 : Int32} {x2 : Int32} {x3 : Int32} {x4 : Int32} {x5 : Int32} {x6 : Int32} {I : Nat → Nat → Int32} {J : Nat → Nat → Int64}
    (h : (((nI 9) < x6 → t_X11_toCut_90 d L fz t Q x1 x2 x3 x4 x5 (nI 1) I J) ∧ (¬ (nI 9) < x6 → (vp_in x6 310 ∧ t_X11_toCut_66 d L fz t Q x1 x2 x3 x4 x5 (x6 + (nI 1)) (pm_u I 112 (x6).toNatClampNeg (nI 0)) J)))) :
    t_X11_toCut_66 d L fz t Q x1 x2 x3 x4 x5 x6 I J := by
  exact pm_go d [(12, [0, 1, 2, 3, 4]), (23, [0, 1, 2, 3, 4]), (33, [0, 1, 2, 3, 4]), (43, [0, 1, 2, 3, 4]), (55, [0, 1, 2, 3, 4]), (66, [0, 1, 2, 3, 4, 5, 6]), (90, [0, 1, 2, 3, 4, 5, 6]), (99, [0, 1, 2, 3, 4, 5, 6, 7]), (128, [0, 1, 2, 3, 4, 5, 6, 7]), (170, [0, 1, 2, 3, 4, 5, 6, 7, 8, 9])] 400 ⟨fun q0 => ((h).1 q0), fun q0 => ⟨(((h).2 q0)).1, (((h).2 q0)).2⟩⟩
set_option maxRecDepth 100000 in
theorem b_X11_toCut_43 {d L : Nat} {fz t : Bool} {Q : pm_R → pm_H → Prop} {x1 : Int32} {x2 : Int32} {x3 : Int32} {x4 : Int32} {r : Int32} {I : Nat → Nat → Int32} {J : Nat → Nat → Int64}
    (h : ((r = (nI 0) → pm_Ev d 118 [.ref 85, .int (nI 0), .int (nI 2)] (pm_hp L fz t I J) (K_X11_toCut_55 d fz t Q x1 x2 x3 x4)) ∧ (¬ r = (nI 0) → pm_Ev d 118 [.ref 85, .int (nI 1), .int (nI 2)] (pm_hp L fz t I J) (K_X11_toCut_55 d fz t Q x1 x2 x3 x4)))) :
    t_X11_toCut_43 d L fz t Q x1 x2 x3 x4 r I J := by
  exact pm_go d [(12, [0, 1, 2, 3, 4]), (23, [0, 1, 2, 3, 4]), (33, [0, 1, 2, 3, 4]), (43, [0, 1, 2, 3, 4]), (55, [0, 1, 2, 3, 4]), (66, [0, 1, 2, 3, 4, 5, 6]), (90, [0, 1, 2, 3, 4, 5, 6]), (99, [0, 1, 2, 3, 4, 5, 6, 7]), (128, [0, 1, 2, 3, 4, 5, 6, 7]), (170, [0, 1, 2, 3, 4, 5, 6, 7, 8, 9])] 400 ⟨fun q0 => ((h).1 q0), fun q0 => ((h).2 q0)⟩
theorem kb_X11_toCut_43 {d L : Nat} {fz t : Bool} {Q : pm_R → pm_H → Prop} {x1 : Int32} {x2 : Int32} {x3 : Int32} {x4 : Int32} {r : Int32} {fz1 : Bool} {I : Nat → Nat → Int32} {J : Nat → Nat → Int64}
    (h : ((r = (nI 0) → pm_Ev d 118 [.ref 85, .int (nI 0), .int (nI 2)] (pm_hp L fz t I J) (K_X11_toCut_55 d fz t Q x1 x2 x3 x4)) ∧ (¬ r = (nI 0) → pm_Ev d 118 [.ref 85, .int (nI 1), .int (nI 2)] (pm_hp L fz t I J) (K_X11_toCut_55 d fz t Q x1 x2 x3 x4)))) :
    K_X11_toCut_43 d fz t Q x1 x2 x3 x4 (.inl (some (.int r))) (pm_hp L fz1 t I J) := b_X11_toCut_43 h
set_option maxRecDepth 100000 in
theorem b_X11_toCut_90 {d L : Nat} {fz t : Bool} {Q : pm_R → pm_H → Prop} {x1 : Int32} {x2 : Int32} {x3 : Int32} {x4 : Int32} {x5 : Int32} {x6 : Int32} {I : Nat → Nat → Int32} {J : Nat → Nat → Int64}
    (h : ((x1 < x6 → ((¬ x4 = (nI 0) → ((x5 = (nI 0) → Q (.inl (some (.int (nI 0)))) (pm_hp L fz t I J)) ∧ (¬ x5 = (nI 0) → Q (.inl (some (.int (nI 1)))) (pm_hp L fz t I J)))) ∧ (x4 = (nI 0) → (vp_in (((nI 10) * x1) + x2) 310 ∧ Q (.inl (some (.int (I 112 ((((nI 10) * x1) + x2)).toNatClampNeg)))) (pm_hp L fz t I J))))) ∧ (¬ x1 < x6 → t_X11_toCut_99 d L fz t Q x1 x2 x3 x4 x5 x6 (nI 0) I J))) :
    t_X11_toCut_90 d L fz t Q x1 x2 x3 x4 x5 x6 I J := by
  exact pm_go d [(12, [0, 1, 2, 3, 4]), (23, [0, 1, 2, 3, 4]), (33, [0, 1, 2, 3, 4]), (43, [0, 1, 2, 3, 4]), (55, [0, 1, 2, 3, 4]), (66, [0, 1, 2, 3, 4, 5, 6]), (90, [0, 1, 2, 3, 4, 5, 6]), (99, [0, 1, 2, 3, 4, 5, 6, 7]), (128, [0, 1, 2, 3, 4, 5, 6, 7]), (170, [0, 1, 2, 3, 4, 5, 6, 7, 8, 9])] 400 ⟨fun q0 => ⟨fun q1 => ⟨fun q2 => ((((((h).1 q0)).1 q1)).1 q2), fun q2 => ((((((h).1 q0)).1 q1)).2 q2)⟩, fun q1 => ⟨(((((h).1 q0)).2 q1)).1, (((((h).1 q0)).2 q1)).2⟩⟩, fun q0 => ((h).2 q0)⟩
set_option maxRecDepth 100000 in
theorem b_X11_toCut_99 {d L : Nat} {fz t : Bool} {Q : pm_R → pm_H → Prop} {x1 : Int32} {x2 : Int32} {x3 : Int32} {x4 : Int32} {x5 : Int32} {x6 : Int32} {x7 : Int32} {I : Nat → Nat → Int32} {J : Nat → Nat → Int64}
    (h : (((nI 9) < x7 → t_X11_toCut_90 d L fz t Q x1 x2 x3 x4 x5 (x6 + (nI 1)) I J) ∧ (¬ (nI 9) < x7 → pm_Ev d 121 [.int (nI 9), .int (x7 + (nI 1))] (pm_hp L fz t I J) (K_X11_toCut_128 d fz t Q x1 x2 x3 x4 x5 x6 x7 x7 ((nI 10) * (x6 - (nI 1))))))) :
    t_X11_toCut_99 d L fz t Q x1 x2 x3 x4 x5 x6 x7 I J := by
  exact pm_go d [(12, [0, 1, 2, 3, 4]), (23, [0, 1, 2, 3, 4]), (33, [0, 1, 2, 3, 4]), (43, [0, 1, 2, 3, 4]), (55, [0, 1, 2, 3, 4]), (66, [0, 1, 2, 3, 4, 5, 6]), (90, [0, 1, 2, 3, 4, 5, 6]), (99, [0, 1, 2, 3, 4, 5, 6, 7]), (128, [0, 1, 2, 3, 4, 5, 6, 7]), (170, [0, 1, 2, 3, 4, 5, 6, 7, 8, 9])] 400 ⟨fun q0 => ((h).1 q0), fun q0 => ((h).2 q0)⟩
set_option maxRecDepth 100000 in
theorem b_X11_toCut_128 {d L : Nat} {fz t : Bool} {Q : pm_R → pm_H → Prop} {x1 : Int32} {x2 : Int32} {x3 : Int32} {x4 : Int32} {x5 : Int32} {x6 : Int32} {x7 : Int32} {s0 : Int32} {s2 : Int32} {r : Int32} {I : Nat → Nat → Int32} {J : Nat → Nat → Int64}
    (h : (vp_in (s2 + r) 310 ∧ (vp_in (((nI 10) * (x6 - (nI 1))) + (nI 1)) 310 ∧ pm_Ev d 121 [.int (s0 + (I 112 ((s2 + r)).toNatClampNeg)), .int (x3 + (I 112 ((((nI 10) * (x6 - (nI 1))) + (nI 1))).toNatClampNeg))] (pm_hp L fz t I J) (K_X11_toCut_170 d fz t Q x1 x2 x3 x4 x5 x6 x7 (s0 + (I 112 ((s2 + r)).toNatClampNeg)) (x3 + (I 112 ((((nI 10) * (x6 - (nI 1))) + (nI 1))).toNatClampNeg)) (((nI 10) * x6) + x7))))) :
    t_X11_toCut_128 d L fz t Q x1 x2 x3 x4 x5 x6 x7 s0 s2 r I J := by
  exact pm_go d [(12, [0, 1, 2, 3, 4]), (23, [0, 1, 2, 3, 4]), (33, [0, 1, 2, 3, 4]), (43, [0, 1, 2, 3, 4]), (55, [0, 1, 2, 3, 4]), (66, [0, 1, 2, 3, 4, 5, 6]), (90, [0, 1, 2, 3, 4, 5, 6]), (99, [0, 1, 2, 3, 4, 5, 6, 7]), (128, [0, 1, 2, 3, 4, 5, 6, 7]), (170, [0, 1, 2, 3, 4, 5, 6, 7, 8, 9])] 400 ⟨(h).1, ⟨((h).2).1, ((h).2).2⟩⟩
theorem kb_X11_toCut_128 {d L : Nat} {fz t : Bool} {Q : pm_R → pm_H → Prop} {x1 : Int32} {x2 : Int32} {x3 : Int32} {x4 : Int32} {x5 : Int32} {x6 : Int32} {x7 : Int32} {s0 : Int32} {s2 : Int32} {r : Int32} {fz1 : Bool} {I : Nat → Nat → Int32} {J : Nat → Nat → Int64}
    (h : (vp_in (s2 + r) 310 ∧ (vp_in (((nI 10) * (x6 - (nI 1))) + (nI 1)) 310 ∧ pm_Ev d 121 [.int (s0 + (I 112 ((s2 + r)).toNatClampNeg)), .int (x3 + (I 112 ((((nI 10) * (x6 - (nI 1))) + (nI 1))).toNatClampNeg))] (pm_hp L fz t I J) (K_X11_toCut_170 d fz t Q x1 x2 x3 x4 x5 x6 x7 (s0 + (I 112 ((s2 + r)).toNatClampNeg)) (x3 + (I 112 ((((nI 10) * (x6 - (nI 1))) + (nI 1))).toNatClampNeg)) (((nI 10) * x6) + x7))))) :
    K_X11_toCut_128 d fz t Q x1 x2 x3 x4 x5 x6 x7 s0 s2 (.inl (some (.int r))) (pm_hp L fz1 t I J) := b_X11_toCut_128 h
set_option maxRecDepth 100000 in
theorem b_X11_toCut_170 {d L : Nat} {fz t : Bool} {Q : pm_R → pm_H → Prop} {x1 : Int32} {x2 : Int32} {x3 : Int32} {x4 : Int32} {x5 : Int32} {x6 : Int32} {x7 : Int32} {x8 : Int32} {x9 : Int32} {s1 : Int32} {r : Int32} {I : Nat → Nat → Int32} {J : Nat → Nat → Int64}
    (h : (vp_in s1 310 ∧ ((¬ x6 = x1 → t_X11_toCut_99 d L fz t Q x1 x2 x3 x4 x5 x6 (x7 + (nI 1)) (pm_u I 112 (s1).toNatClampNeg r) J) ∧ (x6 = x1 → ((¬ x7 = x2 → t_X11_toCut_99 d L fz t Q x1 x2 x3 x4 x5 x6 (x7 + (nI 1)) (pm_u I 112 (s1).toNatClampNeg r) J) ∧ (x7 = x2 → ((x8 ≤ x9 → t_X11_toCut_99 d L fz t Q x1 x2 x3 x4 (nI 0) x6 (x7 + (nI 1)) (pm_u I 112 (s1).toNatClampNeg r) J) ∧ (¬ x8 ≤ x9 → t_X11_toCut_99 d L fz t Q x1 x2 x3 x4 (nI 1) x6 (x7 + (nI 1)) (pm_u I 112 (s1).toNatClampNeg r) J)))))))) :
    t_X11_toCut_170 d L fz t Q x1 x2 x3 x4 x5 x6 x7 x8 x9 s1 r I J := by
  exact pm_go d [(12, [0, 1, 2, 3, 4]), (23, [0, 1, 2, 3, 4]), (33, [0, 1, 2, 3, 4]), (43, [0, 1, 2, 3, 4]), (55, [0, 1, 2, 3, 4]), (66, [0, 1, 2, 3, 4, 5, 6]), (90, [0, 1, 2, 3, 4, 5, 6]), (99, [0, 1, 2, 3, 4, 5, 6, 7]), (128, [0, 1, 2, 3, 4, 5, 6, 7]), (170, [0, 1, 2, 3, 4, 5, 6, 7, 8, 9])] 400 ⟨(h).1, ⟨fun q0 => (((h).2).1 q0), fun q0 => ⟨fun q1 => (((((h).2).2 q0)).1 q1), fun q1 => ⟨fun q2 => (((((((h).2).2 q0)).2 q1)).1 q2), fun q2 => (((((((h).2).2 q0)).2 q1)).2 q2)⟩⟩⟩⟩
theorem kb_X11_toCut_170 {d L : Nat} {fz t : Bool} {Q : pm_R → pm_H → Prop} {x1 : Int32} {x2 : Int32} {x3 : Int32} {x4 : Int32} {x5 : Int32} {x6 : Int32} {x7 : Int32} {x8 : Int32} {x9 : Int32} {s1 : Int32} {r : Int32} {fz1 : Bool} {I : Nat → Nat → Int32} {J : Nat → Nat → Int64}
    (h : (vp_in s1 310 ∧ ((¬ x6 = x1 → t_X11_toCut_99 d L fz t Q x1 x2 x3 x4 x5 x6 (x7 + (nI 1)) (pm_u I 112 (s1).toNatClampNeg r) J) ∧ (x6 = x1 → ((¬ x7 = x2 → t_X11_toCut_99 d L fz t Q x1 x2 x3 x4 x5 x6 (x7 + (nI 1)) (pm_u I 112 (s1).toNatClampNeg r) J) ∧ (x7 = x2 → ((x8 ≤ x9 → t_X11_toCut_99 d L fz t Q x1 x2 x3 x4 (nI 0) x6 (x7 + (nI 1)) (pm_u I 112 (s1).toNatClampNeg r) J) ∧ (¬ x8 ≤ x9 → t_X11_toCut_99 d L fz t Q x1 x2 x3 x4 (nI 1) x6 (x7 + (nI 1)) (pm_u I 112 (s1).toNatClampNeg r) J)))))))) :
    K_X11_toCut_170 d fz t Q x1 x2 x3 x4 x5 x6 x7 x8 x9 s1 (.inl (some (.int r))) (pm_hp L fz1 t I J) := b_X11_toCut_170 h
def t_X11_isCoat_0 (d L : Nat) (fz t : Bool) (Q : pm_R → pm_H → Prop) (x1 : Int32) (x2 : Int32) (I : Nat → Nat → Int32) (J : Nat → Nat → Int64) : Prop := pm_T (pm_Ev d) 217 Q (0, [(0, .ref 85), (1, .int x1), (2, .int x2)], [], pm_hp L fz t I J, 0, 0)
def t_X11_isCoat_12 (d L : Nat) (fz t : Bool) (Q : pm_R → pm_H → Prop) (s0 : Int32) (r : Int32) (I : Nat → Nat → Int32) (J : Nat → Nat → Int64) : Prop := pm_T (pm_Ev d) 217 Q (12, [], [.int r, .int s0], pm_hp L fz t I J, 0, 0)
def K_X11_isCoat_12 (d : Nat) (fz t : Bool) (Q : pm_R → pm_H → Prop) (s0 : Int32) : pm_R → pm_H → Prop := pm_K d 217 Q 12 [] [.int s0] 118 0 fz 0 0
set_option maxRecDepth 100000 in
theorem b_X11_isCoat_0 {d L : Nat} {fz t : Bool} {Q : pm_R → pm_H → Prop} {x1 : Int32} {x2 : Int32} {I : Nat → Nat → Int32} {J : Nat → Nat → Int64}
    (h : (vp_in x2 12 ∧ pm_Ev d 164 [.ref 85, .int (nI 0), .int x1] (pm_hp L fz t I J) (K_X11_isCoat_12 d fz t Q (I 107 (x2).toNatClampNeg)))) :
    t_X11_isCoat_0 d L fz t Q x1 x2 I J := by
  exact pm_go d [(12, [])] 400 ⟨(h).1, (h).2⟩
theorem e_X11_isCoat {d L : Nat} {fz t : Bool} {Q : pm_R → pm_H → Prop} {x1 : Int32} {x2 : Int32} {I : Nat → Nat → Int32} {J : Nat → Nat → Int64}
    (h : (vp_in x2 12 ∧ pm_Ev d 164 [.ref 85, .int (nI 0), .int x1] (pm_hp L fz t I J) (K_X11_isCoat_12 d fz t Q (I 107 (x2).toNatClampNeg)))) :
    pm_Ev (d + 1) 217 [.ref 85, .int x1, .int x2] (pm_hp L fz t I J) Q := pm_Ev_in rfl (b_X11_isCoat_0 h)
set_option maxRecDepth 100000 in
theorem b_X11_isCoat_12 {d L : Nat} {fz t : Bool} {Q : pm_R → pm_H → Prop} {s0 : Int32} {r : Int32} {I : Nat → Nat → Int32} {J : Nat → Nat → Int64}
    (h : ((¬ (s0 &&& (r ^^^ (-1 : Int32))) = (nI 0) → Q (.inl (some (.int (nI 0)))) (pm_hp L fz t I J)) ∧ ((s0 &&& (r ^^^ (-1 : Int32))) = (nI 0) → Q (.inl (some (.int (nI 1)))) (pm_hp L fz t I J)))) :
    t_X11_isCoat_12 d L fz t Q s0 r I J := by
  exact pm_go d [(12, [])] 400 ⟨fun q0 => ⟨Or.inl rfl, ((h).1 q0)⟩, fun q0 => ⟨Or.inr rfl, ((h).2 q0)⟩⟩
theorem kb_X11_isCoat_12 {d L : Nat} {fz t : Bool} {Q : pm_R → pm_H → Prop} {s0 : Int32} {r : Int32} {fz1 : Bool} {I : Nat → Nat → Int32} {J : Nat → Nat → Int64}
    (h : ((¬ (s0 &&& (r ^^^ (-1 : Int32))) = (nI 0) → Q (.inl (some (.int (nI 0)))) (pm_hp L fz t I J)) ∧ ((s0 &&& (r ^^^ (-1 : Int32))) = (nI 0) → Q (.inl (some (.int (nI 1)))) (pm_hp L fz t I J)))) :
    K_X11_isCoat_12 d fz t Q s0 (.inl (some (.int r))) (pm_hp L fz1 t I J) := b_X11_isCoat_12 h
def t_X11_mostOf_0 (d L : Nat) (fz t : Bool) (Q : pm_R → pm_H → Prop) (x1 : Int32) (x2 : Int32) (I : Nat → Nat → Int32) (J : Nat → Nat → Int64) : Prop := pm_T (pm_Ev d) 218 Q (0, [(0, .ref 85), (1, .int x1), (2, .int x2)], [], pm_hp L fz t I J, 0, 0)
set_option maxRecDepth 100000 in
theorem b_X11_mostOf_0 {d L : Nat} {fz t : Bool} {Q : pm_R → pm_H → Prop} {x1 : Int32} {x2 : Int32} {I : Nat → Nat → Int32} {J : Nat → Nat → Int64}
    (h : ((¬ x1 = (I 85 2) → (vp_in (((nI 4096) * x1) + x2) 40960 ∧ Q (.inl (some (.int (I 113 ((((nI 4096) * x1) + x2)).toNatClampNeg)))) (pm_hp L fz t I J))) ∧ (x1 = (I 85 2) → Q (.inl (some (.int (nI 0)))) (pm_hp L fz t I J)))) :
    t_X11_mostOf_0 d L fz t Q x1 x2 I J := by
  exact pm_go d [] 400 ⟨fun q0 => ⟨(((h).1 q0)).1, (((h).1 q0)).2⟩, fun q0 => ((h).2 q0)⟩
theorem e_X11_mostOf {d L : Nat} {fz t : Bool} {Q : pm_R → pm_H → Prop} {x1 : Int32} {x2 : Int32} {I : Nat → Nat → Int32} {J : Nat → Nat → Int64}
    (h : ((¬ x1 = (I 85 2) → (vp_in (((nI 4096) * x1) + x2) 40960 ∧ Q (.inl (some (.int (I 113 ((((nI 4096) * x1) + x2)).toNatClampNeg)))) (pm_hp L fz t I J))) ∧ (x1 = (I 85 2) → Q (.inl (some (.int (nI 0)))) (pm_hp L fz t I J)))) :
    pm_Ev (d + 1) 218 [.ref 85, .int x1, .int x2] (pm_hp L fz t I J) Q := pm_Ev_in rfl (b_X11_mostOf_0 h)
def t_X11_coats_0 (d L : Nat) (fz t : Bool) (Q : pm_R → pm_H → Prop) (x1 : Int32) (I : Nat → Nat → Int32) (J : Nat → Nat → Int64) : Prop := pm_T (pm_Ev d) 219 Q (0, [(0, .ref 85), (1, .int x1)], [], pm_hp L fz t I J, 0, 0)
def t_X11_coats_28 (d L : Nat) (fz t : Bool) (Q : pm_R → pm_H → Prop) (x1 : Int32) (r : Int32) (I : Nat → Nat → Int32) (J : Nat → Nat → Int64) : Prop := pm_T (pm_Ev d) 219 Q (28, [(0, .ref 85), (1, .int x1)], [.int r], pm_hp L fz t I J, 0, 0)
def K_X11_coats_28 (d : Nat) (fz t : Bool) (Q : pm_R → pm_H → Prop) (x1 : Int32) : pm_R → pm_H → Prop := pm_K d 219 Q 28 [(0, .ref 85), (1, .int x1)] [] 118 0 fz 0 0
def t_X11_coats_38 (d L : Nat) (fz t : Bool) (Q : pm_R → pm_H → Prop) (x1 : Int32) (I : Nat → Nat → Int32) (J : Nat → Nat → Int64) : Prop := pm_T (pm_Ev d) 219 Q (38, [(0, .ref 85), (1, .int x1)], [], pm_hp L fz t I J, 0, 0)
def K_X11_coats_38 (d : Nat) (fz t : Bool) (Q : pm_R → pm_H → Prop) (x1 : Int32) : pm_R → pm_H → Prop := pm_K d 219 Q 38 [(0, .ref 85), (1, .int x1)] [] 118 0 fz 0 0
def t_X11_coats_45 (d L : Nat) (fz t : Bool) (Q : pm_R → pm_H → Prop) (x1 : Int32) (x2 : Int32) (I : Nat → Nat → Int32) (J : Nat → Nat → Int64) : Prop := pm_T (pm_Ev d) 219 Q (45, [(0, .ref 85), (1, .int x1), (2, .int x2)], [], pm_hp L fz t I J, 0, 0)
def t_X11_coats_190 (d L : Nat) (fz t : Bool) (Q : pm_R → pm_H → Prop) (x1 : Int32) (x2 : Int32) (x3 : Int32) (x4 : Int32) (I : Nat → Nat → Int32) (J : Nat → Nat → Int64) : Prop := pm_T (pm_Ev d) 219 Q (190, [(0, .ref 85), (1, .int x1), (2, .int x2), (3, .int x3), (4, .int x4)], [], pm_hp L fz t I J, 0, 0)
def t_X11_coats_182 (d L : Nat) (fz t : Bool) (Q : pm_R → pm_H → Prop) (r : Int32) (I : Nat → Nat → Int32) (J : Nat → Nat → Int64) : Prop := pm_T (pm_Ev d) 219 Q (182, [], [.int r], pm_hp L fz t I J, 0, 0)
def K_X11_coats_182 (d : Nat) (fz t : Bool) (Q : pm_R → pm_H → Prop) : pm_R → pm_H → Prop := pm_K d 219 Q 182 [] [] 118 0 fz 0 0
def t_X11_coats_51 (d L : Nat) (fz t : Bool) (Q : pm_R → pm_H → Prop) (x1 : Int32) (x2 : Int32) (x3 : Int32) (I : Nat → Nat → Int32) (J : Nat → Nat → Int64) : Prop := pm_T (pm_Ev d) 219 Q (51, [(0, .ref 85), (1, .int x1), (2, .int x2), (3, .int x3)], [], pm_hp L fz t I J, 0, 0)
def t_X11_coats_206 (d L : Nat) (fz t : Bool) (Q : pm_R → pm_H → Prop) (x1 : Int32) (x2 : Int32) (x3 : Int32) (x4 : Int32) (x5 : Int32) (I : Nat → Nat → Int32) (J : Nat → Nat → Int64) : Prop := pm_T (pm_Ev d) 219 Q (206, [(0, .ref 85), (1, .int x1), (2, .int x2), (3, .int x3), (4, .int x4), (5, .int x5)], [], pm_hp L fz t I J, 0, 0)
def t_X11_coats_69 (d L : Nat) (fz t : Bool) (Q : pm_R → pm_H → Prop) (x1 : Int32) (x2 : Int32) (x3 : Int32) (r : Int32) (I : Nat → Nat → Int32) (J : Nat → Nat → Int64) : Prop := pm_T (pm_Ev d) 219 Q (69, [(0, .ref 85), (1, .int x1), (2, .int x2), (3, .int x3)], [.int r], pm_hp L fz t I J, 0, 0)
def K_X11_coats_69 (d : Nat) (fz t : Bool) (Q : pm_R → pm_H → Prop) (x1 : Int32) (x2 : Int32) (x3 : Int32) : pm_R → pm_H → Prop := pm_K d 219 Q 69 [(0, .ref 85), (1, .int x1), (2, .int x2), (3, .int x3)] [] 118 0 fz 0 0
def t_X11_coats_228 (d L : Nat) (fz t : Bool) (Q : pm_R → pm_H → Prop) (x1 : Int32) (x2 : Int32) (x3 : Int32) (x4 : Int32) (x5 : Int32) (r : Int32) (I : Nat → Nat → Int32) (J : Nat → Nat → Int64) : Prop := pm_T (pm_Ev d) 219 Q (228, [(0, .ref 85), (1, .int x1), (2, .int x2), (3, .int x3), (4, .int x4), (5, .int x5)], [.int r], pm_hp L fz t I J, 0, 0)
def K_X11_coats_228 (d : Nat) (fz t : Bool) (Q : pm_R → pm_H → Prop) (x1 : Int32) (x2 : Int32) (x3 : Int32) (x4 : Int32) (x5 : Int32) : pm_R → pm_H → Prop := pm_K d 219 Q 228 [(0, .ref 85), (1, .int x1), (2, .int x2), (3, .int x3), (4, .int x4), (5, .int x5)] [] 118 0 fz 0 0
def t_X11_coats_74 (d L : Nat) (fz t : Bool) (Q : pm_R → pm_H → Prop) (x1 : Int32) (x2 : Int32) (x3 : Int32) (x4 : Int32) (x5 : Int32) (I : Nat → Nat → Int32) (J : Nat → Nat → Int64) : Prop := pm_T (pm_Ev d) 219 Q (74, [(0, .ref 85), (1, .int x1), (2, .int x2), (3, .int x3), (4, .int x4), (5, .int x5)], [], pm_hp L fz t I J, 0, 0)
def t_X11_coats_246 (d L : Nat) (fz t : Bool) (Q : pm_R → pm_H → Prop) (x1 : Int32) (x2 : Int32) (x3 : Int32) (x4 : Int32) (x5 : Int32) (s0 : Int32) (r : Int32) (I : Nat → Nat → Int32) (J : Nat → Nat → Int64) : Prop := pm_T (pm_Ev d) 219 Q (246, [(0, .ref 85), (1, .int x1), (2, .int x2), (3, .int x3), (4, .int x4), (5, .int x5)], [.int r, .int s0], pm_hp L fz t I J, 0, 0)
def K_X11_coats_246 (d : Nat) (fz t : Bool) (Q : pm_R → pm_H → Prop) (x1 : Int32) (x2 : Int32) (x3 : Int32) (x4 : Int32) (x5 : Int32) (s0 : Int32) : pm_R → pm_H → Prop := pm_K d 219 Q 246 [(0, .ref 85), (1, .int x1), (2, .int x2), (3, .int x3), (4, .int x4), (5, .int x5)] [.int s0] 118 0 fz 0 0
def t_X11_coats_99 (d L : Nat) (fz t : Bool) (Q : pm_R → pm_H → Prop) (x1 : Int32) (x2 : Int32) (x3 : Int32) (x4 : Int32) (x5 : Int32) (r : Int32) (I : Nat → Nat → Int32) (J : Nat → Nat → Int64) : Prop := pm_T (pm_Ev d) 219 Q (99, [(0, .ref 85), (1, .int x1), (2, .int x2), (3, .int x3), (4, .int x4), (5, .int x5)], [.int r], pm_hp L fz t I J, 0, 0)
def K_X11_coats_99 (d : Nat) (fz t : Bool) (Q : pm_R → pm_H → Prop) (x1 : Int32) (x2 : Int32) (x3 : Int32) (x4 : Int32) (x5 : Int32) : pm_R → pm_H → Prop := pm_K d 219 Q 99 [(0, .ref 85), (1, .int x1), (2, .int x2), (3, .int x3), (4, .int x4), (5, .int x5)] [] 118 0 fz 0 0
def t_X11_coats_254 (d L : Nat) (fz t : Bool) (Q : pm_R → pm_H → Prop) (x1 : Int32) (x2 : Int32) (x3 : Int32) (x4 : Int32) (x5 : Int32) (s0 : Int32) (r : Int32) (I : Nat → Nat → Int32) (J : Nat → Nat → Int64) : Prop := pm_T (pm_Ev d) 219 Q (254, [(0, .ref 85), (1, .int x1), (2, .int x2), (3, .int x3), (4, .int x4), (5, .int x5)], [.int r, .int s0], pm_hp L fz t I J, 0, 0)
def K_X11_coats_254 (d : Nat) (fz t : Bool) (Q : pm_R → pm_H → Prop) (x1 : Int32) (x2 : Int32) (x3 : Int32) (x4 : Int32) (x5 : Int32) (s0 : Int32) : pm_R → pm_H → Prop := pm_K d 219 Q 254 [(0, .ref 85), (1, .int x1), (2, .int x2), (3, .int x3), (4, .int x4), (5, .int x5)] [.int s0] 118 0 fz 0 0
def t_X11_coats_116 (d L : Nat) (fz t : Bool) (Q : pm_R → pm_H → Prop) (x1 : Int32) (x2 : Int32) (x3 : Int32) (x4 : Int32) (x5 : Int32) (s0 : Int32) (r : Int32) (I : Nat → Nat → Int32) (J : Nat → Nat → Int64) : Prop := pm_T (pm_Ev d) 219 Q (116, [(0, .ref 85), (1, .int x1), (2, .int x2), (3, .int x3), (4, .int x4), (5, .int x5)], [.int r, .int s0], pm_hp L fz t I J, 0, 0)
def K_X11_coats_116 (d : Nat) (fz t : Bool) (Q : pm_R → pm_H → Prop) (x1 : Int32) (x2 : Int32) (x3 : Int32) (x4 : Int32) (x5 : Int32) (s0 : Int32) : pm_R → pm_H → Prop := pm_K d 219 Q 116 [(0, .ref 85), (1, .int x1), (2, .int x2), (3, .int x3), (4, .int x4), (5, .int x5)] [.int s0] 118 0 fz 0 0
def t_X11_coats_136 (d L : Nat) (fz t : Bool) (Q : pm_R → pm_H → Prop) (x1 : Int32) (x2 : Int32) (x3 : Int32) (x5 : Int32) (s0 : Int32) (r : Int32) (I : Nat → Nat → Int32) (J : Nat → Nat → Int64) : Prop := pm_T (pm_Ev d) 219 Q (136, [(0, .ref 85), (1, .int x1), (2, .int x2), (3, .int x3), (5, .int x5)], [.int r, .int s0], pm_hp L fz t I J, 0, 0)
def K_X11_coats_136 (d : Nat) (fz t : Bool) (Q : pm_R → pm_H → Prop) (x1 : Int32) (x2 : Int32) (x3 : Int32) (x5 : Int32) (s0 : Int32) : pm_R → pm_H → Prop := pm_K d 219 Q 136 [(0, .ref 85), (1, .int x1), (2, .int x2), (3, .int x3), (5, .int x5)] [.int s0] 118 0 fz 0 0
set_option maxRecDepth 100000 in
theorem b_X11_coats_0 {d L : Nat} {fz t : Bool} {Q : pm_R → pm_H → Prop} {x1 : Int32} {I : Nat → Nat → Int32} {J : Nat → Nat → Int64}
    (h : ((x1 < (-1 : Int32) → pm_Ev d 118 [.ref 85, .int (nI 0), .int (nI 1)] (pm_hp L fz t (pm_u I 85 0 (nI 0)) J) (K_X11_coats_28 d fz t Q x1)) ∧ (¬ x1 < (-1 : Int32) → (((I 85 2) ≤ x1 → pm_Ev d 118 [.ref 85, .int (nI 0), .int (nI 1)] (pm_hp L fz t (pm_u I 85 0 (nI 0)) J) (K_X11_coats_28 d fz t Q x1)) ∧ (¬ (I 85 2) ≤ x1 → pm_Ev d 118 [.ref 85, .int (nI 1), .int (nI 1)] (pm_hp L fz t (pm_u I 85 0 (nI 0)) J) (K_X11_coats_28 d fz t Q x1)))))) :
    t_X11_coats_0 d L fz t Q x1 I J := by
  exact pm_go d [(28, [0, 1]), (38, [0, 1]), (45, [0, 1, 2]), (51, [0, 1, 2, 3]), (69, [0, 1, 2, 3]), (74, [0, 1, 2, 3, 4, 5]), (99, [0, 1, 2, 3, 4, 5]), (116, [0, 1, 2, 3, 4, 5]), (136, [0, 1, 2, 3, 5]), (182, []), (190, [0, 1, 2, 3, 4]), (206, [0, 1, 2, 3, 4, 5]), (228, [0, 1, 2, 3, 4, 5]), (246, [0, 1, 2, 3, 4, 5]), (254, [0, 1, 2, 3, 4, 5])] 400 ⟨fun q0 => ((h).1 q0), fun q0 => ⟨fun q1 => ((((h).2 q0)).1 q1), fun q1 => ((((h).2 q0)).2 q1)⟩⟩
theorem e_X11_coats {d L : Nat} {fz t : Bool} {Q : pm_R → pm_H → Prop} {x1 : Int32} {I : Nat → Nat → Int32} {J : Nat → Nat → Int64}
    (h : ((x1 < (-1 : Int32) → pm_Ev d 118 [.ref 85, .int (nI 0), .int (nI 1)] (pm_hp L fz t (pm_u I 85 0 (nI 0)) J) (K_X11_coats_28 d fz t Q x1)) ∧ (¬ x1 < (-1 : Int32) → (((I 85 2) ≤ x1 → pm_Ev d 118 [.ref 85, .int (nI 0), .int (nI 1)] (pm_hp L fz t (pm_u I 85 0 (nI 0)) J) (K_X11_coats_28 d fz t Q x1)) ∧ (¬ (I 85 2) ≤ x1 → pm_Ev d 118 [.ref 85, .int (nI 1), .int (nI 1)] (pm_hp L fz t (pm_u I 85 0 (nI 0)) J) (K_X11_coats_28 d fz t Q x1)))))) :
    pm_Ev (d + 1) 219 [.ref 85, .int x1] (pm_hp L fz t I J) Q := pm_Ev_in rfl (b_X11_coats_0 h)
set_option maxRecDepth 100000 in
theorem b_X11_coats_28 {d L : Nat} {fz t : Bool} {Q : pm_R → pm_H → Prop} {x1 : Int32} {r : Int32} {I : Nat → Nat → Int32} {J : Nat → Nat → Int64}
    (h : ((¬ r = (nI 0) → pm_Ev d 169 [.ref 85, .int (nI 0)] (pm_hp L fz t I J) (K_X11_coats_38 d fz t Q x1)) ∧ (r = (nI 0) → Q (.inl (some (.int (nI 0)))) (pm_hp L fz t I J)))) :
    t_X11_coats_28 d L fz t Q x1 r I J := by
  exact pm_go d [(28, [0, 1]), (38, [0, 1]), (45, [0, 1, 2]), (51, [0, 1, 2, 3]), (69, [0, 1, 2, 3]), (74, [0, 1, 2, 3, 4, 5]), (99, [0, 1, 2, 3, 4, 5]), (116, [0, 1, 2, 3, 4, 5]), (136, [0, 1, 2, 3, 5]), (182, []), (190, [0, 1, 2, 3, 4]), (206, [0, 1, 2, 3, 4, 5]), (228, [0, 1, 2, 3, 4, 5]), (246, [0, 1, 2, 3, 4, 5]), (254, [0, 1, 2, 3, 4, 5])] 400 ⟨fun q0 => ((h).1 q0), fun q0 => ((h).2 q0)⟩
theorem kb_X11_coats_28 {d L : Nat} {fz t : Bool} {Q : pm_R → pm_H → Prop} {x1 : Int32} {r : Int32} {fz1 : Bool} {I : Nat → Nat → Int32} {J : Nat → Nat → Int64}
    (h : ((¬ r = (nI 0) → pm_Ev d 169 [.ref 85, .int (nI 0)] (pm_hp L fz t I J) (K_X11_coats_38 d fz t Q x1)) ∧ (r = (nI 0) → Q (.inl (some (.int (nI 0)))) (pm_hp L fz t I J)))) :
    K_X11_coats_28 d fz t Q x1 (.inl (some (.int r))) (pm_hp L fz1 t I J) := b_X11_coats_28 h
set_option maxRecDepth 100000 in
theorem b_X11_coats_38 {d L : Nat} {fz t : Bool} {Q : pm_R → pm_H → Prop} {x1 : Int32} {I : Nat → Nat → Int32} {J : Nat → Nat → Int64}
    (h : t_X11_coats_45 d L fz t Q x1 ((I 85 2) - (nI 1)) I J) :
    t_X11_coats_38 d L fz t Q x1 I J := by
  exact pm_go d [(28, [0, 1]), (38, [0, 1]), (45, [0, 1, 2]), (51, [0, 1, 2, 3]), (69, [0, 1, 2, 3]), (74, [0, 1, 2, 3, 4, 5]), (99, [0, 1, 2, 3, 4, 5]), (116, [0, 1, 2, 3, 4, 5]), (136, [0, 1, 2, 3, 5]), (182, []), (190, [0, 1, 2, 3, 4]), (206, [0, 1, 2, 3, 4, 5]), (228, [0, 1, 2, 3, 4, 5]), (246, [0, 1, 2, 3, 4, 5]), (254, [0, 1, 2, 3, 4, 5])] 400 h
theorem kb_X11_coats_38 {d L : Nat} {fz t : Bool} {Q : pm_R → pm_H → Prop} {x1 : Int32} {fz1 : Bool} {I : Nat → Nat → Int32} {J : Nat → Nat → Int64}
    (h : t_X11_coats_45 d L fz t Q x1 ((I 85 2) - (nI 1)) I J) :
    K_X11_coats_38 d fz t Q x1 (.inl none) (pm_hp L fz1 t I J) := b_X11_coats_38 h
set_option maxRecDepth 100000 in
theorem b_X11_coats_45 {d L : Nat} {fz t : Bool} {Q : pm_R → pm_H → Prop} {x1 : Int32} {x2 : Int32} {I : Nat → Nat → Int32} {J : Nat → Nat → Int64}
    (h : ((x2 < (nI 0) → ((¬ x1 = (-1 : Int32) → t_X11_coats_190 d L fz t Q x1 (nI 0) (-1 : Int32) (nI 0) I J) ∧ (x1 = (-1 : Int32) → pm_Ev d 218 [.ref 85, .int (nI 0), .int (nI 0)] (pm_hp L fz t I J) (K_X11_coats_182 d fz t Q)))) ∧ (¬ x2 < (nI 0) → t_X11_coats_51 d L fz t Q x1 x2 (nI 0) I J))) :
    t_X11_coats_45 d L fz t Q x1 x2 I J := by
  exact pm_go d [(28, [0, 1]), (38, [0, 1]), (45, [0, 1, 2]), (51, [0, 1, 2, 3]), (69, [0, 1, 2, 3]), (74, [0, 1, 2, 3, 4, 5]), (99, [0, 1, 2, 3, 4, 5]), (116, [0, 1, 2, 3, 4, 5]), (136, [0, 1, 2, 3, 5]), (182, []), (190, [0, 1, 2, 3, 4]), (206, [0, 1, 2, 3, 4, 5]), (228, [0, 1, 2, 3, 4, 5]), (246, [0, 1, 2, 3, 4, 5]), (254, [0, 1, 2, 3, 4, 5])] 400 ⟨fun q0 => ⟨fun q1 => ((((h).1 q0)).1 q1), fun q1 => ((((h).1 q0)).2 q1)⟩, fun q0 => ((h).2 q0)⟩
set_option maxRecDepth 100000 in
theorem b_X11_coats_190 {d L : Nat} {fz t : Bool} {Q : pm_R → pm_H → Prop} {x1 : Int32} {x2 : Int32} {x3 : Int32} {x4 : Int32} {I : Nat → Nat → Int32} {J : Nat → Nat → Int64}
    (h : ((x1 < x4 → Q (.inl (some (.int x3))) (pm_hp L fz t I J)) ∧ (¬ x1 < x4 → t_X11_coats_206 d L fz t Q x1 x2 (-1 : Int32) x4 ((I 85 3) - (nI 1)) I J))) :
    t_X11_coats_190 d L fz t Q x1 x2 x3 x4 I J := by
  exact pm_go d [(28, [0, 1]), (38, [0, 1]), (45, [0, 1, 2]), (51, [0, 1, 2, 3]), (69, [0, 1, 2, 3]), (74, [0, 1, 2, 3, 4, 5]), (99, [0, 1, 2, 3, 4, 5]), (116, [0, 1, 2, 3, 4, 5]), (136, [0, 1, 2, 3, 5]), (182, []), (190, [0, 1, 2, 3, 4]), (206, [0, 1, 2, 3, 4, 5]), (228, [0, 1, 2, 3, 4, 5]), (246, [0, 1, 2, 3, 4, 5]), (254, [0, 1, 2, 3, 4, 5])] 400 ⟨fun q0 => ((h).1 q0), fun q0 => ((h).2 q0)⟩
set_option maxRecDepth 100000 in
theorem b_X11_coats_182 {d L : Nat} {fz t : Bool} {Q : pm_R → pm_H → Prop} {r : Int32} {I : Nat → Nat → Int32} {J : Nat → Nat → Int64}
    (h : Q (.inl (some (.int r))) (pm_hp L fz t I J)) :
    t_X11_coats_182 d L fz t Q r I J := by
  exact pm_go d [(28, [0, 1]), (38, [0, 1]), (45, [0, 1, 2]), (51, [0, 1, 2, 3]), (69, [0, 1, 2, 3]), (74, [0, 1, 2, 3, 4, 5]), (99, [0, 1, 2, 3, 4, 5]), (116, [0, 1, 2, 3, 4, 5]), (136, [0, 1, 2, 3, 5]), (182, []), (190, [0, 1, 2, 3, 4]), (206, [0, 1, 2, 3, 4, 5]), (228, [0, 1, 2, 3, 4, 5]), (246, [0, 1, 2, 3, 4, 5]), (254, [0, 1, 2, 3, 4, 5])] 400 h
theorem kb_X11_coats_182 {d L : Nat} {fz t : Bool} {Q : pm_R → pm_H → Prop} {r : Int32} {fz1 : Bool} {I : Nat → Nat → Int32} {J : Nat → Nat → Int64}
    (h : Q (.inl (some (.int r))) (pm_hp L fz t I J)) :
    K_X11_coats_182 d fz t Q (.inl (some (.int r))) (pm_hp L fz1 t I J) := b_X11_coats_182 h
set_option maxRecDepth 100000 in
theorem b_X11_coats_51 {d L : Nat} {fz t : Bool} {Q : pm_R → pm_H → Prop} {x1 : Int32} {x2 : Int32} {x3 : Int32} {I : Nat → Nat → Int32} {J : Nat → Nat → Int64}
    (h : ((((nI 1) <<< ((I 85 3) &&& 31)) ≤ x3 → t_X11_coats_45 d L fz t Q x1 (x2 + (-1 : Int32)) I J) ∧ (¬ ((nI 1) <<< ((I 85 3) &&& 31)) ≤ x3 → pm_Ev d 218 [.ref 85, .int (x2 + (nI 1)), .int x3] (pm_hp L fz t I J) (K_X11_coats_69 d fz t Q x1 x2 x3)))) :
    t_X11_coats_51 d L fz t Q x1 x2 x3 I J := by
  exact pm_go d [(28, [0, 1]), (38, [0, 1]), (45, [0, 1, 2]), (51, [0, 1, 2, 3]), (69, [0, 1, 2, 3]), (74, [0, 1, 2, 3, 4, 5]), (99, [0, 1, 2, 3, 4, 5]), (116, [0, 1, 2, 3, 4, 5]), (136, [0, 1, 2, 3, 5]), (182, []), (190, [0, 1, 2, 3, 4]), (206, [0, 1, 2, 3, 4, 5]), (228, [0, 1, 2, 3, 4, 5]), (246, [0, 1, 2, 3, 4, 5]), (254, [0, 1, 2, 3, 4, 5])] 400 ⟨fun q0 => ((h).1 q0), fun q0 => ((h).2 q0)⟩
set_option maxRecDepth 100000 in
theorem b_X11_coats_206 {d L : Nat} {fz t : Bool} {Q : pm_R → pm_H → Prop} {x1 : Int32} {x2 : Int32} {x3 : Int32} {x4 : Int32} {x5 : Int32} {I : Nat → Nat → Int32} {J : Nat → Nat → Int64}
    (h : ((x5 < (nI 0) → ((x3 = (-1 : Int32) → t_X11_coats_190 d L fz t Q x1 x2 x3 (x4 + (nI 1)) I J) ∧ (¬ x3 = (-1 : Int32) → t_X11_coats_190 d L fz t Q x1 (x2 ||| ((nI 1) <<< (x3 &&& 31))) x3 (x4 + (nI 1)) I J))) ∧ (¬ x5 < (nI 0) → ((¬ ((x2 >>> (x5 &&& 31)) &&& (nI 1)) = (nI 0) → t_X11_coats_206 d L fz t Q x1 x2 x3 x4 (x5 + (-1 : Int32)) I J) ∧ (((x2 >>> (x5 &&& 31)) &&& (nI 1)) = (nI 0) → pm_Ev d 217 [.ref 85, .int x4, .int x5] (pm_hp L fz t I J) (K_X11_coats_228 d fz t Q x1 x2 x3 x4 x5)))))) :
    t_X11_coats_206 d L fz t Q x1 x2 x3 x4 x5 I J := by
  exact pm_go d [(28, [0, 1]), (38, [0, 1]), (45, [0, 1, 2]), (51, [0, 1, 2, 3]), (69, [0, 1, 2, 3]), (74, [0, 1, 2, 3, 4, 5]), (99, [0, 1, 2, 3, 4, 5]), (116, [0, 1, 2, 3, 4, 5]), (136, [0, 1, 2, 3, 5]), (182, []), (190, [0, 1, 2, 3, 4]), (206, [0, 1, 2, 3, 4, 5]), (228, [0, 1, 2, 3, 4, 5]), (246, [0, 1, 2, 3, 4, 5]), (254, [0, 1, 2, 3, 4, 5])] 400 ⟨fun q0 => ⟨fun q1 => ((((h).1 q0)).1 q1), fun q1 => ((((h).1 q0)).2 q1)⟩, fun q0 => ⟨fun q1 => ((((h).2 q0)).1 q1), fun q1 => ((((h).2 q0)).2 q1)⟩⟩
set_option maxRecDepth 100000 in
theorem b_X11_coats_69 {d L : Nat} {fz t : Bool} {Q : pm_R → pm_H → Prop} {x1 : Int32} {x2 : Int32} {x3 : Int32} {r : Int32} {I : Nat → Nat → Int32} {J : Nat → Nat → Int64}
    (h : t_X11_coats_74 d L fz t Q x1 x2 x3 r (nI 0) I J) :
    t_X11_coats_69 d L fz t Q x1 x2 x3 r I J := by
  exact pm_go d [(28, [0, 1]), (38, [0, 1]), (45, [0, 1, 2]), (51, [0, 1, 2, 3]), (69, [0, 1, 2, 3]), (74, [0, 1, 2, 3, 4, 5]), (99, [0, 1, 2, 3, 4, 5]), (116, [0, 1, 2, 3, 4, 5]), (136, [0, 1, 2, 3, 5]), (182, []), (190, [0, 1, 2, 3, 4]), (206, [0, 1, 2, 3, 4, 5]), (228, [0, 1, 2, 3, 4, 5]), (246, [0, 1, 2, 3, 4, 5]), (254, [0, 1, 2, 3, 4, 5])] 400 h
theorem kb_X11_coats_69 {d L : Nat} {fz t : Bool} {Q : pm_R → pm_H → Prop} {x1 : Int32} {x2 : Int32} {x3 : Int32} {r : Int32} {fz1 : Bool} {I : Nat → Nat → Int32} {J : Nat → Nat → Int64}
    (h : t_X11_coats_74 d L fz t Q x1 x2 x3 r (nI 0) I J) :
    K_X11_coats_69 d fz t Q x1 x2 x3 (.inl (some (.int r))) (pm_hp L fz1 t I J) := b_X11_coats_69 h
set_option maxRecDepth 100000 in
theorem b_X11_coats_228 {d L : Nat} {fz t : Bool} {Q : pm_R → pm_H → Prop} {x1 : Int32} {x2 : Int32} {x3 : Int32} {x4 : Int32} {x5 : Int32} {r : Int32} {I : Nat → Nat → Int32} {J : Nat → Nat → Int64}
    (h : ((r = (nI 0) → t_X11_coats_206 d L fz t Q x1 x2 x3 x4 (x5 + (-1 : Int32)) I J) ∧ (¬ r = (nI 0) → pm_Ev d 218 [.ref 85, .int (x4 + (nI 1)), .int (x2 ||| ((nI 1) <<< (x5 &&& 31)))] (pm_hp L fz t I J) (K_X11_coats_246 d fz t Q x1 x2 x3 x4 x5 (nI 1))))) :
    t_X11_coats_228 d L fz t Q x1 x2 x3 x4 x5 r I J := by
  exact pm_go d [(28, [0, 1]), (38, [0, 1]), (45, [0, 1, 2]), (51, [0, 1, 2, 3]), (69, [0, 1, 2, 3]), (74, [0, 1, 2, 3, 4, 5]), (99, [0, 1, 2, 3, 4, 5]), (116, [0, 1, 2, 3, 4, 5]), (136, [0, 1, 2, 3, 5]), (182, []), (190, [0, 1, 2, 3, 4]), (206, [0, 1, 2, 3, 4, 5]), (228, [0, 1, 2, 3, 4, 5]), (246, [0, 1, 2, 3, 4, 5]), (254, [0, 1, 2, 3, 4, 5])] 400 ⟨fun q0 => ((h).1 q0), fun q0 => ((h).2 q0)⟩
theorem kb_X11_coats_228 {d L : Nat} {fz t : Bool} {Q : pm_R → pm_H → Prop} {x1 : Int32} {x2 : Int32} {x3 : Int32} {x4 : Int32} {x5 : Int32} {r : Int32} {fz1 : Bool} {I : Nat → Nat → Int32} {J : Nat → Nat → Int64}
    (h : ((r = (nI 0) → t_X11_coats_206 d L fz t Q x1 x2 x3 x4 (x5 + (-1 : Int32)) I J) ∧ (¬ r = (nI 0) → pm_Ev d 218 [.ref 85, .int (x4 + (nI 1)), .int (x2 ||| ((nI 1) <<< (x5 &&& 31)))] (pm_hp L fz t I J) (K_X11_coats_246 d fz t Q x1 x2 x3 x4 x5 (nI 1))))) :
    K_X11_coats_228 d fz t Q x1 x2 x3 x4 x5 (.inl (some (.int r))) (pm_hp L fz1 t I J) := b_X11_coats_228 h
set_option maxRecDepth 100000 in
theorem b_X11_coats_74 {d L : Nat} {fz t : Bool} {Q : pm_R → pm_H → Prop} {x1 : Int32} {x2 : Int32} {x3 : Int32} {x4 : Int32} {x5 : Int32} {I : Nat → Nat → Int32} {J : Nat → Nat → Int64}
    (h : (((I 85 3) ≤ x5 → (vp_in (((nI 4096) * x2) + x3) 40960 ∧ t_X11_coats_51 d L fz t Q x1 x2 (x3 + (nI 1)) (pm_u I 113 ((((nI 4096) * x2) + x3)).toNatClampNeg x4) J)) ∧ (¬ (I 85 3) ≤ x5 → ((¬ ((x3 >>> (x5 &&& 31)) &&& (nI 1)) = (nI 0) → t_X11_coats_74 d L fz t Q x1 x2 x3 x4 (x5 + (nI 1)) I J) ∧ (((x3 >>> (x5 &&& 31)) &&& (nI 1)) = (nI 0) → pm_Ev d 217 [.ref 85, .int x2, .int x5] (pm_hp L fz t I J) (K_X11_coats_99 d fz t Q x1 x2 x3 x4 x5)))))) :
    t_X11_coats_74 d L fz t Q x1 x2 x3 x4 x5 I J := by
  exact pm_go d [(28, [0, 1]), (38, [0, 1]), (45, [0, 1, 2]), (51, [0, 1, 2, 3]), (69, [0, 1, 2, 3]), (74, [0, 1, 2, 3, 4, 5]), (99, [0, 1, 2, 3, 4, 5]), (116, [0, 1, 2, 3, 4, 5]), (136, [0, 1, 2, 3, 5]), (182, []), (190, [0, 1, 2, 3, 4]), (206, [0, 1, 2, 3, 4, 5]), (228, [0, 1, 2, 3, 4, 5]), (246, [0, 1, 2, 3, 4, 5]), (254, [0, 1, 2, 3, 4, 5])] 400 ⟨fun q0 => ⟨(((h).1 q0)).1, (((h).1 q0)).2⟩, fun q0 => ⟨fun q1 => ((((h).2 q0)).1 q1), fun q1 => ((((h).2 q0)).2 q1)⟩⟩
set_option maxRecDepth 100000 in
theorem b_X11_coats_246 {d L : Nat} {fz t : Bool} {Q : pm_R → pm_H → Prop} {x1 : Int32} {x2 : Int32} {x3 : Int32} {x4 : Int32} {x5 : Int32} {s0 : Int32} {r : Int32} {I : Nat → Nat → Int32} {J : Nat → Nat → Int64}
    (h : pm_Ev d 218 [.ref 85, .int x4, .int x2] (pm_hp L fz t I J) (K_X11_coats_254 d fz t Q x1 x2 x3 x4 x5 (s0 + r))) :
    t_X11_coats_246 d L fz t Q x1 x2 x3 x4 x5 s0 r I J := by
  exact pm_go d [(28, [0, 1]), (38, [0, 1]), (45, [0, 1, 2]), (51, [0, 1, 2, 3]), (69, [0, 1, 2, 3]), (74, [0, 1, 2, 3, 4, 5]), (99, [0, 1, 2, 3, 4, 5]), (116, [0, 1, 2, 3, 4, 5]), (136, [0, 1, 2, 3, 5]), (182, []), (190, [0, 1, 2, 3, 4]), (206, [0, 1, 2, 3, 4, 5]), (228, [0, 1, 2, 3, 4, 5]), (246, [0, 1, 2, 3, 4, 5]), (254, [0, 1, 2, 3, 4, 5])] 400 h
theorem kb_X11_coats_246 {d L : Nat} {fz t : Bool} {Q : pm_R → pm_H → Prop} {x1 : Int32} {x2 : Int32} {x3 : Int32} {x4 : Int32} {x5 : Int32} {s0 : Int32} {r : Int32} {fz1 : Bool} {I : Nat → Nat → Int32} {J : Nat → Nat → Int64}
    (h : pm_Ev d 218 [.ref 85, .int x4, .int x2] (pm_hp L fz t I J) (K_X11_coats_254 d fz t Q x1 x2 x3 x4 x5 (s0 + r))) :
    K_X11_coats_246 d fz t Q x1 x2 x3 x4 x5 s0 (.inl (some (.int r))) (pm_hp L fz1 t I J) := b_X11_coats_246 h
set_option maxRecDepth 100000 in
theorem b_X11_coats_99 {d L : Nat} {fz t : Bool} {Q : pm_R → pm_H → Prop} {x1 : Int32} {x2 : Int32} {x3 : Int32} {x4 : Int32} {x5 : Int32} {r : Int32} {I : Nat → Nat → Int32} {J : Nat → Nat → Int64}
    (h : ((r = (nI 0) → t_X11_coats_74 d L fz t Q x1 x2 x3 x4 (x5 + (nI 1)) I J) ∧ (¬ r = (nI 0) → pm_Ev d 218 [.ref 85, .int (x2 + (nI 1)), .int (x3 ||| ((nI 1) <<< (x5 &&& 31)))] (pm_hp L fz t I J) (K_X11_coats_116 d fz t Q x1 x2 x3 x4 x5 (nI 1))))) :
    t_X11_coats_99 d L fz t Q x1 x2 x3 x4 x5 r I J := by
  exact pm_go d [(28, [0, 1]), (38, [0, 1]), (45, [0, 1, 2]), (51, [0, 1, 2, 3]), (69, [0, 1, 2, 3]), (74, [0, 1, 2, 3, 4, 5]), (99, [0, 1, 2, 3, 4, 5]), (116, [0, 1, 2, 3, 4, 5]), (136, [0, 1, 2, 3, 5]), (182, []), (190, [0, 1, 2, 3, 4]), (206, [0, 1, 2, 3, 4, 5]), (228, [0, 1, 2, 3, 4, 5]), (246, [0, 1, 2, 3, 4, 5]), (254, [0, 1, 2, 3, 4, 5])] 400 ⟨fun q0 => ((h).1 q0), fun q0 => ((h).2 q0)⟩
theorem kb_X11_coats_99 {d L : Nat} {fz t : Bool} {Q : pm_R → pm_H → Prop} {x1 : Int32} {x2 : Int32} {x3 : Int32} {x4 : Int32} {x5 : Int32} {r : Int32} {fz1 : Bool} {I : Nat → Nat → Int32} {J : Nat → Nat → Int64}
    (h : ((r = (nI 0) → t_X11_coats_74 d L fz t Q x1 x2 x3 x4 (x5 + (nI 1)) I J) ∧ (¬ r = (nI 0) → pm_Ev d 218 [.ref 85, .int (x2 + (nI 1)), .int (x3 ||| ((nI 1) <<< (x5 &&& 31)))] (pm_hp L fz t I J) (K_X11_coats_116 d fz t Q x1 x2 x3 x4 x5 (nI 1))))) :
    K_X11_coats_99 d fz t Q x1 x2 x3 x4 x5 (.inl (some (.int r))) (pm_hp L fz1 t I J) := b_X11_coats_99 h
set_option maxRecDepth 100000 in
theorem b_X11_coats_254 {d L : Nat} {fz t : Bool} {Q : pm_R → pm_H → Prop} {x1 : Int32} {x2 : Int32} {x3 : Int32} {x4 : Int32} {x5 : Int32} {s0 : Int32} {r : Int32} {I : Nat → Nat → Int32} {J : Nat → Nat → Int64}
    (h : ((¬ s0 = r → t_X11_coats_206 d L fz t Q x1 x2 x3 x4 (x5 + (-1 : Int32)) I J) ∧ (s0 = r → t_X11_coats_206 d L fz t Q x1 x2 x5 x4 (x5 + (-1 : Int32)) I J))) :
    t_X11_coats_254 d L fz t Q x1 x2 x3 x4 x5 s0 r I J := by
  exact pm_go d [(28, [0, 1]), (38, [0, 1]), (45, [0, 1, 2]), (51, [0, 1, 2, 3]), (69, [0, 1, 2, 3]), (74, [0, 1, 2, 3, 4, 5]), (99, [0, 1, 2, 3, 4, 5]), (116, [0, 1, 2, 3, 4, 5]), (136, [0, 1, 2, 3, 5]), (182, []), (190, [0, 1, 2, 3, 4]), (206, [0, 1, 2, 3, 4, 5]), (228, [0, 1, 2, 3, 4, 5]), (246, [0, 1, 2, 3, 4, 5]), (254, [0, 1, 2, 3, 4, 5])] 400 ⟨fun q0 => ((h).1 q0), fun q0 => ((h).2 q0)⟩
theorem kb_X11_coats_254 {d L : Nat} {fz t : Bool} {Q : pm_R → pm_H → Prop} {x1 : Int32} {x2 : Int32} {x3 : Int32} {x4 : Int32} {x5 : Int32} {s0 : Int32} {r : Int32} {fz1 : Bool} {I : Nat → Nat → Int32} {J : Nat → Nat → Int64}
    (h : ((¬ s0 = r → t_X11_coats_206 d L fz t Q x1 x2 x3 x4 (x5 + (-1 : Int32)) I J) ∧ (s0 = r → t_X11_coats_206 d L fz t Q x1 x2 x5 x4 (x5 + (-1 : Int32)) I J))) :
    K_X11_coats_254 d fz t Q x1 x2 x3 x4 x5 s0 (.inl (some (.int r))) (pm_hp L fz1 t I J) := b_X11_coats_254 h
set_option maxRecDepth 100000 in
theorem b_X11_coats_116 {d L : Nat} {fz t : Bool} {Q : pm_R → pm_H → Prop} {x1 : Int32} {x2 : Int32} {x3 : Int32} {x4 : Int32} {x5 : Int32} {s0 : Int32} {r : Int32} {I : Nat → Nat → Int32} {J : Nat → Nat → Int64}
    (h : (((s0 + r) ≤ x4 → t_X11_coats_74 d L fz t Q x1 x2 x3 x4 (x5 + (nI 1)) I J) ∧ (¬ (s0 + r) ≤ x4 → pm_Ev d 218 [.ref 85, .int (x2 + (nI 1)), .int (x3 ||| ((nI 1) <<< (x5 &&& 31)))] (pm_hp L fz t I J) (K_X11_coats_136 d fz t Q x1 x2 x3 x5 (nI 1))))) :
    t_X11_coats_116 d L fz t Q x1 x2 x3 x4 x5 s0 r I J := by
  exact pm_go d [(28, [0, 1]), (38, [0, 1]), (45, [0, 1, 2]), (51, [0, 1, 2, 3]), (69, [0, 1, 2, 3]), (74, [0, 1, 2, 3, 4, 5]), (99, [0, 1, 2, 3, 4, 5]), (116, [0, 1, 2, 3, 4, 5]), (136, [0, 1, 2, 3, 5]), (182, []), (190, [0, 1, 2, 3, 4]), (206, [0, 1, 2, 3, 4, 5]), (228, [0, 1, 2, 3, 4, 5]), (246, [0, 1, 2, 3, 4, 5]), (254, [0, 1, 2, 3, 4, 5])] 400 ⟨fun q0 => ((h).1 q0), fun q0 => ((h).2 q0)⟩
theorem kb_X11_coats_116 {d L : Nat} {fz t : Bool} {Q : pm_R → pm_H → Prop} {x1 : Int32} {x2 : Int32} {x3 : Int32} {x4 : Int32} {x5 : Int32} {s0 : Int32} {r : Int32} {fz1 : Bool} {I : Nat → Nat → Int32} {J : Nat → Nat → Int64}
    (h : (((s0 + r) ≤ x4 → t_X11_coats_74 d L fz t Q x1 x2 x3 x4 (x5 + (nI 1)) I J) ∧ (¬ (s0 + r) ≤ x4 → pm_Ev d 218 [.ref 85, .int (x2 + (nI 1)), .int (x3 ||| ((nI 1) <<< (x5 &&& 31)))] (pm_hp L fz t I J) (K_X11_coats_136 d fz t Q x1 x2 x3 x5 (nI 1))))) :
    K_X11_coats_116 d fz t Q x1 x2 x3 x4 x5 s0 (.inl (some (.int r))) (pm_hp L fz1 t I J) := b_X11_coats_116 h
set_option maxRecDepth 100000 in
theorem b_X11_coats_136 {d L : Nat} {fz t : Bool} {Q : pm_R → pm_H → Prop} {x1 : Int32} {x2 : Int32} {x3 : Int32} {x5 : Int32} {s0 : Int32} {r : Int32} {I : Nat → Nat → Int32} {J : Nat → Nat → Int64}
    (h : t_X11_coats_74 d L fz t Q x1 x2 x3 (s0 + r) (x5 + (nI 1)) I J) :
    t_X11_coats_136 d L fz t Q x1 x2 x3 x5 s0 r I J := by
  exact pm_go d [(28, [0, 1]), (38, [0, 1]), (45, [0, 1, 2]), (51, [0, 1, 2, 3]), (69, [0, 1, 2, 3]), (74, [0, 1, 2, 3, 4, 5]), (99, [0, 1, 2, 3, 4, 5]), (116, [0, 1, 2, 3, 4, 5]), (136, [0, 1, 2, 3, 5]), (182, []), (190, [0, 1, 2, 3, 4]), (206, [0, 1, 2, 3, 4, 5]), (228, [0, 1, 2, 3, 4, 5]), (246, [0, 1, 2, 3, 4, 5]), (254, [0, 1, 2, 3, 4, 5])] 400 h
theorem kb_X11_coats_136 {d L : Nat} {fz t : Bool} {Q : pm_R → pm_H → Prop} {x1 : Int32} {x2 : Int32} {x3 : Int32} {x5 : Int32} {s0 : Int32} {r : Int32} {fz1 : Bool} {I : Nat → Nat → Int32} {J : Nat → Nat → Int64}
    (h : t_X11_coats_74 d L fz t Q x1 x2 x3 (s0 + r) (x5 + (nI 1)) I J) :
    K_X11_coats_136 d fz t Q x1 x2 x3 x5 s0 (.inl (some (.int r))) (pm_hp L fz1 t I J) := b_X11_coats_136 h
def t_X11_holesBy_0 (d L : Nat) (fz t : Bool) (Q : pm_R → pm_H → Prop) (x1 : Int32) (x2 : Int32) (I : Nat → Nat → Int32) (J : Nat → Nat → Int64) : Prop := pm_T (pm_Ev d) 220 Q (0, [(0, .ref 85), (1, .int x1), (2, .int x2)], [], pm_hp L fz t I J, 0, 0)
def t_X11_holesBy_24 (d L : Nat) (fz t : Bool) (Q : pm_R → pm_H → Prop) (r : Int32) (I : Nat → Nat → Int32) (J : Nat → Nat → Int64) : Prop := pm_T (pm_Ev d) 220 Q (24, [], [.int r], pm_hp L fz t I J, 0, 0)
def K_X11_holesBy_24 (d : Nat) (fz t : Bool) (Q : pm_R → pm_H → Prop) : pm_R → pm_H → Prop := pm_K d 220 Q 24 [] [] 118 0 fz 0 0
def t_X11_holesBy_12 (d L : Nat) (fz t : Bool) (Q : pm_R → pm_H → Prop) (r : Int32) (I : Nat → Nat → Int32) (J : Nat → Nat → Int64) : Prop := pm_T (pm_Ev d) 220 Q (12, [], [.int r, .ref 85], pm_hp L fz t I J, 0, 0)
def K_X11_holesBy_12 (d : Nat) (fz t : Bool) (Q : pm_R → pm_H → Prop) : pm_R → pm_H → Prop := pm_K d 220 Q 12 [] [.ref 85] 118 0 fz 0 0
def t_X11_holesBy_15 (d L : Nat) (fz t : Bool) (Q : pm_R → pm_H → Prop) (r : Int32) (I : Nat → Nat → Int32) (J : Nat → Nat → Int64) : Prop := pm_T (pm_Ev d) 220 Q (15, [], [.int r], pm_hp L fz t I J, 0, 0)
def K_X11_holesBy_15 (d : Nat) (fz t : Bool) (Q : pm_R → pm_H → Prop) : pm_R → pm_H → Prop := pm_K d 220 Q 15 [] [] 118 0 fz 0 0
set_option maxRecDepth 100000 in
theorem b_X11_holesBy_0 {d L : Nat} {fz t : Bool} {Q : pm_R → pm_H → Prop} {x1 : Int32} {x2 : Int32} {I : Nat → Nat → Int32} {J : Nat → Nat → Int64}
    (h : ((¬ x2 = (nI 1) → pm_Ev d 164 [.ref 85, .int (nI 0), .int x1] (pm_hp L fz t I J) (K_X11_holesBy_24 d fz t Q)) ∧ (x2 = (nI 1) → pm_Ev d 164 [.ref 85, .int (nI 0), .int x1] (pm_hp L fz t I J) (K_X11_holesBy_12 d fz t Q)))) :
    t_X11_holesBy_0 d L fz t Q x1 x2 I J := by
  exact pm_go d [(12, []), (15, []), (24, [])] 400 ⟨fun q0 => ((h).1 q0), fun q0 => ((h).2 q0)⟩
theorem e_X11_holesBy {d L : Nat} {fz t : Bool} {Q : pm_R → pm_H → Prop} {x1 : Int32} {x2 : Int32} {I : Nat → Nat → Int32} {J : Nat → Nat → Int64}
    (h : ((¬ x2 = (nI 1) → pm_Ev d 164 [.ref 85, .int (nI 0), .int x1] (pm_hp L fz t I J) (K_X11_holesBy_24 d fz t Q)) ∧ (x2 = (nI 1) → pm_Ev d 164 [.ref 85, .int (nI 0), .int x1] (pm_hp L fz t I J) (K_X11_holesBy_12 d fz t Q)))) :
    pm_Ev (d + 1) 220 [.ref 85, .int x1, .int x2] (pm_hp L fz t I J) Q := pm_Ev_in rfl (b_X11_holesBy_0 h)
set_option maxRecDepth 100000 in
theorem b_X11_holesBy_24 {d L : Nat} {fz t : Bool} {Q : pm_R → pm_H → Prop} {r : Int32} {I : Nat → Nat → Int32} {J : Nat → Nat → Int64}
    (h : Q (.inl (some (.int r))) (pm_hp L fz t I J)) :
    t_X11_holesBy_24 d L fz t Q r I J := by
  exact pm_go d [(12, []), (15, []), (24, [])] 400 h
theorem kb_X11_holesBy_24 {d L : Nat} {fz t : Bool} {Q : pm_R → pm_H → Prop} {r : Int32} {fz1 : Bool} {I : Nat → Nat → Int32} {J : Nat → Nat → Int64}
    (h : Q (.inl (some (.int r))) (pm_hp L fz t I J)) :
    K_X11_holesBy_24 d fz t Q (.inl (some (.int r))) (pm_hp L fz1 t I J) := b_X11_holesBy_24 h
set_option maxRecDepth 100000 in
theorem b_X11_holesBy_12 {d L : Nat} {fz t : Bool} {Q : pm_R → pm_H → Prop} {r : Int32} {I : Nat → Nat → Int32} {J : Nat → Nat → Int64}
    (h : pm_Ev d 190 [.ref 85, .int r] (pm_hp L fz t I J) (K_X11_holesBy_15 d fz t Q)) :
    t_X11_holesBy_12 d L fz t Q r I J := by
  exact pm_go d [(12, []), (15, []), (24, [])] 400 h
theorem kb_X11_holesBy_12 {d L : Nat} {fz t : Bool} {Q : pm_R → pm_H → Prop} {r : Int32} {fz1 : Bool} {I : Nat → Nat → Int32} {J : Nat → Nat → Int64}
    (h : pm_Ev d 190 [.ref 85, .int r] (pm_hp L fz t I J) (K_X11_holesBy_15 d fz t Q)) :
    K_X11_holesBy_12 d fz t Q (.inl (some (.int r))) (pm_hp L fz1 t I J) := b_X11_holesBy_12 h
set_option maxRecDepth 100000 in
theorem b_X11_holesBy_15 {d L : Nat} {fz t : Bool} {Q : pm_R → pm_H → Prop} {r : Int32} {I : Nat → Nat → Int32} {J : Nat → Nat → Int64}
    (h : t_X11_holesBy_24 d L fz t Q r I J) :
    t_X11_holesBy_15 d L fz t Q r I J := by
  exact pm_go d [(12, []), (15, []), (24, [])] 400 h
theorem kb_X11_holesBy_15 {d L : Nat} {fz t : Bool} {Q : pm_R → pm_H → Prop} {r : Int32} {fz1 : Bool} {I : Nat → Nat → Int32} {J : Nat → Nat → Int64}
    (h : t_X11_holesBy_24 d L fz t Q r I J) :
    K_X11_holesBy_15 d fz t Q (.inl (some (.int r))) (pm_hp L fz1 t I J) := b_X11_holesBy_15 h
def t_X11_gains_0 (d L : Nat) (fz t : Bool) (Q : pm_R → pm_H → Prop) (x1 : Int32) (x2 : Int32) (x3 : Int32) (x4 : Int32) (x5 : Int32) (I : Nat → Nat → Int32) (J : Nat → Nat → Int64) : Prop := pm_T (pm_Ev d) 221 Q (0, [(0, .ref 85), (1, .int x1), (2, .int x2), (3, .int x3), (4, .int x4), (5, .int x5)], [], pm_hp L fz t I J, 0, 0)
def t_X11_gains_6 (d L : Nat) (fz t : Bool) (Q : pm_R → pm_H → Prop) (x1 : Int32) (x2 : Int32) (x3 : Int32) (x4 : Int32) (x5 : Int32) (r : Int32) (I : Nat → Nat → Int32) (J : Nat → Nat → Int64) : Prop := pm_T (pm_Ev d) 221 Q (6, [(0, .ref 85), (1, .int x1), (2, .int x2), (3, .int x3), (4, .int x4), (5, .int x5)], [.int r], pm_hp L fz t I J, 0, 0)
def K_X11_gains_6 (d : Nat) (fz t : Bool) (Q : pm_R → pm_H → Prop) (x1 : Int32) (x2 : Int32) (x3 : Int32) (x4 : Int32) (x5 : Int32) : pm_R → pm_H → Prop := pm_K d 221 Q 6 [(0, .ref 85), (1, .int x1), (2, .int x2), (3, .int x3), (4, .int x4), (5, .int x5)] [] 118 0 fz 0 0
def t_X11_gains_15 (d L : Nat) (fz t : Bool) (Q : pm_R → pm_H → Prop) (x1 : Int32) (x2 : Int32) (x3 : Int32) (x4 : Int32) (x5 : Int32) (x6 : Int32) (r : Int32) (I : Nat → Nat → Int32) (J : Nat → Nat → Int64) : Prop := pm_T (pm_Ev d) 221 Q (15, [(0, .ref 85), (1, .int x1), (2, .int x2), (3, .int x3), (4, .int x4), (5, .int x5), (6, .int x6)], [.int r], pm_hp L fz t I J, 0, 0)
def K_X11_gains_15 (d : Nat) (fz t : Bool) (Q : pm_R → pm_H → Prop) (x1 : Int32) (x2 : Int32) (x3 : Int32) (x4 : Int32) (x5 : Int32) (x6 : Int32) : pm_R → pm_H → Prop := pm_K d 221 Q 15 [(0, .ref 85), (1, .int x1), (2, .int x2), (3, .int x3), (4, .int x4), (5, .int x5), (6, .int x6)] [] 118 0 fz 0 0
def t_X11_gains_49 (d L : Nat) (fz t : Bool) (Q : pm_R → pm_H → Prop) (x1 : Int32) (x2 : Int32) (x4 : Int32) (x6 : Int32) (x7 : Int32) (r : Int32) (I : Nat → Nat → Int32) (J : Nat → Nat → Int64) : Prop := pm_T (pm_Ev d) 221 Q (49, [(0, .ref 85), (1, .int x1), (2, .int x2), (4, .int x4), (6, .int x6), (7, .int x7)], [.int r], pm_hp L fz t I J, 0, 0)
def K_X11_gains_49 (d : Nat) (fz t : Bool) (Q : pm_R → pm_H → Prop) (x1 : Int32) (x2 : Int32) (x4 : Int32) (x6 : Int32) (x7 : Int32) : pm_R → pm_H → Prop := pm_K d 221 Q 49 [(0, .ref 85), (1, .int x1), (2, .int x2), (4, .int x4), (6, .int x6), (7, .int x7)] [] 118 0 fz 0 0
def t_X11_gains_32 (d L : Nat) (fz t : Bool) (Q : pm_R → pm_H → Prop) (x1 : Int32) (x2 : Int32) (x3 : Int32) (x6 : Int32) (x7 : Int32) (r : Int32) (I : Nat → Nat → Int32) (J : Nat → Nat → Int64) : Prop := pm_T (pm_Ev d) 221 Q (32, [(0, .ref 85), (1, .int x1), (2, .int x2), (3, .int x3), (6, .int x6), (7, .int x7)], [.int r], pm_hp L fz t I J, 0, 0)
def K_X11_gains_32 (d : Nat) (fz t : Bool) (Q : pm_R → pm_H → Prop) (x1 : Int32) (x2 : Int32) (x3 : Int32) (x6 : Int32) (x7 : Int32) : pm_R → pm_H → Prop := pm_K d 221 Q 32 [(0, .ref 85), (1, .int x1), (2, .int x2), (3, .int x3), (6, .int x6), (7, .int x7)] [] 118 0 fz 0 0
def t_X11_gains_68 (d L : Nat) (fz t : Bool) (Q : pm_R → pm_H → Prop) (s0 : Int32) (r : Int32) (I : Nat → Nat → Int32) (J : Nat → Nat → Int64) : Prop := pm_T (pm_Ev d) 221 Q (68, [], [.int r, .int s0], pm_hp L fz t I J, 0, 0)
def K_X11_gains_68 (d : Nat) (fz t : Bool) (Q : pm_R → pm_H → Prop) (s0 : Int32) : pm_R → pm_H → Prop := pm_K d 221 Q 68 [] [.int s0] 118 0 fz 0 0
set_option maxRecDepth 100000 in
theorem b_X11_gains_0 {d L : Nat} {fz t : Bool} {Q : pm_R → pm_H → Prop} {x1 : Int32} {x2 : Int32} {x3 : Int32} {x4 : Int32} {x5 : Int32} {I : Nat → Nat → Int32} {J : Nat → Nat → Int64}
    (h : pm_Ev d 220 [.ref 85, .int x1, .int x3] (pm_hp L fz t I J) (K_X11_gains_6 d fz t Q x1 x2 x3 x4 x5)) :
    t_X11_gains_0 d L fz t Q x1 x2 x3 x4 x5 I J := by
  exact pm_go d [(6, [0, 1, 2, 3, 4, 5]), (15, [0, 1, 2, 3, 4, 5, 6]), (32, [0, 1, 2, 3, 6, 7]), (49, [0, 1, 2, 4, 6, 7]), (68, [])] 400 h
theorem e_X11_gains {d L : Nat} {fz t : Bool} {Q : pm_R → pm_H → Prop} {x1 : Int32} {x2 : Int32} {x3 : Int32} {x4 : Int32} {x5 : Int32} {I : Nat → Nat → Int32} {J : Nat → Nat → Int64}
    (h : pm_Ev d 220 [.ref 85, .int x1, .int x3] (pm_hp L fz t I J) (K_X11_gains_6 d fz t Q x1 x2 x3 x4 x5)) :
    pm_Ev (d + 1) 221 [.ref 85, .int x1, .int x2, .int x3, .int x4, .int x5] (pm_hp L fz t I J) Q := pm_Ev_in rfl (b_X11_gains_0 h)
set_option maxRecDepth 100000 in
theorem b_X11_gains_6 {d L : Nat} {fz t : Bool} {Q : pm_R → pm_H → Prop} {x1 : Int32} {x2 : Int32} {x3 : Int32} {x4 : Int32} {x5 : Int32} {r : Int32} {I : Nat → Nat → Int32} {J : Nat → Nat → Int64}
    (h : pm_Ev d 220 [.ref 85, .int x2, .int x4] (pm_hp L fz t I J) (K_X11_gains_15 d fz t Q x1 x2 x3 x4 x5 r)) :
    t_X11_gains_6 d L fz t Q x1 x2 x3 x4 x5 r I J := by
  exact pm_go d [(6, [0, 1, 2, 3, 4, 5]), (15, [0, 1, 2, 3, 4, 5, 6]), (32, [0, 1, 2, 3, 6, 7]), (49, [0, 1, 2, 4, 6, 7]), (68, [])] 400 h
theorem kb_X11_gains_6 {d L : Nat} {fz t : Bool} {Q : pm_R → pm_H → Prop} {x1 : Int32} {x2 : Int32} {x3 : Int32} {x4 : Int32} {x5 : Int32} {r : Int32} {fz1 : Bool} {I : Nat → Nat → Int32} {J : Nat → Nat → Int64}
    (h : pm_Ev d 220 [.ref 85, .int x2, .int x4] (pm_hp L fz t I J) (K_X11_gains_15 d fz t Q x1 x2 x3 x4 x5 r)) :
    K_X11_gains_6 d fz t Q x1 x2 x3 x4 x5 (.inl (some (.int r))) (pm_hp L fz1 t I J) := b_X11_gains_6 h
set_option maxRecDepth 100000 in
theorem b_X11_gains_15 {d L : Nat} {fz t : Bool} {Q : pm_R → pm_H → Prop} {x1 : Int32} {x2 : Int32} {x3 : Int32} {x4 : Int32} {x5 : Int32} {x6 : Int32} {r : Int32} {I : Nat → Nat → Int32} {J : Nat → Nat → Int64}
    (h : ((¬ x5 = (nI 0) → pm_Ev d 123 [.int (r &&& (x6 ^^^ (-1 : Int32)))] (pm_hp L fz t I J) (K_X11_gains_49 d fz t Q x1 x2 x4 x6 r)) ∧ (x5 = (nI 0) → pm_Ev d 123 [.int (x6 &&& (r ^^^ (-1 : Int32)))] (pm_hp L fz t I J) (K_X11_gains_32 d fz t Q x1 x2 x3 x6 r)))) :
    t_X11_gains_15 d L fz t Q x1 x2 x3 x4 x5 x6 r I J := by
  exact pm_go d [(6, [0, 1, 2, 3, 4, 5]), (15, [0, 1, 2, 3, 4, 5, 6]), (32, [0, 1, 2, 3, 6, 7]), (49, [0, 1, 2, 4, 6, 7]), (68, [])] 400 ⟨fun q0 => ((h).1 q0), fun q0 => ((h).2 q0)⟩
theorem kb_X11_gains_15 {d L : Nat} {fz t : Bool} {Q : pm_R → pm_H → Prop} {x1 : Int32} {x2 : Int32} {x3 : Int32} {x4 : Int32} {x5 : Int32} {x6 : Int32} {r : Int32} {fz1 : Bool} {I : Nat → Nat → Int32} {J : Nat → Nat → Int64}
    (h : ((¬ x5 = (nI 0) → pm_Ev d 123 [.int (r &&& (x6 ^^^ (-1 : Int32)))] (pm_hp L fz t I J) (K_X11_gains_49 d fz t Q x1 x2 x4 x6 r)) ∧ (x5 = (nI 0) → pm_Ev d 123 [.int (x6 &&& (r ^^^ (-1 : Int32)))] (pm_hp L fz t I J) (K_X11_gains_32 d fz t Q x1 x2 x3 x6 r)))) :
    K_X11_gains_15 d fz t Q x1 x2 x3 x4 x5 x6 (.inl (some (.int r))) (pm_hp L fz1 t I J) := b_X11_gains_15 h
set_option maxRecDepth 100000 in
theorem b_X11_gains_49 {d L : Nat} {fz t : Bool} {Q : pm_R → pm_H → Prop} {x1 : Int32} {x2 : Int32} {x4 : Int32} {x6 : Int32} {x7 : Int32} {r : Int32} {I : Nat → Nat → Int32} {J : Nat → Nat → Int64}
    (h : pm_Ev d 165 [.ref 85, .int x1, .int x2, .int x6, .int x7] (pm_hp L fz t I J) (K_X11_gains_68 d fz t Q (r - ((nI 2) * x4)))) :
    t_X11_gains_49 d L fz t Q x1 x2 x4 x6 x7 r I J := by
  exact pm_go d [(6, [0, 1, 2, 3, 4, 5]), (15, [0, 1, 2, 3, 4, 5, 6]), (32, [0, 1, 2, 3, 6, 7]), (49, [0, 1, 2, 4, 6, 7]), (68, [])] 400 h
theorem kb_X11_gains_49 {d L : Nat} {fz t : Bool} {Q : pm_R → pm_H → Prop} {x1 : Int32} {x2 : Int32} {x4 : Int32} {x6 : Int32} {x7 : Int32} {r : Int32} {fz1 : Bool} {I : Nat → Nat → Int32} {J : Nat → Nat → Int64}
    (h : pm_Ev d 165 [.ref 85, .int x1, .int x2, .int x6, .int x7] (pm_hp L fz t I J) (K_X11_gains_68 d fz t Q (r - ((nI 2) * x4)))) :
    K_X11_gains_49 d fz t Q x1 x2 x4 x6 x7 (.inl (some (.int r))) (pm_hp L fz1 t I J) := b_X11_gains_49 h
set_option maxRecDepth 100000 in
theorem b_X11_gains_32 {d L : Nat} {fz t : Bool} {Q : pm_R → pm_H → Prop} {x1 : Int32} {x2 : Int32} {x3 : Int32} {x6 : Int32} {x7 : Int32} {r : Int32} {I : Nat → Nat → Int32} {J : Nat → Nat → Int64}
    (h : pm_Ev d 165 [.ref 85, .int x1, .int x2, .int x6, .int x7] (pm_hp L fz t I J) (K_X11_gains_68 d fz t Q (r - ((nI 2) * x3)))) :
    t_X11_gains_32 d L fz t Q x1 x2 x3 x6 x7 r I J := by
  exact pm_go d [(6, [0, 1, 2, 3, 4, 5]), (15, [0, 1, 2, 3, 4, 5, 6]), (32, [0, 1, 2, 3, 6, 7]), (49, [0, 1, 2, 4, 6, 7]), (68, [])] 400 h
theorem kb_X11_gains_32 {d L : Nat} {fz t : Bool} {Q : pm_R → pm_H → Prop} {x1 : Int32} {x2 : Int32} {x3 : Int32} {x6 : Int32} {x7 : Int32} {r : Int32} {fz1 : Bool} {I : Nat → Nat → Int32} {J : Nat → Nat → Int64}
    (h : pm_Ev d 165 [.ref 85, .int x1, .int x2, .int x6, .int x7] (pm_hp L fz t I J) (K_X11_gains_68 d fz t Q (r - ((nI 2) * x3)))) :
    K_X11_gains_32 d fz t Q x1 x2 x3 x6 x7 (.inl (some (.int r))) (pm_hp L fz1 t I J) := b_X11_gains_32 h
set_option maxRecDepth 100000 in
theorem b_X11_gains_68 {d L : Nat} {fz t : Bool} {Q : pm_R → pm_H → Prop} {s0 : Int32} {r : Int32} {I : Nat → Nat → Int32} {J : Nat → Nat → Int64}
    (h : Q (.inl (some (.int (s0 - r)))) (pm_hp L fz t I J)) :
    t_X11_gains_68 d L fz t Q s0 r I J := by
  exact pm_go d [(6, [0, 1, 2, 3, 4, 5]), (15, [0, 1, 2, 3, 4, 5, 6]), (32, [0, 1, 2, 3, 6, 7]), (49, [0, 1, 2, 4, 6, 7]), (68, [])] 400 h
theorem kb_X11_gains_68 {d L : Nat} {fz t : Bool} {Q : pm_R → pm_H → Prop} {s0 : Int32} {r : Int32} {fz1 : Bool} {I : Nat → Nat → Int32} {J : Nat → Nat → Int64}
    (h : Q (.inl (some (.int (s0 - r)))) (pm_hp L fz t I J)) :
    K_X11_gains_68 d fz t Q s0 (.inl (some (.int r))) (pm_hp L fz1 t I J) := b_X11_gains_68 h
def t_X11_game_0 (d L : Nat) (fz t : Bool) (Q : pm_R → pm_H → Prop) (x1 : Int32) (x2 : Int32) (x3 : Int32) (I : Nat → Nat → Int32) (J : Nat → Nat → Int64) : Prop := pm_T (pm_Ev d) 222 Q (0, [(0, .ref 85), (1, .int x1), (2, .int x2), (3, .int x3)], [], pm_hp L fz t I J, 0, 0)
def t_X11_game_10 (d L : Nat) (fz t : Bool) (Q : pm_R → pm_H → Prop) (x1 : Int32) (x2 : Int32) (x3 : Int32) (r : Int32) (I : Nat → Nat → Int32) (J : Nat → Nat → Int64) : Prop := pm_T (pm_Ev d) 222 Q (10, [(0, .ref 85), (1, .int x1), (2, .int x2), (3, .int x3)], [.int r], pm_hp L fz t I J, 0, 0)
def K_X11_game_10 (d : Nat) (fz t : Bool) (Q : pm_R → pm_H → Prop) (x1 : Int32) (x2 : Int32) (x3 : Int32) : pm_R → pm_H → Prop := pm_K d 222 Q 10 [(0, .ref 85), (1, .int x1), (2, .int x2), (3, .int x3)] [] 118 0 fz 0 0
def t_X11_game_18 (d L : Nat) (fz t : Bool) (Q : pm_R → pm_H → Prop) (x1 : Int32) (x2 : Int32) (x3 : Int32) (r : Int32) (I : Nat → Nat → Int32) (J : Nat → Nat → Int64) : Prop := pm_T (pm_Ev d) 222 Q (18, [(0, .ref 85), (1, .int x1), (2, .int x2), (3, .int x3)], [.int r], pm_hp L fz t I J, 0, 0)
def K_X11_game_18 (d : Nat) (fz t : Bool) (Q : pm_R → pm_H → Prop) (x1 : Int32) (x2 : Int32) (x3 : Int32) : pm_R → pm_H → Prop := pm_K d 222 Q 18 [(0, .ref 85), (1, .int x1), (2, .int x2), (3, .int x3)] [] 118 0 fz 0 0
def t_X11_game_27 (d L : Nat) (fz t : Bool) (Q : pm_R → pm_H → Prop) (x1 : Int32) (x2 : Int32) (x3 : Int32) (r : Int32) (I : Nat → Nat → Int32) (J : Nat → Nat → Int64) : Prop := pm_T (pm_Ev d) 222 Q (27, [(0, .ref 85), (1, .int x1), (2, .int x2), (3, .int x3)], [.int r], pm_hp L fz t I J, 0, 0)
def K_X11_game_27 (d : Nat) (fz t : Bool) (Q : pm_R → pm_H → Prop) (x1 : Int32) (x2 : Int32) (x3 : Int32) : pm_R → pm_H → Prop := pm_K d 222 Q 27 [(0, .ref 85), (1, .int x1), (2, .int x2), (3, .int x3)] [] 118 0 fz 0 0
def t_X11_game_45 (d L : Nat) (fz t : Bool) (Q : pm_R → pm_H → Prop) (x1 : Int32) (x2 : Int32) (x3 : Int32) (r : Int32) (I : Nat → Nat → Int32) (J : Nat → Nat → Int64) : Prop := pm_T (pm_Ev d) 222 Q (45, [(0, .ref 85), (1, .int x1), (2, .int x2), (3, .int x3)], [.int r], pm_hp L fz t I J, 0, 0)
def K_X11_game_45 (d : Nat) (fz t : Bool) (Q : pm_R → pm_H → Prop) (x1 : Int32) (x2 : Int32) (x3 : Int32) : pm_R → pm_H → Prop := pm_K d 222 Q 45 [(0, .ref 85), (1, .int x1), (2, .int x2), (3, .int x3)] [] 118 0 fz 0 0
def t_X11_game_59 (d L : Nat) (fz t : Bool) (Q : pm_R → pm_H → Prop) (x1 : Int32) (x2 : Int32) (x3 : Int32) (x4 : Int32) (x5 : Int32) (x6 : Int32) (I : Nat → Nat → Int32) (J : Nat → Nat → Int64) : Prop := pm_T (pm_Ev d) 222 Q (59, [(0, .ref 85), (1, .int x1), (2, .int x2), (3, .int x3), (4, .int x4), (5, .int x5), (6, .int x6)], [], pm_hp L fz t I J, 0, 0)
def t_X11_game_90 (d L : Nat) (fz t : Bool) (Q : pm_R → pm_H → Prop) (x1 : Int32) (x2 : Int32) (x3 : Int32) (x4 : Int32) (x5 : Int32) (x6 : Int32) (x7 : Int32) (x8 : Int32) (r : Int32) (I : Nat → Nat → Int32) (J : Nat → Nat → Int64) : Prop := pm_T (pm_Ev d) 222 Q (90, [(0, .ref 85), (1, .int x1), (2, .int x2), (3, .int x3), (4, .int x4), (5, .int x5), (6, .int x6), (7, .int x7), (8, .int x8)], [.int r], pm_hp L fz t I J, 0, 0)
def K_X11_game_90 (d : Nat) (fz t : Bool) (Q : pm_R → pm_H → Prop) (x1 : Int32) (x2 : Int32) (x3 : Int32) (x4 : Int32) (x5 : Int32) (x6 : Int32) (x7 : Int32) (x8 : Int32) : pm_R → pm_H → Prop := pm_K d 222 Q 90 [(0, .ref 85), (1, .int x1), (2, .int x2), (3, .int x3), (4, .int x4), (5, .int x5), (6, .int x6), (7, .int x7), (8, .int x8)] [] 118 0 fz 0 0
def t_X11_game_101 (d L : Nat) (fz t : Bool) (Q : pm_R → pm_H → Prop) (x1 : Int32) (x2 : Int32) (x3 : Int32) (x4 : Int32) (x5 : Int32) (x6 : Int32) (x7 : Int32) (x8 : Int32) (s0 : Int32) (r : Int32) (I : Nat → Nat → Int32) (J : Nat → Nat → Int64) : Prop := pm_T (pm_Ev d) 222 Q (101, [(0, .ref 85), (1, .int x1), (2, .int x2), (3, .int x3), (4, .int x4), (5, .int x5), (6, .int x6), (7, .int x7), (8, .int x8)], [.int r, .int s0], pm_hp L fz t I J, 0, 0)
def K_X11_game_101 (d : Nat) (fz t : Bool) (Q : pm_R → pm_H → Prop) (x1 : Int32) (x2 : Int32) (x3 : Int32) (x4 : Int32) (x5 : Int32) (x6 : Int32) (x7 : Int32) (x8 : Int32) (s0 : Int32) : pm_R → pm_H → Prop := pm_K d 222 Q 101 [(0, .ref 85), (1, .int x1), (2, .int x2), (3, .int x3), (4, .int x4), (5, .int x5), (6, .int x6), (7, .int x7), (8, .int x8)] [.int s0] 118 0 fz 0 0
def t_X11_game_117 (d L : Nat) (fz t : Bool) (Q : pm_R → pm_H → Prop) (x1 : Int32) (x2 : Int32) (x3 : Int32) (x4 : Int32) (x5 : Int32) (x6 : Int32) (x7 : Int32) (x8 : Int32) (r : Int32) (I : Nat → Nat → Int32) (J : Nat → Nat → Int64) : Prop := pm_T (pm_Ev d) 222 Q (117, [(0, .ref 85), (1, .int x1), (2, .int x2), (3, .int x3), (4, .int x4), (5, .int x5), (6, .int x6), (7, .int x7), (8, .int x8)], [.int r], pm_hp L fz t I J, 0, 0)
def K_X11_game_117 (d : Nat) (fz t : Bool) (Q : pm_R → pm_H → Prop) (x1 : Int32) (x2 : Int32) (x3 : Int32) (x4 : Int32) (x5 : Int32) (x6 : Int32) (x7 : Int32) (x8 : Int32) : pm_R → pm_H → Prop := pm_K d 222 Q 117 [(0, .ref 85), (1, .int x1), (2, .int x2), (3, .int x3), (4, .int x4), (5, .int x5), (6, .int x6), (7, .int x7), (8, .int x8)] [] 118 0 fz 0 0
def t_X11_game_128 (d L : Nat) (fz t : Bool) (Q : pm_R → pm_H → Prop) (x1 : Int32) (x2 : Int32) (x3 : Int32) (x4 : Int32) (x5 : Int32) (x6 : Int32) (x7 : Int32) (x8 : Int32) (s0 : Int32) (r : Int32) (I : Nat → Nat → Int32) (J : Nat → Nat → Int64) : Prop := pm_T (pm_Ev d) 222 Q (128, [(0, .ref 85), (1, .int x1), (2, .int x2), (3, .int x3), (4, .int x4), (5, .int x5), (6, .int x6), (7, .int x7), (8, .int x8)], [.int r, .int s0], pm_hp L fz t I J, 0, 0)
def K_X11_game_128 (d : Nat) (fz t : Bool) (Q : pm_R → pm_H → Prop) (x1 : Int32) (x2 : Int32) (x3 : Int32) (x4 : Int32) (x5 : Int32) (x6 : Int32) (x7 : Int32) (x8 : Int32) (s0 : Int32) : pm_R → pm_H → Prop := pm_K d 222 Q 128 [(0, .ref 85), (1, .int x1), (2, .int x2), (3, .int x3), (4, .int x4), (5, .int x5), (6, .int x6), (7, .int x7), (8, .int x8)] [.int s0] 118 0 fz 0 0
set_option maxRecDepth 100000 in
theorem b_X11_game_0 {d L : Nat} {fz t : Bool} {Q : pm_R → pm_H → Prop} {x1 : Int32} {x2 : Int32} {x3 : Int32} {I : Nat → Nat → Int32} {J : Nat → Nat → Int64}
    (h : pm_Ev d 180 [.ref 85, .int x1] (pm_hp L fz t (pm_u I 85 0 (nI 0)) J) (K_X11_game_10 d fz t Q x1 x2 x3)) :
    t_X11_game_0 d L fz t Q x1 x2 x3 I J := by
  exact pm_go d [(10, [0, 1, 2, 3]), (18, [0, 1, 2, 3]), (27, [0, 1, 2, 3]), (45, [0, 1, 2, 3]), (59, [0, 1, 2, 3, 4, 5, 6]), (90, [0, 1, 2, 3, 4, 5, 6, 7, 8]), (101, [0, 1, 2, 3, 4, 5, 6, 7, 8]), (117, [0, 1, 2, 3, 4, 5, 6, 7, 8]), (128, [0, 1, 2, 3, 4, 5, 6, 7, 8])] 400 h
theorem e_X11_game {d L : Nat} {fz t : Bool} {Q : pm_R → pm_H → Prop} {x1 : Int32} {x2 : Int32} {x3 : Int32} {I : Nat → Nat → Int32} {J : Nat → Nat → Int64}
    (h : pm_Ev d 180 [.ref 85, .int x1] (pm_hp L fz t (pm_u I 85 0 (nI 0)) J) (K_X11_game_10 d fz t Q x1 x2 x3)) :
    pm_Ev (d + 1) 222 [.ref 85, .int x1, .int x2, .int x3] (pm_hp L fz t I J) Q := pm_Ev_in rfl (b_X11_game_0 h)
set_option maxRecDepth 100000 in
theorem b_X11_game_10 {d L : Nat} {fz t : Bool} {Q : pm_R → pm_H → Prop} {x1 : Int32} {x2 : Int32} {x3 : Int32} {r : Int32} {I : Nat → Nat → Int32} {J : Nat → Nat → Int64}
    (h : ((r = (nI 0) → Q (.inl (some (.int (nI 0)))) (pm_hp L fz t I J)) ∧ (¬ r = (nI 0) → pm_Ev d 180 [.ref 85, .int x2] (pm_hp L fz t I J) (K_X11_game_18 d fz t Q x1 x2 x3)))) :
    t_X11_game_10 d L fz t Q x1 x2 x3 r I J := by
  exact pm_go d [(10, [0, 1, 2, 3]), (18, [0, 1, 2, 3]), (27, [0, 1, 2, 3]), (45, [0, 1, 2, 3]), (59, [0, 1, 2, 3, 4, 5, 6]), (90, [0, 1, 2, 3, 4, 5, 6, 7, 8]), (101, [0, 1, 2, 3, 4, 5, 6, 7, 8]), (117, [0, 1, 2, 3, 4, 5, 6, 7, 8]), (128, [0, 1, 2, 3, 4, 5, 6, 7, 8])] 400 ⟨fun q0 => ((h).1 q0), fun q0 => ((h).2 q0)⟩
theorem kb_X11_game_10 {d L : Nat} {fz t : Bool} {Q : pm_R → pm_H → Prop} {x1 : Int32} {x2 : Int32} {x3 : Int32} {r : Int32} {fz1 : Bool} {I : Nat → Nat → Int32} {J : Nat → Nat → Int64}
    (h : ((r = (nI 0) → Q (.inl (some (.int (nI 0)))) (pm_hp L fz t I J)) ∧ (¬ r = (nI 0) → pm_Ev d 180 [.ref 85, .int x2] (pm_hp L fz t I J) (K_X11_game_18 d fz t Q x1 x2 x3)))) :
    K_X11_game_10 d fz t Q x1 x2 x3 (.inl (some (.int r))) (pm_hp L fz1 t I J) := b_X11_game_10 h
set_option maxRecDepth 100000 in
theorem b_X11_game_18 {d L : Nat} {fz t : Bool} {Q : pm_R → pm_H → Prop} {x1 : Int32} {x2 : Int32} {x3 : Int32} {r : Int32} {I : Nat → Nat → Int32} {J : Nat → Nat → Int64}
    (h : ((r = (nI 0) → Q (.inl (some (.int (nI 0)))) (pm_hp L fz t I J)) ∧ (¬ r = (nI 0) → pm_Ev d 183 [.ref 85, .int x3, .int (nI 1)] (pm_hp L fz t I J) (K_X11_game_27 d fz t Q x1 x2 x3)))) :
    t_X11_game_18 d L fz t Q x1 x2 x3 r I J := by
  exact pm_go d [(10, [0, 1, 2, 3]), (18, [0, 1, 2, 3]), (27, [0, 1, 2, 3]), (45, [0, 1, 2, 3]), (59, [0, 1, 2, 3, 4, 5, 6]), (90, [0, 1, 2, 3, 4, 5, 6, 7, 8]), (101, [0, 1, 2, 3, 4, 5, 6, 7, 8]), (117, [0, 1, 2, 3, 4, 5, 6, 7, 8]), (128, [0, 1, 2, 3, 4, 5, 6, 7, 8])] 400 ⟨fun q0 => ((h).1 q0), fun q0 => ((h).2 q0)⟩
theorem kb_X11_game_18 {d L : Nat} {fz t : Bool} {Q : pm_R → pm_H → Prop} {x1 : Int32} {x2 : Int32} {x3 : Int32} {r : Int32} {fz1 : Bool} {I : Nat → Nat → Int32} {J : Nat → Nat → Int64}
    (h : ((r = (nI 0) → Q (.inl (some (.int (nI 0)))) (pm_hp L fz t I J)) ∧ (¬ r = (nI 0) → pm_Ev d 183 [.ref 85, .int x3, .int (nI 1)] (pm_hp L fz t I J) (K_X11_game_27 d fz t Q x1 x2 x3)))) :
    K_X11_game_18 d fz t Q x1 x2 x3 (.inl (some (.int r))) (pm_hp L fz1 t I J) := b_X11_game_18 h
set_option maxRecDepth 100000 in
theorem b_X11_game_27 {d L : Nat} {fz t : Bool} {Q : pm_R → pm_H → Prop} {x1 : Int32} {x2 : Int32} {x3 : Int32} {r : Int32} {I : Nat → Nat → Int32} {J : Nat → Nat → Int64}
    (h : ((r = (nI 0) → Q (.inl (some (.int (nI 0)))) (pm_hp L fz t I J)) ∧ (¬ r = (nI 0) → ((x1 = x2 → pm_Ev d 118 [.ref 85, .int (nI 0), .int (nI 2)] (pm_hp L fz t I J) (K_X11_game_45 d fz t Q x1 x2 x3)) ∧ (¬ x1 = x2 → pm_Ev d 118 [.ref 85, .int (nI 1), .int (nI 2)] (pm_hp L fz t I J) (K_X11_game_45 d fz t Q x1 x2 x3)))))) :
    t_X11_game_27 d L fz t Q x1 x2 x3 r I J := by
  exact pm_go d [(10, [0, 1, 2, 3]), (18, [0, 1, 2, 3]), (27, [0, 1, 2, 3]), (45, [0, 1, 2, 3]), (59, [0, 1, 2, 3, 4, 5, 6]), (90, [0, 1, 2, 3, 4, 5, 6, 7, 8]), (101, [0, 1, 2, 3, 4, 5, 6, 7, 8]), (117, [0, 1, 2, 3, 4, 5, 6, 7, 8]), (128, [0, 1, 2, 3, 4, 5, 6, 7, 8])] 400 ⟨fun q0 => ((h).1 q0), fun q0 => ⟨fun q1 => ((((h).2 q0)).1 q1), fun q1 => ((((h).2 q0)).2 q1)⟩⟩
theorem kb_X11_game_27 {d L : Nat} {fz t : Bool} {Q : pm_R → pm_H → Prop} {x1 : Int32} {x2 : Int32} {x3 : Int32} {r : Int32} {fz1 : Bool} {I : Nat → Nat → Int32} {J : Nat → Nat → Int64}
    (h : ((r = (nI 0) → Q (.inl (some (.int (nI 0)))) (pm_hp L fz t I J)) ∧ (¬ r = (nI 0) → ((x1 = x2 → pm_Ev d 118 [.ref 85, .int (nI 0), .int (nI 2)] (pm_hp L fz t I J) (K_X11_game_45 d fz t Q x1 x2 x3)) ∧ (¬ x1 = x2 → pm_Ev d 118 [.ref 85, .int (nI 1), .int (nI 2)] (pm_hp L fz t I J) (K_X11_game_45 d fz t Q x1 x2 x3)))))) :
    K_X11_game_27 d fz t Q x1 x2 x3 (.inl (some (.int r))) (pm_hp L fz1 t I J) := b_X11_game_27 h
set_option maxRecDepth 100000 in
theorem b_X11_game_45 {d L : Nat} {fz t : Bool} {Q : pm_R → pm_H → Prop} {x1 : Int32} {x2 : Int32} {x3 : Int32} {r : Int32} {I : Nat → Nat → Int32} {J : Nat → Nat → Int64}
    (h : ((¬ r = (nI 0) → t_X11_game_59 d L fz t Q x1 x2 x3 (nI 0) (-1 : Int32) (nI 0) I J) ∧ (r = (nI 0) → Q (.inl (some (.int (nI 0)))) (pm_hp L fz t I J)))) :
    t_X11_game_45 d L fz t Q x1 x2 x3 r I J := by
  exact pm_go d [(10, [0, 1, 2, 3]), (18, [0, 1, 2, 3]), (27, [0, 1, 2, 3]), (45, [0, 1, 2, 3]), (59, [0, 1, 2, 3, 4, 5, 6]), (90, [0, 1, 2, 3, 4, 5, 6, 7, 8]), (101, [0, 1, 2, 3, 4, 5, 6, 7, 8]), (117, [0, 1, 2, 3, 4, 5, 6, 7, 8]), (128, [0, 1, 2, 3, 4, 5, 6, 7, 8])] 400 ⟨fun q0 => ((h).1 q0), fun q0 => ((h).2 q0)⟩
theorem kb_X11_game_45 {d L : Nat} {fz t : Bool} {Q : pm_R → pm_H → Prop} {x1 : Int32} {x2 : Int32} {x3 : Int32} {r : Int32} {fz1 : Bool} {I : Nat → Nat → Int32} {J : Nat → Nat → Int64}
    (h : ((¬ r = (nI 0) → t_X11_game_59 d L fz t Q x1 x2 x3 (nI 0) (-1 : Int32) (nI 0) I J) ∧ (r = (nI 0) → Q (.inl (some (.int (nI 0)))) (pm_hp L fz t I J)))) :
    K_X11_game_45 d fz t Q x1 x2 x3 (.inl (some (.int r))) (pm_hp L fz1 t I J) := b_X11_game_45 h
set_option maxRecDepth 100000 in
theorem b_X11_game_59 {d L : Nat} {fz t : Bool} {Q : pm_R → pm_H → Prop} {x1 : Int32} {x2 : Int32} {x3 : Int32} {x4 : Int32} {x5 : Int32} {x6 : Int32} {I : Nat → Nat → Int32} {J : Nat → Nat → Int64}
    (h : (((nI 4) ≤ x6 → ((¬ x3 = (nI 0) → Q (.inl (some (.int x5))) (pm_hp L fz t I J)) ∧ (x3 = (nI 0) → Q (.inl (some (.int x4))) (pm_hp L fz t I J)))) ∧ (¬ (nI 4) ≤ x6 → pm_Ev d 221 [.ref 85, .int x1, .int x2, .int ((nI 1) - (x6 / (nI 2))), .int (x6 - x6 / (nI 2) * (nI 2)), .int (nI 0)] (pm_hp L fz t I J) (K_X11_game_90 d fz t Q x1 x2 x3 x4 x5 x6 (x6 / (nI 2)) (x6 - x6 / (nI 2) * (nI 2)))))) :
    t_X11_game_59 d L fz t Q x1 x2 x3 x4 x5 x6 I J := by
  exact pm_go d [(10, [0, 1, 2, 3]), (18, [0, 1, 2, 3]), (27, [0, 1, 2, 3]), (45, [0, 1, 2, 3]), (59, [0, 1, 2, 3, 4, 5, 6]), (90, [0, 1, 2, 3, 4, 5, 6, 7, 8]), (101, [0, 1, 2, 3, 4, 5, 6, 7, 8]), (117, [0, 1, 2, 3, 4, 5, 6, 7, 8]), (128, [0, 1, 2, 3, 4, 5, 6, 7, 8])] 400 ⟨fun q0 => ⟨fun q1 => ((((h).1 q0)).1 q1), fun q1 => ((((h).1 q0)).2 q1)⟩, fun q0 => ⟨by decide, ⟨by decide, ((h).2 q0)⟩⟩⟩
set_option maxRecDepth 100000 in
theorem b_X11_game_90 {d L : Nat} {fz t : Bool} {Q : pm_R → pm_H → Prop} {x1 : Int32} {x2 : Int32} {x3 : Int32} {x4 : Int32} {x5 : Int32} {x6 : Int32} {x7 : Int32} {x8 : Int32} {r : Int32} {I : Nat → Nat → Int32} {J : Nat → Nat → Int64}
    (h : pm_Ev d 221 [.ref 85, .int x1, .int x2, .int x7, .int x8, .int (nI 0)] (pm_hp L fz t I J) (K_X11_game_101 d fz t Q x1 x2 x3 x4 x5 x6 x7 x8 r)) :
    t_X11_game_90 d L fz t Q x1 x2 x3 x4 x5 x6 x7 x8 r I J := by
  exact pm_go d [(10, [0, 1, 2, 3]), (18, [0, 1, 2, 3]), (27, [0, 1, 2, 3]), (45, [0, 1, 2, 3]), (59, [0, 1, 2, 3, 4, 5, 6]), (90, [0, 1, 2, 3, 4, 5, 6, 7, 8]), (101, [0, 1, 2, 3, 4, 5, 6, 7, 8]), (117, [0, 1, 2, 3, 4, 5, 6, 7, 8]), (128, [0, 1, 2, 3, 4, 5, 6, 7, 8])] 400 h
theorem kb_X11_game_90 {d L : Nat} {fz t : Bool} {Q : pm_R → pm_H → Prop} {x1 : Int32} {x2 : Int32} {x3 : Int32} {x4 : Int32} {x5 : Int32} {x6 : Int32} {x7 : Int32} {x8 : Int32} {r : Int32} {fz1 : Bool} {I : Nat → Nat → Int32} {J : Nat → Nat → Int64}
    (h : pm_Ev d 221 [.ref 85, .int x1, .int x2, .int x7, .int x8, .int (nI 0)] (pm_hp L fz t I J) (K_X11_game_101 d fz t Q x1 x2 x3 x4 x5 x6 x7 x8 r)) :
    K_X11_game_90 d fz t Q x1 x2 x3 x4 x5 x6 x7 x8 (.inl (some (.int r))) (pm_hp L fz1 t I J) := b_X11_game_90 h
set_option maxRecDepth 100000 in
theorem b_X11_game_101 {d L : Nat} {fz t : Bool} {Q : pm_R → pm_H → Prop} {x1 : Int32} {x2 : Int32} {x3 : Int32} {x4 : Int32} {x5 : Int32} {x6 : Int32} {x7 : Int32} {x8 : Int32} {s0 : Int32} {r : Int32} {I : Nat → Nat → Int32} {J : Nat → Nat → Int64}
    (h : ((r < s0 → t_X11_game_59 d L fz t Q x1 x2 x3 x4 x5 (x6 + (nI 1)) I J) ∧ (¬ r < s0 → pm_Ev d 221 [.ref 85, .int x1, .int x2, .int x7, .int ((nI 1) - x8), .int (nI 1)] (pm_hp L fz t I J) (K_X11_game_117 d fz t Q x1 x2 x3 x4 x5 x6 x7 x8)))) :
    t_X11_game_101 d L fz t Q x1 x2 x3 x4 x5 x6 x7 x8 s0 r I J := by
  exact pm_go d [(10, [0, 1, 2, 3]), (18, [0, 1, 2, 3]), (27, [0, 1, 2, 3]), (45, [0, 1, 2, 3]), (59, [0, 1, 2, 3, 4, 5, 6]), (90, [0, 1, 2, 3, 4, 5, 6, 7, 8]), (101, [0, 1, 2, 3, 4, 5, 6, 7, 8]), (117, [0, 1, 2, 3, 4, 5, 6, 7, 8]), (128, [0, 1, 2, 3, 4, 5, 6, 7, 8])] 400 ⟨fun q0 => ((h).1 q0), fun q0 => ((h).2 q0)⟩
theorem kb_X11_game_101 {d L : Nat} {fz t : Bool} {Q : pm_R → pm_H → Prop} {x1 : Int32} {x2 : Int32} {x3 : Int32} {x4 : Int32} {x5 : Int32} {x6 : Int32} {x7 : Int32} {x8 : Int32} {s0 : Int32} {r : Int32} {fz1 : Bool} {I : Nat → Nat → Int32} {J : Nat → Nat → Int64}
    (h : ((r < s0 → t_X11_game_59 d L fz t Q x1 x2 x3 x4 x5 (x6 + (nI 1)) I J) ∧ (¬ r < s0 → pm_Ev d 221 [.ref 85, .int x1, .int x2, .int x7, .int ((nI 1) - x8), .int (nI 1)] (pm_hp L fz t I J) (K_X11_game_117 d fz t Q x1 x2 x3 x4 x5 x6 x7 x8)))) :
    K_X11_game_101 d fz t Q x1 x2 x3 x4 x5 x6 x7 x8 s0 (.inl (some (.int r))) (pm_hp L fz1 t I J) := b_X11_game_101 h
set_option maxRecDepth 100000 in
theorem b_X11_game_117 {d L : Nat} {fz t : Bool} {Q : pm_R → pm_H → Prop} {x1 : Int32} {x2 : Int32} {x3 : Int32} {x4 : Int32} {x5 : Int32} {x6 : Int32} {x7 : Int32} {x8 : Int32} {r : Int32} {I : Nat → Nat → Int32} {J : Nat → Nat → Int64}
    (h : pm_Ev d 221 [.ref 85, .int x1, .int x2, .int x7, .int x8, .int (nI 1)] (pm_hp L fz t I J) (K_X11_game_128 d fz t Q x1 x2 x3 x4 x5 x6 x7 x8 r)) :
    t_X11_game_117 d L fz t Q x1 x2 x3 x4 x5 x6 x7 x8 r I J := by
  exact pm_go d [(10, [0, 1, 2, 3]), (18, [0, 1, 2, 3]), (27, [0, 1, 2, 3]), (45, [0, 1, 2, 3]), (59, [0, 1, 2, 3, 4, 5, 6]), (90, [0, 1, 2, 3, 4, 5, 6, 7, 8]), (101, [0, 1, 2, 3, 4, 5, 6, 7, 8]), (117, [0, 1, 2, 3, 4, 5, 6, 7, 8]), (128, [0, 1, 2, 3, 4, 5, 6, 7, 8])] 400 h
theorem kb_X11_game_117 {d L : Nat} {fz t : Bool} {Q : pm_R → pm_H → Prop} {x1 : Int32} {x2 : Int32} {x3 : Int32} {x4 : Int32} {x5 : Int32} {x6 : Int32} {x7 : Int32} {x8 : Int32} {r : Int32} {fz1 : Bool} {I : Nat → Nat → Int32} {J : Nat → Nat → Int64}
    (h : pm_Ev d 221 [.ref 85, .int x1, .int x2, .int x7, .int x8, .int (nI 1)] (pm_hp L fz t I J) (K_X11_game_128 d fz t Q x1 x2 x3 x4 x5 x6 x7 x8 r)) :
    K_X11_game_117 d fz t Q x1 x2 x3 x4 x5 x6 x7 x8 (.inl (some (.int r))) (pm_hp L fz1 t I J) := b_X11_game_117 h
set_option maxRecDepth 100000 in
theorem b_X11_game_128 {d L : Nat} {fz t : Bool} {Q : pm_R → pm_H → Prop} {x1 : Int32} {x2 : Int32} {x3 : Int32} {x4 : Int32} {x5 : Int32} {x6 : Int32} {x7 : Int32} {x8 : Int32} {s0 : Int32} {r : Int32} {I : Nat → Nat → Int32} {J : Nat → Nat → Int64}
    (h : ((s0 ≤ r → ((¬ x5 = (-1 : Int32) → t_X11_game_59 d L fz t Q x1 x2 x3 (x4 + (nI 1)) x5 (x6 + (nI 1)) I J) ∧ (x5 = (-1 : Int32) → t_X11_game_59 d L fz t Q x1 x2 x3 (x4 + (nI 1)) (((nI 10) * x7) + x8) (x6 + (nI 1)) I J))) ∧ (¬ s0 ≤ r → t_X11_game_59 d L fz t Q x1 x2 x3 x4 x5 (x6 + (nI 1)) I J))) :
    t_X11_game_128 d L fz t Q x1 x2 x3 x4 x5 x6 x7 x8 s0 r I J := by
  exact pm_go d [(10, [0, 1, 2, 3]), (18, [0, 1, 2, 3]), (27, [0, 1, 2, 3]), (45, [0, 1, 2, 3]), (59, [0, 1, 2, 3, 4, 5, 6]), (90, [0, 1, 2, 3, 4, 5, 6, 7, 8]), (101, [0, 1, 2, 3, 4, 5, 6, 7, 8]), (117, [0, 1, 2, 3, 4, 5, 6, 7, 8]), (128, [0, 1, 2, 3, 4, 5, 6, 7, 8])] 400 ⟨fun q0 => ⟨fun q1 => ((((h).1 q0)).1 q1), fun q1 => ((((h).1 q0)).2 q1)⟩, fun q0 => ((h).2 q0)⟩
theorem kb_X11_game_128 {d L : Nat} {fz t : Bool} {Q : pm_R → pm_H → Prop} {x1 : Int32} {x2 : Int32} {x3 : Int32} {x4 : Int32} {x5 : Int32} {x6 : Int32} {x7 : Int32} {x8 : Int32} {s0 : Int32} {r : Int32} {fz1 : Bool} {I : Nat → Nat → Int32} {J : Nat → Nat → Int64}
    (h : ((s0 ≤ r → ((¬ x5 = (-1 : Int32) → t_X11_game_59 d L fz t Q x1 x2 x3 (x4 + (nI 1)) x5 (x6 + (nI 1)) I J) ∧ (x5 = (-1 : Int32) → t_X11_game_59 d L fz t Q x1 x2 x3 (x4 + (nI 1)) (((nI 10) * x7) + x8) (x6 + (nI 1)) I J))) ∧ (¬ s0 ≤ r → t_X11_game_59 d L fz t Q x1 x2 x3 x4 x5 (x6 + (nI 1)) I J))) :
    K_X11_game_128 d fz t Q x1 x2 x3 x4 x5 x6 x7 x8 s0 (.inl (some (.int r))) (pm_hp L fz1 t I J) := b_X11_game_128 h
def t_X11_draw_0 (d L : Nat) (fz t : Bool) (Q : pm_R → pm_H → Prop) (x1 : Int32) (I : Nat → Nat → Int32) (J : Nat → Nat → Int64) : Prop := pm_T (pm_Ev d) 223 Q (0, [(0, .ref 85), (1, .int x1)], [], pm_hp L fz t I J, 0, 0)
set_option maxRecDepth 100000 in
theorem b_X11_draw_0 {d L : Nat} {fz t : Bool} {Q : pm_R → pm_H → Prop} {x1 : Int32} {I : Nat → Nat → Int32} {J : Nat → Nat → Int64}
    (h : (¬ x1 = nI 0 ∧ Q (.inl (some (.int ((((((I 85 60) * (nI 1103515245)) + (nI 12345)) >>> ((nI 16) &&& 31)) &&& (nI 32767)) - (((((I 85 60) * (nI 1103515245)) + (nI 12345)) >>> ((nI 16) &&& 31)) &&& (nI 32767)) / x1 * x1)))) (pm_hp L fz t (pm_u I 85 60 (((I 85 60) * (nI 1103515245)) + (nI 12345))) J))) :
    t_X11_draw_0 d L fz t Q x1 I J := by
  exact pm_go d [] 400 ⟨(h).1, (h).2⟩
theorem e_X11_draw {d L : Nat} {fz t : Bool} {Q : pm_R → pm_H → Prop} {x1 : Int32} {I : Nat → Nat → Int32} {J : Nat → Nat → Int64}
    (h : (¬ x1 = nI 0 ∧ Q (.inl (some (.int ((((((I 85 60) * (nI 1103515245)) + (nI 12345)) >>> ((nI 16) &&& 31)) &&& (nI 32767)) - (((((I 85 60) * (nI 1103515245)) + (nI 12345)) >>> ((nI 16) &&& 31)) &&& (nI 32767)) / x1 * x1)))) (pm_hp L fz t (pm_u I 85 60 (((I 85 60) * (nI 1103515245)) + (nI 12345))) J))) :
    pm_Ev (d + 1) 223 [.ref 85, .int x1] (pm_hp L fz t I J) Q := pm_Ev_in rfl (b_X11_draw_0 h)
def t_X11_happens_0 (d L : Nat) (fz t : Bool) (Q : pm_R → pm_H → Prop) (I : Nat → Nat → Int32) (J : Nat → Nat → Int64) : Prop := pm_T (pm_Ev d) 224 Q (0, [(0, .ref 85)], [], pm_hp L fz t I J, 0, 0)
def t_X11_happens_8 (d L : Nat) (fz t : Bool) (Q : pm_R → pm_H → Prop) (r : Int32) (I : Nat → Nat → Int32) (J : Nat → Nat → Int64) : Prop := pm_T (pm_Ev d) 224 Q (8, [(0, .ref 85)], [.int r], pm_hp L fz t I J, 0, 0)
def K_X11_happens_8 (d : Nat) (fz t : Bool) (Q : pm_R → pm_H → Prop) : pm_R → pm_H → Prop := pm_K d 224 Q 8 [(0, .ref 85)] [] 118 0 fz 0 0
def t_X11_happens_14 (d L : Nat) (fz t : Bool) (Q : pm_R → pm_H → Prop) (x1 : Int32) (r : Int32) (I : Nat → Nat → Int32) (J : Nat → Nat → Int64) : Prop := pm_T (pm_Ev d) 224 Q (14, [(0, .ref 85), (1, .int x1)], [.int r], pm_hp L fz t I J, 0, 0)
def K_X11_happens_14 (d : Nat) (fz t : Bool) (Q : pm_R → pm_H → Prop) (x1 : Int32) : pm_R → pm_H → Prop := pm_K d 224 Q 14 [(0, .ref 85), (1, .int x1)] [] 118 0 fz 0 0
def t_X11_happens_66 (d L : Nat) (fz t : Bool) (Q : pm_R → pm_H → Prop) (s1 : Int32) (r : Int32) (I : Nat → Nat → Int32) (J : Nat → Nat → Int64) : Prop := pm_T (pm_Ev d) 224 Q (66, [], [.int r, .int s1, .ref 103], pm_hp L fz t I J, 0, 0)
def K_X11_happens_66 (d : Nat) (fz t : Bool) (Q : pm_R → pm_H → Prop) (s1 : Int32) : pm_R → pm_H → Prop := pm_K d 224 Q 66 [] [.int s1, .ref 103] 118 0 fz 0 0
def t_X11_happens_40 (d L : Nat) (fz t : Bool) (Q : pm_R → pm_H → Prop) (s1 : Int32) (s2 : Int32) (s3 : Int32) (r : Int32) (I : Nat → Nat → Int32) (J : Nat → Nat → Int64) : Prop := pm_T (pm_Ev d) 224 Q (40, [], [.int r, .int s3, .int s2, .int s1, .ref 103], pm_hp L fz t I J, 0, 0)
def K_X11_happens_40 (d : Nat) (fz t : Bool) (Q : pm_R → pm_H → Prop) (s1 : Int32) (s2 : Int32) (s3 : Int32) : pm_R → pm_H → Prop := pm_K d 224 Q 40 [] [.int s3, .int s2, .int s1, .ref 103] 118 0 fz 0 0
set_option maxRecDepth 100000 in
theorem b_X11_happens_0 {d L : Nat} {fz t : Bool} {Q : pm_R → pm_H → Prop} {I : Nat → Nat → Int32} {J : Nat → Nat → Int64}
    (h : pm_Ev d 223 [.ref 85, .int (I 85 2)] (pm_hp L fz t I J) (K_X11_happens_8 d fz t Q)) :
    t_X11_happens_0 d L fz t Q I J := by
  exact pm_go d [(8, [0]), (14, [0, 1]), (40, []), (66, [])] 400 h
theorem e_X11_happens {d L : Nat} {fz t : Bool} {Q : pm_R → pm_H → Prop} {I : Nat → Nat → Int32} {J : Nat → Nat → Int64}
    (h : pm_Ev d 223 [.ref 85, .int (I 85 2)] (pm_hp L fz t I J) (K_X11_happens_8 d fz t Q)) :
    pm_Ev (d + 1) 224 [.ref 85] (pm_hp L fz t I J) Q := pm_Ev_in rfl (b_X11_happens_0 h)
set_option maxRecDepth 100000 in
theorem b_X11_happens_8 {d L : Nat} {fz t : Bool} {Q : pm_R → pm_H → Prop} {r : Int32} {I : Nat → Nat → Int32} {J : Nat → Nat → Int64}
    (h : pm_Ev d 223 [.ref 85, .int (nI 4)] (pm_hp L fz t I J) (K_X11_happens_14 d fz t Q r)) :
    t_X11_happens_8 d L fz t Q r I J := by
  exact pm_go d [(8, [0]), (14, [0, 1]), (40, []), (66, [])] 400 h
theorem kb_X11_happens_8 {d L : Nat} {fz t : Bool} {Q : pm_R → pm_H → Prop} {r : Int32} {fz1 : Bool} {I : Nat → Nat → Int32} {J : Nat → Nat → Int64}
    (h : pm_Ev d 223 [.ref 85, .int (nI 4)] (pm_hp L fz t I J) (K_X11_happens_14 d fz t Q r)) :
    K_X11_happens_8 d fz t Q (.inl (some (.int r))) (pm_hp L fz1 t I J) := b_X11_happens_8 h
set_option maxRecDepth 100000 in
theorem b_X11_happens_14 {d L : Nat} {fz t : Bool} {Q : pm_R → pm_H → Prop} {x1 : Int32} {r : Int32} {I : Nat → Nat → Int32} {J : Nat → Nat → Int64}
    (h : ((¬ r = (nI 0) → ((¬ r = (nI 1) → ((¬ r = (nI 2) → Q (.inl none) (pm_hp L fz t I J)) ∧ (r = (nI 2) → (vp_in ((nI 46) + x1) 68 ∧ Q (.inl none) (pm_hp L fz t (pm_u I 103 (((nI 46) + x1)).toNatClampNeg (nI 0)) J))))) ∧ (r = (nI 1) → (vp_in ((nI 36) + x1) 68 ∧ pm_Ev d 190 [.ref 85, .int (I 103 (((nI 36) + x1)).toNatClampNeg)] (pm_hp L fz t I J) (K_X11_happens_66 d fz t Q ((nI 36) + x1)))))) ∧ (r = (nI 0) → (vp_in ((nI 36) + x1) 68 ∧ pm_Ev d 223 [.ref 85, .int (I 85 1)] (pm_hp L fz t I J) (K_X11_happens_40 d fz t Q ((nI 36) + x1) (I 103 (((nI 36) + x1)).toNatClampNeg) (nI 1)))))) :
    t_X11_happens_14 d L fz t Q x1 r I J := by
  exact pm_go d [(8, [0]), (14, [0, 1]), (40, []), (66, [])] 400 ⟨fun q0 => ⟨fun q1 => ⟨fun q2 => ((((((h).1 q0)).1 q1)).1 q2), fun q2 => ⟨(((((((h).1 q0)).1 q1)).2 q2)).1, (((((((h).1 q0)).1 q1)).2 q2)).2⟩⟩, fun q1 => ⟨(((((h).1 q0)).2 q1)).1, (((((h).1 q0)).2 q1)).2⟩⟩, fun q0 => ⟨(((h).2 q0)).1, (((h).2 q0)).2⟩⟩
theorem kb_X11_happens_14 {d L : Nat} {fz t : Bool} {Q : pm_R → pm_H → Prop} {x1 : Int32} {r : Int32} {fz1 : Bool} {I : Nat → Nat → Int32} {J : Nat → Nat → Int64}
    (h : ((¬ r = (nI 0) → ((¬ r = (nI 1) → ((¬ r = (nI 2) → Q (.inl none) (pm_hp L fz t I J)) ∧ (r = (nI 2) → (vp_in ((nI 46) + x1) 68 ∧ Q (.inl none) (pm_hp L fz t (pm_u I 103 (((nI 46) + x1)).toNatClampNeg (nI 0)) J))))) ∧ (r = (nI 1) → (vp_in ((nI 36) + x1) 68 ∧ pm_Ev d 190 [.ref 85, .int (I 103 (((nI 36) + x1)).toNatClampNeg)] (pm_hp L fz t I J) (K_X11_happens_66 d fz t Q ((nI 36) + x1)))))) ∧ (r = (nI 0) → (vp_in ((nI 36) + x1) 68 ∧ pm_Ev d 223 [.ref 85, .int (I 85 1)] (pm_hp L fz t I J) (K_X11_happens_40 d fz t Q ((nI 36) + x1) (I 103 (((nI 36) + x1)).toNatClampNeg) (nI 1)))))) :
    K_X11_happens_14 d fz t Q x1 (.inl (some (.int r))) (pm_hp L fz1 t I J) := b_X11_happens_14 h
set_option maxRecDepth 100000 in
theorem b_X11_happens_66 {d L : Nat} {fz t : Bool} {Q : pm_R → pm_H → Prop} {s1 : Int32} {r : Int32} {I : Nat → Nat → Int32} {J : Nat → Nat → Int64}
    (h : (vp_in s1 68 ∧ Q (.inl none) (pm_hp L fz t (pm_u I 103 (s1).toNatClampNeg r) J))) :
    t_X11_happens_66 d L fz t Q s1 r I J := by
  exact pm_go d [(8, [0]), (14, [0, 1]), (40, []), (66, [])] 400 ⟨(h).1, (h).2⟩
theorem kb_X11_happens_66 {d L : Nat} {fz t : Bool} {Q : pm_R → pm_H → Prop} {s1 : Int32} {r : Int32} {fz1 : Bool} {I : Nat → Nat → Int32} {J : Nat → Nat → Int64}
    (h : (vp_in s1 68 ∧ Q (.inl none) (pm_hp L fz t (pm_u I 103 (s1).toNatClampNeg r) J))) :
    K_X11_happens_66 d fz t Q s1 (.inl (some (.int r))) (pm_hp L fz1 t I J) := b_X11_happens_66 h
set_option maxRecDepth 100000 in
theorem b_X11_happens_40 {d L : Nat} {fz t : Bool} {Q : pm_R → pm_H → Prop} {s1 : Int32} {s2 : Int32} {s3 : Int32} {r : Int32} {I : Nat → Nat → Int32} {J : Nat → Nat → Int64}
    (h : (vp_in s1 68 ∧ Q (.inl none) (pm_hp L fz t (pm_u I 103 (s1).toNatClampNeg (s2 ^^^ (s3 <<< (r &&& 31)))) J))) :
    t_X11_happens_40 d L fz t Q s1 s2 s3 r I J := by
  exact pm_go d [(8, [0]), (14, [0, 1]), (40, []), (66, [])] 400 ⟨(h).1, (h).2⟩
theorem kb_X11_happens_40 {d L : Nat} {fz t : Bool} {Q : pm_R → pm_H → Prop} {s1 : Int32} {s2 : Int32} {s3 : Int32} {r : Int32} {fz1 : Bool} {I : Nat → Nat → Int32} {J : Nat → Nat → Int64}
    (h : (vp_in s1 68 ∧ Q (.inl none) (pm_hp L fz t (pm_u I 103 (s1).toNatClampNeg (s2 ^^^ (s3 <<< (r &&& 31)))) J))) :
    K_X11_happens_40 d fz t Q s1 s2 s3 (.inl (some (.int r))) (pm_hp L fz1 t I J) := b_X11_happens_40 h
def t_X11_drawn_0 (d L : Nat) (fz t : Bool) (Q : pm_R → pm_H → Prop) (x1 : Int32) (x2 : Int32) (x3 : Int32) (I : Nat → Nat → Int32) (J : Nat → Nat → Int64) : Prop := pm_T (pm_Ev d) 225 Q (0, [(0, .ref 85), (1, .int x1), (2, .int x2), (3, .int x3)], [], pm_hp L fz t I J, 0, 0)
def t_X11_drawn_11 (d L : Nat) (fz t : Bool) (Q : pm_R → pm_H → Prop) (x1 : Int32) (x2 : Int32) (x3 : Int32) (r : Int32) (I : Nat → Nat → Int32) (J : Nat → Nat → Int64) : Prop := pm_T (pm_Ev d) 225 Q (11, [(0, .ref 85), (1, .int x1), (2, .int x2), (3, .int x3)], [.int r], pm_hp L fz t I J, 0, 0)
def K_X11_drawn_11 (d : Nat) (fz t : Bool) (Q : pm_R → pm_H → Prop) (x1 : Int32) (x2 : Int32) (x3 : Int32) : pm_R → pm_H → Prop := pm_K d 225 Q 11 [(0, .ref 85), (1, .int x1), (2, .int x2), (3, .int x3)] [] 118 0 fz 0 0
def t_X11_drawn_21 (d L : Nat) (fz t : Bool) (Q : pm_R → pm_H → Prop) (x1 : Int32) (x2 : Int32) (x3 : Int32) (r : Int32) (I : Nat → Nat → Int32) (J : Nat → Nat → Int64) : Prop := pm_T (pm_Ev d) 225 Q (21, [(0, .ref 85), (1, .int x1), (2, .int x2), (3, .int x3)], [.int r], pm_hp L fz t I J, 0, 0)
def K_X11_drawn_21 (d : Nat) (fz t : Bool) (Q : pm_R → pm_H → Prop) (x1 : Int32) (x2 : Int32) (x3 : Int32) : pm_R → pm_H → Prop := pm_K d 225 Q 21 [(0, .ref 85), (1, .int x1), (2, .int x2), (3, .int x3)] [] 118 0 fz 0 0
def t_X11_drawn_30 (d L : Nat) (fz t : Bool) (Q : pm_R → pm_H → Prop) (x1 : Int32) (x2 : Int32) (x3 : Int32) (I : Nat → Nat → Int32) (J : Nat → Nat → Int64) : Prop := pm_T (pm_Ev d) 225 Q (30, [(0, .ref 85), (1, .int x1), (2, .int x2), (3, .int x3)], [], pm_hp L fz t I J, 0, 0)
def K_X11_drawn_30 (d : Nat) (fz t : Bool) (Q : pm_R → pm_H → Prop) (x1 : Int32) (x2 : Int32) (x3 : Int32) : pm_R → pm_H → Prop := pm_K d 225 Q 30 [(0, .ref 85), (1, .int x1), (2, .int x2), (3, .int x3)] [] 118 0 fz 0 0
def t_X11_drawn_38 (d L : Nat) (fz t : Bool) (Q : pm_R → pm_H → Prop) (x2 : Int32) (x3 : Int32) (x4 : Int32) (I : Nat → Nat → Int32) (J : Nat → Nat → Int64) : Prop := pm_T (pm_Ev d) 225 Q (38, [(0, .ref 85), (2, .int x2), (3, .int x3), (4, .int x4)], [], pm_hp L fz t I J, 0, 0)
def t_X11_drawn_85 (d L : Nat) (fz t : Bool) (Q : pm_R → pm_H → Prop) (x3 : Int32) (x4 : Int32) (x5 : Int32) (I : Nat → Nat → Int32) (J : Nat → Nat → Int64) : Prop := pm_T (pm_Ev d) 225 Q (85, [(0, .ref 85), (3, .int x3), (4, .int x4), (5, .int x5)], [], pm_hp L fz t I J, 0, 0)
def t_X11_drawn_55 (d L : Nat) (fz t : Bool) (Q : pm_R → pm_H → Prop) (x2 : Int32) (x3 : Int32) (x4 : Int32) (I : Nat → Nat → Int32) (J : Nat → Nat → Int64) : Prop := pm_T (pm_Ev d) 225 Q (55, [(0, .ref 85), (2, .int x2), (3, .int x3), (4, .int x4)], [], pm_hp L fz t I J, 0, 0)
def K_X11_drawn_55 (d : Nat) (fz t : Bool) (Q : pm_R → pm_H → Prop) (x2 : Int32) (x3 : Int32) (x4 : Int32) : pm_R → pm_H → Prop := pm_K d 225 Q 55 [(0, .ref 85), (2, .int x2), (3, .int x3), (4, .int x4)] [] 118 0 fz 0 0
def t_X11_drawn_126 (d L : Nat) (fz t : Bool) (Q : pm_R → pm_H → Prop) (x3 : Int32) (x4 : Int32) (I : Nat → Nat → Int32) (J : Nat → Nat → Int64) : Prop := pm_T (pm_Ev d) 225 Q (126, [(0, .ref 85), (3, .int x3), (4, .int x4)], [], pm_hp L fz t I J, 0, 0)
def K_X11_drawn_126 (d : Nat) (fz t : Bool) (Q : pm_R → pm_H → Prop) (x3 : Int32) (x4 : Int32) : pm_R → pm_H → Prop := pm_K d 225 Q 126 [(0, .ref 85), (3, .int x3), (4, .int x4)] [] 118 0 fz 0 0
def t_X11_drawn_61 (d L : Nat) (fz t : Bool) (Q : pm_R → pm_H → Prop) (x2 : Int32) (x3 : Int32) (x4 : Int32) (I : Nat → Nat → Int32) (J : Nat → Nat → Int64) : Prop := pm_T (pm_Ev d) 225 Q (61, [(0, .ref 85), (2, .int x2), (3, .int x3), (4, .int x4)], [], pm_hp L fz t I J, 0, 0)
def K_X11_drawn_61 (d : Nat) (fz t : Bool) (Q : pm_R → pm_H → Prop) (x2 : Int32) (x3 : Int32) (x4 : Int32) : pm_R → pm_H → Prop := pm_K d 225 Q 61 [(0, .ref 85), (2, .int x2), (3, .int x3), (4, .int x4)] [] 118 0 fz 0 0
def t_X11_drawn_129 (d L : Nat) (fz t : Bool) (Q : pm_R → pm_H → Prop) (x3 : Int32) (x4 : Int32) (x5 : Int32) (I : Nat → Nat → Int32) (J : Nat → Nat → Int64) : Prop := pm_T (pm_Ev d) 225 Q (129, [(0, .ref 85), (3, .int x3), (4, .int x4), (5, .int x5)], [], pm_hp L fz t I J, 0, 0)
def t_X11_drawn_155 (d L : Nat) (fz t : Bool) (Q : pm_R → pm_H → Prop) (x3 : Int32) (x5 : Int32) (s0 : Int32) (r : Int32) (I : Nat → Nat → Int32) (J : Nat → Nat → Int64) : Prop := pm_T (pm_Ev d) 225 Q (155, [(0, .ref 85), (3, .int x3), (5, .int x5)], [.int r, .int s0], pm_hp L fz t I J, 0, 0)
def K_X11_drawn_155 (d : Nat) (fz t : Bool) (Q : pm_R → pm_H → Prop) (x3 : Int32) (x5 : Int32) (s0 : Int32) : pm_R → pm_H → Prop := pm_K d 225 Q 155 [(0, .ref 85), (3, .int x3), (5, .int x5)] [.int s0] 118 0 fz 0 0
set_option maxRecDepth 100000 in
theorem b_X11_drawn_0 {d L : Nat} {fz t : Bool} {Q : pm_R → pm_H → Prop} {x1 : Int32} {x2 : Int32} {x3 : Int32} {I : Nat → Nat → Int32} {J : Nat → Nat → Int64}
    (h : pm_Ev d 183 [.ref 85, .int x3, .int (nI 2)] (pm_hp L fz t (pm_u I 85 0 (nI 0)) J) (K_X11_drawn_11 d fz t Q x1 x2 x3)) :
    t_X11_drawn_0 d L fz t Q x1 x2 x3 I J := by
  exact pm_go d [(11, [0, 1, 2, 3]), (21, [0, 1, 2, 3]), (30, [0, 1, 2, 3]), (38, [0, 2, 3, 4]), (55, [0, 2, 3, 4]), (61, [0, 2, 3, 4]), (85, [0, 3, 4, 5]), (126, [0, 3, 4]), (129, [0, 3, 4, 5]), (155, [0, 3, 5])] 400 h
theorem e_X11_drawn {d L : Nat} {fz t : Bool} {Q : pm_R → pm_H → Prop} {x1 : Int32} {x2 : Int32} {x3 : Int32} {I : Nat → Nat → Int32} {J : Nat → Nat → Int64}
    (h : pm_Ev d 183 [.ref 85, .int x3, .int (nI 2)] (pm_hp L fz t (pm_u I 85 0 (nI 0)) J) (K_X11_drawn_11 d fz t Q x1 x2 x3)) :
    pm_Ev (d + 1) 225 [.ref 85, .int x1, .int x2, .int x3] (pm_hp L fz t I J) Q := pm_Ev_in rfl (b_X11_drawn_0 h)
set_option maxRecDepth 100000 in
theorem b_X11_drawn_11 {d L : Nat} {fz t : Bool} {Q : pm_R → pm_H → Prop} {x1 : Int32} {x2 : Int32} {x3 : Int32} {r : Int32} {I : Nat → Nat → Int32} {J : Nat → Nat → Int64}
    (h : ((r = (nI 0) → Q (.inl (some (.int (nI 0)))) (pm_hp L fz t I J)) ∧ (¬ r = (nI 0) → pm_Ev d 195 [.ref 85, .int x2, .int (nI 0), .int (nI 2)] (pm_hp L fz t I J) (K_X11_drawn_21 d fz t Q x1 x2 x3)))) :
    t_X11_drawn_11 d L fz t Q x1 x2 x3 r I J := by
  exact pm_go d [(11, [0, 1, 2, 3]), (21, [0, 1, 2, 3]), (30, [0, 1, 2, 3]), (38, [0, 2, 3, 4]), (55, [0, 2, 3, 4]), (61, [0, 2, 3, 4]), (85, [0, 3, 4, 5]), (126, [0, 3, 4]), (129, [0, 3, 4, 5]), (155, [0, 3, 5])] 400 ⟨fun q0 => ((h).1 q0), fun q0 => ((h).2 q0)⟩
theorem kb_X11_drawn_11 {d L : Nat} {fz t : Bool} {Q : pm_R → pm_H → Prop} {x1 : Int32} {x2 : Int32} {x3 : Int32} {r : Int32} {fz1 : Bool} {I : Nat → Nat → Int32} {J : Nat → Nat → Int64}
    (h : ((r = (nI 0) → Q (.inl (some (.int (nI 0)))) (pm_hp L fz t I J)) ∧ (¬ r = (nI 0) → pm_Ev d 195 [.ref 85, .int x2, .int (nI 0), .int (nI 2)] (pm_hp L fz t I J) (K_X11_drawn_21 d fz t Q x1 x2 x3)))) :
    K_X11_drawn_11 d fz t Q x1 x2 x3 (.inl (some (.int r))) (pm_hp L fz1 t I J) := b_X11_drawn_11 h
set_option maxRecDepth 100000 in
theorem b_X11_drawn_21 {d L : Nat} {fz t : Bool} {Q : pm_R → pm_H → Prop} {x1 : Int32} {x2 : Int32} {x3 : Int32} {r : Int32} {I : Nat → Nat → Int32} {J : Nat → Nat → Int64}
    (h : ((¬ r = (nI 0) → pm_Ev d 160 [.ref 85] (pm_hp L fz t I J) (K_X11_drawn_30 d fz t Q x1 x2 x3)) ∧ (r = (nI 0) → Q (.inl (some (.int (nI 0)))) (pm_hp L fz t I J)))) :
    t_X11_drawn_21 d L fz t Q x1 x2 x3 r I J := by
  exact pm_go d [(11, [0, 1, 2, 3]), (21, [0, 1, 2, 3]), (30, [0, 1, 2, 3]), (38, [0, 2, 3, 4]), (55, [0, 2, 3, 4]), (61, [0, 2, 3, 4]), (85, [0, 3, 4, 5]), (126, [0, 3, 4]), (129, [0, 3, 4, 5]), (155, [0, 3, 5])] 400 ⟨fun q0 => ((h).1 q0), fun q0 => ((h).2 q0)⟩
theorem kb_X11_drawn_21 {d L : Nat} {fz t : Bool} {Q : pm_R → pm_H → Prop} {x1 : Int32} {x2 : Int32} {x3 : Int32} {r : Int32} {fz1 : Bool} {I : Nat → Nat → Int32} {J : Nat → Nat → Int64}
    (h : ((¬ r = (nI 0) → pm_Ev d 160 [.ref 85] (pm_hp L fz t I J) (K_X11_drawn_30 d fz t Q x1 x2 x3)) ∧ (r = (nI 0) → Q (.inl (some (.int (nI 0)))) (pm_hp L fz t I J)))) :
    K_X11_drawn_21 d fz t Q x1 x2 x3 (.inl (some (.int r))) (pm_hp L fz1 t I J) := b_X11_drawn_21 h
set_option maxRecDepth 100000 in
theorem b_X11_drawn_30 {d L : Nat} {fz t : Bool} {Q : pm_R → pm_H → Prop} {x1 : Int32} {x2 : Int32} {x3 : Int32} {I : Nat → Nat → Int32} {J : Nat → Nat → Int64}
    (h : t_X11_drawn_38 d L fz t Q x2 x3 (nI 0) (pm_u I 85 60 x1) J) :
    t_X11_drawn_30 d L fz t Q x1 x2 x3 I J := by
  exact pm_go d [(11, [0, 1, 2, 3]), (21, [0, 1, 2, 3]), (30, [0, 1, 2, 3]), (38, [0, 2, 3, 4]), (55, [0, 2, 3, 4]), (61, [0, 2, 3, 4]), (85, [0, 3, 4, 5]), (126, [0, 3, 4]), (129, [0, 3, 4, 5]), (155, [0, 3, 5])] 400 h
theorem kb_X11_drawn_30 {d L : Nat} {fz t : Bool} {Q : pm_R → pm_H → Prop} {x1 : Int32} {x2 : Int32} {x3 : Int32} {fz1 : Bool} {I : Nat → Nat → Int32} {J : Nat → Nat → Int64}
    (h : t_X11_drawn_38 d L fz t Q x2 x3 (nI 0) (pm_u I 85 60 x1) J) :
    K_X11_drawn_30 d fz t Q x1 x2 x3 (.inl none) (pm_hp L fz1 t I J) := b_X11_drawn_30 h
set_option maxRecDepth 100000 in
theorem b_X11_drawn_38 {d L : Nat} {fz t : Bool} {Q : pm_R → pm_H → Prop} {x2 : Int32} {x3 : Int32} {x4 : Int32} {I : Nat → Nat → Int32} {J : Nat → Nat → Int64}
    (h : ((x2 ≤ x4 → ((¬ x3 = (nI 0) → t_X11_drawn_85 d L fz t Q x3 (nI 0) (nI 0) I J) ∧ (x3 = (nI 0) → Q (.inl (some (.int (I 103 35)))) (pm_hp L fz t I J)))) ∧ (¬ x2 ≤ x4 → (((I 85 2) ≤ (nI 0) → t_X11_drawn_55 d L fz t Q x2 x3 x4 I J) ∧ (¬ (I 85 2) ≤ (nI 0) → pm_Ev d 224 [.ref 85] (pm_hp L fz t I J) (K_X11_drawn_55 d fz t Q x2 x3 x4)))))) :
    t_X11_drawn_38 d L fz t Q x2 x3 x4 I J := by
  exact pm_go d [(11, [0, 1, 2, 3]), (21, [0, 1, 2, 3]), (30, [0, 1, 2, 3]), (38, [0, 2, 3, 4]), (55, [0, 2, 3, 4]), (61, [0, 2, 3, 4]), (85, [0, 3, 4, 5]), (126, [0, 3, 4]), (129, [0, 3, 4, 5]), (155, [0, 3, 5])] 400 ⟨fun q0 => ⟨fun q1 => ((((h).1 q0)).1 q1), fun q1 => ⟨(vp_in_nI (by decide : 35 < 68) (by decide) : vp_in (nI 35) 68), ((((h).1 q0)).2 q1)⟩⟩, fun q0 => ⟨fun q1 => ((((h).2 q0)).1 q1), fun q1 => ((((h).2 q0)).2 q1)⟩⟩
set_option maxRecDepth 100000 in
theorem b_X11_drawn_85 {d L : Nat} {fz t : Bool} {Q : pm_R → pm_H → Prop} {x3 : Int32} {x4 : Int32} {x5 : Int32} {I : Nat → Nat → Int32} {J : Nat → Nat → Int64}
    (h : (((I 85 2) ≤ x5 → pm_Ev d 169 [.ref 85, .int (nI 34)] (pm_hp L fz t I J) (K_X11_drawn_126 d fz t Q x3 x4)) ∧ (¬ (I 85 2) ≤ x5 → ((¬ x3 = (nI 1) → pm_Ev d 169 [.ref 85, .int (nI 34)] (pm_hp L fz t I J) (K_X11_drawn_126 d fz t Q x3 x4)) ∧ (x3 = (nI 1) → (vp_in ((nI 46) + x5) 68 ∧ t_X11_drawn_85 d L fz t Q x3 (x4 + (I 103 (((nI 46) + x5)).toNatClampNeg)) (x5 + (nI 1)) I J)))))) :
    t_X11_drawn_85 d L fz t Q x3 x4 x5 I J := by
  exact pm_go d [(11, [0, 1, 2, 3]), (21, [0, 1, 2, 3]), (30, [0, 1, 2, 3]), (38, [0, 2, 3, 4]), (55, [0, 2, 3, 4]), (61, [0, 2, 3, 4]), (85, [0, 3, 4, 5]), (126, [0, 3, 4]), (129, [0, 3, 4, 5]), (155, [0, 3, 5])] 400 ⟨fun q0 => ((h).1 q0), fun q0 => ⟨fun q1 => ((((h).2 q0)).1 q1), fun q1 => ⟨(((((h).2 q0)).2 q1)).1, (((((h).2 q0)).2 q1)).2⟩⟩⟩
set_option maxRecDepth 100000 in
theorem b_X11_drawn_55 {d L : Nat} {fz t : Bool} {Q : pm_R → pm_H → Prop} {x2 : Int32} {x3 : Int32} {x4 : Int32} {I : Nat → Nat → Int32} {J : Nat → Nat → Int64}
    (h : pm_Ev d 174 [.ref 85, .int (nI 34)] (pm_hp L fz t I J) (K_X11_drawn_61 d fz t Q x2 x3 x4)) :
    t_X11_drawn_55 d L fz t Q x2 x3 x4 I J := by
  exact pm_go d [(11, [0, 1, 2, 3]), (21, [0, 1, 2, 3]), (30, [0, 1, 2, 3]), (38, [0, 2, 3, 4]), (55, [0, 2, 3, 4]), (61, [0, 2, 3, 4]), (85, [0, 3, 4, 5]), (126, [0, 3, 4]), (129, [0, 3, 4, 5]), (155, [0, 3, 5])] 400 h
theorem kb_X11_drawn_55 {d L : Nat} {fz t : Bool} {Q : pm_R → pm_H → Prop} {x2 : Int32} {x3 : Int32} {x4 : Int32} {fz1 : Bool} {I : Nat → Nat → Int32} {J : Nat → Nat → Int64}
    (h : pm_Ev d 174 [.ref 85, .int (nI 34)] (pm_hp L fz t I J) (K_X11_drawn_61 d fz t Q x2 x3 x4)) :
    K_X11_drawn_55 d fz t Q x2 x3 x4 (.inl none) (pm_hp L fz1 t I J) := b_X11_drawn_55 h
set_option maxRecDepth 100000 in
theorem b_X11_drawn_126 {d L : Nat} {fz t : Bool} {Q : pm_R → pm_H → Prop} {x3 : Int32} {x4 : Int32} {I : Nat → Nat → Int32} {J : Nat → Nat → Int64}
    (h : t_X11_drawn_129 d L fz t Q x3 x4 (nI 0) I J) :
    t_X11_drawn_126 d L fz t Q x3 x4 I J := by
  exact pm_go d [(11, [0, 1, 2, 3]), (21, [0, 1, 2, 3]), (30, [0, 1, 2, 3]), (38, [0, 2, 3, 4]), (55, [0, 2, 3, 4]), (61, [0, 2, 3, 4]), (85, [0, 3, 4, 5]), (126, [0, 3, 4]), (129, [0, 3, 4, 5]), (155, [0, 3, 5])] 400 h
theorem kb_X11_drawn_126 {d L : Nat} {fz t : Bool} {Q : pm_R → pm_H → Prop} {x3 : Int32} {x4 : Int32} {fz1 : Bool} {I : Nat → Nat → Int32} {J : Nat → Nat → Int64}
    (h : t_X11_drawn_129 d L fz t Q x3 x4 (nI 0) I J) :
    K_X11_drawn_126 d fz t Q x3 x4 (.inl none) (pm_hp L fz1 t I J) := b_X11_drawn_126 h
set_option maxRecDepth 100000 in
theorem b_X11_drawn_61 {d L : Nat} {fz t : Bool} {Q : pm_R → pm_H → Prop} {x2 : Int32} {x3 : Int32} {x4 : Int32} {I : Nat → Nat → Int32} {J : Nat → Nat → Int64}
    (h : t_X11_drawn_38 d L fz t Q x2 x3 (x4 + (nI 1)) I J) :
    t_X11_drawn_61 d L fz t Q x2 x3 x4 I J := by
  exact pm_go d [(11, [0, 1, 2, 3]), (21, [0, 1, 2, 3]), (30, [0, 1, 2, 3]), (38, [0, 2, 3, 4]), (55, [0, 2, 3, 4]), (61, [0, 2, 3, 4]), (85, [0, 3, 4, 5]), (126, [0, 3, 4]), (129, [0, 3, 4, 5]), (155, [0, 3, 5])] 400 h
theorem kb_X11_drawn_61 {d L : Nat} {fz t : Bool} {Q : pm_R → pm_H → Prop} {x2 : Int32} {x3 : Int32} {x4 : Int32} {fz1 : Bool} {I : Nat → Nat → Int32} {J : Nat → Nat → Int64}
    (h : t_X11_drawn_38 d L fz t Q x2 x3 (x4 + (nI 1)) I J) :
    K_X11_drawn_61 d fz t Q x2 x3 x4 (.inl none) (pm_hp L fz1 t I J) := b_X11_drawn_61 h
set_option maxRecDepth 100000 in
theorem b_X11_drawn_129 {d L : Nat} {fz t : Bool} {Q : pm_R → pm_H → Prop} {x3 : Int32} {x4 : Int32} {x5 : Int32} {I : Nat → Nat → Int32} {J : Nat → Nat → Int64}
    (h : (((I 85 3) ≤ x5 → Q (.inl (some (.int x4))) (pm_hp L fz t I J)) ∧ (¬ (I 85 3) ≤ x5 → ((¬ x3 = (nI 2) → Q (.inl (some (.int x4))) (pm_hp L fz t I J)) ∧ (x3 = (nI 2) → (vp_in x5 12 ∧ pm_Ev d 123 [.int (I 107 (x5).toNatClampNeg)] (pm_hp L fz t I J) (K_X11_drawn_155 d fz t Q x3 x5 x4))))))) :
    t_X11_drawn_129 d L fz t Q x3 x4 x5 I J := by
  exact pm_go d [(11, [0, 1, 2, 3]), (21, [0, 1, 2, 3]), (30, [0, 1, 2, 3]), (38, [0, 2, 3, 4]), (55, [0, 2, 3, 4]), (61, [0, 2, 3, 4]), (85, [0, 3, 4, 5]), (126, [0, 3, 4]), (129, [0, 3, 4, 5]), (155, [0, 3, 5])] 400 ⟨fun q0 => ((h).1 q0), fun q0 => ⟨fun q1 => ((((h).2 q0)).1 q1), fun q1 => ⟨(((((h).2 q0)).2 q1)).1, (((((h).2 q0)).2 q1)).2⟩⟩⟩
set_option maxRecDepth 100000 in
theorem b_X11_drawn_155 {d L : Nat} {fz t : Bool} {Q : pm_R → pm_H → Prop} {x3 : Int32} {x5 : Int32} {s0 : Int32} {r : Int32} {I : Nat → Nat → Int32} {J : Nat → Nat → Int64}
    (h : t_X11_drawn_129 d L fz t Q x3 (s0 + r) (x5 + (nI 1)) I J) :
    t_X11_drawn_155 d L fz t Q x3 x5 s0 r I J := by
  exact pm_go d [(11, [0, 1, 2, 3]), (21, [0, 1, 2, 3]), (30, [0, 1, 2, 3]), (38, [0, 2, 3, 4]), (55, [0, 2, 3, 4]), (61, [0, 2, 3, 4]), (85, [0, 3, 4, 5]), (126, [0, 3, 4]), (129, [0, 3, 4, 5]), (155, [0, 3, 5])] 400 h
theorem kb_X11_drawn_155 {d L : Nat} {fz t : Bool} {Q : pm_R → pm_H → Prop} {x3 : Int32} {x5 : Int32} {s0 : Int32} {r : Int32} {fz1 : Bool} {I : Nat → Nat → Int32} {J : Nat → Nat → Int64}
    (h : t_X11_drawn_129 d L fz t Q x3 (s0 + r) (x5 + (nI 1)) I J) :
    K_X11_drawn_155 d fz t Q x3 x5 s0 (.inl (some (.int r))) (pm_hp L fz1 t I J) := b_X11_drawn_155 h
def t_X11_gap_0 (d L : Nat) (fz t : Bool) (Q : pm_R → pm_H → Prop) (x1 : Int32) (x2 : Int32) (I : Nat → Nat → Int32) (J : Nat → Nat → Int64) : Prop := pm_T (pm_Ev d) 226 Q (0, [(0, .ref 85), (1, .int x1), (2, .int x2)], [], pm_hp L fz t I J, 0, 0)
def t_X11_gap_10 (d L : Nat) (fz t : Bool) (Q : pm_R → pm_H → Prop) (x1 : Int32) (x2 : Int32) (r : Int32) (I : Nat → Nat → Int32) (J : Nat → Nat → Int64) : Prop := pm_T (pm_Ev d) 226 Q (10, [(0, .ref 85), (1, .int x1), (2, .int x2)], [.int r], pm_hp L fz t I J, 0, 0)
def K_X11_gap_10 (d : Nat) (fz t : Bool) (Q : pm_R → pm_H → Prop) (x1 : Int32) (x2 : Int32) : pm_R → pm_H → Prop := pm_K d 226 Q 10 [(0, .ref 85), (1, .int x1), (2, .int x2)] [] 118 0 fz 0 0
def t_X11_gap_19 (d L : Nat) (fz t : Bool) (Q : pm_R → pm_H → Prop) (x1 : Int32) (x2 : Int32) (r : Int32) (I : Nat → Nat → Int32) (J : Nat → Nat → Int64) : Prop := pm_T (pm_Ev d) 226 Q (19, [(0, .ref 85), (1, .int x1), (2, .int x2)], [.int r], pm_hp L fz t I J, 0, 0)
def K_X11_gap_19 (d : Nat) (fz t : Bool) (Q : pm_R → pm_H → Prop) (x1 : Int32) (x2 : Int32) : pm_R → pm_H → Prop := pm_K d 226 Q 19 [(0, .ref 85), (1, .int x1), (2, .int x2)] [] 118 0 fz 0 0
def t_X11_gap_29 (d L : Nat) (fz t : Bool) (Q : pm_R → pm_H → Prop) (x1 : Int32) (x2 : Int32) (I : Nat → Nat → Int32) (J : Nat → Nat → Int64) : Prop := pm_T (pm_Ev d) 226 Q (29, [(0, .ref 85), (1, .int x1), (2, .int x2)], [], pm_hp L fz t I J, 0, 0)
def K_X11_gap_29 (d : Nat) (fz t : Bool) (Q : pm_R → pm_H → Prop) (x1 : Int32) (x2 : Int32) : pm_R → pm_H → Prop := pm_K d 226 Q 29 [(0, .ref 85), (1, .int x1), (2, .int x2)] [] 118 0 fz 0 0
def t_X11_gap_40 (d L : Nat) (fz t : Bool) (Q : pm_R → pm_H → Prop) (x1 : Int32) (x2 : Int32) (x3 : Int32) (x4 : Int32) (x5 : Int32) (x6 : Int32) (I : Nat → Nat → Int32) (J : Nat → Nat → Int64) : Prop := pm_T (pm_Ev d) 226 Q (40, [(0, .ref 85), (1, .int x1), (2, .int x2), (3, .int x3), (4, .int x4), (5, .int x5), (6, .int x6)], [], pm_hp L fz t I J, 0, 0)
set_option maxRecDepth 100000 in
theorem b_X11_gap_0 {d L : Nat} {fz t : Bool} {Q : pm_R → pm_H → Prop} {x1 : Int32} {x2 : Int32} {I : Nat → Nat → Int32} {J : Nat → Nat → Int64}
    (h : pm_Ev d 181 [.ref 85, .int x1] (pm_hp L fz t (pm_u I 85 0 (nI 0)) J) (K_X11_gap_10 d fz t Q x1 x2)) :
    t_X11_gap_0 d L fz t Q x1 x2 I J := by
  exact pm_go d [(10, [0, 1, 2]), (19, [0, 1, 2]), (29, [0, 1, 2]), (40, [0, 1, 2, 3, 4, 5, 6])] 400 h
theorem e_X11_gap {d L : Nat} {fz t : Bool} {Q : pm_R → pm_H → Prop} {x1 : Int32} {x2 : Int32} {I : Nat → Nat → Int32} {J : Nat → Nat → Int64}
    (h : pm_Ev d 181 [.ref 85, .int x1] (pm_hp L fz t (pm_u I 85 0 (nI 0)) J) (K_X11_gap_10 d fz t Q x1 x2)) :
    pm_Ev (d + 1) 226 [.ref 85, .int x1, .int x2] (pm_hp L fz t I J) Q := pm_Ev_in rfl (b_X11_gap_0 h)
set_option maxRecDepth 100000 in
theorem b_X11_gap_10 {d L : Nat} {fz t : Bool} {Q : pm_R → pm_H → Prop} {x1 : Int32} {x2 : Int32} {r : Int32} {I : Nat → Nat → Int32} {J : Nat → Nat → Int64}
    (h : ((r = (nI 0) → Q (.inl (some (.int (nI 0)))) (pm_hp L fz t I J)) ∧ (¬ r = (nI 0) → pm_Ev d 183 [.ref 85, .int x2, .int (nI 1)] (pm_hp L fz t I J) (K_X11_gap_19 d fz t Q x1 x2)))) :
    t_X11_gap_10 d L fz t Q x1 x2 r I J := by
  exact pm_go d [(10, [0, 1, 2]), (19, [0, 1, 2]), (29, [0, 1, 2]), (40, [0, 1, 2, 3, 4, 5, 6])] 400 ⟨fun q0 => ((h).1 q0), fun q0 => ((h).2 q0)⟩
theorem kb_X11_gap_10 {d L : Nat} {fz t : Bool} {Q : pm_R → pm_H → Prop} {x1 : Int32} {x2 : Int32} {r : Int32} {fz1 : Bool} {I : Nat → Nat → Int32} {J : Nat → Nat → Int64}
    (h : ((r = (nI 0) → Q (.inl (some (.int (nI 0)))) (pm_hp L fz t I J)) ∧ (¬ r = (nI 0) → pm_Ev d 183 [.ref 85, .int x2, .int (nI 1)] (pm_hp L fz t I J) (K_X11_gap_19 d fz t Q x1 x2)))) :
    K_X11_gap_10 d fz t Q x1 x2 (.inl (some (.int r))) (pm_hp L fz1 t I J) := b_X11_gap_10 h
set_option maxRecDepth 100000 in
theorem b_X11_gap_19 {d L : Nat} {fz t : Bool} {Q : pm_R → pm_H → Prop} {x1 : Int32} {x2 : Int32} {r : Int32} {I : Nat → Nat → Int32} {J : Nat → Nat → Int64}
    (h : ((¬ r = (nI 0) → pm_Ev d 169 [.ref 85, .int (nI 0)] (pm_hp L fz t I J) (K_X11_gap_29 d fz t Q x1 x2)) ∧ (r = (nI 0) → Q (.inl (some (.int (nI 0)))) (pm_hp L fz t I J)))) :
    t_X11_gap_19 d L fz t Q x1 x2 r I J := by
  exact pm_go d [(10, [0, 1, 2]), (19, [0, 1, 2]), (29, [0, 1, 2]), (40, [0, 1, 2, 3, 4, 5, 6])] 400 ⟨fun q0 => ((h).1 q0), fun q0 => ((h).2 q0)⟩
theorem kb_X11_gap_19 {d L : Nat} {fz t : Bool} {Q : pm_R → pm_H → Prop} {x1 : Int32} {x2 : Int32} {r : Int32} {fz1 : Bool} {I : Nat → Nat → Int32} {J : Nat → Nat → Int64}
    (h : ((¬ r = (nI 0) → pm_Ev d 169 [.ref 85, .int (nI 0)] (pm_hp L fz t I J) (K_X11_gap_29 d fz t Q x1 x2)) ∧ (r = (nI 0) → Q (.inl (some (.int (nI 0)))) (pm_hp L fz t I J)))) :
    K_X11_gap_19 d fz t Q x1 x2 (.inl (some (.int r))) (pm_hp L fz1 t I J) := b_X11_gap_19 h
set_option maxRecDepth 100000 in
theorem b_X11_gap_29 {d L : Nat} {fz t : Bool} {Q : pm_R → pm_H → Prop} {x1 : Int32} {x2 : Int32} {I : Nat → Nat → Int32} {J : Nat → Nat → Int64}
    (h : t_X11_gap_40 d L fz t Q x1 x2 (-1 : Int32) (nI 0) (nI 0) (nI 0) I J) :
    t_X11_gap_29 d L fz t Q x1 x2 I J := by
  exact pm_go d [(10, [0, 1, 2]), (19, [0, 1, 2]), (29, [0, 1, 2]), (40, [0, 1, 2, 3, 4, 5, 6])] 400 h
theorem kb_X11_gap_29 {d L : Nat} {fz t : Bool} {Q : pm_R → pm_H → Prop} {x1 : Int32} {x2 : Int32} {fz1 : Bool} {I : Nat → Nat → Int32} {J : Nat → Nat → Int64}
    (h : t_X11_gap_40 d L fz t Q x1 x2 (-1 : Int32) (nI 0) (nI 0) (nI 0) I J) :
    K_X11_gap_29 d fz t Q x1 x2 (.inl none) (pm_hp L fz1 t I J) := b_X11_gap_29 h
set_option maxRecDepth 100000 in
theorem b_X11_gap_40 {d L : Nat} {fz t : Bool} {Q : pm_R → pm_H → Prop} {x1 : Int32} {x2 : Int32} {x3 : Int32} {x4 : Int32} {x5 : Int32} {x6 : Int32} {I : Nat → Nat → Int32} {J : Nat → Nat → Int64}
    (h : (((I 85 1) ≤ x6 → ((¬ x2 = (nI 0) → Q (.inl (some (.int x3))) (pm_hp L fz t I J)) ∧ (x2 = (nI 0) → Q (.inl (some (.int x4))) (pm_hp L fz t I J)))) ∧ (¬ (I 85 1) ≤ x6 → (vp_in x1 12 ∧ ((¬ (((I 107 (x1).toNatClampNeg) >>> (x6 &&& 31)) &&& (nI 1)) = (nI 0) → ((x4 < (nI 0) → t_X11_gap_40 d L fz t Q x1 x2 ((x6 - (nI 0)) + (nI 1)) (nI 0) (nI 0) (x6 + (nI 1)) I J) ∧ (¬ x4 < (nI 0) → t_X11_gap_40 d L fz t Q x1 x2 x3 x4 (nI 0) (x6 + (nI 1)) I J))) ∧ ((((I 107 (x1).toNatClampNeg) >>> (x6 &&& 31)) &&& (nI 1)) = (nI 0) → ((x4 < (x5 + (nI 1)) → t_X11_gap_40 d L fz t Q x1 x2 ((x6 - (x5 + (nI 1))) + (nI 1)) (x5 + (nI 1)) (x5 + (nI 1)) (x6 + (nI 1)) I J) ∧ (¬ x4 < (x5 + (nI 1)) → t_X11_gap_40 d L fz t Q x1 x2 x3 x4 (x5 + (nI 1)) (x6 + (nI 1)) I J)))))))) :
    t_X11_gap_40 d L fz t Q x1 x2 x3 x4 x5 x6 I J := by
  exact pm_go d [(10, [0, 1, 2]), (19, [0, 1, 2]), (29, [0, 1, 2]), (40, [0, 1, 2, 3, 4, 5, 6])] 400 ⟨fun q0 => ⟨fun q1 => ((((h).1 q0)).1 q1), fun q1 => ((((h).1 q0)).2 q1)⟩, fun q0 => ⟨(((h).2 q0)).1, ⟨fun q1 => ⟨fun q2 => (((((((h).2 q0)).2).1 q1)).1 q2), fun q2 => (((((((h).2 q0)).2).1 q1)).2 q2)⟩, fun q1 => ⟨fun q2 => (((((((h).2 q0)).2).2 q1)).1 q2), fun q2 => (((((((h).2 q0)).2).2 q1)).2 q2)⟩⟩⟩⟩
def t_X11_unlike_0 (d L : Nat) (fz t : Bool) (Q : pm_R → pm_H → Prop) (x1 : Int32) (x2 : Int32) (I : Nat → Nat → Int32) (J : Nat → Nat → Int64) : Prop := pm_T (pm_Ev d) 227 Q (0, [(0, .ref 85), (1, .int x1), (2, .int x2)], [], pm_hp L fz t I J, 0, 0)
def t_X11_unlike_10 (d L : Nat) (fz t : Bool) (Q : pm_R → pm_H → Prop) (x1 : Int32) (x2 : Int32) (r : Int32) (I : Nat → Nat → Int32) (J : Nat → Nat → Int64) : Prop := pm_T (pm_Ev d) 227 Q (10, [(0, .ref 85), (1, .int x1), (2, .int x2)], [.int r], pm_hp L fz t I J, 0, 0)
def K_X11_unlike_10 (d : Nat) (fz t : Bool) (Q : pm_R → pm_H → Prop) (x1 : Int32) (x2 : Int32) : pm_R → pm_H → Prop := pm_K d 227 Q 10 [(0, .ref 85), (1, .int x1), (2, .int x2)] [] 118 0 fz 0 0
def t_X11_unlike_18 (d L : Nat) (fz t : Bool) (Q : pm_R → pm_H → Prop) (x1 : Int32) (x2 : Int32) (r : Int32) (I : Nat → Nat → Int32) (J : Nat → Nat → Int64) : Prop := pm_T (pm_Ev d) 227 Q (18, [(0, .ref 85), (1, .int x1), (2, .int x2)], [.int r], pm_hp L fz t I J, 0, 0)
def K_X11_unlike_18 (d : Nat) (fz t : Bool) (Q : pm_R → pm_H → Prop) (x1 : Int32) (x2 : Int32) : pm_R → pm_H → Prop := pm_K d 227 Q 18 [(0, .ref 85), (1, .int x1), (2, .int x2)] [] 118 0 fz 0 0
def t_X11_unlike_29 (d L : Nat) (fz t : Bool) (Q : pm_R → pm_H → Prop) (x1 : Int32) (x2 : Int32) (r : Int32) (I : Nat → Nat → Int32) (J : Nat → Nat → Int64) : Prop := pm_T (pm_Ev d) 227 Q (29, [(0, .ref 85), (1, .int x1), (2, .int x2)], [.int r], pm_hp L fz t I J, 0, 0)
def K_X11_unlike_29 (d : Nat) (fz t : Bool) (Q : pm_R → pm_H → Prop) (x1 : Int32) (x2 : Int32) : pm_R → pm_H → Prop := pm_K d 227 Q 29 [(0, .ref 85), (1, .int x1), (2, .int x2)] [] 118 0 fz 0 0
def t_X11_unlike_35 (d L : Nat) (fz t : Bool) (Q : pm_R → pm_H → Prop) (x1 : Int32) (x2 : Int32) (s0 : Int32) (r : Int32) (I : Nat → Nat → Int32) (J : Nat → Nat → Int64) : Prop := pm_T (pm_Ev d) 227 Q (35, [(0, .ref 85), (1, .int x1), (2, .int x2)], [.int r, .int s0], pm_hp L fz t I J, 0, 0)
def K_X11_unlike_35 (d : Nat) (fz t : Bool) (Q : pm_R → pm_H → Prop) (x1 : Int32) (x2 : Int32) (s0 : Int32) : pm_R → pm_H → Prop := pm_K d 227 Q 35 [(0, .ref 85), (1, .int x1), (2, .int x2)] [.int s0] 118 0 fz 0 0
def t_X11_unlike_39 (d L : Nat) (fz t : Bool) (Q : pm_R → pm_H → Prop) (x1 : Int32) (x2 : Int32) (r : Int32) (I : Nat → Nat → Int32) (J : Nat → Nat → Int64) : Prop := pm_T (pm_Ev d) 227 Q (39, [(0, .ref 85), (1, .int x1), (2, .int x2)], [.int r], pm_hp L fz t I J, 0, 0)
def K_X11_unlike_39 (d : Nat) (fz t : Bool) (Q : pm_R → pm_H → Prop) (x1 : Int32) (x2 : Int32) : pm_R → pm_H → Prop := pm_K d 227 Q 39 [(0, .ref 85), (1, .int x1), (2, .int x2)] [] 118 0 fz 0 0
def t_X11_unlike_46 (d L : Nat) (fz t : Bool) (Q : pm_R → pm_H → Prop) (x2 : Int32) (s0 : Int32) (r : Int32) (I : Nat → Nat → Int32) (J : Nat → Nat → Int64) : Prop := pm_T (pm_Ev d) 227 Q (46, [(0, .ref 85), (2, .int x2)], [.int r, .ref 85, .int s0], pm_hp L fz t I J, 0, 0)
def K_X11_unlike_46 (d : Nat) (fz t : Bool) (Q : pm_R → pm_H → Prop) (x2 : Int32) (s0 : Int32) : pm_R → pm_H → Prop := pm_K d 227 Q 46 [(0, .ref 85), (2, .int x2)] [.ref 85, .int s0] 118 0 fz 0 0
def t_X11_unlike_49 (d L : Nat) (fz t : Bool) (Q : pm_R → pm_H → Prop) (x2 : Int32) (s0 : Int32) (r : Int32) (I : Nat → Nat → Int32) (J : Nat → Nat → Int64) : Prop := pm_T (pm_Ev d) 227 Q (49, [(0, .ref 85), (2, .int x2)], [.int r, .int s0], pm_hp L fz t I J, 0, 0)
def K_X11_unlike_49 (d : Nat) (fz t : Bool) (Q : pm_R → pm_H → Prop) (x2 : Int32) (s0 : Int32) : pm_R → pm_H → Prop := pm_K d 227 Q 49 [(0, .ref 85), (2, .int x2)] [.int s0] 118 0 fz 0 0
def t_X11_unlike_55 (d L : Nat) (fz t : Bool) (Q : pm_R → pm_H → Prop) (s0 : Int32) (s1 : Int32) (r : Int32) (I : Nat → Nat → Int32) (J : Nat → Nat → Int64) : Prop := pm_T (pm_Ev d) 227 Q (55, [], [.int r, .int s1, .int s0], pm_hp L fz t I J, 0, 0)
def K_X11_unlike_55 (d : Nat) (fz t : Bool) (Q : pm_R → pm_H → Prop) (s0 : Int32) (s1 : Int32) : pm_R → pm_H → Prop := pm_K d 227 Q 55 [] [.int s1, .int s0] 118 0 fz 0 0
def t_X11_unlike_59 (d L : Nat) (fz t : Bool) (Q : pm_R → pm_H → Prop) (s0 : Int32) (r : Int32) (I : Nat → Nat → Int32) (J : Nat → Nat → Int64) : Prop := pm_T (pm_Ev d) 227 Q (59, [], [.int r, .int s0], pm_hp L fz t I J, 0, 0)
def K_X11_unlike_59 (d : Nat) (fz t : Bool) (Q : pm_R → pm_H → Prop) (s0 : Int32) : pm_R → pm_H → Prop := pm_K d 227 Q 59 [] [.int s0] 118 0 fz 0 0
def t_X11_unlike_62 (d L : Nat) (fz t : Bool) (Q : pm_R → pm_H → Prop) (r : Int32) (I : Nat → Nat → Int32) (J : Nat → Nat → Int64) : Prop := pm_T (pm_Ev d) 227 Q (62, [], [.int r], pm_hp L fz t I J, 0, 0)
def K_X11_unlike_62 (d : Nat) (fz t : Bool) (Q : pm_R → pm_H → Prop) : pm_R → pm_H → Prop := pm_K d 227 Q 62 [] [] 118 0 fz 0 0
set_option maxRecDepth 100000 in
theorem b_X11_unlike_0 {d L : Nat} {fz t : Bool} {Q : pm_R → pm_H → Prop} {x1 : Int32} {x2 : Int32} {I : Nat → Nat → Int32} {J : Nat → Nat → Int64}
    (h : pm_Ev d 180 [.ref 85, .int x1] (pm_hp L fz t (pm_u I 85 0 (nI 0)) J) (K_X11_unlike_10 d fz t Q x1 x2)) :
    t_X11_unlike_0 d L fz t Q x1 x2 I J := by
  exact pm_go d [(10, [0, 1, 2]), (18, [0, 1, 2]), (29, [0, 1, 2]), (35, [0, 1, 2]), (39, [0, 1, 2]), (46, [0, 2]), (49, [0, 2]), (55, []), (59, []), (62, [])] 400 h
theorem e_X11_unlike {d L : Nat} {fz t : Bool} {Q : pm_R → pm_H → Prop} {x1 : Int32} {x2 : Int32} {I : Nat → Nat → Int32} {J : Nat → Nat → Int64}
    (h : pm_Ev d 180 [.ref 85, .int x1] (pm_hp L fz t (pm_u I 85 0 (nI 0)) J) (K_X11_unlike_10 d fz t Q x1 x2)) :
    pm_Ev (d + 1) 227 [.ref 85, .int x1, .int x2] (pm_hp L fz t I J) Q := pm_Ev_in rfl (b_X11_unlike_0 h)
set_option maxRecDepth 100000 in
theorem b_X11_unlike_10 {d L : Nat} {fz t : Bool} {Q : pm_R → pm_H → Prop} {x1 : Int32} {x2 : Int32} {r : Int32} {I : Nat → Nat → Int32} {J : Nat → Nat → Int64}
    (h : ((r = (nI 0) → Q (.inl (some (.int (nI 0)))) (pm_hp L fz t I J)) ∧ (¬ r = (nI 0) → pm_Ev d 180 [.ref 85, .int x2] (pm_hp L fz t I J) (K_X11_unlike_18 d fz t Q x1 x2)))) :
    t_X11_unlike_10 d L fz t Q x1 x2 r I J := by
  exact pm_go d [(10, [0, 1, 2]), (18, [0, 1, 2]), (29, [0, 1, 2]), (35, [0, 1, 2]), (39, [0, 1, 2]), (46, [0, 2]), (49, [0, 2]), (55, []), (59, []), (62, [])] 400 ⟨fun q0 => ((h).1 q0), fun q0 => ((h).2 q0)⟩
theorem kb_X11_unlike_10 {d L : Nat} {fz t : Bool} {Q : pm_R → pm_H → Prop} {x1 : Int32} {x2 : Int32} {r : Int32} {fz1 : Bool} {I : Nat → Nat → Int32} {J : Nat → Nat → Int64}
    (h : ((r = (nI 0) → Q (.inl (some (.int (nI 0)))) (pm_hp L fz t I J)) ∧ (¬ r = (nI 0) → pm_Ev d 180 [.ref 85, .int x2] (pm_hp L fz t I J) (K_X11_unlike_18 d fz t Q x1 x2)))) :
    K_X11_unlike_10 d fz t Q x1 x2 (.inl (some (.int r))) (pm_hp L fz1 t I J) := b_X11_unlike_10 h
set_option maxRecDepth 100000 in
theorem b_X11_unlike_18 {d L : Nat} {fz t : Bool} {Q : pm_R → pm_H → Prop} {x1 : Int32} {x2 : Int32} {r : Int32} {I : Nat → Nat → Int32} {J : Nat → Nat → Int64}
    (h : ((¬ r = (nI 0) → pm_Ev d 164 [.ref 85, .int (nI 0), .int x1] (pm_hp L fz t I J) (K_X11_unlike_29 d fz t Q x1 x2)) ∧ (r = (nI 0) → Q (.inl (some (.int (nI 0)))) (pm_hp L fz t I J)))) :
    t_X11_unlike_18 d L fz t Q x1 x2 r I J := by
  exact pm_go d [(10, [0, 1, 2]), (18, [0, 1, 2]), (29, [0, 1, 2]), (35, [0, 1, 2]), (39, [0, 1, 2]), (46, [0, 2]), (49, [0, 2]), (55, []), (59, []), (62, [])] 400 ⟨fun q0 => ((h).1 q0), fun q0 => ((h).2 q0)⟩
theorem kb_X11_unlike_18 {d L : Nat} {fz t : Bool} {Q : pm_R → pm_H → Prop} {x1 : Int32} {x2 : Int32} {r : Int32} {fz1 : Bool} {I : Nat → Nat → Int32} {J : Nat → Nat → Int64}
    (h : ((¬ r = (nI 0) → pm_Ev d 164 [.ref 85, .int (nI 0), .int x1] (pm_hp L fz t I J) (K_X11_unlike_29 d fz t Q x1 x2)) ∧ (r = (nI 0) → Q (.inl (some (.int (nI 0)))) (pm_hp L fz t I J)))) :
    K_X11_unlike_18 d fz t Q x1 x2 (.inl (some (.int r))) (pm_hp L fz1 t I J) := b_X11_unlike_18 h
set_option maxRecDepth 100000 in
theorem b_X11_unlike_29 {d L : Nat} {fz t : Bool} {Q : pm_R → pm_H → Prop} {x1 : Int32} {x2 : Int32} {r : Int32} {I : Nat → Nat → Int32} {J : Nat → Nat → Int64}
    (h : pm_Ev d 164 [.ref 85, .int (nI 0), .int x2] (pm_hp L fz t I J) (K_X11_unlike_35 d fz t Q x1 x2 r)) :
    t_X11_unlike_29 d L fz t Q x1 x2 r I J := by
  exact pm_go d [(10, [0, 1, 2]), (18, [0, 1, 2]), (29, [0, 1, 2]), (35, [0, 1, 2]), (39, [0, 1, 2]), (46, [0, 2]), (49, [0, 2]), (55, []), (59, []), (62, [])] 400 h
theorem kb_X11_unlike_29 {d L : Nat} {fz t : Bool} {Q : pm_R → pm_H → Prop} {x1 : Int32} {x2 : Int32} {r : Int32} {fz1 : Bool} {I : Nat → Nat → Int32} {J : Nat → Nat → Int64}
    (h : pm_Ev d 164 [.ref 85, .int (nI 0), .int x2] (pm_hp L fz t I J) (K_X11_unlike_35 d fz t Q x1 x2 r)) :
    K_X11_unlike_29 d fz t Q x1 x2 (.inl (some (.int r))) (pm_hp L fz1 t I J) := b_X11_unlike_29 h
set_option maxRecDepth 100000 in
theorem b_X11_unlike_35 {d L : Nat} {fz t : Bool} {Q : pm_R → pm_H → Prop} {x1 : Int32} {x2 : Int32} {s0 : Int32} {r : Int32} {I : Nat → Nat → Int32} {J : Nat → Nat → Int64}
    (h : pm_Ev d 123 [.int (s0 ^^^ r)] (pm_hp L fz t I J) (K_X11_unlike_39 d fz t Q x1 x2)) :
    t_X11_unlike_35 d L fz t Q x1 x2 s0 r I J := by
  exact pm_go d [(10, [0, 1, 2]), (18, [0, 1, 2]), (29, [0, 1, 2]), (35, [0, 1, 2]), (39, [0, 1, 2]), (46, [0, 2]), (49, [0, 2]), (55, []), (59, []), (62, [])] 400 h
theorem kb_X11_unlike_35 {d L : Nat} {fz t : Bool} {Q : pm_R → pm_H → Prop} {x1 : Int32} {x2 : Int32} {s0 : Int32} {r : Int32} {fz1 : Bool} {I : Nat → Nat → Int32} {J : Nat → Nat → Int64}
    (h : pm_Ev d 123 [.int (s0 ^^^ r)] (pm_hp L fz t I J) (K_X11_unlike_39 d fz t Q x1 x2)) :
    K_X11_unlike_35 d fz t Q x1 x2 s0 (.inl (some (.int r))) (pm_hp L fz1 t I J) := b_X11_unlike_35 h
set_option maxRecDepth 100000 in
theorem b_X11_unlike_39 {d L : Nat} {fz t : Bool} {Q : pm_R → pm_H → Prop} {x1 : Int32} {x2 : Int32} {r : Int32} {I : Nat → Nat → Int32} {J : Nat → Nat → Int64}
    (h : pm_Ev d 164 [.ref 85, .int (nI 0), .int x1] (pm_hp L fz t I J) (K_X11_unlike_46 d fz t Q x2 r)) :
    t_X11_unlike_39 d L fz t Q x1 x2 r I J := by
  exact pm_go d [(10, [0, 1, 2]), (18, [0, 1, 2]), (29, [0, 1, 2]), (35, [0, 1, 2]), (39, [0, 1, 2]), (46, [0, 2]), (49, [0, 2]), (55, []), (59, []), (62, [])] 400 h
theorem kb_X11_unlike_39 {d L : Nat} {fz t : Bool} {Q : pm_R → pm_H → Prop} {x1 : Int32} {x2 : Int32} {r : Int32} {fz1 : Bool} {I : Nat → Nat → Int32} {J : Nat → Nat → Int64}
    (h : pm_Ev d 164 [.ref 85, .int (nI 0), .int x1] (pm_hp L fz t I J) (K_X11_unlike_46 d fz t Q x2 r)) :
    K_X11_unlike_39 d fz t Q x1 x2 (.inl (some (.int r))) (pm_hp L fz1 t I J) := b_X11_unlike_39 h
set_option maxRecDepth 100000 in
theorem b_X11_unlike_46 {d L : Nat} {fz t : Bool} {Q : pm_R → pm_H → Prop} {x2 : Int32} {s0 : Int32} {r : Int32} {I : Nat → Nat → Int32} {J : Nat → Nat → Int64}
    (h : pm_Ev d 190 [.ref 85, .int r] (pm_hp L fz t I J) (K_X11_unlike_49 d fz t Q x2 s0)) :
    t_X11_unlike_46 d L fz t Q x2 s0 r I J := by
  exact pm_go d [(10, [0, 1, 2]), (18, [0, 1, 2]), (29, [0, 1, 2]), (35, [0, 1, 2]), (39, [0, 1, 2]), (46, [0, 2]), (49, [0, 2]), (55, []), (59, []), (62, [])] 400 h
theorem kb_X11_unlike_46 {d L : Nat} {fz t : Bool} {Q : pm_R → pm_H → Prop} {x2 : Int32} {s0 : Int32} {r : Int32} {fz1 : Bool} {I : Nat → Nat → Int32} {J : Nat → Nat → Int64}
    (h : pm_Ev d 190 [.ref 85, .int r] (pm_hp L fz t I J) (K_X11_unlike_49 d fz t Q x2 s0)) :
    K_X11_unlike_46 d fz t Q x2 s0 (.inl (some (.int r))) (pm_hp L fz1 t I J) := b_X11_unlike_46 h
set_option maxRecDepth 100000 in
theorem b_X11_unlike_49 {d L : Nat} {fz t : Bool} {Q : pm_R → pm_H → Prop} {x2 : Int32} {s0 : Int32} {r : Int32} {I : Nat → Nat → Int32} {J : Nat → Nat → Int64}
    (h : pm_Ev d 164 [.ref 85, .int (nI 0), .int x2] (pm_hp L fz t I J) (K_X11_unlike_55 d fz t Q s0 r)) :
    t_X11_unlike_49 d L fz t Q x2 s0 r I J := by
  exact pm_go d [(10, [0, 1, 2]), (18, [0, 1, 2]), (29, [0, 1, 2]), (35, [0, 1, 2]), (39, [0, 1, 2]), (46, [0, 2]), (49, [0, 2]), (55, []), (59, []), (62, [])] 400 h
theorem kb_X11_unlike_49 {d L : Nat} {fz t : Bool} {Q : pm_R → pm_H → Prop} {x2 : Int32} {s0 : Int32} {r : Int32} {fz1 : Bool} {I : Nat → Nat → Int32} {J : Nat → Nat → Int64}
    (h : pm_Ev d 164 [.ref 85, .int (nI 0), .int x2] (pm_hp L fz t I J) (K_X11_unlike_55 d fz t Q s0 r)) :
    K_X11_unlike_49 d fz t Q x2 s0 (.inl (some (.int r))) (pm_hp L fz1 t I J) := b_X11_unlike_49 h
set_option maxRecDepth 100000 in
theorem b_X11_unlike_55 {d L : Nat} {fz t : Bool} {Q : pm_R → pm_H → Prop} {s0 : Int32} {s1 : Int32} {r : Int32} {I : Nat → Nat → Int32} {J : Nat → Nat → Int64}
    (h : pm_Ev d 123 [.int (s1 ^^^ r)] (pm_hp L fz t I J) (K_X11_unlike_59 d fz t Q s0)) :
    t_X11_unlike_55 d L fz t Q s0 s1 r I J := by
  exact pm_go d [(10, [0, 1, 2]), (18, [0, 1, 2]), (29, [0, 1, 2]), (35, [0, 1, 2]), (39, [0, 1, 2]), (46, [0, 2]), (49, [0, 2]), (55, []), (59, []), (62, [])] 400 h
theorem kb_X11_unlike_55 {d L : Nat} {fz t : Bool} {Q : pm_R → pm_H → Prop} {s0 : Int32} {s1 : Int32} {r : Int32} {fz1 : Bool} {I : Nat → Nat → Int32} {J : Nat → Nat → Int64}
    (h : pm_Ev d 123 [.int (s1 ^^^ r)] (pm_hp L fz t I J) (K_X11_unlike_59 d fz t Q s0)) :
    K_X11_unlike_55 d fz t Q s0 s1 (.inl (some (.int r))) (pm_hp L fz1 t I J) := b_X11_unlike_55 h
set_option maxRecDepth 100000 in
theorem b_X11_unlike_59 {d L : Nat} {fz t : Bool} {Q : pm_R → pm_H → Prop} {s0 : Int32} {r : Int32} {I : Nat → Nat → Int32} {J : Nat → Nat → Int64}
    (h : pm_Ev d 121 [.int s0, .int r] (pm_hp L fz t I J) (K_X11_unlike_62 d fz t Q)) :
    t_X11_unlike_59 d L fz t Q s0 r I J := by
  exact pm_go d [(10, [0, 1, 2]), (18, [0, 1, 2]), (29, [0, 1, 2]), (35, [0, 1, 2]), (39, [0, 1, 2]), (46, [0, 2]), (49, [0, 2]), (55, []), (59, []), (62, [])] 400 h
theorem kb_X11_unlike_59 {d L : Nat} {fz t : Bool} {Q : pm_R → pm_H → Prop} {s0 : Int32} {r : Int32} {fz1 : Bool} {I : Nat → Nat → Int32} {J : Nat → Nat → Int64}
    (h : pm_Ev d 121 [.int s0, .int r] (pm_hp L fz t I J) (K_X11_unlike_62 d fz t Q)) :
    K_X11_unlike_59 d fz t Q s0 (.inl (some (.int r))) (pm_hp L fz1 t I J) := b_X11_unlike_59 h
set_option maxRecDepth 100000 in
theorem b_X11_unlike_62 {d L : Nat} {fz t : Bool} {Q : pm_R → pm_H → Prop} {r : Int32} {I : Nat → Nat → Int32} {J : Nat → Nat → Int64}
    (h : Q (.inl (some (.int r))) (pm_hp L fz t I J)) :
    t_X11_unlike_62 d L fz t Q r I J := by
  exact pm_go d [(10, [0, 1, 2]), (18, [0, 1, 2]), (29, [0, 1, 2]), (35, [0, 1, 2]), (39, [0, 1, 2]), (46, [0, 2]), (49, [0, 2]), (55, []), (59, []), (62, [])] 400 h
theorem kb_X11_unlike_62 {d L : Nat} {fz t : Bool} {Q : pm_R → pm_H → Prop} {r : Int32} {fz1 : Bool} {I : Nat → Nat → Int32} {J : Nat → Nat → Int64}
    (h : Q (.inl (some (.int r))) (pm_hp L fz t I J)) :
    K_X11_unlike_62 d fz t Q (.inl (some (.int r))) (pm_hp L fz1 t I J) := b_X11_unlike_62 h
def t_X11_family_0 (d L : Nat) (fz t : Bool) (Q : pm_R → pm_H → Prop) (x1 : Int32) (I : Nat → Nat → Int32) (J : Nat → Nat → Int64) : Prop := pm_T (pm_Ev d) 228 Q (0, [(0, .ref 85), (1, .int x1)], [], pm_hp L fz t I J, 0, 0)
def t_X11_family_10 (d L : Nat) (fz t : Bool) (Q : pm_R → pm_H → Prop) (x1 : Int32) (r : Int32) (I : Nat → Nat → Int32) (J : Nat → Nat → Int64) : Prop := pm_T (pm_Ev d) 228 Q (10, [(0, .ref 85), (1, .int x1)], [.int r], pm_hp L fz t I J, 0, 0)
def K_X11_family_10 (d : Nat) (fz t : Bool) (Q : pm_R → pm_H → Prop) (x1 : Int32) : pm_R → pm_H → Prop := pm_K d 228 Q 10 [(0, .ref 85), (1, .int x1)] [] 118 0 fz 0 0
def t_X11_family_21 (d L : Nat) (fz t : Bool) (Q : pm_R → pm_H → Prop) (r : Int32) (I : Nat → Nat → Int32) (J : Nat → Nat → Int64) : Prop := pm_T (pm_Ev d) 228 Q (21, [(0, .ref 85)], [.int r], pm_hp L fz t I J, 0, 0)
def K_X11_family_21 (d : Nat) (fz t : Bool) (Q : pm_R → pm_H → Prop) : pm_R → pm_H → Prop := pm_K d 228 Q 21 [(0, .ref 85)] [] 118 0 fz 0 0
def t_X11_family_27 (d L : Nat) (fz t : Bool) (Q : pm_R → pm_H → Prop) (x2 : Int32) (x3 : Int32) (x4 : Int32) (I : Nat → Nat → Int32) (J : Nat → Nat → Int64) : Prop := pm_T (pm_Ev d) 228 Q (27, [(0, .ref 85), (2, .int x2), (3, .int x3), (4, .int x4)], [], pm_hp L fz t I J, 0, 0)
def t_X11_family_44 (d L : Nat) (fz t : Bool) (Q : pm_R → pm_H → Prop) (x2 : Int32) (x4 : Int32) (s0 : Int32) (r : Int32) (I : Nat → Nat → Int32) (J : Nat → Nat → Int64) : Prop := pm_T (pm_Ev d) 228 Q (44, [(0, .ref 85), (2, .int x2), (4, .int x4)], [.int r, .int s0], pm_hp L fz t I J, 0, 0)
def K_X11_family_44 (d : Nat) (fz t : Bool) (Q : pm_R → pm_H → Prop) (x2 : Int32) (x4 : Int32) (s0 : Int32) : pm_R → pm_H → Prop := pm_K d 228 Q 44 [(0, .ref 85), (2, .int x2), (4, .int x4)] [.int s0] 118 0 fz 0 0
def t_X11_family_55 (d L : Nat) (fz t : Bool) (Q : pm_R → pm_H → Prop) (x2 : Int32) (x4 : Int32) (s0 : Int32) (r : Int32) (I : Nat → Nat → Int32) (J : Nat → Nat → Int64) : Prop := pm_T (pm_Ev d) 228 Q (55, [(0, .ref 85), (2, .int x2), (4, .int x4)], [.int r, .int s0], pm_hp L fz t I J, 0, 0)
def K_X11_family_55 (d : Nat) (fz t : Bool) (Q : pm_R → pm_H → Prop) (x2 : Int32) (x4 : Int32) (s0 : Int32) : pm_R → pm_H → Prop := pm_K d 228 Q 55 [(0, .ref 85), (2, .int x2), (4, .int x4)] [.int s0] 118 0 fz 0 0
def t_X11_family_60 (d L : Nat) (fz t : Bool) (Q : pm_R → pm_H → Prop) (x2 : Int32) (x4 : Int32) (s0 : Int32) (s1 : Int32) (r : Int32) (I : Nat → Nat → Int32) (J : Nat → Nat → Int64) : Prop := pm_T (pm_Ev d) 228 Q (60, [(0, .ref 85), (2, .int x2), (4, .int x4)], [.int r, .int s1, .int s0], pm_hp L fz t I J, 0, 0)
def K_X11_family_60 (d : Nat) (fz t : Bool) (Q : pm_R → pm_H → Prop) (x2 : Int32) (x4 : Int32) (s0 : Int32) (s1 : Int32) : pm_R → pm_H → Prop := pm_K d 228 Q 60 [(0, .ref 85), (2, .int x2), (4, .int x4)] [.int s1, .int s0] 118 0 fz 0 0
set_option maxRecDepth 100000 in
theorem b_X11_family_0 {d L : Nat} {fz t : Bool} {Q : pm_R → pm_H → Prop} {x1 : Int32} {I : Nat → Nat → Int32} {J : Nat → Nat → Int64}
    (h : pm_Ev d 180 [.ref 85, .int x1] (pm_hp L fz t (pm_u I 85 0 (nI 0)) J) (K_X11_family_10 d fz t Q x1)) :
    t_X11_family_0 d L fz t Q x1 I J := by
  exact pm_go d [(10, [0, 1]), (21, [0]), (27, [0, 2, 3, 4]), (44, [0, 2, 4]), (55, [0, 2, 4]), (60, [0, 2, 4])] 400 h
theorem e_X11_family {d L : Nat} {fz t : Bool} {Q : pm_R → pm_H → Prop} {x1 : Int32} {I : Nat → Nat → Int32} {J : Nat → Nat → Int64}
    (h : pm_Ev d 180 [.ref 85, .int x1] (pm_hp L fz t (pm_u I 85 0 (nI 0)) J) (K_X11_family_10 d fz t Q x1)) :
    pm_Ev (d + 1) 228 [.ref 85, .int x1] (pm_hp L fz t I J) Q := pm_Ev_in rfl (b_X11_family_0 h)
set_option maxRecDepth 100000 in
theorem b_X11_family_10 {d L : Nat} {fz t : Bool} {Q : pm_R → pm_H → Prop} {x1 : Int32} {r : Int32} {I : Nat → Nat → Int32} {J : Nat → Nat → Int64}
    (h : ((¬ r = (nI 0) → pm_Ev d 164 [.ref 85, .int (nI 0), .int x1] (pm_hp L fz t I J) (K_X11_family_21 d fz t Q)) ∧ (r = (nI 0) → Q (.inl (some (.int (nI 0)))) (pm_hp L fz t I J)))) :
    t_X11_family_10 d L fz t Q x1 r I J := by
  exact pm_go d [(10, [0, 1]), (21, [0]), (27, [0, 2, 3, 4]), (44, [0, 2, 4]), (55, [0, 2, 4]), (60, [0, 2, 4])] 400 ⟨fun q0 => ((h).1 q0), fun q0 => ((h).2 q0)⟩
theorem kb_X11_family_10 {d L : Nat} {fz t : Bool} {Q : pm_R → pm_H → Prop} {x1 : Int32} {r : Int32} {fz1 : Bool} {I : Nat → Nat → Int32} {J : Nat → Nat → Int64}
    (h : ((¬ r = (nI 0) → pm_Ev d 164 [.ref 85, .int (nI 0), .int x1] (pm_hp L fz t I J) (K_X11_family_21 d fz t Q)) ∧ (r = (nI 0) → Q (.inl (some (.int (nI 0)))) (pm_hp L fz t I J)))) :
    K_X11_family_10 d fz t Q x1 (.inl (some (.int r))) (pm_hp L fz1 t I J) := b_X11_family_10 h
set_option maxRecDepth 100000 in
theorem b_X11_family_21 {d L : Nat} {fz t : Bool} {Q : pm_R → pm_H → Prop} {r : Int32} {I : Nat → Nat → Int32} {J : Nat → Nat → Int64}
    (h : t_X11_family_27 d L fz t Q r (nI 0) (nI 0) I J) :
    t_X11_family_21 d L fz t Q r I J := by
  exact pm_go d [(10, [0, 1]), (21, [0]), (27, [0, 2, 3, 4]), (44, [0, 2, 4]), (55, [0, 2, 4]), (60, [0, 2, 4])] 400 h
theorem kb_X11_family_21 {d L : Nat} {fz t : Bool} {Q : pm_R → pm_H → Prop} {r : Int32} {fz1 : Bool} {I : Nat → Nat → Int32} {J : Nat → Nat → Int64}
    (h : t_X11_family_27 d L fz t Q r (nI 0) (nI 0) I J) :
    K_X11_family_21 d fz t Q (.inl (some (.int r))) (pm_hp L fz1 t I J) := b_X11_family_21 h
set_option maxRecDepth 100000 in
theorem b_X11_family_27 {d L : Nat} {fz t : Bool} {Q : pm_R → pm_H → Prop} {x2 : Int32} {x3 : Int32} {x4 : Int32} {I : Nat → Nat → Int32} {J : Nat → Nat → Int64}
    (h : (((I 85 2) ≤ x4 → Q (.inl (some (.int x3))) (pm_hp L fz t I J)) ∧ (¬ (I 85 2) ≤ x4 → pm_Ev d 164 [.ref 85, .int (nI 0), .int x4] (pm_hp L fz t I J) (K_X11_family_44 d fz t Q x2 x4 x3)))) :
    t_X11_family_27 d L fz t Q x2 x3 x4 I J := by
  exact pm_go d [(10, [0, 1]), (21, [0]), (27, [0, 2, 3, 4]), (44, [0, 2, 4]), (55, [0, 2, 4]), (60, [0, 2, 4])] 400 ⟨fun q0 => ((h).1 q0), fun q0 => ((h).2 q0)⟩
set_option maxRecDepth 100000 in
theorem b_X11_family_44 {d L : Nat} {fz t : Bool} {Q : pm_R → pm_H → Prop} {x2 : Int32} {x4 : Int32} {s0 : Int32} {r : Int32} {I : Nat → Nat → Int32} {J : Nat → Nat → Int64}
    (h : ((r = x2 → t_X11_family_27 d L fz t Q x2 (s0 ||| ((nI 1) <<< (x4 &&& 31))) (x4 + (nI 1)) I J) ∧ (¬ r = x2 → pm_Ev d 164 [.ref 85, .int (nI 0), .int x4] (pm_hp L fz t I J) (K_X11_family_55 d fz t Q x2 x4 s0)))) :
    t_X11_family_44 d L fz t Q x2 x4 s0 r I J := by
  exact pm_go d [(10, [0, 1]), (21, [0]), (27, [0, 2, 3, 4]), (44, [0, 2, 4]), (55, [0, 2, 4]), (60, [0, 2, 4])] 400 ⟨fun q0 => ((h).1 q0), fun q0 => ((h).2 q0)⟩
theorem kb_X11_family_44 {d L : Nat} {fz t : Bool} {Q : pm_R → pm_H → Prop} {x2 : Int32} {x4 : Int32} {s0 : Int32} {r : Int32} {fz1 : Bool} {I : Nat → Nat → Int32} {J : Nat → Nat → Int64}
    (h : ((r = x2 → t_X11_family_27 d L fz t Q x2 (s0 ||| ((nI 1) <<< (x4 &&& 31))) (x4 + (nI 1)) I J) ∧ (¬ r = x2 → pm_Ev d 164 [.ref 85, .int (nI 0), .int x4] (pm_hp L fz t I J) (K_X11_family_55 d fz t Q x2 x4 s0)))) :
    K_X11_family_44 d fz t Q x2 x4 s0 (.inl (some (.int r))) (pm_hp L fz1 t I J) := b_X11_family_44 h
set_option maxRecDepth 100000 in
theorem b_X11_family_55 {d L : Nat} {fz t : Bool} {Q : pm_R → pm_H → Prop} {x2 : Int32} {x4 : Int32} {s0 : Int32} {r : Int32} {I : Nat → Nat → Int32} {J : Nat → Nat → Int64}
    (h : pm_Ev d 190 [.ref 85, .int x2] (pm_hp L fz t I J) (K_X11_family_60 d fz t Q x2 x4 s0 r)) :
    t_X11_family_55 d L fz t Q x2 x4 s0 r I J := by
  exact pm_go d [(10, [0, 1]), (21, [0]), (27, [0, 2, 3, 4]), (44, [0, 2, 4]), (55, [0, 2, 4]), (60, [0, 2, 4])] 400 h
theorem kb_X11_family_55 {d L : Nat} {fz t : Bool} {Q : pm_R → pm_H → Prop} {x2 : Int32} {x4 : Int32} {s0 : Int32} {r : Int32} {fz1 : Bool} {I : Nat → Nat → Int32} {J : Nat → Nat → Int64}
    (h : pm_Ev d 190 [.ref 85, .int x2] (pm_hp L fz t I J) (K_X11_family_60 d fz t Q x2 x4 s0 r)) :
    K_X11_family_55 d fz t Q x2 x4 s0 (.inl (some (.int r))) (pm_hp L fz1 t I J) := b_X11_family_55 h
set_option maxRecDepth 100000 in
theorem b_X11_family_60 {d L : Nat} {fz t : Bool} {Q : pm_R → pm_H → Prop} {x2 : Int32} {x4 : Int32} {s0 : Int32} {s1 : Int32} {r : Int32} {I : Nat → Nat → Int32} {J : Nat → Nat → Int64}
    (h : ((¬ s1 = r → t_X11_family_27 d L fz t Q x2 (s0 ||| (nI 0)) (x4 + (nI 1)) I J) ∧ (s1 = r → t_X11_family_27 d L fz t Q x2 (s0 ||| ((nI 1) <<< (x4 &&& 31))) (x4 + (nI 1)) I J))) :
    t_X11_family_60 d L fz t Q x2 x4 s0 s1 r I J := by
  exact pm_go d [(10, [0, 1]), (21, [0]), (27, [0, 2, 3, 4]), (44, [0, 2, 4]), (55, [0, 2, 4]), (60, [0, 2, 4])] 400 ⟨fun q0 => ((h).1 q0), fun q0 => ((h).2 q0)⟩
theorem kb_X11_family_60 {d L : Nat} {fz t : Bool} {Q : pm_R → pm_H → Prop} {x2 : Int32} {x4 : Int32} {s0 : Int32} {s1 : Int32} {r : Int32} {fz1 : Bool} {I : Nat → Nat → Int32} {J : Nat → Nat → Int64}
    (h : ((¬ s1 = r → t_X11_family_27 d L fz t Q x2 (s0 ||| (nI 0)) (x4 + (nI 1)) I J) ∧ (s1 = r → t_X11_family_27 d L fz t Q x2 (s0 ||| ((nI 1) <<< (x4 &&& 31))) (x4 + (nI 1)) I J))) :
    K_X11_family_60 d fz t Q x2 x4 s0 s1 (.inl (some (.int r))) (pm_hp L fz1 t I J) := b_X11_family_60 h
def t_X11_turning_0 (d L : Nat) (fz t : Bool) (Q : pm_R → pm_H → Prop) (x1 : Int32) (I : Nat → Nat → Int32) (J : Nat → Nat → Int64) : Prop := pm_T (pm_Ev d) 229 Q (0, [(0, .ref 85), (1, .int x1)], [], pm_hp L fz t I J, 0, 0)
def t_X11_turning_10 (d L : Nat) (fz t : Bool) (Q : pm_R → pm_H → Prop) (x1 : Int32) (r : Int32) (I : Nat → Nat → Int32) (J : Nat → Nat → Int64) : Prop := pm_T (pm_Ev d) 229 Q (10, [(0, .ref 85), (1, .int x1)], [.int r], pm_hp L fz t I J, 0, 0)
def K_X11_turning_10 (d : Nat) (fz t : Bool) (Q : pm_R → pm_H → Prop) (x1 : Int32) : pm_R → pm_H → Prop := pm_K d 229 Q 10 [(0, .ref 85), (1, .int x1)] [] 118 0 fz 0 0
def t_X11_turning_19 (d L : Nat) (fz t : Bool) (Q : pm_R → pm_H → Prop) (x1 : Int32) (x2 : Int32) (x3 : Int32) (I : Nat → Nat → Int32) (J : Nat → Nat → Int64) : Prop := pm_T (pm_Ev d) 229 Q (19, [(0, .ref 85), (1, .int x1), (2, .int x2), (3, .int x3)], [], pm_hp L fz t I J, 0, 0)
def t_X11_turning_32 (d L : Nat) (fz t : Bool) (Q : pm_R → pm_H → Prop) (x1 : Int32) (x2 : Int32) (x3 : Int32) (I : Nat → Nat → Int32) (J : Nat → Nat → Int64) : Prop := pm_T (pm_Ev d) 229 Q (32, [(0, .ref 85), (1, .int x1), (2, .int x2), (3, .int x3)], [], pm_hp L fz t I J, 0, 0)
def K_X11_turning_32 (d : Nat) (fz t : Bool) (Q : pm_R → pm_H → Prop) (x1 : Int32) (x2 : Int32) (x3 : Int32) : pm_R → pm_H → Prop := pm_K d 229 Q 32 [(0, .ref 85), (1, .int x1), (2, .int x2), (3, .int x3)] [] 118 0 fz 0 0
def t_X11_turning_38 (d L : Nat) (fz t : Bool) (Q : pm_R → pm_H → Prop) (x1 : Int32) (x2 : Int32) (x3 : Int32) (I : Nat → Nat → Int32) (J : Nat → Nat → Int64) : Prop := pm_T (pm_Ev d) 229 Q (38, [(0, .ref 85), (1, .int x1), (2, .int x2), (3, .int x3)], [], pm_hp L fz t I J, 0, 0)
def K_X11_turning_38 (d : Nat) (fz t : Bool) (Q : pm_R → pm_H → Prop) (x1 : Int32) (x2 : Int32) (x3 : Int32) : pm_R → pm_H → Prop := pm_K d 229 Q 38 [(0, .ref 85), (1, .int x1), (2, .int x2), (3, .int x3)] [] 118 0 fz 0 0
def t_X11_turning_44 (d L : Nat) (fz t : Bool) (Q : pm_R → pm_H → Prop) (x1 : Int32) (x3 : Int32) (s0 : Int32) (r : Int32) (I : Nat → Nat → Int32) (J : Nat → Nat → Int64) : Prop := pm_T (pm_Ev d) 229 Q (44, [(0, .ref 85), (1, .int x1), (3, .int x3)], [.int r, .int s0], pm_hp L fz t I J, 0, 0)
def K_X11_turning_44 (d : Nat) (fz t : Bool) (Q : pm_R → pm_H → Prop) (x1 : Int32) (x3 : Int32) (s0 : Int32) : pm_R → pm_H → Prop := pm_K d 229 Q 44 [(0, .ref 85), (1, .int x1), (3, .int x3)] [.int s0] 118 0 fz 0 0
set_option maxRecDepth 100000 in
theorem b_X11_turning_0 {d L : Nat} {fz t : Bool} {Q : pm_R → pm_H → Prop} {x1 : Int32} {I : Nat → Nat → Int32} {J : Nat → Nat → Int64}
    (h : pm_Ev d 182 [.ref 85, .int x1] (pm_hp L fz t (pm_u I 85 0 (nI 0)) J) (K_X11_turning_10 d fz t Q x1)) :
    t_X11_turning_0 d L fz t Q x1 I J := by
  exact pm_go d [(10, [0, 1]), (19, [0, 1, 2, 3]), (32, [0, 1, 2, 3]), (38, [0, 1, 2, 3]), (44, [0, 1, 3])] 400 h
theorem e_X11_turning {d L : Nat} {fz t : Bool} {Q : pm_R → pm_H → Prop} {x1 : Int32} {I : Nat → Nat → Int32} {J : Nat → Nat → Int64}
    (h : pm_Ev d 182 [.ref 85, .int x1] (pm_hp L fz t (pm_u I 85 0 (nI 0)) J) (K_X11_turning_10 d fz t Q x1)) :
    pm_Ev (d + 1) 229 [.ref 85, .int x1] (pm_hp L fz t I J) Q := pm_Ev_in rfl (b_X11_turning_0 h)
set_option maxRecDepth 100000 in
theorem b_X11_turning_10 {d L : Nat} {fz t : Bool} {Q : pm_R → pm_H → Prop} {x1 : Int32} {r : Int32} {I : Nat → Nat → Int32} {J : Nat → Nat → Int64}
    (h : ((¬ r = (nI 0) → t_X11_turning_19 d L fz t Q x1 (nI 0) (nI 0) I J) ∧ (r = (nI 0) → Q (.inl (some (.int (nI 0)))) (pm_hp L fz t I J)))) :
    t_X11_turning_10 d L fz t Q x1 r I J := by
  exact pm_go d [(10, [0, 1]), (19, [0, 1, 2, 3]), (32, [0, 1, 2, 3]), (38, [0, 1, 2, 3]), (44, [0, 1, 3])] 400 ⟨fun q0 => ((h).1 q0), fun q0 => ((h).2 q0)⟩
theorem kb_X11_turning_10 {d L : Nat} {fz t : Bool} {Q : pm_R → pm_H → Prop} {x1 : Int32} {r : Int32} {fz1 : Bool} {I : Nat → Nat → Int32} {J : Nat → Nat → Int64}
    (h : ((¬ r = (nI 0) → t_X11_turning_19 d L fz t Q x1 (nI 0) (nI 0) I J) ∧ (r = (nI 0) → Q (.inl (some (.int (nI 0)))) (pm_hp L fz t I J)))) :
    K_X11_turning_10 d fz t Q x1 (.inl (some (.int r))) (pm_hp L fz1 t I J) := b_X11_turning_10 h
set_option maxRecDepth 100000 in
theorem b_X11_turning_19 {d L : Nat} {fz t : Bool} {Q : pm_R → pm_H → Prop} {x1 : Int32} {x2 : Int32} {x3 : Int32} {I : Nat → Nat → Int32} {J : Nat → Nat → Int64}
    (h : (((I 85 2) ≤ x3 → Q (.inl (some (.int x2))) (pm_hp L fz t I J)) ∧ (¬ (I 85 2) ≤ x3 → pm_Ev d 212 [.ref 85, .int x3] (pm_hp L fz t I J) (K_X11_turning_32 d fz t Q x1 x2 x3)))) :
    t_X11_turning_19 d L fz t Q x1 x2 x3 I J := by
  exact pm_go d [(10, [0, 1]), (19, [0, 1, 2, 3]), (32, [0, 1, 2, 3]), (38, [0, 1, 2, 3]), (44, [0, 1, 3])] 400 ⟨fun q0 => ((h).1 q0), fun q0 => ((h).2 q0)⟩
set_option maxRecDepth 100000 in
theorem b_X11_turning_32 {d L : Nat} {fz t : Bool} {Q : pm_R → pm_H → Prop} {x1 : Int32} {x2 : Int32} {x3 : Int32} {I : Nat → Nat → Int32} {J : Nat → Nat → Int64}
    (h : pm_Ev d 169 [.ref 85, .int (nI 34)] (pm_hp L fz t I J) (K_X11_turning_38 d fz t Q x1 x2 x3)) :
    t_X11_turning_32 d L fz t Q x1 x2 x3 I J := by
  exact pm_go d [(10, [0, 1]), (19, [0, 1, 2, 3]), (32, [0, 1, 2, 3]), (38, [0, 1, 2, 3]), (44, [0, 1, 3])] 400 h
theorem kb_X11_turning_32 {d L : Nat} {fz t : Bool} {Q : pm_R → pm_H → Prop} {x1 : Int32} {x2 : Int32} {x3 : Int32} {fz1 : Bool} {I : Nat → Nat → Int32} {J : Nat → Nat → Int64}
    (h : pm_Ev d 169 [.ref 85, .int (nI 34)] (pm_hp L fz t I J) (K_X11_turning_38 d fz t Q x1 x2 x3)) :
    K_X11_turning_32 d fz t Q x1 x2 x3 (.inl none) (pm_hp L fz1 t I J) := b_X11_turning_32 h
set_option maxRecDepth 100000 in
theorem b_X11_turning_38 {d L : Nat} {fz t : Bool} {Q : pm_R → pm_H → Prop} {x1 : Int32} {x2 : Int32} {x3 : Int32} {I : Nat → Nat → Int32} {J : Nat → Nat → Int64}
    (h : pm_Ev d 171 [.ref 85, .int x1] (pm_hp L fz t I J) (K_X11_turning_44 d fz t Q x1 x3 x2)) :
    t_X11_turning_38 d L fz t Q x1 x2 x3 I J := by
  exact pm_go d [(10, [0, 1]), (19, [0, 1, 2, 3]), (32, [0, 1, 2, 3]), (38, [0, 1, 2, 3]), (44, [0, 1, 3])] 400 h
theorem kb_X11_turning_38 {d L : Nat} {fz t : Bool} {Q : pm_R → pm_H → Prop} {x1 : Int32} {x2 : Int32} {x3 : Int32} {fz1 : Bool} {I : Nat → Nat → Int32} {J : Nat → Nat → Int64}
    (h : pm_Ev d 171 [.ref 85, .int x1] (pm_hp L fz t I J) (K_X11_turning_44 d fz t Q x1 x3 x2)) :
    K_X11_turning_38 d fz t Q x1 x2 x3 (.inl none) (pm_hp L fz1 t I J) := b_X11_turning_38 h
set_option maxRecDepth 100000 in
theorem b_X11_turning_44 {d L : Nat} {fz t : Bool} {Q : pm_R → pm_H → Prop} {x1 : Int32} {x3 : Int32} {s0 : Int32} {r : Int32} {I : Nat → Nat → Int32} {J : Nat → Nat → Int64}
    (h : ((r = (-1 : Int32) → t_X11_turning_19 d L fz t Q x1 (s0 ||| (nI 0)) (x3 + (nI 1)) I J) ∧ (¬ r = (-1 : Int32) → t_X11_turning_19 d L fz t Q x1 (s0 ||| ((nI 1) <<< (x3 &&& 31))) (x3 + (nI 1)) I J))) :
    t_X11_turning_44 d L fz t Q x1 x3 s0 r I J := by
  exact pm_go d [(10, [0, 1]), (19, [0, 1, 2, 3]), (32, [0, 1, 2, 3]), (38, [0, 1, 2, 3]), (44, [0, 1, 3])] 400 ⟨fun q0 => ((h).1 q0), fun q0 => ((h).2 q0)⟩
theorem kb_X11_turning_44 {d L : Nat} {fz t : Bool} {Q : pm_R → pm_H → Prop} {x1 : Int32} {x3 : Int32} {s0 : Int32} {r : Int32} {fz1 : Bool} {I : Nat → Nat → Int32} {J : Nat → Nat → Int64}
    (h : ((r = (-1 : Int32) → t_X11_turning_19 d L fz t Q x1 (s0 ||| (nI 0)) (x3 + (nI 1)) I J) ∧ (¬ r = (-1 : Int32) → t_X11_turning_19 d L fz t Q x1 (s0 ||| ((nI 1) <<< (x3 &&& 31))) (x3 + (nI 1)) I J))) :
    K_X11_turning_44 d fz t Q x1 x3 s0 (.inl (some (.int r))) (pm_hp L fz1 t I J) := b_X11_turning_44 h
def t_X11_leftOut_0 (d L : Nat) (fz t : Bool) (Q : pm_R → pm_H → Prop) (x1 : Int32) (I : Nat → Nat → Int32) (J : Nat → Nat → Int64) : Prop := pm_T (pm_Ev d) 230 Q (0, [(0, .ref 85), (1, .int x1)], [], pm_hp L fz t I J, 0, 0)
def t_X11_leftOut_10 (d L : Nat) (fz t : Bool) (Q : pm_R → pm_H → Prop) (x1 : Int32) (r : Int32) (I : Nat → Nat → Int32) (J : Nat → Nat → Int64) : Prop := pm_T (pm_Ev d) 230 Q (10, [(0, .ref 85), (1, .int x1)], [.int r], pm_hp L fz t I J, 0, 0)
def K_X11_leftOut_10 (d : Nat) (fz t : Bool) (Q : pm_R → pm_H → Prop) (x1 : Int32) : pm_R → pm_H → Prop := pm_K d 230 Q 10 [(0, .ref 85), (1, .int x1)] [] 118 0 fz 0 0
def t_X11_leftOut_21 (d L : Nat) (fz t : Bool) (Q : pm_R → pm_H → Prop) (I : Nat → Nat → Int32) (J : Nat → Nat → Int64) : Prop := pm_T (pm_Ev d) 230 Q (21, [(0, .ref 85)], [], pm_hp L fz t I J, 0, 0)
def K_X11_leftOut_21 (d : Nat) (fz t : Bool) (Q : pm_R → pm_H → Prop) : pm_R → pm_H → Prop := pm_K d 230 Q 21 [(0, .ref 85)] [] 118 0 fz 0 0
def t_X11_leftOut_25 (d L : Nat) (fz t : Bool) (Q : pm_R → pm_H → Prop) (r : Int32) (I : Nat → Nat → Int32) (J : Nat → Nat → Int64) : Prop := pm_T (pm_Ev d) 230 Q (25, [], [.int r], pm_hp L fz t I J, 0, 0)
def K_X11_leftOut_25 (d : Nat) (fz t : Bool) (Q : pm_R → pm_H → Prop) : pm_R → pm_H → Prop := pm_K d 230 Q 25 [] [] 118 0 fz 0 0
set_option maxRecDepth 100000 in
theorem b_X11_leftOut_0 {d L : Nat} {fz t : Bool} {Q : pm_R → pm_H → Prop} {x1 : Int32} {I : Nat → Nat → Int32} {J : Nat → Nat → Int64}
    (h : pm_Ev d 181 [.ref 85, .int x1] (pm_hp L fz t (pm_u I 85 0 (nI 0)) J) (K_X11_leftOut_10 d fz t Q x1)) :
    t_X11_leftOut_0 d L fz t Q x1 I J := by
  exact pm_go d [(10, [0, 1]), (21, [0]), (25, [])] 400 h
theorem e_X11_leftOut {d L : Nat} {fz t : Bool} {Q : pm_R → pm_H → Prop} {x1 : Int32} {I : Nat → Nat → Int32} {J : Nat → Nat → Int64}
    (h : pm_Ev d 181 [.ref 85, .int x1] (pm_hp L fz t (pm_u I 85 0 (nI 0)) J) (K_X11_leftOut_10 d fz t Q x1)) :
    pm_Ev (d + 1) 230 [.ref 85, .int x1] (pm_hp L fz t I J) Q := pm_Ev_in rfl (b_X11_leftOut_0 h)
set_option maxRecDepth 100000 in
theorem b_X11_leftOut_10 {d L : Nat} {fz t : Bool} {Q : pm_R → pm_H → Prop} {x1 : Int32} {r : Int32} {I : Nat → Nat → Int32} {J : Nat → Nat → Int64}
    (h : ((¬ r = (nI 0) → pm_Ev d 168 [.ref 85, .int (nI 0), .int x1] (pm_hp L fz t I J) (K_X11_leftOut_21 d fz t Q)) ∧ (r = (nI 0) → Q (.inl (some (.int (nI 0)))) (pm_hp L fz t I J)))) :
    t_X11_leftOut_10 d L fz t Q x1 r I J := by
  exact pm_go d [(10, [0, 1]), (21, [0]), (25, [])] 400 ⟨fun q0 => ((h).1 q0), fun q0 => ((h).2 q0)⟩
theorem kb_X11_leftOut_10 {d L : Nat} {fz t : Bool} {Q : pm_R → pm_H → Prop} {x1 : Int32} {r : Int32} {fz1 : Bool} {I : Nat → Nat → Int32} {J : Nat → Nat → Int64}
    (h : ((¬ r = (nI 0) → pm_Ev d 168 [.ref 85, .int (nI 0), .int x1] (pm_hp L fz t I J) (K_X11_leftOut_21 d fz t Q)) ∧ (r = (nI 0) → Q (.inl (some (.int (nI 0)))) (pm_hp L fz t I J)))) :
    K_X11_leftOut_10 d fz t Q x1 (.inl (some (.int r))) (pm_hp L fz1 t I J) := b_X11_leftOut_10 h
set_option maxRecDepth 100000 in
theorem b_X11_leftOut_21 {d L : Nat} {fz t : Bool} {Q : pm_R → pm_H → Prop} {I : Nat → Nat → Int32} {J : Nat → Nat → Int64}
    (h : pm_Ev d 172 [.ref 85] (pm_hp L fz t I J) (K_X11_leftOut_25 d fz t Q)) :
    t_X11_leftOut_21 d L fz t Q I J := by
  exact pm_go d [(10, [0, 1]), (21, [0]), (25, [])] 400 h
theorem kb_X11_leftOut_21 {d L : Nat} {fz t : Bool} {Q : pm_R → pm_H → Prop} {fz1 : Bool} {I : Nat → Nat → Int32} {J : Nat → Nat → Int64}
    (h : pm_Ev d 172 [.ref 85] (pm_hp L fz t I J) (K_X11_leftOut_25 d fz t Q)) :
    K_X11_leftOut_21 d fz t Q (.inl none) (pm_hp L fz1 t I J) := b_X11_leftOut_21 h
set_option maxRecDepth 100000 in
theorem b_X11_leftOut_25 {d L : Nat} {fz t : Bool} {Q : pm_R → pm_H → Prop} {r : Int32} {I : Nat → Nat → Int32} {J : Nat → Nat → Int64}
    (h : Q (.inl (some (.int r))) (pm_hp L fz t I J)) :
    t_X11_leftOut_25 d L fz t Q r I J := by
  exact pm_go d [(10, [0, 1]), (21, [0]), (25, [])] 400 h
theorem kb_X11_leftOut_25 {d L : Nat} {fz t : Bool} {Q : pm_R → pm_H → Prop} {r : Int32} {fz1 : Bool} {I : Nat → Nat → Int32} {J : Nat → Nat → Int64}
    (h : Q (.inl (some (.int r))) (pm_hp L fz t I J)) :
    K_X11_leftOut_25 d fz t Q (.inl (some (.int r))) (pm_hp L fz1 t I J) := b_X11_leftOut_25 h
def t_X11_cutting_0 (d L : Nat) (fz t : Bool) (Q : pm_R → pm_H → Prop) (x1 : Int32) (I : Nat → Nat → Int32) (J : Nat → Nat → Int64) : Prop := pm_T (pm_Ev d) 231 Q (0, [(0, .ref 85), (1, .int x1)], [], pm_hp L fz t I J, 0, 0)
def t_X11_cutting_12 (d L : Nat) (fz t : Bool) (Q : pm_R → pm_H → Prop) (x1 : Int32) (r : Int32) (I : Nat → Nat → Int32) (J : Nat → Nat → Int64) : Prop := pm_T (pm_Ev d) 231 Q (12, [(0, .ref 85), (1, .int x1)], [.int r], pm_hp L fz t I J, 0, 0)
def K_X11_cutting_12 (d : Nat) (fz t : Bool) (Q : pm_R → pm_H → Prop) (x1 : Int32) : pm_R → pm_H → Prop := pm_K d 231 Q 12 [(0, .ref 85), (1, .int x1)] [] 118 0 fz 0 0
def t_X11_cutting_21 (d L : Nat) (fz t : Bool) (Q : pm_R → pm_H → Prop) (x1 : Int32) (I : Nat → Nat → Int32) (J : Nat → Nat → Int64) : Prop := pm_T (pm_Ev d) 231 Q (21, [(0, .ref 85), (1, .int x1)], [], pm_hp L fz t I J, 0, 0)
def K_X11_cutting_21 (d : Nat) (fz t : Bool) (Q : pm_R → pm_H → Prop) (x1 : Int32) : pm_R → pm_H → Prop := pm_K d 231 Q 21 [(0, .ref 85), (1, .int x1)] [] 118 0 fz 0 0
def t_X11_cutting_26 (d L : Nat) (fz t : Bool) (Q : pm_R → pm_H → Prop) (x1 : Int32) (I : Nat → Nat → Int32) (J : Nat → Nat → Int64) : Prop := pm_T (pm_Ev d) 231 Q (26, [(0, .ref 85), (1, .int x1)], [], pm_hp L fz t I J, 0, 0)
def K_X11_cutting_26 (d : Nat) (fz t : Bool) (Q : pm_R → pm_H → Prop) (x1 : Int32) : pm_R → pm_H → Prop := pm_K d 231 Q 26 [(0, .ref 85), (1, .int x1)] [] 118 0 fz 0 0
def t_X11_cutting_39 (d L : Nat) (fz t : Bool) (Q : pm_R → pm_H → Prop) (x1 : Int32) (x2 : Int32) (x3 : Int32) (x4 : Int32) (I : Nat → Nat → Int32) (J : Nat → Nat → Int64) : Prop := pm_T (pm_Ev d) 231 Q (39, [(0, .ref 85), (1, .int x1), (2, .int x2), (3, .int x3), (4, .int x4)], [], pm_hp L fz t I J, 0, 0)
def t_X11_cutting_52 (d L : Nat) (fz t : Bool) (Q : pm_R → pm_H → Prop) (x1 : Int32) (x2 : Int32) (x3 : Int32) (x4 : Int32) (I : Nat → Nat → Int32) (J : Nat → Nat → Int64) : Prop := pm_T (pm_Ev d) 231 Q (52, [(0, .ref 85), (1, .int x1), (2, .int x2), (3, .int x3), (4, .int x4)], [], pm_hp L fz t I J, 0, 0)
def K_X11_cutting_52 (d : Nat) (fz t : Bool) (Q : pm_R → pm_H → Prop) (x1 : Int32) (x2 : Int32) (x3 : Int32) (x4 : Int32) : pm_R → pm_H → Prop := pm_K d 231 Q 52 [(0, .ref 85), (1, .int x1), (2, .int x2), (3, .int x3), (4, .int x4)] [] 118 0 fz 0 0
def t_X11_cutting_68 (d L : Nat) (fz t : Bool) (Q : pm_R → pm_H → Prop) (x1 : Int32) (x2 : Int32) (x3 : Int32) (x4 : Int32) (I : Nat → Nat → Int32) (J : Nat → Nat → Int64) : Prop := pm_T (pm_Ev d) 231 Q (68, [(0, .ref 85), (1, .int x1), (2, .int x2), (3, .int x3), (4, .int x4)], [], pm_hp L fz t I J, 0, 0)
def K_X11_cutting_68 (d : Nat) (fz t : Bool) (Q : pm_R → pm_H → Prop) (x1 : Int32) (x2 : Int32) (x3 : Int32) (x4 : Int32) : pm_R → pm_H → Prop := pm_K d 231 Q 68 [(0, .ref 85), (1, .int x1), (2, .int x2), (3, .int x3), (4, .int x4)] [] 118 0 fz 0 0
set_option maxRecDepth 100000 in
theorem b_X11_cutting_0 {d L : Nat} {fz t : Bool} {Q : pm_R → pm_H → Prop} {x1 : Int32} {I : Nat → Nat → Int32} {J : Nat → Nat → Int64}
    (h : pm_Ev d 195 [.ref 85, .int x1, .int (nI 1), .int (nI 1)] (pm_hp L fz t (pm_u I 85 0 (nI 0)) J) (K_X11_cutting_12 d fz t Q x1)) :
    t_X11_cutting_0 d L fz t Q x1 I J := by
  exact pm_go d [(12, [0, 1]), (21, [0, 1]), (26, [0, 1]), (39, [0, 1, 2, 3, 4]), (52, [0, 1, 2, 3, 4]), (68, [0, 1, 2, 3, 4])] 400 h
theorem e_X11_cutting {d L : Nat} {fz t : Bool} {Q : pm_R → pm_H → Prop} {x1 : Int32} {I : Nat → Nat → Int32} {J : Nat → Nat → Int64}
    (h : pm_Ev d 195 [.ref 85, .int x1, .int (nI 1), .int (nI 1)] (pm_hp L fz t (pm_u I 85 0 (nI 0)) J) (K_X11_cutting_12 d fz t Q x1)) :
    pm_Ev (d + 1) 231 [.ref 85, .int x1] (pm_hp L fz t I J) Q := pm_Ev_in rfl (b_X11_cutting_0 h)
set_option maxRecDepth 100000 in
theorem b_X11_cutting_12 {d L : Nat} {fz t : Bool} {Q : pm_R → pm_H → Prop} {x1 : Int32} {r : Int32} {I : Nat → Nat → Int32} {J : Nat → Nat → Int64}
    (h : ((¬ r = (nI 0) → pm_Ev d 160 [.ref 85] (pm_hp L fz t I J) (K_X11_cutting_21 d fz t Q x1)) ∧ (r = (nI 0) → Q (.inl (some (.int (nI 0)))) (pm_hp L fz t I J)))) :
    t_X11_cutting_12 d L fz t Q x1 r I J := by
  exact pm_go d [(12, [0, 1]), (21, [0, 1]), (26, [0, 1]), (39, [0, 1, 2, 3, 4]), (52, [0, 1, 2, 3, 4]), (68, [0, 1, 2, 3, 4])] 400 ⟨fun q0 => ((h).1 q0), fun q0 => ((h).2 q0)⟩
theorem kb_X11_cutting_12 {d L : Nat} {fz t : Bool} {Q : pm_R → pm_H → Prop} {x1 : Int32} {r : Int32} {fz1 : Bool} {I : Nat → Nat → Int32} {J : Nat → Nat → Int64}
    (h : ((¬ r = (nI 0) → pm_Ev d 160 [.ref 85] (pm_hp L fz t I J) (K_X11_cutting_21 d fz t Q x1)) ∧ (r = (nI 0) → Q (.inl (some (.int (nI 0)))) (pm_hp L fz t I J)))) :
    K_X11_cutting_12 d fz t Q x1 (.inl (some (.int r))) (pm_hp L fz1 t I J) := b_X11_cutting_12 h
set_option maxRecDepth 100000 in
theorem b_X11_cutting_21 {d L : Nat} {fz t : Bool} {Q : pm_R → pm_H → Prop} {x1 : Int32} {I : Nat → Nat → Int32} {J : Nat → Nat → Int64}
    (h : pm_Ev d 175 [.ref 85, .int x1] (pm_hp L fz t I J) (K_X11_cutting_26 d fz t Q x1)) :
    t_X11_cutting_21 d L fz t Q x1 I J := by
  exact pm_go d [(12, [0, 1]), (21, [0, 1]), (26, [0, 1]), (39, [0, 1, 2, 3, 4]), (52, [0, 1, 2, 3, 4]), (68, [0, 1, 2, 3, 4])] 400 h
theorem kb_X11_cutting_21 {d L : Nat} {fz t : Bool} {Q : pm_R → pm_H → Prop} {x1 : Int32} {fz1 : Bool} {I : Nat → Nat → Int32} {J : Nat → Nat → Int64}
    (h : pm_Ev d 175 [.ref 85, .int x1] (pm_hp L fz t I J) (K_X11_cutting_26 d fz t Q x1)) :
    K_X11_cutting_21 d fz t Q x1 (.inl none) (pm_hp L fz1 t I J) := b_X11_cutting_21 h
set_option maxRecDepth 100000 in
theorem b_X11_cutting_26 {d L : Nat} {fz t : Bool} {Q : pm_R → pm_H → Prop} {x1 : Int32} {I : Nat → Nat → Int32} {J : Nat → Nat → Int64}
    (h : t_X11_cutting_39 d L fz t Q x1 (I 103 35) (-1 : Int32) (nI 0) I J) :
    t_X11_cutting_26 d L fz t Q x1 I J := by
  exact pm_go d [(12, [0, 1]), (21, [0, 1]), (26, [0, 1]), (39, [0, 1, 2, 3, 4]), (52, [0, 1, 2, 3, 4]), (68, [0, 1, 2, 3, 4])] 400 ⟨(vp_in_nI (by decide : 35 < 68) (by decide) : vp_in (nI 35) 68), h⟩
theorem kb_X11_cutting_26 {d L : Nat} {fz t : Bool} {Q : pm_R → pm_H → Prop} {x1 : Int32} {fz1 : Bool} {I : Nat → Nat → Int32} {J : Nat → Nat → Int64}
    (h : t_X11_cutting_39 d L fz t Q x1 (I 103 35) (-1 : Int32) (nI 0) I J) :
    K_X11_cutting_26 d fz t Q x1 (.inl none) (pm_hp L fz1 t I J) := b_X11_cutting_26 h
set_option maxRecDepth 100000 in
theorem b_X11_cutting_39 {d L : Nat} {fz t : Bool} {Q : pm_R → pm_H → Prop} {x1 : Int32} {x2 : Int32} {x3 : Int32} {x4 : Int32} {I : Nat → Nat → Int32} {J : Nat → Nat → Int64}
    (h : (((I 85 2) ≤ x4 → Q (.inl (some (.int x3))) (pm_hp L fz t I J)) ∧ (¬ (I 85 2) ≤ x4 → pm_Ev d 160 [.ref 85] (pm_hp L fz t I J) (K_X11_cutting_52 d fz t Q x1 x2 x3 x4)))) :
    t_X11_cutting_39 d L fz t Q x1 x2 x3 x4 I J := by
  exact pm_go d [(12, [0, 1]), (21, [0, 1]), (26, [0, 1]), (39, [0, 1, 2, 3, 4]), (52, [0, 1, 2, 3, 4]), (68, [0, 1, 2, 3, 4])] 400 ⟨fun q0 => ((h).1 q0), fun q0 => ((h).2 q0)⟩
set_option maxRecDepth 100000 in
theorem b_X11_cutting_52 {d L : Nat} {fz t : Bool} {Q : pm_R → pm_H → Prop} {x1 : Int32} {x2 : Int32} {x3 : Int32} {x4 : Int32} {I : Nat → Nat → Int32} {J : Nat → Nat → Int64}
    (h : (vp_in ((nI 46) + x4) 68 ∧ pm_Ev d 175 [.ref 85, .int x1] (pm_hp L fz t (pm_u I 103 (((nI 46) + x4)).toNatClampNeg (nI 0)) J) (K_X11_cutting_68 d fz t Q x1 x2 x3 x4))) :
    t_X11_cutting_52 d L fz t Q x1 x2 x3 x4 I J := by
  exact pm_go d [(12, [0, 1]), (21, [0, 1]), (26, [0, 1]), (39, [0, 1, 2, 3, 4]), (52, [0, 1, 2, 3, 4]), (68, [0, 1, 2, 3, 4])] 400 ⟨(h).1, (h).2⟩
theorem kb_X11_cutting_52 {d L : Nat} {fz t : Bool} {Q : pm_R → pm_H → Prop} {x1 : Int32} {x2 : Int32} {x3 : Int32} {x4 : Int32} {fz1 : Bool} {I : Nat → Nat → Int32} {J : Nat → Nat → Int64}
    (h : (vp_in ((nI 46) + x4) 68 ∧ pm_Ev d 175 [.ref 85, .int x1] (pm_hp L fz t (pm_u I 103 (((nI 46) + x4)).toNatClampNeg (nI 0)) J) (K_X11_cutting_68 d fz t Q x1 x2 x3 x4))) :
    K_X11_cutting_52 d fz t Q x1 x2 x3 x4 (.inl none) (pm_hp L fz1 t I J) := b_X11_cutting_52 h
set_option maxRecDepth 100000 in
theorem b_X11_cutting_68 {d L : Nat} {fz t : Bool} {Q : pm_R → pm_H → Prop} {x1 : Int32} {x2 : Int32} {x3 : Int32} {x4 : Int32} {I : Nat → Nat → Int32} {J : Nat → Nat → Int64}
    (h : ((x2 < (I 103 35) → t_X11_cutting_39 d L fz t Q x1 (I 103 35) x4 (x4 + (nI 1)) I J) ∧ (¬ x2 < (I 103 35) → t_X11_cutting_39 d L fz t Q x1 x2 x3 (x4 + (nI 1)) I J))) :
    t_X11_cutting_68 d L fz t Q x1 x2 x3 x4 I J := by
  exact pm_go d [(12, [0, 1]), (21, [0, 1]), (26, [0, 1]), (39, [0, 1, 2, 3, 4]), (52, [0, 1, 2, 3, 4]), (68, [0, 1, 2, 3, 4])] 400 ⟨(vp_in_nI (by decide : 35 < 68) (by decide) : vp_in (nI 35) 68), ⟨fun q0 => ⟨(vp_in_nI (by decide : 35 < 68) (by decide) : vp_in (nI 35) 68), ((h).1 q0)⟩, fun q0 => ((h).2 q0)⟩⟩
theorem kb_X11_cutting_68 {d L : Nat} {fz t : Bool} {Q : pm_R → pm_H → Prop} {x1 : Int32} {x2 : Int32} {x3 : Int32} {x4 : Int32} {fz1 : Bool} {I : Nat → Nat → Int32} {J : Nat → Nat → Int64}
    (h : ((x2 < (I 103 35) → t_X11_cutting_39 d L fz t Q x1 (I 103 35) x4 (x4 + (nI 1)) I J) ∧ (¬ x2 < (I 103 35) → t_X11_cutting_39 d L fz t Q x1 x2 x3 (x4 + (nI 1)) I J))) :
    K_X11_cutting_68 d fz t Q x1 x2 x3 x4 (.inl none) (pm_hp L fz1 t I J) := b_X11_cutting_68 h
def t_X11_mirrored_0 (d L : Nat) (fz t : Bool) (Q : pm_R → pm_H → Prop) (x1 : Int32) (I : Nat → Nat → Int32) (J : Nat → Nat → Int64) : Prop := pm_T (pm_Ev d) 232 Q (0, [(0, .ref 85), (1, .int x1)], [], pm_hp L fz t I J, 0, 0)
def t_X11_mirrored_11 (d L : Nat) (fz t : Bool) (Q : pm_R → pm_H → Prop) (x1 : Int32) (r : Int32) (I : Nat → Nat → Int32) (J : Nat → Nat → Int64) : Prop := pm_T (pm_Ev d) 232 Q (11, [(0, .ref 85), (1, .int x1)], [.int r], pm_hp L fz t I J, 0, 0)
def K_X11_mirrored_11 (d : Nat) (fz t : Bool) (Q : pm_R → pm_H → Prop) (x1 : Int32) : pm_R → pm_H → Prop := pm_K d 232 Q 11 [(0, .ref 85), (1, .int x1)] [] 118 0 fz 0 0
def t_X11_mirrored_21 (d L : Nat) (fz t : Bool) (Q : pm_R → pm_H → Prop) (x1 : Int32) (I : Nat → Nat → Int32) (J : Nat → Nat → Int64) : Prop := pm_T (pm_Ev d) 232 Q (21, [(0, .ref 85), (1, .int x1)], [], pm_hp L fz t I J, 0, 0)
def K_X11_mirrored_21 (d : Nat) (fz t : Bool) (Q : pm_R → pm_H → Prop) (x1 : Int32) : pm_R → pm_H → Prop := pm_K d 232 Q 21 [(0, .ref 85), (1, .int x1)] [] 118 0 fz 0 0
def t_X11_mirrored_23 (d L : Nat) (fz t : Bool) (Q : pm_R → pm_H → Prop) (x1 : Int32) (x2 : Int32) (I : Nat → Nat → Int32) (J : Nat → Nat → Int64) : Prop := pm_T (pm_Ev d) 232 Q (23, [(0, .ref 85), (1, .int x1), (2, .int x2)], [], pm_hp L fz t I J, 0, 0)
def t_X11_mirrored_67 (d L : Nat) (fz t : Bool) (Q : pm_R → pm_H → Prop) (x1 : Int32) (x2 : Int32) (s0 : Int32) (r : Int32) (I : Nat → Nat → Int32) (J : Nat → Nat → Int64) : Prop := pm_T (pm_Ev d) 232 Q (67, [(0, .ref 85), (1, .int x1), (2, .int x2)], [.int r, .int s0], pm_hp L fz t I J, 0, 0)
def K_X11_mirrored_67 (d : Nat) (fz t : Bool) (Q : pm_R → pm_H → Prop) (x1 : Int32) (x2 : Int32) (s0 : Int32) : pm_R → pm_H → Prop := pm_K d 232 Q 67 [(0, .ref 85), (1, .int x1), (2, .int x2)] [.int s0] 118 0 fz 0 0
set_option maxRecDepth 100000 in
theorem b_X11_mirrored_0 {d L : Nat} {fz t : Bool} {Q : pm_R → pm_H → Prop} {x1 : Int32} {I : Nat → Nat → Int32} {J : Nat → Nat → Int64}
    (h : pm_Ev d 183 [.ref 85, .int x1, .int (nI 1)] (pm_hp L fz t (pm_u I 85 0 (nI 0)) J) (K_X11_mirrored_11 d fz t Q x1)) :
    t_X11_mirrored_0 d L fz t Q x1 I J := by
  exact pm_go d [(11, [0, 1]), (21, [0, 1]), (23, [0, 1, 2]), (67, [0, 1, 2])] 400 h
theorem e_X11_mirrored {d L : Nat} {fz t : Bool} {Q : pm_R → pm_H → Prop} {x1 : Int32} {I : Nat → Nat → Int32} {J : Nat → Nat → Int64}
    (h : pm_Ev d 183 [.ref 85, .int x1, .int (nI 1)] (pm_hp L fz t (pm_u I 85 0 (nI 0)) J) (K_X11_mirrored_11 d fz t Q x1)) :
    pm_Ev (d + 1) 232 [.ref 85, .int x1] (pm_hp L fz t I J) Q := pm_Ev_in rfl (b_X11_mirrored_0 h)
set_option maxRecDepth 100000 in
theorem b_X11_mirrored_11 {d L : Nat} {fz t : Bool} {Q : pm_R → pm_H → Prop} {x1 : Int32} {r : Int32} {I : Nat → Nat → Int32} {J : Nat → Nat → Int64}
    (h : ((¬ r = (nI 0) → pm_Ev d 169 [.ref 85, .int (nI 0)] (pm_hp L fz t I J) (K_X11_mirrored_21 d fz t Q x1)) ∧ (r = (nI 0) → Q (.inl (some (.int (nI 0)))) (pm_hp L fz t I J)))) :
    t_X11_mirrored_11 d L fz t Q x1 r I J := by
  exact pm_go d [(11, [0, 1]), (21, [0, 1]), (23, [0, 1, 2]), (67, [0, 1, 2])] 400 ⟨fun q0 => ((h).1 q0), fun q0 => ⟨Or.inl rfl, ((h).2 q0)⟩⟩
theorem kb_X11_mirrored_11 {d L : Nat} {fz t : Bool} {Q : pm_R → pm_H → Prop} {x1 : Int32} {r : Int32} {fz1 : Bool} {I : Nat → Nat → Int32} {J : Nat → Nat → Int64}
    (h : ((¬ r = (nI 0) → pm_Ev d 169 [.ref 85, .int (nI 0)] (pm_hp L fz t I J) (K_X11_mirrored_21 d fz t Q x1)) ∧ (r = (nI 0) → Q (.inl (some (.int (nI 0)))) (pm_hp L fz t I J)))) :
    K_X11_mirrored_11 d fz t Q x1 (.inl (some (.int r))) (pm_hp L fz1 t I J) := b_X11_mirrored_11 h
set_option maxRecDepth 100000 in
theorem b_X11_mirrored_21 {d L : Nat} {fz t : Bool} {Q : pm_R → pm_H → Prop} {x1 : Int32} {I : Nat → Nat → Int32} {J : Nat → Nat → Int64}
    (h : t_X11_mirrored_23 d L fz t Q x1 (nI 0) I J) :
    t_X11_mirrored_21 d L fz t Q x1 I J := by
  exact pm_go d [(11, [0, 1]), (21, [0, 1]), (23, [0, 1, 2]), (67, [0, 1, 2])] 400 h
theorem kb_X11_mirrored_21 {d L : Nat} {fz t : Bool} {Q : pm_R → pm_H → Prop} {x1 : Int32} {fz1 : Bool} {I : Nat → Nat → Int32} {J : Nat → Nat → Int64}
    (h : t_X11_mirrored_23 d L fz t Q x1 (nI 0) I J) :
    K_X11_mirrored_21 d fz t Q x1 (.inl none) (pm_hp L fz1 t I J) := b_X11_mirrored_21 h
set_option maxRecDepth 100000 in
theorem b_X11_mirrored_23 {d L : Nat} {fz t : Bool} {Q : pm_R → pm_H → Prop} {x1 : Int32} {x2 : Int32} {I : Nat → Nat → Int32} {J : Nat → Nat → Int64}
    (h : (((I 85 3) ≤ x2 → Q (.inl (some (.int (nI 1)))) (pm_hp L fz t I J)) ∧ (¬ (I 85 3) ≤ x2 → (vp_in x2 12 ∧ ((¬ x1 = (nI 0) → (vp_in x2 12 ∧ pm_Ev d 190 [.ref 85, .int (I 107 (x2).toNatClampNeg)] (pm_hp L fz t I J) (K_X11_mirrored_67 d fz t Q x1 x2 (I 107 (x2).toNatClampNeg)))) ∧ (x1 = (nI 0) → (vp_in (((I 85 3) - (nI 1)) - x2) 12 ∧ t_X11_mirrored_67 d L fz t Q x1 x2 (I 107 (x2).toNatClampNeg) (I 107 ((((I 85 3) - (nI 1)) - x2)).toNatClampNeg) I J))))))) :
    t_X11_mirrored_23 d L fz t Q x1 x2 I J := by
  exact pm_go d [(11, [0, 1]), (21, [0, 1]), (23, [0, 1, 2]), (67, [0, 1, 2])] 400 ⟨fun q0 => ⟨Or.inr rfl, ((h).1 q0)⟩, fun q0 => ⟨(((h).2 q0)).1, ⟨fun q1 => ⟨((((((h).2 q0)).2).1 q1)).1, ((((((h).2 q0)).2).1 q1)).2⟩, fun q1 => ⟨((((((h).2 q0)).2).2 q1)).1, ((((((h).2 q0)).2).2 q1)).2⟩⟩⟩⟩
set_option maxRecDepth 100000 in
theorem b_X11_mirrored_67 {d L : Nat} {fz t : Bool} {Q : pm_R → pm_H → Prop} {x1 : Int32} {x2 : Int32} {s0 : Int32} {r : Int32} {I : Nat → Nat → Int32} {J : Nat → Nat → Int64}
    (h : ((s0 = r → t_X11_mirrored_23 d L fz t Q x1 (x2 + (nI 1)) I J) ∧ (¬ s0 = r → Q (.inl (some (.int (nI 0)))) (pm_hp L fz t I J)))) :
    t_X11_mirrored_67 d L fz t Q x1 x2 s0 r I J := by
  exact pm_go d [(11, [0, 1]), (21, [0, 1]), (23, [0, 1, 2]), (67, [0, 1, 2])] 400 ⟨fun q0 => ((h).1 q0), fun q0 => ⟨Or.inl rfl, ((h).2 q0)⟩⟩
theorem kb_X11_mirrored_67 {d L : Nat} {fz t : Bool} {Q : pm_R → pm_H → Prop} {x1 : Int32} {x2 : Int32} {s0 : Int32} {r : Int32} {fz1 : Bool} {I : Nat → Nat → Int32} {J : Nat → Nat → Int64}
    (h : ((s0 = r → t_X11_mirrored_23 d L fz t Q x1 (x2 + (nI 1)) I J) ∧ (¬ s0 = r → Q (.inl (some (.int (nI 0)))) (pm_hp L fz t I J)))) :
    K_X11_mirrored_67 d fz t Q x1 x2 s0 (.inl (some (.int r))) (pm_hp L fz1 t I J) := b_X11_mirrored_67 h
def t_X11_swap_0 (d L : Nat) (fz t : Bool) (Q : pm_R → pm_H → Prop) (I : Nat → Nat → Int32) (J : Nat → Nat → Int64) : Prop := pm_T (pm_Ev d) 233 Q (0, [(0, .ref 85)], [], pm_hp L fz t I J, 0, 0)
def t_X11_swap_11 (d L : Nat) (fz t : Bool) (Q : pm_R → pm_H → Prop) (x1 : Int32) (r : Int32) (I : Nat → Nat → Int32) (J : Nat → Nat → Int64) : Prop := pm_T (pm_Ev d) 233 Q (11, [(0, .ref 85), (1, .int x1)], [.int r], pm_hp L fz t I J, 0, 0)
def K_X11_swap_11 (d : Nat) (fz t : Bool) (Q : pm_R → pm_H → Prop) (x1 : Int32) : pm_R → pm_H → Prop := pm_K d 233 Q 11 [(0, .ref 85), (1, .int x1)] [] 118 0 fz 0 0
def t_X11_swap_14 (d L : Nat) (fz t : Bool) (Q : pm_R → pm_H → Prop) (x1 : Int32) (x2 : Int32) (x3 : Int32) (I : Nat → Nat → Int32) (J : Nat → Nat → Int64) : Prop := pm_T (pm_Ev d) 233 Q (14, [(0, .ref 85), (1, .int x1), (2, .int x2), (3, .int x3)], [], pm_hp L fz t I J, 0, 0)
def t_X11_swap_27 (d L : Nat) (fz t : Bool) (Q : pm_R → pm_H → Prop) (x1 : Int32) (x2 : Int32) (x3 : Int32) (x4 : Int32) (I : Nat → Nat → Int32) (J : Nat → Nat → Int64) : Prop := pm_T (pm_Ev d) 233 Q (27, [(0, .ref 85), (1, .int x1), (2, .int x2), (3, .int x3), (4, .int x4)], [], pm_hp L fz t I J, 0, 0)
def t_X11_swap_44 (d L : Nat) (fz t : Bool) (Q : pm_R → pm_H → Prop) (x1 : Int32) (x2 : Int32) (x3 : Int32) (x4 : Int32) (I : Nat → Nat → Int32) (J : Nat → Nat → Int64) : Prop := pm_T (pm_Ev d) 233 Q (44, [(0, .ref 85), (1, .int x1), (2, .int x2), (3, .int x3), (4, .int x4)], [], pm_hp L fz t I J, 0, 0)
def K_X11_swap_44 (d : Nat) (fz t : Bool) (Q : pm_R → pm_H → Prop) (x1 : Int32) (x2 : Int32) (x3 : Int32) (x4 : Int32) : pm_R → pm_H → Prop := pm_K d 233 Q 44 [(0, .ref 85), (1, .int x1), (2, .int x2), (3, .int x3), (4, .int x4)] [] 118 0 fz 0 0
def t_X11_swap_48 (d L : Nat) (fz t : Bool) (Q : pm_R → pm_H → Prop) (x1 : Int32) (x2 : Int32) (x3 : Int32) (x4 : Int32) (r : Int32) (I : Nat → Nat → Int32) (J : Nat → Nat → Int64) : Prop := pm_T (pm_Ev d) 233 Q (48, [(0, .ref 85), (1, .int x1), (2, .int x2), (3, .int x3), (4, .int x4)], [.int r], pm_hp L fz t I J, 0, 0)
def K_X11_swap_48 (d : Nat) (fz t : Bool) (Q : pm_R → pm_H → Prop) (x1 : Int32) (x2 : Int32) (x3 : Int32) (x4 : Int32) : pm_R → pm_H → Prop := pm_K d 233 Q 48 [(0, .ref 85), (1, .int x1), (2, .int x2), (3, .int x3), (4, .int x4)] [] 118 0 fz 0 0
def t_X11_swap_58 (d L : Nat) (fz t : Bool) (Q : pm_R → pm_H → Prop) (x1 : Int32) (x2 : Int32) (x3 : Int32) (x4 : Int32) (x5 : Int32) (I : Nat → Nat → Int32) (J : Nat → Nat → Int64) : Prop := pm_T (pm_Ev d) 233 Q (58, [(0, .ref 85), (1, .int x1), (2, .int x2), (3, .int x3), (4, .int x4), (5, .int x5)], [], pm_hp L fz t I J, 0, 0)
def K_X11_swap_58 (d : Nat) (fz t : Bool) (Q : pm_R → pm_H → Prop) (x1 : Int32) (x2 : Int32) (x3 : Int32) (x4 : Int32) (x5 : Int32) : pm_R → pm_H → Prop := pm_K d 233 Q 58 [(0, .ref 85), (1, .int x1), (2, .int x2), (3, .int x3), (4, .int x4), (5, .int x5)] [] 118 0 fz 0 0
set_option maxRecDepth 100000 in
theorem b_X11_swap_0 {d L : Nat} {fz t : Bool} {Q : pm_R → pm_H → Prop} {I : Nat → Nat → Int32} {J : Nat → Nat → Int64}
    (h : pm_Ev d 176 [.ref 85] (pm_hp L fz t (pm_u I 85 0 (nI 0)) J) (K_X11_swap_11 d fz t Q (-1 : Int32))) :
    t_X11_swap_0 d L fz t Q I J := by
  exact pm_go d [(11, [0, 1]), (14, [0, 1, 2, 3]), (27, [0, 1, 2, 3, 4]), (44, [0, 1, 2, 3, 4]), (48, [0, 1, 2, 3, 4]), (58, [0, 1, 2, 3, 4, 5])] 400 h
theorem e_X11_swap {d L : Nat} {fz t : Bool} {Q : pm_R → pm_H → Prop} {I : Nat → Nat → Int32} {J : Nat → Nat → Int64}
    (h : pm_Ev d 176 [.ref 85] (pm_hp L fz t (pm_u I 85 0 (nI 0)) J) (K_X11_swap_11 d fz t Q (-1 : Int32))) :
    pm_Ev (d + 1) 233 [.ref 85] (pm_hp L fz t I J) Q := pm_Ev_in rfl (b_X11_swap_0 h)
set_option maxRecDepth 100000 in
theorem b_X11_swap_11 {d L : Nat} {fz t : Bool} {Q : pm_R → pm_H → Prop} {x1 : Int32} {r : Int32} {I : Nat → Nat → Int32} {J : Nat → Nat → Int64}
    (h : t_X11_swap_14 d L fz t Q x1 r (nI 0) I J) :
    t_X11_swap_11 d L fz t Q x1 r I J := by
  exact pm_go d [(11, [0, 1]), (14, [0, 1, 2, 3]), (27, [0, 1, 2, 3, 4]), (44, [0, 1, 2, 3, 4]), (48, [0, 1, 2, 3, 4]), (58, [0, 1, 2, 3, 4, 5])] 400 h
theorem kb_X11_swap_11 {d L : Nat} {fz t : Bool} {Q : pm_R → pm_H → Prop} {x1 : Int32} {r : Int32} {fz1 : Bool} {I : Nat → Nat → Int32} {J : Nat → Nat → Int64}
    (h : t_X11_swap_14 d L fz t Q x1 r (nI 0) I J) :
    K_X11_swap_11 d fz t Q x1 (.inl (some (.int r))) (pm_hp L fz1 t I J) := b_X11_swap_11 h
set_option maxRecDepth 100000 in
theorem b_X11_swap_14 {d L : Nat} {fz t : Bool} {Q : pm_R → pm_H → Prop} {x1 : Int32} {x2 : Int32} {x3 : Int32} {I : Nat → Nat → Int32} {J : Nat → Nat → Int64}
    (h : (((I 85 3) ≤ x3 → Q (.inl (some (.int x1))) (pm_hp L fz t I J)) ∧ (¬ (I 85 3) ≤ x3 → t_X11_swap_27 d L fz t Q x1 x2 x3 (x3 + (nI 1)) I J))) :
    t_X11_swap_14 d L fz t Q x1 x2 x3 I J := by
  exact pm_go d [(11, [0, 1]), (14, [0, 1, 2, 3]), (27, [0, 1, 2, 3, 4]), (44, [0, 1, 2, 3, 4]), (48, [0, 1, 2, 3, 4]), (58, [0, 1, 2, 3, 4, 5])] 400 ⟨fun q0 => ((h).1 q0), fun q0 => ((h).2 q0)⟩
set_option maxRecDepth 100000 in
theorem b_X11_swap_27 {d L : Nat} {fz t : Bool} {Q : pm_R → pm_H → Prop} {x1 : Int32} {x2 : Int32} {x3 : Int32} {x4 : Int32} {I : Nat → Nat → Int32} {J : Nat → Nat → Int64}
    (h : (((I 85 3) ≤ x4 → t_X11_swap_14 d L fz t Q x1 x2 (x3 + (nI 1)) I J) ∧ (¬ (I 85 3) ≤ x4 → pm_Ev d 193 [.ref 85, .int (nI 0), .int x3, .int x4] (pm_hp L fz t I J) (K_X11_swap_44 d fz t Q x1 x2 x3 x4)))) :
    t_X11_swap_27 d L fz t Q x1 x2 x3 x4 I J := by
  exact pm_go d [(11, [0, 1]), (14, [0, 1, 2, 3]), (27, [0, 1, 2, 3, 4]), (44, [0, 1, 2, 3, 4]), (48, [0, 1, 2, 3, 4]), (58, [0, 1, 2, 3, 4, 5])] 400 ⟨fun q0 => ((h).1 q0), fun q0 => ((h).2 q0)⟩
set_option maxRecDepth 100000 in
theorem b_X11_swap_44 {d L : Nat} {fz t : Bool} {Q : pm_R → pm_H → Prop} {x1 : Int32} {x2 : Int32} {x3 : Int32} {x4 : Int32} {I : Nat → Nat → Int32} {J : Nat → Nat → Int64}
    (h : pm_Ev d 176 [.ref 85] (pm_hp L fz t I J) (K_X11_swap_48 d fz t Q x1 x2 x3 x4)) :
    t_X11_swap_44 d L fz t Q x1 x2 x3 x4 I J := by
  exact pm_go d [(11, [0, 1]), (14, [0, 1, 2, 3]), (27, [0, 1, 2, 3, 4]), (44, [0, 1, 2, 3, 4]), (48, [0, 1, 2, 3, 4]), (58, [0, 1, 2, 3, 4, 5])] 400 h
theorem kb_X11_swap_44 {d L : Nat} {fz t : Bool} {Q : pm_R → pm_H → Prop} {x1 : Int32} {x2 : Int32} {x3 : Int32} {x4 : Int32} {fz1 : Bool} {I : Nat → Nat → Int32} {J : Nat → Nat → Int64}
    (h : pm_Ev d 176 [.ref 85] (pm_hp L fz t I J) (K_X11_swap_48 d fz t Q x1 x2 x3 x4)) :
    K_X11_swap_44 d fz t Q x1 x2 x3 x4 (.inl none) (pm_hp L fz1 t I J) := b_X11_swap_44 h
set_option maxRecDepth 100000 in
theorem b_X11_swap_48 {d L : Nat} {fz t : Bool} {Q : pm_R → pm_H → Prop} {x1 : Int32} {x2 : Int32} {x3 : Int32} {x4 : Int32} {r : Int32} {I : Nat → Nat → Int32} {J : Nat → Nat → Int64}
    (h : pm_Ev d 193 [.ref 85, .int (nI 0), .int x3, .int x4] (pm_hp L fz t I J) (K_X11_swap_58 d fz t Q x1 x2 x3 x4 r)) :
    t_X11_swap_48 d L fz t Q x1 x2 x3 x4 r I J := by
  exact pm_go d [(11, [0, 1]), (14, [0, 1, 2, 3]), (27, [0, 1, 2, 3, 4]), (44, [0, 1, 2, 3, 4]), (48, [0, 1, 2, 3, 4]), (58, [0, 1, 2, 3, 4, 5])] 400 h
theorem kb_X11_swap_48 {d L : Nat} {fz t : Bool} {Q : pm_R → pm_H → Prop} {x1 : Int32} {x2 : Int32} {x3 : Int32} {x4 : Int32} {r : Int32} {fz1 : Bool} {I : Nat → Nat → Int32} {J : Nat → Nat → Int64}
    (h : pm_Ev d 193 [.ref 85, .int (nI 0), .int x3, .int x4] (pm_hp L fz t I J) (K_X11_swap_58 d fz t Q x1 x2 x3 x4 r)) :
    K_X11_swap_48 d fz t Q x1 x2 x3 x4 (.inl (some (.int r))) (pm_hp L fz1 t I J) := b_X11_swap_48 h
set_option maxRecDepth 100000 in
theorem b_X11_swap_58 {d L : Nat} {fz t : Bool} {Q : pm_R → pm_H → Prop} {x1 : Int32} {x2 : Int32} {x3 : Int32} {x4 : Int32} {x5 : Int32} {I : Nat → Nat → Int32} {J : Nat → Nat → Int64}
    (h : ((x5 < x2 → t_X11_swap_27 d L fz t Q (((nI 100) * x3) + x4) x5 x3 (x4 + (nI 1)) I J) ∧ (¬ x5 < x2 → t_X11_swap_27 d L fz t Q x1 x2 x3 (x4 + (nI 1)) I J))) :
    t_X11_swap_58 d L fz t Q x1 x2 x3 x4 x5 I J := by
  exact pm_go d [(11, [0, 1]), (14, [0, 1, 2, 3]), (27, [0, 1, 2, 3, 4]), (44, [0, 1, 2, 3, 4]), (48, [0, 1, 2, 3, 4]), (58, [0, 1, 2, 3, 4, 5])] 400 ⟨fun q0 => ((h).1 q0), fun q0 => ((h).2 q0)⟩
theorem kb_X11_swap_58 {d L : Nat} {fz t : Bool} {Q : pm_R → pm_H → Prop} {x1 : Int32} {x2 : Int32} {x3 : Int32} {x4 : Int32} {x5 : Int32} {fz1 : Bool} {I : Nat → Nat → Int32} {J : Nat → Nat → Int64}
    (h : ((x5 < x2 → t_X11_swap_27 d L fz t Q (((nI 100) * x3) + x4) x5 x3 (x4 + (nI 1)) I J) ∧ (¬ x5 < x2 → t_X11_swap_27 d L fz t Q x1 x2 x3 (x4 + (nI 1)) I J))) :
    K_X11_swap_58 d fz t Q x1 x2 x3 x4 x5 (.inl none) (pm_hp L fz1 t I J) := b_X11_swap_58 h
def t_X11_image_0 (d L : Nat) (fz t : Bool) (Q : pm_R → pm_H → Prop) (I : Nat → Nat → Int32) (J : Nat → Nat → Int64) : Prop := pm_T (pm_Ev d) 234 Q (0, [(0, .ref 85)], [], pm_hp L fz t I J, 0, 0)
def t_X11_image_28 (d L : Nat) (fz t : Bool) (Q : pm_R → pm_H → Prop) (x1 : Int32) (I : Nat → Nat → Int32) (J : Nat → Nat → Int64) : Prop := pm_T (pm_Ev d) 234 Q (28, [(0, .ref 85), (1, .int x1)], [], pm_hp L fz t I J, 0, 0)
def t_X11_image_64 (d L : Nat) (fz t : Bool) (Q : pm_R → pm_H → Prop) (I : Nat → Nat → Int32) (J : Nat → Nat → Int64) : Prop := pm_T (pm_Ev d) 234 Q (64, [(0, .ref 85)], [], pm_hp L fz t I J, 0, 0)
def K_X11_image_64 (d : Nat) (fz t : Bool) (Q : pm_R → pm_H → Prop) : pm_R → pm_H → Prop := pm_K d 234 Q 64 [(0, .ref 85)] [] 118 0 fz 0 0
def t_X11_image_76 (d L : Nat) (fz t : Bool) (Q : pm_R → pm_H → Prop) (I : Nat → Nat → Int32) (J : Nat → Nat → Int64) : Prop := pm_T (pm_Ev d) 234 Q (76, [], [], pm_hp L fz t I J, 0, 0)
def K_X11_image_76 (d : Nat) (fz t : Bool) (Q : pm_R → pm_H → Prop) : pm_R → pm_H → Prop := pm_K d 234 Q 76 [] [] 118 0 fz 0 0
set_option maxRecDepth 100000 in
theorem b_X11_image_0 {d L : Nat} {fz t : Bool} {Q : pm_R → pm_H → Prop} {I : Nat → Nat → Int32} {J : Nat → Nat → Int64}
    (h : t_X11_image_28 d L fz t Q (nI 0) (pm_u (pm_u (pm_u (pm_u I 85 0 (nI 0)) 85 61 (nI 1)) 85 62 (I 85 48)) 85 63 (I 85 55)) J) :
    t_X11_image_0 d L fz t Q I J := by
  exact pm_go d [(28, [0, 1]), (64, [0]), (76, [])] 400 ⟨Or.inr rfl, h⟩
theorem e_X11_image {d L : Nat} {fz t : Bool} {Q : pm_R → pm_H → Prop} {I : Nat → Nat → Int32} {J : Nat → Nat → Int64}
    (h : t_X11_image_28 d L fz t Q (nI 0) (pm_u (pm_u (pm_u (pm_u I 85 0 (nI 0)) 85 61 (nI 1)) 85 62 (I 85 48)) 85 63 (I 85 55)) J) :
    pm_Ev (d + 1) 234 [.ref 85] (pm_hp L fz t I J) Q := pm_Ev_in rfl (b_X11_image_0 h)
set_option maxRecDepth 100000 in
theorem b_X11_image_28 {d L : Nat} {fz t : Bool} {Q : pm_R → pm_H → Prop} {x1 : Int32} {I : Nat → Nat → Int32} {J : Nat → Nat → Int64}
    (h : (((nI 34) ≤ x1 → pm_Ev d 122 [.ref 85, .ref 104, .ref 115] (pm_hp L fz t I J) (K_X11_image_64 d fz t Q)) ∧ (¬ (nI 34) ≤ x1 → (vp_in x1 68 ∧ (vp_in x1 34 ∧ t_X11_image_28 d L fz t Q (x1 + (nI 1)) (pm_u I 114 (x1).toNatClampNeg (I 103 (x1).toNatClampNeg)) J))))) :
    t_X11_image_28 d L fz t Q x1 I J := by
  exact pm_go d [(28, [0, 1]), (64, [0]), (76, [])] 400 ⟨fun q0 => ((h).1 q0), fun q0 => ⟨(((h).2 q0)).1, ⟨((((h).2 q0)).2).1, ((((h).2 q0)).2).2⟩⟩⟩
set_option maxRecDepth 100000 in
theorem b_X11_image_64 {d L : Nat} {fz t : Bool} {Q : pm_R → pm_H → Prop} {I : Nat → Nat → Int32} {J : Nat → Nat → Int64}
    (h : pm_Ev d 122 [.ref 85, .ref 110, .ref 116] (pm_hp L fz t I J) (K_X11_image_76 d fz t Q)) :
    t_X11_image_64 d L fz t Q I J := by
  exact pm_go d [(28, [0, 1]), (64, [0]), (76, [])] 400 h
theorem kb_X11_image_64 {d L : Nat} {fz t : Bool} {Q : pm_R → pm_H → Prop} {fz1 : Bool} {I : Nat → Nat → Int32} {J : Nat → Nat → Int64}
    (h : pm_Ev d 122 [.ref 85, .ref 110, .ref 116] (pm_hp L fz t I J) (K_X11_image_76 d fz t Q)) :
    K_X11_image_64 d fz t Q (.inl none) (pm_hp L fz1 t I J) := b_X11_image_64 h
set_option maxRecDepth 100000 in
theorem b_X11_image_76 {d L : Nat} {fz t : Bool} {Q : pm_R → pm_H → Prop} {I : Nat → Nat → Int32} {J : Nat → Nat → Int64}
    (h : Q (.inl none) (pm_hp L fz t I J)) :
    t_X11_image_76 d L fz t Q I J := by
  exact pm_go d [(28, [0, 1]), (64, [0]), (76, [])] 400 h
theorem kb_X11_image_76 {d L : Nat} {fz t : Bool} {Q : pm_R → pm_H → Prop} {fz1 : Bool} {I : Nat → Nat → Int32} {J : Nat → Nat → Int64}
    (h : Q (.inl none) (pm_hp L fz t I J)) :
    K_X11_image_76 d fz t Q (.inl none) (pm_hp L fz1 t I J) := b_X11_image_76 h
def t_X11_restore_0 (d L : Nat) (fz t : Bool) (Q : pm_R → pm_H → Prop) (I : Nat → Nat → Int32) (J : Nat → Nat → Int64) : Prop := pm_T (pm_Ev d) 235 Q (0, [(0, .ref 85)], [], pm_hp L fz t I J, 0, 0)
def t_X11_restore_32 (d L : Nat) (fz t : Bool) (Q : pm_R → pm_H → Prop) (x1 : Int32) (I : Nat → Nat → Int32) (J : Nat → Nat → Int64) : Prop := pm_T (pm_Ev d) 235 Q (32, [(0, .ref 85), (1, .int x1)], [], pm_hp L fz t I J, 0, 0)
def t_X11_restore_68 (d L : Nat) (fz t : Bool) (Q : pm_R → pm_H → Prop) (I : Nat → Nat → Int32) (J : Nat → Nat → Int64) : Prop := pm_T (pm_Ev d) 235 Q (68, [(0, .ref 85)], [], pm_hp L fz t I J, 0, 0)
def K_X11_restore_68 (d : Nat) (fz t : Bool) (Q : pm_R → pm_H → Prop) : pm_R → pm_H → Prop := pm_K d 235 Q 68 [(0, .ref 85)] [] 118 0 fz 0 0
def t_X11_restore_80 (d L : Nat) (fz t : Bool) (Q : pm_R → pm_H → Prop) (I : Nat → Nat → Int32) (J : Nat → Nat → Int64) : Prop := pm_T (pm_Ev d) 235 Q (80, [], [], pm_hp L fz t I J, 0, 0)
def K_X11_restore_80 (d : Nat) (fz t : Bool) (Q : pm_R → pm_H → Prop) : pm_R → pm_H → Prop := pm_K d 235 Q 80 [] [] 118 0 fz 0 0
set_option maxRecDepth 100000 in
theorem b_X11_restore_0 {d L : Nat} {fz t : Bool} {Q : pm_R → pm_H → Prop} {I : Nat → Nat → Int32} {J : Nat → Nat → Int64}
    (h : ((¬ (I 85 61) = (nI 0) → t_X11_restore_32 d L fz t Q (nI 0) (pm_u (pm_u (pm_u I 85 0 (nI 0)) 85 48 (I 85 62)) 85 55 (I 85 63)) J) ∧ ((I 85 61) = (nI 0) → Q (.inl (some (.int (nI 0)))) (pm_hp L fz t (pm_u I 85 0 (nI 0)) J)))) :
    t_X11_restore_0 d L fz t Q I J := by
  exact pm_go d [(32, [0, 1]), (68, [0]), (80, [])] 400 ⟨fun q0 => ((h).1 q0), fun q0 => ⟨Or.inl rfl, ((h).2 q0)⟩⟩
theorem e_X11_restore {d L : Nat} {fz t : Bool} {Q : pm_R → pm_H → Prop} {I : Nat → Nat → Int32} {J : Nat → Nat → Int64}
    (h : ((¬ (I 85 61) = (nI 0) → t_X11_restore_32 d L fz t Q (nI 0) (pm_u (pm_u (pm_u I 85 0 (nI 0)) 85 48 (I 85 62)) 85 55 (I 85 63)) J) ∧ ((I 85 61) = (nI 0) → Q (.inl (some (.int (nI 0)))) (pm_hp L fz t (pm_u I 85 0 (nI 0)) J)))) :
    pm_Ev (d + 1) 235 [.ref 85] (pm_hp L fz t I J) Q := pm_Ev_in rfl (b_X11_restore_0 h)
set_option maxRecDepth 100000 in
theorem b_X11_restore_32 {d L : Nat} {fz t : Bool} {Q : pm_R → pm_H → Prop} {x1 : Int32} {I : Nat → Nat → Int32} {J : Nat → Nat → Int64}
    (h : (((nI 34) ≤ x1 → pm_Ev d 122 [.ref 85, .ref 115, .ref 104] (pm_hp L fz t I J) (K_X11_restore_68 d fz t Q)) ∧ (¬ (nI 34) ≤ x1 → (vp_in x1 34 ∧ (vp_in x1 68 ∧ t_X11_restore_32 d L fz t Q (x1 + (nI 1)) (pm_u I 103 (x1).toNatClampNeg (I 114 (x1).toNatClampNeg)) J))))) :
    t_X11_restore_32 d L fz t Q x1 I J := by
  exact pm_go d [(32, [0, 1]), (68, [0]), (80, [])] 400 ⟨fun q0 => ((h).1 q0), fun q0 => ⟨(((h).2 q0)).1, ⟨((((h).2 q0)).2).1, ((((h).2 q0)).2).2⟩⟩⟩
set_option maxRecDepth 100000 in
theorem b_X11_restore_68 {d L : Nat} {fz t : Bool} {Q : pm_R → pm_H → Prop} {I : Nat → Nat → Int32} {J : Nat → Nat → Int64}
    (h : pm_Ev d 122 [.ref 85, .ref 116, .ref 110] (pm_hp L fz t I J) (K_X11_restore_80 d fz t Q)) :
    t_X11_restore_68 d L fz t Q I J := by
  exact pm_go d [(32, [0, 1]), (68, [0]), (80, [])] 400 h
theorem kb_X11_restore_68 {d L : Nat} {fz t : Bool} {Q : pm_R → pm_H → Prop} {fz1 : Bool} {I : Nat → Nat → Int32} {J : Nat → Nat → Int64}
    (h : pm_Ev d 122 [.ref 85, .ref 116, .ref 110] (pm_hp L fz t I J) (K_X11_restore_80 d fz t Q)) :
    K_X11_restore_68 d fz t Q (.inl none) (pm_hp L fz1 t I J) := b_X11_restore_68 h
set_option maxRecDepth 100000 in
theorem b_X11_restore_80 {d L : Nat} {fz t : Bool} {Q : pm_R → pm_H → Prop} {I : Nat → Nat → Int32} {J : Nat → Nat → Int64}
    (h : Q (.inl (some (.int (nI 1)))) (pm_hp L fz t I J)) :
    t_X11_restore_80 d L fz t Q I J := by
  exact pm_go d [(32, [0, 1]), (68, [0]), (80, [])] 400 ⟨Or.inr rfl, h⟩
theorem kb_X11_restore_80 {d L : Nat} {fz t : Bool} {Q : pm_R → pm_H → Prop} {fz1 : Bool} {I : Nat → Nat → Int32} {J : Nat → Nat → Int64}
    (h : Q (.inl (some (.int (nI 1)))) (pm_hp L fz t I J)) :
    K_X11_restore_80 d fz t Q (.inl none) (pm_hp L fz1 t I J) := b_X11_restore_80 h
