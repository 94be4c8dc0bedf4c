def t_X0_keep_0 (d L : Nat) (fz t : Bool) (Q : pm_R → pm_H → Prop) (a0 : Nat) (x1 : Int32) (x2 : Int32) (x3 : Int32) (y4 : Int64) (I : Nat → Nat → Int32) (J : Nat → Nat → Int64) : Prop := pm_T (pm_Ev d) 0 Q (0, [(0, .ref a0), (1, .int x1), (2, .int x2), (3, .int x3), (4, .long y4)], [], pm_hp L fz t I J, 0, 0)
def t_X0_keep_13 (d L : Nat) (fz t : Bool) (Q : pm_R → pm_H → Prop) (a0 : Nat) (x1 : Int32) (x2 : Int32) (x3 : Int32) (y4 : Int64) (I : Nat → Nat → Int32) (J : Nat → Nat → Int64) : Prop := pm_T (pm_Ev d) 0 Q (13, [(0, .ref a0), (1, .int x1), (2, .int x2), (3, .int x3), (4, .long y4)], [], pm_hp L fz t I J, 0, 0)
def K_X0_keep_13 (d : Nat) (fz t : Bool) (Q : pm_R → pm_H → Prop) (a0 : Nat) (x1 : Int32) (x2 : Int32) (x3 : Int32) (y4 : Int64) : pm_R → pm_H → Prop := pm_K d 0 Q 13 [(0, .ref a0), (1, .int x1), (2, .int x2), (3, .int x3), (4, .long y4)] [] 118 0 fz 0 0
set_option maxRecDepth 100000 in
theorem b_X0_keep_0 {d L : Nat} {fz t : Bool} {Q : pm_R → pm_H → Prop} {a0 : Nat} {x1 : Int32} {x2 : Int32} {x3 : Int32} {y4 : Int64} {I : Nat → Nat → Int32} {J : Nat → Nat → Int64} (ha0 : a0 = 35 ∨ a0 = 40)
    (h : (((I a0 4) < (nI 40) → t_X0_keep_13 d L fz t Q a0 x1 x2 x3 y4 I J) ∧ (¬ (I a0 4) < (nI 40) → pm_Ev d 1 [.ref a0] (pm_hp L fz t I J) (K_X0_keep_13 d fz t Q a0 x1 x2 x3 y4)))) :
    t_X0_keep_0 d L fz t Q a0 x1 x2 x3 y4 I J := by
  rcases ha0 with rfl | rfl <;> exact pm_go d [(13, [0, 1, 2, 3, 4])] 400 ⟨fun q0 => ((h).1 q0), fun q0 => ((h).2 q0)⟩
theorem e_X0_keep {d L : Nat} {fz t : Bool} {Q : pm_R → pm_H → Prop} {a0 : Nat} {x1 : Int32} {x2 : Int32} {x3 : Int32} {y4 : Int64} {I : Nat → Nat → Int32} {J : Nat → Nat → Int64} (ha0 : a0 = 35 ∨ a0 = 40)
    (h : (((I a0 4) < (nI 40) → t_X0_keep_13 d L fz t Q a0 x1 x2 x3 y4 I J) ∧ (¬ (I a0 4) < (nI 40) → pm_Ev d 1 [.ref a0] (pm_hp L fz t I J) (K_X0_keep_13 d fz t Q a0 x1 x2 x3 y4)))) :
    pm_Ev (d + 1) 0 [.ref a0, .int x1, .int x2, .int x3, .long y4] (pm_hp L fz t I J) Q := pm_Ev_in rfl (b_X0_keep_0 ha0 h)
set_option maxRecDepth 100000 in
theorem b_X0_keep_13 {d L : Nat} {fz t : Bool} {Q : pm_R → pm_H → Prop} {a0 : Nat} {x1 : Int32} {x2 : Int32} {x3 : Int32} {y4 : Int64} {I : Nat → Nat → Int32} {J : Nat → Nat → Int64} (ha0 : a0 = 35 ∨ a0 = 40)
    (h : (vp_in (I a0 4) 40 ∧ (vp_in (I a0 4) 40 ∧ (vp_in (I a0 4) 40 ∧ (vp_in (I a0 4) 40 ∧ Q (.inl none) (pm_hp L fz t (pm_u (pm_u (pm_u (pm_u I (a0 + 1) ((I a0 4)).toNatClampNeg x1) (a0 + 2) ((I a0 4)).toNatClampNeg x2) (a0 + 3) ((I a0 4)).toNatClampNeg x3) a0 4 ((I a0 4) + (nI 1))) (pm_u J (a0 + 4) ((I a0 4)).toNatClampNeg y4))))))) :
    t_X0_keep_13 d L fz t Q a0 x1 x2 x3 y4 I J := by
  rcases ha0 with rfl | rfl <;> exact pm_go d [(13, [0, 1, 2, 3, 4])] 400 ⟨(h).1, ⟨((h).2).1, ⟨(((h).2).2).1, ⟨((((h).2).2).2).1, ((((h).2).2).2).2⟩⟩⟩⟩
theorem kb_X0_keep_13 {d L : Nat} {fz t : Bool} {Q : pm_R → pm_H → Prop} {a0 : Nat} {x1 : Int32} {x2 : Int32} {x3 : Int32} {y4 : Int64} {fz1 : Bool} {I : Nat → Nat → Int32} {J : Nat → Nat → Int64} (ha0 : a0 = 35 ∨ a0 = 40)
    (h : (vp_in (I a0 4) 40 ∧ (vp_in (I a0 4) 40 ∧ (vp_in (I a0 4) 40 ∧ (vp_in (I a0 4) 40 ∧ Q (.inl none) (pm_hp L fz t (pm_u (pm_u (pm_u (pm_u I (a0 + 1) ((I a0 4)).toNatClampNeg x1) (a0 + 2) ((I a0 4)).toNatClampNeg x2) (a0 + 3) ((I a0 4)).toNatClampNeg x3) a0 4 ((I a0 4) + (nI 1))) (pm_u J (a0 + 4) ((I a0 4)).toNatClampNeg y4))))))) :
    K_X0_keep_13 d fz t Q a0 x1 x2 x3 y4 (.inl none) (pm_hp L fz1 t I J) := b_X0_keep_13 ha0 h
def t_X0_dropOldest_0 (d L : Nat) (fz t : Bool) (Q : pm_R → pm_H → Prop) (a0 : Nat) (I : Nat → Nat → Int32) (J : Nat → Nat → Int64) : Prop := pm_T (pm_Ev d) 1 Q (0, [(0, .ref a0)], [], pm_hp L fz t I J, 0, 0)
set_option maxRecDepth 100000 in
theorem b_X0_dropOldest_0 {d L : Nat} {fz t : Bool} {Q : pm_R → pm_H → Prop} {a0 : Nat} {I : Nat → Nat → Int32} {J : Nat → Nat → Int64} (ha0 : a0 = 35 ∨ a0 = 40)
    (h : Q (.inl none) (pm_hp L fz t (pm_u (pm_ur (pm_ur (pm_ur I (a0 + 1) (va_cpy (I (a0 + 1)) (I (a0 + 1)) 1 0 39)) (a0 + 2) (va_cpy (I (a0 + 2)) (I (a0 + 2)) 1 0 39)) (a0 + 3) (va_cpy (I (a0 + 3)) (I (a0 + 3)) 1 0 39)) a0 4 (nI 39)) (pm_ur J (a0 + 4) (va_cpy (J (a0 + 4)) (J (a0 + 4)) 1 0 39)))) :
    t_X0_dropOldest_0 d L fz t Q a0 I J := by
  rcases ha0 with rfl | rfl <;> exact pm_go d [] 400 ⟨⟨by decide, by decide, by decide, (by decide : 1 + 39 ≤ 40), (by decide : 0 + 39 ≤ 40)⟩, ⟨⟨by decide, by decide, by decide, (by decide : 1 + 39 ≤ 40), (by decide : 0 + 39 ≤ 40)⟩, ⟨⟨by decide, by decide, by decide, (by decide : 1 + 39 ≤ 40), (by decide : 0 + 39 ≤ 40)⟩, ⟨⟨by decide, by decide, by decide, (by decide : 1 + 39 ≤ 40), (by decide : 0 + 39 ≤ 40)⟩, h⟩⟩⟩⟩
theorem e_X0_dropOldest {d L : Nat} {fz t : Bool} {Q : pm_R → pm_H → Prop} {a0 : Nat} {I : Nat → Nat → Int32} {J : Nat → Nat → Int64} (ha0 : a0 = 35 ∨ a0 = 40)
    (h : Q (.inl none) (pm_hp L fz t (pm_u (pm_ur (pm_ur (pm_ur I (a0 + 1) (va_cpy (I (a0 + 1)) (I (a0 + 1)) 1 0 39)) (a0 + 2) (va_cpy (I (a0 + 2)) (I (a0 + 2)) 1 0 39)) (a0 + 3) (va_cpy (I (a0 + 3)) (I (a0 + 3)) 1 0 39)) a0 4 (nI 39)) (pm_ur J (a0 + 4) (va_cpy (J (a0 + 4)) (J (a0 + 4)) 1 0 39)))) :
    pm_Ev (d + 1) 1 [.ref a0] (pm_hp L fz t I J) Q := pm_Ev_in rfl (b_X0_dropOldest_0 ha0 h)
def t_X0_takeBack_0 (d L : Nat) (fz t : Bool) (Q : pm_R → pm_H → Prop) (a0 : Nat) (a1 : Nat) (I : Nat → Nat → Int32) (J : Nat → Nat → Int64) : Prop := pm_T (pm_Ev d) 2 Q (0, [(0, .ref a0), (1, .ref a1)], [], pm_hp L fz t I J, 0, 0)
def t_X0_takeBack_128 (d L : Nat) (fz t : Bool) (Q : pm_R → pm_H → Prop) (I : Nat → Nat → Int32) (J : Nat → Nat → Int64) : Prop := pm_T (pm_Ev d) 2 Q (128, [], [], pm_hp L fz t I J, 0, 0)
def K_X0_takeBack_128 (d : Nat) (fz t : Bool) (Q : pm_R → pm_H → Prop) : pm_R → pm_H → Prop := pm_K d 2 Q 128 [] [] 118 0 fz 0 0
def t_X0_takeBack_102 (d L : Nat) (fz t : Bool) (Q : pm_R → pm_H → Prop) (I : Nat → Nat → Int32) (J : Nat → Nat → Int64) : Prop := pm_T (pm_Ev d) 2 Q (102, [], [], pm_hp L fz t I J, 0, 0)
def K_X0_takeBack_102 (d : Nat) (fz t : Bool) (Q : pm_R → pm_H → Prop) : pm_R → pm_H → Prop := pm_K d 2 Q 102 [] [] 118 0 fz 0 0
set_option maxRecDepth 100000 in
theorem b_X0_takeBack_0 {d L : Nat} {fz t : Bool} {Q : pm_R → pm_H → Prop} {a0 : Nat} {a1 : Nat} {I : Nat → Nat → Int32} {J : Nat → Nat → Int64} (ha0 : a0 = 35 ∨ a0 = 40) (ha1 : a1 = 23 ∨ a1 = 27 ∨ a1 = 31)
    (h : (((nI 1) ≤ (I a0 4) → (vp_in ((I a0 4) - (nI 1)) 40 ∧ (vp_in ((I a0 4) - (nI 1)) 40 ∧ (vp_in ((I a0 4) - (nI 1)) 40 ∧ ((((I (a0 + 1) (((I a0 4) - (nI 1))).toNatClampNeg)).toInt < 1 ∨ 3 < ((I (a0 + 1) (((I a0 4) - (nI 1))).toNatClampNeg)).toInt → (vp_in ((I a0 4) - (nI 1)) 40 ∧ pm_Ev d 84 [.ref a1, .long (J (a0 + 4) (((I a0 4) - (nI 1))).toNatClampNeg)] (pm_hp L fz t (pm_u (pm_u (pm_u I a0 4 ((I a0 4) - (nI 1))) a1 4 (I (a0 + 2) (((I a0 4) - (nI 1))).toNatClampNeg)) a1 5 (I (a0 + 3) (((I a0 4) - (nI 1))).toNatClampNeg)) J) (K_X0_takeBack_128 d fz t Q))) ∧ (((I (a0 + 1) (((I a0 4) - (nI 1))).toNatClampNeg)).toInt = 1 → (vp_in (I (a0 + 2) (((I a0 4) - (nI 1))).toNatClampNeg) 10 ∧ t_X0_takeBack_128 d L fz t Q (pm_u (pm_u I a0 4 ((I a0 4) - (nI 1))) (a1 + 1) ((I (a0 + 2) (((I a0 4) - (nI 1))).toNatClampNeg)).toNatClampNeg (I (a0 + 3) (((I a0 4) - (nI 1))).toNatClampNeg)) J)) ∧ (((I (a0 + 1) (((I a0 4) - (nI 1))).toNatClampNeg)).toInt = 2 → (vp_in (I (a0 + 2) (((I a0 4) - (nI 1))).toNatClampNeg) 10 ∧ t_X0_takeBack_128 d L fz t Q (pm_u (pm_u I a0 4 ((I a0 4) - (nI 1))) (a1 + 2) ((I (a0 + 2) (((I a0 4) - (nI 1))).toNatClampNeg)).toNatClampNeg (I (a0 + 3) (((I a0 4) - (nI 1))).toNatClampNeg)) J)) ∧ (((I (a0 + 1) (((I a0 4) - (nI 1))).toNatClampNeg)).toInt = 3 → pm_Ev d 81 [.ref a1, .int (I (a0 + 2) (((I a0 4) - (nI 1))).toNatClampNeg), .int (I (a0 + 3) (((I a0 4) - (nI 1))).toNatClampNeg)] (pm_hp L fz t (pm_u I a0 4 ((I a0 4) - (nI 1))) J) (K_X0_takeBack_102 d fz t Q))))))) ∧ (¬ (nI 1) ≤ (I a0 4) → Q (.inl none) (pm_hp L fz t I J)))) :
    t_X0_takeBack_0 d L fz t Q a0 a1 I J := by
  rcases ha0 with rfl | rfl <;> rcases ha1 with rfl | rfl | rfl <;> exact pm_go d [(102, []), (128, [])] 400 ⟨fun q0 => ⟨(((h).1 q0)).1, ⟨((((h).1 q0)).2).1, ⟨(((((h).1 q0)).2).2).1, ⟨fun q1 => ⟨((((((((h).1 q0)).2).2).2).1 q1)).1, ((((((((h).1 q0)).2).2).2).1 q1)).2⟩, fun q1 => ⟨(((((((((h).1 q0)).2).2).2).2).1 q1)).1, (((((((((h).1 q0)).2).2).2).2).1 q1)).2⟩, fun q1 => ⟨((((((((((h).1 q0)).2).2).2).2).2).1 q1)).1, ((((((((((h).1 q0)).2).2).2).2).2).1 q1)).2⟩, fun q1 => (((((((((h).1 q0)).2).2).2).2).2).2 q1), trivial⟩⟩⟩⟩, fun q0 => ((h).2 q0)⟩
theorem e_X0_takeBack {d L : Nat} {fz t : Bool} {Q : pm_R → pm_H → Prop} {a0 : Nat} {a1 : Nat} {I : Nat → Nat → Int32} {J : Nat → Nat → Int64} (ha0 : a0 = 35 ∨ a0 = 40) (ha1 : a1 = 23 ∨ a1 = 27 ∨ a1 = 31)
    (h : (((nI 1) ≤ (I a0 4) → (vp_in ((I a0 4) - (nI 1)) 40 ∧ (vp_in ((I a0 4) - (nI 1)) 40 ∧ (vp_in ((I a0 4) - (nI 1)) 40 ∧ ((((I (a0 + 1) (((I a0 4) - (nI 1))).toNatClampNeg)).toInt < 1 ∨ 3 < ((I (a0 + 1) (((I a0 4) - (nI 1))).toNatClampNeg)).toInt → (vp_in ((I a0 4) - (nI 1)) 40 ∧ pm_Ev d 84 [.ref a1, .long (J (a0 + 4) (((I a0 4) - (nI 1))).toNatClampNeg)] (pm_hp L fz t (pm_u (pm_u (pm_u I a0 4 ((I a0 4) - (nI 1))) a1 4 (I (a0 + 2) (((I a0 4) - (nI 1))).toNatClampNeg)) a1 5 (I (a0 + 3) (((I a0 4) - (nI 1))).toNatClampNeg)) J) (K_X0_takeBack_128 d fz t Q))) ∧ (((I (a0 + 1) (((I a0 4) - (nI 1))).toNatClampNeg)).toInt = 1 → (vp_in (I (a0 + 2) (((I a0 4) - (nI 1))).toNatClampNeg) 10 ∧ t_X0_takeBack_128 d L fz t Q (pm_u (pm_u I a0 4 ((I a0 4) - (nI 1))) (a1 + 1) ((I (a0 + 2) (((I a0 4) - (nI 1))).toNatClampNeg)).toNatClampNeg (I (a0 + 3) (((I a0 4) - (nI 1))).toNatClampNeg)) J)) ∧ (((I (a0 + 1) (((I a0 4) - (nI 1))).toNatClampNeg)).toInt = 2 → (vp_in (I (a0 + 2) (((I a0 4) - (nI 1))).toNatClampNeg) 10 ∧ t_X0_takeBack_128 d L fz t Q (pm_u (pm_u I a0 4 ((I a0 4) - (nI 1))) (a1 + 2) ((I (a0 + 2) (((I a0 4) - (nI 1))).toNatClampNeg)).toNatClampNeg (I (a0 + 3) (((I a0 4) - (nI 1))).toNatClampNeg)) J)) ∧ (((I (a0 + 1) (((I a0 4) - (nI 1))).toNatClampNeg)).toInt = 3 → pm_Ev d 81 [.ref a1, .int (I (a0 + 2) (((I a0 4) - (nI 1))).toNatClampNeg), .int (I (a0 + 3) (((I a0 4) - (nI 1))).toNatClampNeg)] (pm_hp L fz t (pm_u I a0 4 ((I a0 4) - (nI 1))) J) (K_X0_takeBack_102 d fz t Q))))))) ∧ (¬ (nI 1) ≤ (I a0 4) → Q (.inl none) (pm_hp L fz t I J)))) :
    pm_Ev (d + 1) 2 [.ref a0, .ref a1] (pm_hp L fz t I J) Q := pm_Ev_in rfl (b_X0_takeBack_0 ha0 ha1 h)
set_option maxRecDepth 100000 in
theorem b_X0_takeBack_128 {d L : Nat} {fz t : Bool} {Q : pm_R → pm_H → Prop} {I : Nat → Nat → Int32} {J : Nat → Nat → Int64}
    (h : Q (.inl none) (pm_hp L fz t I J)) :
    t_X0_takeBack_128 d L fz t Q I J := by
  exact pm_go d [(102, []), (128, [])] 400 h
theorem kb_X0_takeBack_128 {d L : Nat} {fz t : Bool} {Q : pm_R → pm_H → Prop} {fz1 : Bool} {I : Nat → Nat → Int32} {J : Nat → Nat → Int64}
    (h : Q (.inl none) (pm_hp L fz t I J)) :
    K_X0_takeBack_128 d fz t Q (.inl none) (pm_hp L fz1 t I J) := b_X0_takeBack_128 h
set_option maxRecDepth 100000 in
theorem b_X0_takeBack_102 {d L : Nat} {fz t : Bool} {Q : pm_R → pm_H → Prop} {I : Nat → Nat → Int32} {J : Nat → Nat → Int64}
    (h : t_X0_takeBack_128 d L fz t Q I J) :
    t_X0_takeBack_102 d L fz t Q I J := by
  exact pm_go d [(102, []), (128, [])] 400 h
theorem kb_X0_takeBack_102 {d L : Nat} {fz t : Bool} {Q : pm_R → pm_H → Prop} {fz1 : Bool} {I : Nat → Nat → Int32} {J : Nat → Nat → Int64}
    (h : t_X0_takeBack_128 d L fz t Q I J) :
    K_X0_takeBack_102 d fz t Q (.inl none) (pm_hp L fz1 t I J) := b_X0_takeBack_102 h
def t_X0_copy_0 (d L : Nat) (fz t : Bool) (Q : pm_R → pm_H → Prop) (a0 : Nat) (a1 : Nat) (I : Nat → Nat → Int32) (J : Nat → Nat → Int64) : Prop := pm_T (pm_Ev d) 3 Q (0, [(0, .ref a0), (1, .ref a1)], [], pm_hp L fz t I J, 0, 0)
set_option maxRecDepth 100000 in
theorem b_X0_copy_0 {d L : Nat} {fz t : Bool} {Q : pm_R → pm_H → Prop} {a0 : Nat} {a1 : Nat} {I : Nat → Nat → Int32} {J : Nat → Nat → Int64} (ha0 : a0 = 35 ∨ a0 = 40) (ha1 : a1 = 35 ∨ a1 = 40)
    (h : Q (.inl none) (pm_hp L fz t (pm_u (pm_ur (pm_ur (pm_ur I (a0 + 1) (va_cpy (I (a1 + 1)) (I (a0 + 1)) 0 0 40)) (a0 + 2) (va_cpy (I (a1 + 2)) (I (a0 + 2)) 0 0 40)) (a0 + 3) (va_cpy (I (a1 + 3)) (I (a0 + 3)) 0 0 40)) a0 4 (I a1 4)) (pm_ur J (a0 + 4) (va_cpy (J (a1 + 4)) (J (a0 + 4)) 0 0 40)))) :
    t_X0_copy_0 d L fz t Q a0 a1 I J := by
  rcases ha0 with rfl | rfl <;> rcases ha1 with rfl | rfl <;> exact pm_go d [] 400 ⟨⟨by decide, by decide, by decide, (by decide : 0 + 40 ≤ 40), (by decide : 0 + 40 ≤ 40)⟩, ⟨⟨by decide, by decide, by decide, (by decide : 0 + 40 ≤ 40), (by decide : 0 + 40 ≤ 40)⟩, ⟨⟨by decide, by decide, by decide, (by decide : 0 + 40 ≤ 40), (by decide : 0 + 40 ≤ 40)⟩, ⟨⟨by decide, by decide, by decide, (by decide : 0 + 40 ≤ 40), (by decide : 0 + 40 ≤ 40)⟩, h⟩⟩⟩⟩
theorem e_X0_copy {d L : Nat} {fz t : Bool} {Q : pm_R → pm_H → Prop} {a0 : Nat} {a1 : Nat} {I : Nat → Nat → Int32} {J : Nat → Nat → Int64} (ha0 : a0 = 35 ∨ a0 = 40) (ha1 : a1 = 35 ∨ a1 = 40)
    (h : Q (.inl none) (pm_hp L fz t (pm_u (pm_ur (pm_ur (pm_ur I (a0 + 1) (va_cpy (I (a1 + 1)) (I (a0 + 1)) 0 0 40)) (a0 + 2) (va_cpy (I (a1 + 2)) (I (a0 + 2)) 0 0 40)) (a0 + 3) (va_cpy (I (a1 + 3)) (I (a0 + 3)) 0 0 40)) a0 4 (I a1 4)) (pm_ur J (a0 + 4) (va_cpy (J (a1 + 4)) (J (a0 + 4)) 0 0 40)))) :
    pm_Ev (d + 1) 3 [.ref a0, .ref a1] (pm_hp L fz t I J) Q := pm_Ev_in rfl (b_X0_copy_0 ha0 ha1 h)
def t_X1_clear_0 (d L : Nat) (fz t : Bool) (Q : pm_R → pm_H → Prop) (a0 : Nat) (I : Nat → Nat → Int32) (J : Nat → Nat → Int64) : Prop := pm_T (pm_Ev d) 4 Q (0, [(0, .ref a0)], [], pm_hp L fz t I J, 0, 0)
set_option maxRecDepth 100000 in
theorem b_X1_clear_0 {d L : Nat} {fz t : Bool} {Q : pm_R → pm_H → Prop} {a0 : Nat} {I : Nat → Nat → Int32} {J : Nat → Nat → Int64} (ha0 : a0 = 64 ∨ a0 = 67 ∨ a0 = 79 ∨ a0 = 82)
    (h : Q (.inl none) (pm_hp L fz t (pm_u (pm_u I a0 2 (nI 0)) a0 3 (nI 0)) J)) :
    t_X1_clear_0 d L fz t Q a0 I J := by
  rcases ha0 with rfl | rfl | rfl | rfl <;> exact pm_go d [] 400 h
theorem e_X1_clear {d L : Nat} {fz t : Bool} {Q : pm_R → pm_H → Prop} {a0 : Nat} {I : Nat → Nat → Int32} {J : Nat → Nat → Int64} (ha0 : a0 = 64 ∨ a0 = 67 ∨ a0 = 79 ∨ a0 = 82)
    (h : Q (.inl none) (pm_hp L fz t (pm_u (pm_u I a0 2 (nI 0)) a0 3 (nI 0)) J)) :
    pm_Ev (d + 1) 4 [.ref a0] (pm_hp L fz t I J) Q := pm_Ev_in rfl (b_X1_clear_0 ha0 h)
def t_X1_isTold_0 (d L : Nat) (fz t : Bool) (Q : pm_R → pm_H → Prop) (a0 : Nat) (I : Nat → Nat → Int32) (J : Nat → Nat → Int64) : Prop := pm_T (pm_Ev d) 5 Q (0, [(0, .ref a0)], [], pm_hp L fz t I J, 0, 0)
set_option maxRecDepth 100000 in
theorem b_X1_isTold_0 {d L : Nat} {fz t : Bool} {Q : pm_R → pm_H → Prop} {a0 : Nat} {I : Nat → Nat → Int32} {J : Nat → Nat → Int64} (ha0 : a0 = 64 ∨ a0 = 67 ∨ a0 = 79 ∨ a0 = 82)
    (h : (((I a0 2) ≤ (nI 0) → Q (.inl (some (.int (nI 0)))) (pm_hp L fz t I J)) ∧ (¬ (I a0 2) ≤ (nI 0) → Q (.inl (some (.int (nI 1)))) (pm_hp L fz t I J)))) :
    t_X1_isTold_0 d L fz t Q a0 I J := by
  rcases ha0 with rfl | rfl | rfl | rfl <;> exact pm_go d [] 400 ⟨fun q0 => ⟨Or.inl rfl, ((h).1 q0)⟩, fun q0 => ⟨Or.inr rfl, ((h).2 q0)⟩⟩
theorem e_X1_isTold {d L : Nat} {fz t : Bool} {Q : pm_R → pm_H → Prop} {a0 : Nat} {I : Nat → Nat → Int32} {J : Nat → Nat → Int64} (ha0 : a0 = 64 ∨ a0 = 67 ∨ a0 = 79 ∨ a0 = 82)
    (h : (((I a0 2) ≤ (nI 0) → Q (.inl (some (.int (nI 0)))) (pm_hp L fz t I J)) ∧ (¬ (I a0 2) ≤ (nI 0) → Q (.inl (some (.int (nI 1)))) (pm_hp L fz t I J)))) :
    pm_Ev (d + 1) 5 [.ref a0] (pm_hp L fz t I J) Q := pm_Ev_in rfl (b_X1_isTold_0 ha0 h)
def t_X1_uses_0 (d L : Nat) (fz t : Bool) (Q : pm_R → pm_H → Prop) (a0 : Nat) (x1 : Int32) (I : Nat → Nat → Int32) (J : Nat → Nat → Int64) : Prop := pm_T (pm_Ev d) 6 Q (0, [(0, .ref a0), (1, .int x1)], [], pm_hp L fz t I J, 0, 0)
set_option maxRecDepth 100000 in
theorem b_X1_uses_0 {d L : Nat} {fz t : Bool} {Q : pm_R → pm_H → Prop} {a0 : Nat} {x1 : Int32} {I : Nat → Nat → Int32} {J : Nat → Nat → Int64} (ha0 : a0 = 64 ∨ a0 = 67 ∨ a0 = 79 ∨ a0 = 82)
    (h : ((¬ (((I a0 3) >>> (x1 &&& 31)) &&& (nI 1)) = (nI 1) → Q (.inl (some (.int (nI 0)))) (pm_hp L fz t I J)) ∧ ((((I a0 3) >>> (x1 &&& 31)) &&& (nI 1)) = (nI 1) → Q (.inl (some (.int (nI 1)))) (pm_hp L fz t I J)))) :
    t_X1_uses_0 d L fz t Q a0 x1 I J := by
  rcases ha0 with rfl | rfl | rfl | rfl <;> exact pm_go d [] 400 ⟨fun q0 => ⟨Or.inl rfl, ((h).1 q0)⟩, fun q0 => ⟨Or.inr rfl, ((h).2 q0)⟩⟩
theorem e_X1_uses {d L : Nat} {fz t : Bool} {Q : pm_R → pm_H → Prop} {a0 : Nat} {x1 : Int32} {I : Nat → Nat → Int32} {J : Nat → Nat → Int64} (ha0 : a0 = 64 ∨ a0 = 67 ∨ a0 = 79 ∨ a0 = 82)
    (h : ((¬ (((I a0 3) >>> (x1 &&& 31)) &&& (nI 1)) = (nI 1) → Q (.inl (some (.int (nI 0)))) (pm_hp L fz t I J)) ∧ ((((I a0 3) >>> (x1 &&& 31)) &&& (nI 1)) = (nI 1) → Q (.inl (some (.int (nI 1)))) (pm_hp L fz t I J)))) :
    pm_Ev (d + 1) 6 [.ref a0, .int x1] (pm_hp L fz t I J) Q := pm_Ev_in rfl (b_X1_uses_0 ha0 h)
def t_X1_emit_0 (d L : Nat) (fz t : Bool) (Q : pm_R → pm_H → Prop) (a0 : Nat) (x1 : Int32) (I : Nat → Nat → Int32) (J : Nat → Nat → Int64) : Prop := pm_T (pm_Ev d) 7 Q (0, [(0, .ref a0), (1, .int x1)], [], pm_hp L fz t I J, 0, 0)
set_option maxRecDepth 100000 in
theorem b_X1_emit_0 {d L : Nat} {fz t : Bool} {Q : pm_R → pm_H → Prop} {a0 : Nat} {x1 : Int32} {I : Nat → Nat → Int32} {J : Nat → Nat → Int64} (ha0 : a0 = 64 ∨ a0 = 67 ∨ a0 = 79 ∨ a0 = 82)
    (h : (((nI 700) ≤ (I a0 2) → Q (.inl none) (pm_hp L fz t I J)) ∧ (¬ (nI 700) ≤ (I a0 2) → (vp_in (I a0 2) 700 ∧ Q (.inl none) (pm_hp L fz t (pm_u (pm_u I (a0 + 1) ((I a0 2)).toNatClampNeg x1) a0 2 ((I a0 2) + (nI 1))) J))))) :
    t_X1_emit_0 d L fz t Q a0 x1 I J := by
  rcases ha0 with rfl | rfl | rfl | rfl <;> exact pm_go d [] 400 ⟨fun q0 => ((h).1 q0), fun q0 => ⟨(((h).2 q0)).1, (((h).2 q0)).2⟩⟩
theorem e_X1_emit {d L : Nat} {fz t : Bool} {Q : pm_R → pm_H → Prop} {a0 : Nat} {x1 : Int32} {I : Nat → Nat → Int32} {J : Nat → Nat → Int64} (ha0 : a0 = 64 ∨ a0 = 67 ∨ a0 = 79 ∨ a0 = 82)
    (h : (((nI 700) ≤ (I a0 2) → Q (.inl none) (pm_hp L fz t I J)) ∧ (¬ (nI 700) ≤ (I a0 2) → (vp_in (I a0 2) 700 ∧ Q (.inl none) (pm_hp L fz t (pm_u (pm_u I (a0 + 1) ((I a0 2)).toNatClampNeg x1) a0 2 ((I a0 2) + (nI 1))) J))))) :
    pm_Ev (d + 1) 7 [.ref a0, .int x1] (pm_hp L fz t I J) Q := pm_Ev_in rfl (b_X1_emit_0 ha0 h)
def t_X1_emitValue_0 (d L : Nat) (fz t : Bool) (Q : pm_R → pm_H → Prop) (a0 : Nat) (x1 : Int32) (I : Nat → Nat → Int32) (J : Nat → Nat → Int64) : Prop := pm_T (pm_Ev d) 8 Q (0, [(0, .ref a0), (1, .int x1)], [], pm_hp L fz t I J, 0, 0)
def t_X1_emitValue_8 (d L : Nat) (fz t : Bool) (Q : pm_R → pm_H → Prop) (a0 : Nat) (x1 : Int32) (I : Nat → Nat → Int32) (J : Nat → Nat → Int64) : Prop := pm_T (pm_Ev d) 8 Q (8, [(0, .ref a0), (1, .int x1)], [], pm_hp L fz t I J, 0, 0)
def K_X1_emitValue_8 (d : Nat) (fz t : Bool) (Q : pm_R → pm_H → Prop) (a0 : Nat) (x1 : Int32) : pm_R → pm_H → Prop := pm_K d 8 Q 8 [(0, .ref a0), (1, .int x1)] [] 118 0 fz 0 0
set_option maxRecDepth 100000 in
theorem b_X1_emitValue_0 {d L : Nat} {fz t : Bool} {Q : pm_R → pm_H → Prop} {a0 : Nat} {x1 : Int32} {I : Nat → Nat → Int32} {J : Nat → Nat → Int64} (ha0 : a0 = 64 ∨ a0 = 67 ∨ a0 = 79 ∨ a0 = 82)
    (h : pm_Ev d 7 [.ref a0, .int ((nI 16) + x1)] (pm_hp L fz t I J) (K_X1_emitValue_8 d fz t Q a0 x1)) :
    t_X1_emitValue_0 d L fz t Q a0 x1 I J := by
  rcases ha0 with rfl | rfl | rfl | rfl <;> exact pm_go d [(8, [0, 1])] 400 h
theorem e_X1_emitValue {d L : Nat} {fz t : Bool} {Q : pm_R → pm_H → Prop} {a0 : Nat} {x1 : Int32} {I : Nat → Nat → Int32} {J : Nat → Nat → Int64} (ha0 : a0 = 64 ∨ a0 = 67 ∨ a0 = 79 ∨ a0 = 82)
    (h : pm_Ev d 7 [.ref a0, .int ((nI 16) + x1)] (pm_hp L fz t I J) (K_X1_emitValue_8 d fz t Q a0 x1)) :
    pm_Ev (d + 1) 8 [.ref a0, .int x1] (pm_hp L fz t I J) Q := pm_Ev_in rfl (b_X1_emitValue_0 ha0 h)
set_option maxRecDepth 100000 in
theorem b_X1_emitValue_8 {d L : Nat} {fz t : Bool} {Q : pm_R → pm_H → Prop} {a0 : Nat} {x1 : Int32} {I : Nat → Nat → Int32} {J : Nat → Nat → Int64} (ha0 : a0 = 64 ∨ a0 = 67 ∨ a0 = 79 ∨ a0 = 82)
    (h : Q (.inl none) (pm_hp L fz t (pm_u I a0 3 ((I a0 3) ||| ((nI 1) <<< (x1 &&& 31)))) J)) :
    t_X1_emitValue_8 d L fz t Q a0 x1 I J := by
  rcases ha0 with rfl | rfl | rfl | rfl <;> exact pm_go d [(8, [0, 1])] 400 h
theorem kb_X1_emitValue_8 {d L : Nat} {fz t : Bool} {Q : pm_R → pm_H → Prop} {a0 : Nat} {x1 : Int32} {fz1 : Bool} {I : Nat → Nat → Int32} {J : Nat → Nat → Int64} (ha0 : a0 = 64 ∨ a0 = 67 ∨ a0 = 79 ∨ a0 = 82)
    (h : Q (.inl none) (pm_hp L fz t (pm_u I a0 3 ((I a0 3) ||| ((nI 1) <<< (x1 &&& 31)))) J)) :
    K_X1_emitValue_8 d fz t Q a0 x1 (.inl none) (pm_hp L fz1 t I J) := b_X1_emitValue_8 ha0 h
def t_X1_worth_0 (d L : Nat) (fz t : Bool) (Q : pm_R → pm_H → Prop) (a0 : Nat) (a1 : Nat) (I : Nat → Nat → Int32) (J : Nat → Nat → Int64) : Prop := pm_T (pm_Ev d) 9 Q (0, [(0, .ref a0), (1, .ref a1)], [], pm_hp L fz t I J, 0, 0)
def t_X1_worth_4 (d L : Nat) (fz t : Bool) (Q : pm_R → pm_H → Prop) (a0 : Nat) (a1 : Nat) (x2 : Int32) (x3 : Int32) (I : Nat → Nat → Int32) (J : Nat → Nat → Int64) : Prop := pm_T (pm_Ev d) 9 Q (4, [(0, .ref a0), (1, .ref a1), (2, .int x2), (3, .int x3)], [], pm_hp L fz t I J, 0, 0)
def t_X1_worth_159 (d L : Nat) (fz t : Bool) (Q : pm_R → pm_H → Prop) (a0 : Nat) (a1 : Nat) (x2 : Int32) (x3 : Int32) (s1 : Int32) (r : Int32) (I : Nat → Nat → Int32) (J : Nat → Nat → Int64) : Prop := pm_T (pm_Ev d) 9 Q (159, [(0, .ref a0), (1, .ref a1), (2, .int x2), (3, .int x3)], [.int r, .int s1, .ref (a0 + 2)], pm_hp L fz t I J, 0, 0)
def K_X1_worth_159 (d : Nat) (fz t : Bool) (Q : pm_R → pm_H → Prop) (a0 : Nat) (a1 : Nat) (x2 : Int32) (x3 : Int32) (s1 : Int32) : pm_R → pm_H → Prop := pm_K d 9 Q 159 [(0, .ref a0), (1, .ref a1), (2, .int x2), (3, .int x3)] [.int s1, .ref (a0 + 2)] 118 0 fz 0 0
set_option maxRecDepth 100000 in
theorem b_X1_worth_0 {d L : Nat} {fz t : Bool} {Q : pm_R → pm_H → Prop} {n0 : Nat} {a0 : Nat} {a1 : Nat} {I : Nat → Nat → Int32} {J : Nat → Nat → Int64} (ha0 : a0 = 64 ∨ a0 = 67 ∨ a0 = 79 ∨ a0 = 82) (harr : (a1 = 6 ∧ n0 = 6) ∨ (a1 = 13 ∧ n0 = 4))
    (h : t_X1_worth_4 d L fz t Q a0 a1 (nI 0) (nI 0) I J) :
    t_X1_worth_0 d L fz t Q a0 a1 I J := by
  rcases ha0 with rfl | rfl | rfl | rfl <;> rcases harr with ⟨rfl, rfl⟩ | ⟨rfl, rfl⟩ <;> exact pm_go d [(4, [0, 1, 2, 3]), (159, [0, 1, 2, 3])] 400 h
theorem e_X1_worth {d L : Nat} {fz t : Bool} {Q : pm_R → pm_H → Prop} {n0 : Nat} {a0 : Nat} {a1 : Nat} {I : Nat → Nat → Int32} {J : Nat → Nat → Int64} (ha0 : a0 = 64 ∨ a0 = 67 ∨ a0 = 79 ∨ a0 = 82) (harr : (a1 = 6 ∧ n0 = 6) ∨ (a1 = 13 ∧ n0 = 4))
    (h : t_X1_worth_4 d L fz t Q a0 a1 (nI 0) (nI 0) I J) :
    pm_Ev (d + 1) 9 [.ref a0, .ref a1] (pm_hp L fz t I J) Q := pm_Ev_in rfl (b_X1_worth_0 ha0 harr h)
set_option maxRecDepth 100000 in
theorem b_X1_worth_4 {d L : Nat} {fz t : Bool} {Q : pm_R → pm_H → Prop} {n0 : Nat} {a0 : Nat} {a1 : Nat} {x2 : Int32} {x3 : Int32} {I : Nat → Nat → Int32} {J : Nat → Nat → Int64} (ha0 : a0 = 64 ∨ a0 = 67 ∨ a0 = 79 ∨ a0 = 82) (harr : (a1 = 6 ∧ n0 = 6) ∨ (a1 = 13 ∧ n0 = 4))
    (h : (((I a0 2) ≤ x3 → (((nI 1) ≤ x2 → Q (.inl (some (.int (I (a0 + 2) 0)))) (pm_hp L fz t I J)) ∧ (¬ (nI 1) ≤ x2 → Q (.inl (some (.int (nI 0)))) (pm_hp L fz t I J)))) ∧ (¬ (I a0 2) ≤ x3 → (vp_in x3 700 ∧ (((I (a0 + 1) (x3).toNatClampNeg) < (nI 16) → ((¬ (I (a0 + 1) (x3).toNatClampNeg) = (nI 0) → (((nI 2) ≤ x2 → (vp_in ((x2 + (-1 : Int32)) - (nI 1)) 64 ∧ (vp_in (x2 + (-1 : Int32)) 64 ∧ pm_Ev d 10 [.int (I (a0 + 1) (x3).toNatClampNeg), .int (I (a0 + 2) (((x2 + (-1 : Int32)) - (nI 1))).toNatClampNeg), .int (I (a0 + 2) ((x2 + (-1 : Int32))).toNatClampNeg)] (pm_hp L fz t I J) (K_X1_worth_159 d fz t Q a0 a1 (x2 + (-1 : Int32)) x3 ((x2 + (-1 : Int32)) - (nI 1)))))) ∧ (¬ (nI 2) ≤ x2 → Q (.inl (some (.int (nI 0)))) (pm_hp L fz t I J)))) ∧ ((I (a0 + 1) (x3).toNatClampNeg) = (nI 0) → (((nI 1) ≤ x2 → (vp_in (x2 - (nI 1)) 64 ∧ ((¬ (I (a0 + 2) ((x2 - (nI 1))).toNatClampNeg) = (nI 0) → (vp_in (x2 - (nI 1)) 64 ∧ t_X1_worth_4 d L fz t Q a0 a1 x2 (x3 + (nI 1)) (pm_u I (a0 + 2) ((x2 - (nI 1))).toNatClampNeg (nI 0)) J)) ∧ ((I (a0 + 2) ((x2 - (nI 1))).toNatClampNeg) = (nI 0) → (vp_in (x2 - (nI 1)) 64 ∧ t_X1_worth_4 d L fz t Q a0 a1 x2 (x3 + (nI 1)) (pm_u I (a0 + 2) ((x2 - (nI 1))).toNatClampNeg (nI 1)) J))))) ∧ (¬ (nI 1) ≤ x2 → Q (.inl (some (.int (nI 0)))) (pm_hp L fz t I J)))))) ∧ (¬ (I (a0 + 1) (x3).toNatClampNeg) < (nI 16) → ((x2 < (nI 64) → (((I (a0 + 1) (x3).toNatClampNeg) < (nI 32) → (((nI n0) ≤ ((I (a0 + 1) (x3).toNatClampNeg) - (nI 16)) → (vp_in x2 64 ∧ t_X1_worth_4 d L fz t Q a0 a1 (x2 + (nI 1)) (x3 + (nI 1)) (pm_u I (a0 + 2) (x2).toNatClampNeg (nI 0)) J)) ∧ (¬ (nI n0) ≤ ((I (a0 + 1) (x3).toNatClampNeg) - (nI 16)) → (vp_in ((I (a0 + 1) (x3).toNatClampNeg) - (nI 16)) n0 ∧ (vp_in x2 64 ∧ t_X1_worth_4 d L fz t Q a0 a1 (x2 + (nI 1)) (x3 + (nI 1)) (pm_u I (a0 + 2) (x2).toNatClampNeg (I a1 (((I (a0 + 1) (x3).toNatClampNeg) - (nI 16))).toNatClampNeg)) J))))) ∧ (¬ (I (a0 + 1) (x3).toNatClampNeg) < (nI 32) → (vp_in x2 64 ∧ t_X1_worth_4 d L fz t Q a0 a1 (x2 + (nI 1)) (x3 + (nI 1)) (pm_u I (a0 + 2) (x2).toNatClampNeg ((I (a0 + 1) (x3).toNatClampNeg) - (nI 32))) J)))) ∧ (¬ x2 < (nI 64) → Q (.inl (some (.int (nI 0)))) (pm_hp L fz t I J))))))))) :
    t_X1_worth_4 d L fz t Q a0 a1 x2 x3 I J := by
  rcases ha0 with rfl | rfl | rfl | rfl <;> rcases harr with ⟨rfl, rfl⟩ | ⟨rfl, rfl⟩ <;> exact pm_go d [(4, [0, 1, 2, 3]), (159, [0, 1, 2, 3])] 400 ⟨fun q0 => ⟨fun q1 => ⟨(vp_in_nI (by decide : 0 < 64) (by decide) : vp_in (nI 0) 64), ((((h).1 q0)).1 q1)⟩, fun q1 => ((((h).1 q0)).2 q1)⟩, fun q0 => ⟨(((h).2 q0)).1, ⟨fun q1 => ⟨fun q2 => ⟨fun q3 => ⟨((((((((((h).2 q0)).2).1 q1)).1 q2)).1 q3)).1, ⟨(((((((((((h).2 q0)).2).1 q1)).1 q2)).1 q3)).2).1, (((((((((((h).2 q0)).2).1 q1)).1 q2)).1 q3)).2).2⟩⟩, fun q3 => (((((((((h).2 q0)).2).1 q1)).1 q2)).2 q3)⟩, fun q2 => ⟨fun q3 => ⟨((((((((((h).2 q0)).2).1 q1)).2 q2)).1 q3)).1, ⟨fun q4 => ⟨(((((((((((((h).2 q0)).2).1 q1)).2 q2)).1 q3)).2).1 q4)).1, (((((((((((((h).2 q0)).2).1 q1)).2 q2)).1 q3)).2).1 q4)).2⟩, fun q4 => ⟨(((((((((((((h).2 q0)).2).1 q1)).2 q2)).1 q3)).2).2 q4)).1, (((((((((((((h).2 q0)).2).1 q1)).2 q2)).1 q3)).2).2 q4)).2⟩⟩⟩, fun q3 => (((((((((h).2 q0)).2).1 q1)).2 q2)).2 q3)⟩⟩, fun q1 => ⟨fun q2 => ⟨fun q3 => ⟨fun q4 => ⟨((((((((((((h).2 q0)).2).2 q1)).1 q2)).1 q3)).1 q4)).1, ((((((((((((h).2 q0)).2).2 q1)).1 q2)).1 q3)).1 q4)).2⟩, fun q4 => ⟨((((((((((((h).2 q0)).2).2 q1)).1 q2)).1 q3)).2 q4)).1, ⟨(((((((((((((h).2 q0)).2).2 q1)).1 q2)).1 q3)).2 q4)).2).1, (((((((((((((h).2 q0)).2).2 q1)).1 q2)).1 q3)).2 q4)).2).2⟩⟩⟩, fun q3 => ⟨((((((((((h).2 q0)).2).2 q1)).1 q2)).2 q3)).1, ((((((((((h).2 q0)).2).2 q1)).1 q2)).2 q3)).2⟩⟩, fun q2 => (((((((h).2 q0)).2).2 q1)).2 q2)⟩⟩⟩⟩
set_option maxRecDepth 100000 in
theorem b_X1_worth_159 {d L : Nat} {fz t : Bool} {Q : pm_R → pm_H → Prop} {n0 : Nat} {a0 : Nat} {a1 : Nat} {x2 : Int32} {x3 : Int32} {s1 : Int32} {r : Int32} {I : Nat → Nat → Int32} {J : Nat → Nat → Int64} (ha0 : a0 = 64 ∨ a0 = 67 ∨ a0 = 79 ∨ a0 = 82) (harr : (a1 = 6 ∧ n0 = 6) ∨ (a1 = 13 ∧ n0 = 4))
    (h : (vp_in s1 64 ∧ t_X1_worth_4 d L fz t Q a0 a1 x2 (x3 + (nI 1)) (pm_u I (a0 + 2) (s1).toNatClampNeg r) J)) :
    t_X1_worth_159 d L fz t Q a0 a1 x2 x3 s1 r I J := by
  rcases ha0 with rfl | rfl | rfl | rfl <;> rcases harr with ⟨rfl, rfl⟩ | ⟨rfl, rfl⟩ <;> exact pm_go d [(4, [0, 1, 2, 3]), (159, [0, 1, 2, 3])] 400 ⟨(h).1, (h).2⟩
theorem kb_X1_worth_159 {d L : Nat} {fz t : Bool} {Q : pm_R → pm_H → Prop} {n0 : Nat} {a0 : Nat} {a1 : Nat} {x2 : Int32} {x3 : Int32} {s1 : Int32} {r : Int32} {fz1 : Bool} {I : Nat → Nat → Int32} {J : Nat → Nat → Int64} (ha0 : a0 = 64 ∨ a0 = 67 ∨ a0 = 79 ∨ a0 = 82) (harr : (a1 = 6 ∧ n0 = 6) ∨ (a1 = 13 ∧ n0 = 4))
    (h : (vp_in s1 64 ∧ t_X1_worth_4 d L fz t Q a0 a1 x2 (x3 + (nI 1)) (pm_u I (a0 + 2) (s1).toNatClampNeg r) J)) :
    K_X1_worth_159 d fz t Q a0 a1 x2 x3 s1 (.inl (some (.int r))) (pm_hp L fz1 t I J) := b_X1_worth_159 ha0 harr h
def t_X1_joined_0 (d L : Nat) (fz t : Bool) (Q : pm_R → pm_H → Prop) (x0 : Int32) (x1 : Int32) (x2 : Int32) (I : Nat → Nat → Int32) (J : Nat → Nat → Int64) : Prop := pm_T (pm_Ev d) 10 Q (0, [(0, .int x0), (1, .int x1), (2, .int x2)], [], pm_hp L fz t I J, 0, 0)
set_option maxRecDepth 100000 in
theorem b_X1_joined_0 {d L : Nat} {fz t : Bool} {Q : pm_R → pm_H → Prop} {x0 : Int32} {x1 : Int32} {x2 : Int32} {I : Nat → Nat → Int32} {J : Nat → Nat → Int64}
    (h : (((x0).toInt < 1 ∨ 7 < (x0).toInt → ((¬ x2 = (nI 0) → (¬ x2 = nI 0 ∧ Q (.inl (some (.int (x1 / x2)))) (pm_hp L fz t I J))) ∧ (x2 = (nI 0) → Q (.inl (some (.int (nI 0)))) (pm_hp L fz t I J)))) ∧ ((x0).toInt = 1 → ((¬ x1 = (nI 0) → Q (.inl (some (.int (nI 1)))) (pm_hp L fz t I J)) ∧ (x1 = (nI 0) → ((x2 = (nI 0) → Q (.inl (some (.int (nI 0)))) (pm_hp L fz t I J)) ∧ (¬ x2 = (nI 0) → Q (.inl (some (.int (nI 1)))) (pm_hp L fz t I J)))))) ∧ ((x0).toInt = 2 → ((x1 = (nI 0) → Q (.inl (some (.int (nI 0)))) (pm_hp L fz t I J)) ∧ (¬ x1 = (nI 0) → ((x2 = (nI 0) → Q (.inl (some (.int (nI 0)))) (pm_hp L fz t I J)) ∧ (¬ x2 = (nI 0) → Q (.inl (some (.int (nI 1)))) (pm_hp L fz t I J)))))) ∧ ((x0).toInt = 3 → ((x2 ≤ x1 → Q (.inl (some (.int (nI 0)))) (pm_hp L fz t I J)) ∧ (¬ x2 ≤ x1 → Q (.inl (some (.int (nI 1)))) (pm_hp L fz t I J)))) ∧ ((x0).toInt = 4 → ((¬ x1 = x2 → Q (.inl (some (.int (nI 0)))) (pm_hp L fz t I J)) ∧ (x1 = x2 → Q (.inl (some (.int (nI 1)))) (pm_hp L fz t I J)))) ∧ ((x0).toInt = 5 → Q (.inl (some (.int (x1 + x2)))) (pm_hp L fz t I J)) ∧ ((x0).toInt = 6 → Q (.inl (some (.int (x1 - x2)))) (pm_hp L fz t I J)) ∧ ((x0).toInt = 7 → Q (.inl (some (.int (x1 * x2)))) (pm_hp L fz t I J)))) :
    t_X1_joined_0 d L fz t Q x0 x1 x2 I J := by
  exact pm_go d [] 400 ⟨fun q0 => ⟨fun q1 => ⟨(((((h).1 q0)).1 q1)).1, (((((h).1 q0)).1 q1)).2⟩, fun q1 => ((((h).1 q0)).2 q1)⟩, fun q0 => ⟨fun q1 => (((((h).2).1 q0)).1 q1), fun q1 => ⟨fun q2 => (((((((h).2).1 q0)).2 q1)).1 q2), fun q2 => (((((((h).2).1 q0)).2 q1)).2 q2)⟩⟩, fun q0 => ⟨fun q1 => ((((((h).2).2).1 q0)).1 q1), fun q1 => ⟨fun q2 => ((((((((h).2).2).1 q0)).2 q1)).1 q2), fun q2 => ((((((((h).2).2).1 q0)).2 q1)).2 q2)⟩⟩, fun q0 => ⟨fun q1 => (((((((h).2).2).2).1 q0)).1 q1), fun q1 => (((((((h).2).2).2).1 q0)).2 q1)⟩, fun q0 => ⟨fun q1 => ((((((((h).2).2).2).2).1 q0)).1 q1), fun q1 => ((((((((h).2).2).2).2).1 q0)).2 q1)⟩, fun q0 => (((((((h).2).2).2).2).2).1 q0), fun q0 => ((((((((h).2).2).2).2).2).2).1 q0), fun q0 => ((((((((h).2).2).2).2).2).2).2 q0), trivial⟩
theorem e_X1_joined {d L : Nat} {fz t : Bool} {Q : pm_R → pm_H → Prop} {x0 : Int32} {x1 : Int32} {x2 : Int32} {I : Nat → Nat → Int32} {J : Nat → Nat → Int64}
    (h : (((x0).toInt < 1 ∨ 7 < (x0).toInt → ((¬ x2 = (nI 0) → (¬ x2 = nI 0 ∧ Q (.inl (some (.int (x1 / x2)))) (pm_hp L fz t I J))) ∧ (x2 = (nI 0) → Q (.inl (some (.int (nI 0)))) (pm_hp L fz t I J)))) ∧ ((x0).toInt = 1 → ((¬ x1 = (nI 0) → Q (.inl (some (.int (nI 1)))) (pm_hp L fz t I J)) ∧ (x1 = (nI 0) → ((x2 = (nI 0) → Q (.inl (some (.int (nI 0)))) (pm_hp L fz t I J)) ∧ (¬ x2 = (nI 0) → Q (.inl (some (.int (nI 1)))) (pm_hp L fz t I J)))))) ∧ ((x0).toInt = 2 → ((x1 = (nI 0) → Q (.inl (some (.int (nI 0)))) (pm_hp L fz t I J)) ∧ (¬ x1 = (nI 0) → ((x2 = (nI 0) → Q (.inl (some (.int (nI 0)))) (pm_hp L fz t I J)) ∧ (¬ x2 = (nI 0) → Q (.inl (some (.int (nI 1)))) (pm_hp L fz t I J)))))) ∧ ((x0).toInt = 3 → ((x2 ≤ x1 → Q (.inl (some (.int (nI 0)))) (pm_hp L fz t I J)) ∧ (¬ x2 ≤ x1 → Q (.inl (some (.int (nI 1)))) (pm_hp L fz t I J)))) ∧ ((x0).toInt = 4 → ((¬ x1 = x2 → Q (.inl (some (.int (nI 0)))) (pm_hp L fz t I J)) ∧ (x1 = x2 → Q (.inl (some (.int (nI 1)))) (pm_hp L fz t I J)))) ∧ ((x0).toInt = 5 → Q (.inl (some (.int (x1 + x2)))) (pm_hp L fz t I J)) ∧ ((x0).toInt = 6 → Q (.inl (some (.int (x1 - x2)))) (pm_hp L fz t I J)) ∧ ((x0).toInt = 7 → Q (.inl (some (.int (x1 * x2)))) (pm_hp L fz t I J)))) :
    pm_Ev (d + 1) 10 [.int x0, .int x1, .int x2] (pm_hp L fz t I J) Q := pm_Ev_in rfl (b_X1_joined_0 h)
def t_X2_forgetRule_0 (d L : Nat) (fz t : Bool) (Q : pm_R → pm_H → Prop) (I : Nat → Nat → Int32) (J : Nat → Nat → Int64) : Prop := pm_T (pm_Ev d) 11 Q (0, [(0, .ref 3)], [], pm_hp L fz t I J, 0, 0)
def t_X2_forgetRule_8 (d L : Nat) (fz t : Bool) (Q : pm_R → pm_H → Prop) (I : Nat → Nat → Int32) (J : Nat → Nat → Int64) : Prop := pm_T (pm_Ev d) 11 Q (8, [], [], pm_hp L fz t I J, 0, 0)
def K_X2_forgetRule_8 (d : Nat) (fz t : Bool) (Q : pm_R → pm_H → Prop) : pm_R → pm_H → Prop := pm_K d 11 Q 8 [] [] 118 0 fz 0 0
set_option maxRecDepth 100000 in
theorem b_X2_forgetRule_0 {d L : Nat} {fz t : Bool} {Q : pm_R → pm_H → Prop} {I : Nat → Nat → Int32} {J : Nat → Nat → Int64}
    (h : pm_Ev d 237 [.ref 8, .int (nI 0)] (pm_hp L fz t I J) (K_X2_forgetRule_8 d fz t Q)) :
    t_X2_forgetRule_0 d L fz t Q I J := by
  exact pm_go d [(8, [])] 400 h
theorem e_X2_forgetRule {d L : Nat} {fz t : Bool} {Q : pm_R → pm_H → Prop} {I : Nat → Nat → Int32} {J : Nat → Nat → Int64}
    (h : pm_Ev d 237 [.ref 8, .int (nI 0)] (pm_hp L fz t I J) (K_X2_forgetRule_8 d fz t Q)) :
    pm_Ev (d + 1) 11 [.ref 3] (pm_hp L fz t I J) Q := pm_Ev_in rfl (b_X2_forgetRule_0 h)
set_option maxRecDepth 100000 in
theorem b_X2_forgetRule_8 {d L : Nat} {fz t : Bool} {Q : pm_R → pm_H → Prop} {I : Nat → Nat → Int32} {J : Nat → Nat → Int64}
    (h : Q (.inl none) (pm_hp L fz t I J)) :
    t_X2_forgetRule_8 d L fz t Q I J := by
  exact pm_go d [(8, [])] 400 h
theorem kb_X2_forgetRule_8 {d L : Nat} {fz t : Bool} {Q : pm_R → pm_H → Prop} {fz1 : Bool} {I : Nat → Nat → Int32} {J : Nat → Nat → Int64}
    (h : Q (.inl none) (pm_hp L fz t I J)) :
    K_X2_forgetRule_8 d fz t Q (.inl none) (pm_hp L fz1 t I J) := b_X2_forgetRule_8 h
def t_X2_weave_0 (d L : Nat) (fz t : Bool) (Q : pm_R → pm_H → Prop) (a1 : Nat) (a2 : Nat) (x3 : Int32) (I : Nat → Nat → Int32) (J : Nat → Nat → Int64) : Prop := pm_T (pm_Ev d) 12 Q (0, [(0, .ref 3), (1, .ref a1), (2, .ref a2), (3, .int x3)], [], pm_hp L fz t I J, 0, 0)
def t_X2_weave_14 (d L : Nat) (fz t : Bool) (Q : pm_R → pm_H → Prop) (a1 : Nat) (a2 : Nat) (x3 : Int32) (x4 : Int32) (x5 : Int32) (I : Nat → Nat → Int32) (J : Nat → Nat → Int64) : Prop := pm_T (pm_Ev d) 12 Q (14, [(0, .ref 3), (1, .ref a1), (2, .ref a2), (3, .int x3), (4, .int x4), (5, .int x5)], [], pm_hp L fz t I J, 0, 0)
def t_X2_weave_79 (d L : Nat) (fz t : Bool) (Q : pm_R → pm_H → Prop) (a1 : Nat) (a2 : Nat) (x3 : Int32) (x4 : Int32) (x5 : Int32) (x7 : Int32) (x8 : Int32) (r : Int32) (I : Nat → Nat → Int32) (J : Nat → Nat → Int64) : Prop := pm_T (pm_Ev d) 12 Q (79, [(0, .ref 3), (1, .ref a1), (2, .ref a2), (3, .int x3), (4, .int x4), (5, .int x5), (7, .int x7), (8, .int x8)], [.int r], pm_hp L fz t I J, 0, 0)
def K_X2_weave_79 (d : Nat) (fz t : Bool) (Q : pm_R → pm_H → Prop) (a1 : Nat) (a2 : Nat) (x3 : Int32) (x4 : Int32) (x5 : Int32) (x7 : Int32) (x8 : Int32) : pm_R → pm_H → Prop := pm_K d 12 Q 79 [(0, .ref 3), (1, .ref a1), (2, .ref a2), (3, .int x3), (4, .int x4), (5, .int x5), (7, .int x7), (8, .int x8)] [] 118 0 fz 0 0
def t_X2_weave_99 (d L : Nat) (fz t : Bool) (Q : pm_R → pm_H → Prop) (a1 : Nat) (a2 : Nat) (x3 : Int32) (x4 : Int32) (x5 : Int32) (x7 : Int32) (x8 : Int32) (s0 : Int32) (r : Int32) (I : Nat → Nat → Int32) (J : Nat → Nat → Int64) : Prop := pm_T (pm_Ev d) 12 Q (99, [(0, .ref 3), (1, .ref a1), (2, .ref a2), (3, .int x3), (4, .int x4), (5, .int x5), (7, .int x7), (8, .int x8)], [.int r, .int s0], pm_hp L fz t I J, 0, 0)
def K_X2_weave_99 (d : Nat) (fz t : Bool) (Q : pm_R → pm_H → Prop) (a1 : Nat) (a2 : Nat) (x3 : Int32) (x4 : Int32) (x5 : Int32) (x7 : Int32) (x8 : Int32) (s0 : Int32) : pm_R → pm_H → Prop := pm_K d 12 Q 99 [(0, .ref 3), (1, .ref a1), (2, .ref a2), (3, .int x3), (4, .int x4), (5, .int x5), (7, .int x7), (8, .int x8)] [.int s0] 118 0 fz 0 0
def t_X2_weave_142 (d L : Nat) (fz t : Bool) (Q : pm_R → pm_H → Prop) (a1 : Nat) (a2 : Nat) (x3 : Int32) (x4 : Int32) (x5 : Int32) (x8 : Int32) (x9 : Int32) (I : Nat → Nat → Int32) (J : Nat → Nat → Int64) : Prop := pm_T (pm_Ev d) 12 Q (142, [(0, .ref 3), (1, .ref a1), (2, .ref a2), (3, .int x3), (4, .int x4), (5, .int x5), (8, .int x8), (9, .int x9)], [], pm_hp L fz t I J, 0, 0)
def K_X2_weave_142 (d : Nat) (fz t : Bool) (Q : pm_R → pm_H → Prop) (a1 : Nat) (a2 : Nat) (x3 : Int32) (x4 : Int32) (x5 : Int32) (x8 : Int32) (x9 : Int32) : pm_R → pm_H → Prop := pm_K d 12 Q 142 [(0, .ref 3), (1, .ref a1), (2, .ref a2), (3, .int x3), (4, .int x4), (5, .int x5), (8, .int x8), (9, .int x9)] [] 118 0 fz 0 0
def t_X2_weave_128 (d L : Nat) (fz t : Bool) (Q : pm_R → pm_H → Prop) (a1 : Nat) (a2 : Nat) (x3 : Int32) (x4 : Int32) (x5 : Int32) (x7 : Int32) (x8 : Int32) (x9 : Int32) (r : Int32) (I : Nat → Nat → Int32) (J : Nat → Nat → Int64) : Prop := pm_T (pm_Ev d) 12 Q (128, [(0, .ref 3), (1, .ref a1), (2, .ref a2), (3, .int x3), (4, .int x4), (5, .int x5), (7, .int x7), (8, .int x8), (9, .int x9)], [.int r], pm_hp L fz t I J, 0, 0)
def K_X2_weave_128 (d : Nat) (fz t : Bool) (Q : pm_R → pm_H → Prop) (a1 : Nat) (a2 : Nat) (x3 : Int32) (x4 : Int32) (x5 : Int32) (x7 : Int32) (x8 : Int32) (x9 : Int32) : pm_R → pm_H → Prop := pm_K d 12 Q 128 [(0, .ref 3), (1, .ref a1), (2, .ref a2), (3, .int x3), (4, .int x4), (5, .int x5), (7, .int x7), (8, .int x8), (9, .int x9)] [] 118 0 fz 0 0
def t_X2_weave_149 (d L : Nat) (fz t : Bool) (Q : pm_R → pm_H → Prop) (a1 : Nat) (a2 : Nat) (x3 : Int32) (x4 : Int32) (x5 : Int32) (x8 : Int32) (x9 : Int32) (r : Int32) (I : Nat → Nat → Int32) (J : Nat → Nat → Int64) : Prop := pm_T (pm_Ev d) 12 Q (149, [(0, .ref 3), (1, .ref a1), (2, .ref a2), (3, .int x3), (4, .int x4), (5, .int x5), (8, .int x8), (9, .int x9)], [.int r], pm_hp L fz t I J, 0, 0)
def K_X2_weave_149 (d : Nat) (fz t : Bool) (Q : pm_R → pm_H → Prop) (a1 : Nat) (a2 : Nat) (x3 : Int32) (x4 : Int32) (x5 : Int32) (x8 : Int32) (x9 : Int32) : pm_R → pm_H → Prop := pm_K d 12 Q 149 [(0, .ref 3), (1, .ref a1), (2, .ref a2), (3, .int x3), (4, .int x4), (5, .int x5), (8, .int x8), (9, .int x9)] [] 118 0 fz 0 0
def t_X2_weave_169 (d L : Nat) (fz t : Bool) (Q : pm_R → pm_H → Prop) (a1 : Nat) (a2 : Nat) (x3 : Int32) (x5 : Int32) (r : Int32) (I : Nat → Nat → Int32) (J : Nat → Nat → Int64) : Prop := pm_T (pm_Ev d) 12 Q (169, [(0, .ref 3), (1, .ref a1), (2, .ref a2), (3, .int x3), (5, .int x5)], [.int r], pm_hp L fz t I J, 0, 0)
def K_X2_weave_169 (d : Nat) (fz t : Bool) (Q : pm_R → pm_H → Prop) (a1 : Nat) (a2 : Nat) (x3 : Int32) (x5 : Int32) : pm_R → pm_H → Prop := pm_K d 12 Q 169 [(0, .ref 3), (1, .ref a1), (2, .ref a2), (3, .int x3), (5, .int x5)] [] 118 0 fz 0 0
set_option maxRecDepth 100000 in
theorem b_X2_weave_0 {d L : Nat} {fz t : Bool} {Q : pm_R → pm_H → Prop} {a1 : Nat} {a2 : Nat} {x3 : Int32} {I : Nat → Nat → Int32} {J : Nat → Nat → Int64} (ha1 : a1 = 55 ∨ a1 = 70) (ha2 : a2 = 23 ∨ a2 = 27 ∨ a2 = 31)
    (h : t_X2_weave_14 d L fz t Q a1 a2 x3 (nI 0) (nI 0) (pm_u I 3 1 (I a2 3)) J) :
    t_X2_weave_0 d L fz t Q a1 a2 x3 I J := by
  rcases ha1 with rfl | rfl <;> rcases ha2 with rfl | rfl | rfl <;> exact pm_go d [(14, [0, 1, 2, 3, 4, 5]), (79, [0, 1, 2, 3, 4, 5, 7, 8]), (99, [0, 1, 2, 3, 4, 5, 7, 8]), (128, [0, 1, 2, 3, 4, 5, 7, 8, 9]), (142, [0, 1, 2, 3, 4, 5, 8, 9]), (149, [0, 1, 2, 3, 4, 5, 8, 9]), (169, [0, 1, 2, 3, 5])] 400 h
theorem e_X2_weave {d L : Nat} {fz t : Bool} {Q : pm_R → pm_H → Prop} {a1 : Nat} {a2 : Nat} {x3 : Int32} {I : Nat → Nat → Int32} {J : Nat → Nat → Int64} (ha1 : a1 = 55 ∨ a1 = 70) (ha2 : a2 = 23 ∨ a2 = 27 ∨ a2 = 31)
    (h : t_X2_weave_14 d L fz t Q a1 a2 x3 (nI 0) (nI 0) (pm_u I 3 1 (I a2 3)) J) :
    pm_Ev (d + 1) 12 [.ref 3, .ref a1, .ref a2, .int x3] (pm_hp L fz t I J) Q := pm_Ev_in rfl (b_X2_weave_0 ha1 ha2 h)
set_option maxRecDepth 100000 in
theorem b_X2_weave_14 {d L : Nat} {fz t : Bool} {Q : pm_R → pm_H → Prop} {a1 : Nat} {a2 : Nat} {x3 : Int32} {x4 : Int32} {x5 : Int32} {I : Nat → Nat → Int32} {J : Nat → Nat → Int64} (ha1 : a1 = 55 ∨ a1 = 70) (ha2 : a2 = 23 ∨ a2 = 27 ∨ a2 = 31)
    (h : (((I 3 1) ≤ x5 → Q (.inl none) (pm_hp L fz t I J)) ∧ (¬ (I 3 1) ≤ x5 → (vp_in x5 12 ∧ (vp_in (I (a2 + 3) (x5).toNatClampNeg) 10 ∧ (((if (nI 9) < ((I (a2 + 2) ((I (a2 + 3) (x5).toNatClampNeg)).toNatClampNeg) + x3) then (nI 9) else ((I (a2 + 2) ((I (a2 + 3) (x5).toNatClampNeg)).toNatClampNeg) + x3)) < (nI 9) → (vp_in (I (a2 + 3) (x5).toNatClampNeg) 10 ∧ pm_Ev d 6 [.ref (a1 + 9), .int (nI 3)] (pm_hp L fz t I J) (K_X2_weave_79 d fz t Q a1 a2 x3 x4 x5 (if (nI 9) < ((I (a2 + 2) ((I (a2 + 3) (x5).toNatClampNeg)).toNatClampNeg) + x3) then (nI 9) else ((I (a2 + 2) ((I (a2 + 3) (x5).toNatClampNeg)).toNatClampNeg) + x3)) (I (a2 + 1) ((I (a2 + 3) (x5).toNatClampNeg)).toNatClampNeg)))) ∧ (¬ (if (nI 9) < ((I (a2 + 2) ((I (a2 + 3) (x5).toNatClampNeg)).toNatClampNeg) + x3) then (nI 9) else ((I (a2 + 2) ((I (a2 + 3) (x5).toNatClampNeg)).toNatClampNeg) + x3)) < (nI 9) → pm_Ev d 6 [.ref (a1 + 9), .int (nI 3)] (pm_hp L fz t I J) (K_X2_weave_79 d fz t Q a1 a2 x3 x4 x5 (if (nI 9) < ((I (a2 + 2) ((I (a2 + 3) (x5).toNatClampNeg)).toNatClampNeg) + x3) then (nI 9) else ((I (a2 + 2) ((I (a2 + 3) (x5).toNatClampNeg)).toNatClampNeg) + x3)) (I a1 12))))))))) :
    t_X2_weave_14 d L fz t Q a1 a2 x3 x4 x5 I J := by
  rcases ha1 with rfl | rfl <;> rcases ha2 with rfl | rfl | rfl <;> exact pm_go d [(14, [0, 1, 2, 3, 4, 5]), (79, [0, 1, 2, 3, 4, 5, 7, 8]), (99, [0, 1, 2, 3, 4, 5, 7, 8]), (128, [0, 1, 2, 3, 4, 5, 7, 8, 9]), (142, [0, 1, 2, 3, 4, 5, 8, 9]), (149, [0, 1, 2, 3, 4, 5, 8, 9]), (169, [0, 1, 2, 3, 5])] 400 ⟨fun q0 => ((h).1 q0), fun q0 => ⟨(((h).2 q0)).1, ⟨((((h).2 q0)).2).1, ⟨fun q1 => ⟨(((((((h).2 q0)).2).2).1 q1)).1, (((((((h).2 q0)).2).2).1 q1)).2⟩, fun q1 => ((((((h).2 q0)).2).2).2 q1)⟩⟩⟩⟩
set_option maxRecDepth 100000 in
theorem b_X2_weave_79 {d L : Nat} {fz t : Bool} {Q : pm_R → pm_H → Prop} {a1 : Nat} {a2 : Nat} {x3 : Int32} {x4 : Int32} {x5 : Int32} {x7 : Int32} {x8 : Int32} {r : Int32} {I : Nat → Nat → Int32} {J : Nat → Nat → Int64} (ha1 : a1 = 55 ∨ a1 = 70) (ha2 : a2 = 23 ∨ a2 = 27 ∨ a2 = 31)
    (h : ((r = (nI 0) → pm_Ev d 6 [.ref (a1 + 9), .int (nI 5)] (pm_hp L fz t I J) (K_X2_weave_99 d fz t Q a1 a2 x3 x4 x5 x7 x8 (nI 0))) ∧ (¬ r = (nI 0) → pm_Ev d 6 [.ref (a1 + 9), .int (nI 5)] (pm_hp L fz t I J) (K_X2_weave_99 d fz t Q a1 a2 x3 x4 x5 x7 x8 (x5 * (nI 10)))))) :
    t_X2_weave_79 d L fz t Q a1 a2 x3 x4 x5 x7 x8 r I J := by
  rcases ha1 with rfl | rfl <;> rcases ha2 with rfl | rfl | rfl <;> exact pm_go d [(14, [0, 1, 2, 3, 4, 5]), (79, [0, 1, 2, 3, 4, 5, 7, 8]), (99, [0, 1, 2, 3, 4, 5, 7, 8]), (128, [0, 1, 2, 3, 4, 5, 7, 8, 9]), (142, [0, 1, 2, 3, 4, 5, 8, 9]), (149, [0, 1, 2, 3, 4, 5, 8, 9]), (169, [0, 1, 2, 3, 5])] 400 ⟨fun q0 => ((h).1 q0), fun q0 => ((h).2 q0)⟩
theorem kb_X2_weave_79 {d L : Nat} {fz t : Bool} {Q : pm_R → pm_H → Prop} {a1 : Nat} {a2 : Nat} {x3 : Int32} {x4 : Int32} {x5 : Int32} {x7 : Int32} {x8 : Int32} {r : Int32} {fz1 : Bool} {I : Nat → Nat → Int32} {J : Nat → Nat → Int64} (ha1 : a1 = 55 ∨ a1 = 70) (ha2 : a2 = 23 ∨ a2 = 27 ∨ a2 = 31)
    (h : ((r = (nI 0) → pm_Ev d 6 [.ref (a1 + 9), .int (nI 5)] (pm_hp L fz t I J) (K_X2_weave_99 d fz t Q a1 a2 x3 x4 x5 x7 x8 (nI 0))) ∧ (¬ r = (nI 0) → pm_Ev d 6 [.ref (a1 + 9), .int (nI 5)] (pm_hp L fz t I J) (K_X2_weave_99 d fz t Q a1 a2 x3 x4 x5 x7 x8 (x5 * (nI 10)))))) :
    K_X2_weave_79 d fz t Q a1 a2 x3 x4 x5 x7 x8 (.inl (some (.int r))) (pm_hp L fz1 t I J) := b_X2_weave_79 ha1 ha2 h
set_option maxRecDepth 100000 in
theorem b_X2_weave_99 {d L : Nat} {fz t : Bool} {Q : pm_R → pm_H → Prop} {a1 : Nat} {a2 : Nat} {x3 : Int32} {x4 : Int32} {x5 : Int32} {x7 : Int32} {x8 : Int32} {s0 : Int32} {r : Int32} {I : Nat → Nat → Int32} {J : Nat → Nat → Int64} (ha1 : a1 = 55 ∨ a1 = 70) (ha2 : a2 = 23 ∨ a2 = 27 ∨ a2 = 31)
    (h : ((r = (nI 0) → (vp_in (s0 + (nI 0)) 120 ∧ ((¬ (I 8 ((s0 + (nI 0))).toNatClampNeg) = (nI 0) → t_X2_weave_142 d L fz t Q a1 a2 x3 x4 x5 x8 (s0 + (nI 0)) I J) ∧ ((I 8 ((s0 + (nI 0))).toNatClampNeg) = (nI 0) → pm_Ev d 5 [.ref (a1 + 9)] (pm_hp L fz t I J) (K_X2_weave_128 d fz t Q a1 a2 x3 x4 x5 x7 x8 (s0 + (nI 0))))))) ∧ (¬ r = (nI 0) → (vp_in (s0 + x7) 120 ∧ ((¬ (I 8 ((s0 + x7)).toNatClampNeg) = (nI 0) → t_X2_weave_142 d L fz t Q a1 a2 x3 x4 x5 x8 (s0 + x7) I J) ∧ ((I 8 ((s0 + x7)).toNatClampNeg) = (nI 0) → pm_Ev d 5 [.ref (a1 + 9)] (pm_hp L fz t I J) (K_X2_weave_128 d fz t Q a1 a2 x3 x4 x5 x7 x8 (s0 + x7)))))))) :
    t_X2_weave_99 d L fz t Q a1 a2 x3 x4 x5 x7 x8 s0 r I J := by
  rcases ha1 with rfl | rfl <;> rcases ha2 with rfl | rfl | rfl <;> exact pm_go d [(14, [0, 1, 2, 3, 4, 5]), (79, [0, 1, 2, 3, 4, 5, 7, 8]), (99, [0, 1, 2, 3, 4, 5, 7, 8]), (128, [0, 1, 2, 3, 4, 5, 7, 8, 9]), (142, [0, 1, 2, 3, 4, 5, 8, 9]), (149, [0, 1, 2, 3, 4, 5, 8, 9]), (169, [0, 1, 2, 3, 5])] 400 ⟨fun q0 => ⟨(((h).1 q0)).1, ⟨fun q1 => (((((h).1 q0)).2).1 q1), fun q1 => (((((h).1 q0)).2).2 q1)⟩⟩, fun q0 => ⟨(((h).2 q0)).1, ⟨fun q1 => (((((h).2 q0)).2).1 q1), fun q1 => (((((h).2 q0)).2).2 q1)⟩⟩⟩
theorem kb_X2_weave_99 {d L : Nat} {fz t : Bool} {Q : pm_R → pm_H → Prop} {a1 : Nat} {a2 : Nat} {x3 : Int32} {x4 : Int32} {x5 : Int32} {x7 : Int32} {x8 : Int32} {s0 : Int32} {r : Int32} {fz1 : Bool} {I : Nat → Nat → Int32} {J : Nat → Nat → Int64} (ha1 : a1 = 55 ∨ a1 = 70) (ha2 : a2 = 23 ∨ a2 = 27 ∨ a2 = 31)
    (h : ((r = (nI 0) → (vp_in (s0 + (nI 0)) 120 ∧ ((¬ (I 8 ((s0 + (nI 0))).toNatClampNeg) = (nI 0) → t_X2_weave_142 d L fz t Q a1 a2 x3 x4 x5 x8 (s0 + (nI 0)) I J) ∧ ((I 8 ((s0 + (nI 0))).toNatClampNeg) = (nI 0) → pm_Ev d 5 [.ref (a1 + 9)] (pm_hp L fz t I J) (K_X2_weave_128 d fz t Q a1 a2 x3 x4 x5 x7 x8 (s0 + (nI 0))))))) ∧ (¬ r = (nI 0) → (vp_in (s0 + x7) 120 ∧ ((¬ (I 8 ((s0 + x7)).toNatClampNeg) = (nI 0) → t_X2_weave_142 d L fz t Q a1 a2 x3 x4 x5 x8 (s0 + x7) I J) ∧ ((I 8 ((s0 + x7)).toNatClampNeg) = (nI 0) → pm_Ev d 5 [.ref (a1 + 9)] (pm_hp L fz t I J) (K_X2_weave_128 d fz t Q a1 a2 x3 x4 x5 x7 x8 (s0 + x7)))))))) :
    K_X2_weave_99 d fz t Q a1 a2 x3 x4 x5 x7 x8 s0 (.inl (some (.int r))) (pm_hp L fz1 t I J) := b_X2_weave_99 ha1 ha2 h
set_option maxRecDepth 100000 in
theorem b_X2_weave_142 {d L : Nat} {fz t : Bool} {Q : pm_R → pm_H → Prop} {a1 : Nat} {a2 : Nat} {x3 : Int32} {x4 : Int32} {x5 : Int32} {x8 : Int32} {x9 : Int32} {I : Nat → Nat → Int32} {J : Nat → Nat → Int64} (ha1 : a1 = 55 ∨ a1 = 70) (ha2 : a2 = 23 ∨ a2 = 27 ∨ a2 = 31)
    (h : pm_Ev d 5 [.ref (a1 + 9)] (pm_hp L fz t I J) (K_X2_weave_149 d fz t Q a1 a2 x3 x4 x5 x8 x9)) :
    t_X2_weave_142 d L fz t Q a1 a2 x3 x4 x5 x8 x9 I J := by
  rcases ha1 with rfl | rfl <;> rcases ha2 with rfl | rfl | rfl <;> exact pm_go d [(14, [0, 1, 2, 3, 4, 5]), (79, [0, 1, 2, 3, 4, 5, 7, 8]), (99, [0, 1, 2, 3, 4, 5, 7, 8]), (128, [0, 1, 2, 3, 4, 5, 7, 8, 9]), (142, [0, 1, 2, 3, 4, 5, 8, 9]), (149, [0, 1, 2, 3, 4, 5, 8, 9]), (169, [0, 1, 2, 3, 5])] 400 h
theorem kb_X2_weave_142 {d L : Nat} {fz t : Bool} {Q : pm_R → pm_H → Prop} {a1 : Nat} {a2 : Nat} {x3 : Int32} {x4 : Int32} {x5 : Int32} {x8 : Int32} {x9 : Int32} {fz1 : Bool} {I : Nat → Nat → Int32} {J : Nat → Nat → Int64} (ha1 : a1 = 55 ∨ a1 = 70) (ha2 : a2 = 23 ∨ a2 = 27 ∨ a2 = 31)
    (h : pm_Ev d 5 [.ref (a1 + 9)] (pm_hp L fz t I J) (K_X2_weave_149 d fz t Q a1 a2 x3 x4 x5 x8 x9)) :
    K_X2_weave_142 d fz t Q a1 a2 x3 x4 x5 x8 x9 (.inl none) (pm_hp L fz1 t I J) := b_X2_weave_142 ha1 ha2 h
set_option maxRecDepth 100000 in
theorem b_X2_weave_128 {d L : Nat} {fz t : Bool} {Q : pm_R → pm_H → Prop} {a1 : Nat} {a2 : Nat} {x3 : Int32} {x4 : Int32} {x5 : Int32} {x7 : Int32} {x8 : Int32} {x9 : Int32} {r : Int32} {I : Nat → Nat → Int32} {J : Nat → Nat → Int64} (ha1 : a1 = 55 ∨ a1 = 70) (ha2 : a2 = 23 ∨ a2 = 27 ∨ a2 = 31)
    (h : ((r = (nI 0) → t_X2_weave_142 d L fz t Q a1 a2 x3 x4 x5 x8 x9 I J) ∧ (¬ r = (nI 0) → pm_Ev d 15 [.ref 3, .ref a1, .int x9, .int x5, .int x7] (pm_hp L fz t I J) (K_X2_weave_142 d fz t Q a1 a2 x3 x4 x5 x8 x9)))) :
    t_X2_weave_128 d L fz t Q a1 a2 x3 x4 x5 x7 x8 x9 r I J := by
  rcases ha1 with rfl | rfl <;> rcases ha2 with rfl | rfl | rfl <;> exact pm_go d [(14, [0, 1, 2, 3, 4, 5]), (79, [0, 1, 2, 3, 4, 5, 7, 8]), (99, [0, 1, 2, 3, 4, 5, 7, 8]), (128, [0, 1, 2, 3, 4, 5, 7, 8, 9]), (142, [0, 1, 2, 3, 4, 5, 8, 9]), (149, [0, 1, 2, 3, 4, 5, 8, 9]), (169, [0, 1, 2, 3, 5])] 400 ⟨fun q0 => ((h).1 q0), fun q0 => ((h).2 q0)⟩
theorem kb_X2_weave_128 {d L : Nat} {fz t : Bool} {Q : pm_R → pm_H → Prop} {a1 : Nat} {a2 : Nat} {x3 : Int32} {x4 : Int32} {x5 : Int32} {x7 : Int32} {x8 : Int32} {x9 : Int32} {r : Int32} {fz1 : Bool} {I : Nat → Nat → Int32} {J : Nat → Nat → Int64} (ha1 : a1 = 55 ∨ a1 = 70) (ha2 : a2 = 23 ∨ a2 = 27 ∨ a2 = 31)
    (h : ((r = (nI 0) → t_X2_weave_142 d L fz t Q a1 a2 x3 x4 x5 x8 x9 I J) ∧ (¬ r = (nI 0) → pm_Ev d 15 [.ref 3, .ref a1, .int x9, .int x5, .int x7] (pm_hp L fz t I J) (K_X2_weave_142 d fz t Q a1 a2 x3 x4 x5 x8 x9)))) :
    K_X2_weave_128 d fz t Q a1 a2 x3 x4 x5 x7 x8 x9 (.inl (some (.int r))) (pm_hp L fz1 t I J) := b_X2_weave_128 ha1 ha2 h
set_option maxRecDepth 100000 in
theorem b_X2_weave_149 {d L : Nat} {fz t : Bool} {Q : pm_R → pm_H → Prop} {a1 : Nat} {a2 : Nat} {x3 : Int32} {x4 : Int32} {x5 : Int32} {x8 : Int32} {x9 : Int32} {r : Int32} {I : Nat → Nat → Int32} {J : Nat → Nat → Int64} (ha1 : a1 = 55 ∨ a1 = 70) (ha2 : a2 = 23 ∨ a2 = 27 ∨ a2 = 31)
    (h : ((r = (nI 0) → (vp_in x5 12 ∧ t_X2_weave_14 d L fz t Q a1 a2 x3 x8 (x5 + (nI 1)) (pm_u I 4 (x5).toNatClampNeg x8) J)) ∧ (¬ r = (nI 0) → pm_Ev d 13 [.ref 3, .int (x9 * (nI 12)), .int (I a1 12), .int x8, .int x4] (pm_hp L fz t I J) (K_X2_weave_169 d fz t Q a1 a2 x3 x5)))) :
    t_X2_weave_149 d L fz t Q a1 a2 x3 x4 x5 x8 x9 r I J := by
  rcases ha1 with rfl | rfl <;> rcases ha2 with rfl | rfl | rfl <;> exact pm_go d [(14, [0, 1, 2, 3, 4, 5]), (79, [0, 1, 2, 3, 4, 5, 7, 8]), (99, [0, 1, 2, 3, 4, 5, 7, 8]), (128, [0, 1, 2, 3, 4, 5, 7, 8, 9]), (142, [0, 1, 2, 3, 4, 5, 8, 9]), (149, [0, 1, 2, 3, 4, 5, 8, 9]), (169, [0, 1, 2, 3, 5])] 400 ⟨fun q0 => ⟨(((h).1 q0)).1, (((h).1 q0)).2⟩, fun q0 => ((h).2 q0)⟩
theorem kb_X2_weave_149 {d L : Nat} {fz t : Bool} {Q : pm_R → pm_H → Prop} {a1 : Nat} {a2 : Nat} {x3 : Int32} {x4 : Int32} {x5 : Int32} {x8 : Int32} {x9 : Int32} {r : Int32} {fz1 : Bool} {I : Nat → Nat → Int32} {J : Nat → Nat → Int64} (ha1 : a1 = 55 ∨ a1 = 70) (ha2 : a2 = 23 ∨ a2 = 27 ∨ a2 = 31)
    (h : ((r = (nI 0) → (vp_in x5 12 ∧ t_X2_weave_14 d L fz t Q a1 a2 x3 x8 (x5 + (nI 1)) (pm_u I 4 (x5).toNatClampNeg x8) J)) ∧ (¬ r = (nI 0) → pm_Ev d 13 [.ref 3, .int (x9 * (nI 12)), .int (I a1 12), .int x8, .int x4] (pm_hp L fz t I J) (K_X2_weave_169 d fz t Q a1 a2 x3 x5)))) :
    K_X2_weave_149 d fz t Q a1 a2 x3 x4 x5 x8 x9 (.inl (some (.int r))) (pm_hp L fz1 t I J) := b_X2_weave_149 ha1 ha2 h
set_option maxRecDepth 100000 in
theorem b_X2_weave_169 {d L : Nat} {fz t : Bool} {Q : pm_R → pm_H → Prop} {a1 : Nat} {a2 : Nat} {x3 : Int32} {x5 : Int32} {r : Int32} {I : Nat → Nat → Int32} {J : Nat → Nat → Int64} (ha1 : a1 = 55 ∨ a1 = 70) (ha2 : a2 = 23 ∨ a2 = 27 ∨ a2 = 31)
    (h : (vp_in x5 12 ∧ t_X2_weave_14 d L fz t Q a1 a2 x3 r (x5 + (nI 1)) (pm_u I 4 (x5).toNatClampNeg r) J)) :
    t_X2_weave_169 d L fz t Q a1 a2 x3 x5 r I J := by
  rcases ha1 with rfl | rfl <;> rcases ha2 with rfl | rfl | rfl <;> exact pm_go d [(14, [0, 1, 2, 3, 4, 5]), (79, [0, 1, 2, 3, 4, 5, 7, 8]), (99, [0, 1, 2, 3, 4, 5, 7, 8]), (128, [0, 1, 2, 3, 4, 5, 7, 8, 9]), (142, [0, 1, 2, 3, 4, 5, 8, 9]), (149, [0, 1, 2, 3, 4, 5, 8, 9]), (169, [0, 1, 2, 3, 5])] 400 ⟨(h).1, (h).2⟩
theorem kb_X2_weave_169 {d L : Nat} {fz t : Bool} {Q : pm_R → pm_H → Prop} {a1 : Nat} {a2 : Nat} {x3 : Int32} {x5 : Int32} {r : Int32} {fz1 : Bool} {I : Nat → Nat → Int32} {J : Nat → Nat → Int64} (ha1 : a1 = 55 ∨ a1 = 70) (ha2 : a2 = 23 ∨ a2 = 27 ∨ a2 = 31)
    (h : (vp_in x5 12 ∧ t_X2_weave_14 d L fz t Q a1 a2 x3 r (x5 + (nI 1)) (pm_u I 4 (x5).toNatClampNeg r) J)) :
    K_X2_weave_169 d fz t Q a1 a2 x3 x5 (.inl (some (.int r))) (pm_hp L fz1 t I J) := b_X2_weave_169 ha1 ha2 h
def t_X2_rowBy_0 (d L : Nat) (fz t : Bool) (Q : pm_R → pm_H → Prop) (x1 : Int32) (x2 : Int32) (x3 : Int32) (x4 : Int32) (I : Nat → Nat → Int32) (J : Nat → Nat → Int64) : Prop := pm_T (pm_Ev d) 13 Q (0, [(0, .ref 3), (1, .int x1), (2, .int x2), (3, .int x3), (4, .int x4)], [], pm_hp L fz t I J, 0, 0)
def t_X2_rowBy_27 (d L : Nat) (fz t : Bool) (Q : pm_R → pm_H → Prop) (x1 : Int32) (x3 : Int32) (x4 : Int32) (x5 : Int32) (x6 : Int32) (s0 : Int32) (r : Int32) (I : Nat → Nat → Int32) (J : Nat → Nat → Int64) : Prop := pm_T (pm_Ev d) 13 Q (27, [(0, .ref 3), (1, .int x1), (3, .int x3), (4, .int x4), (5, .int x5), (6, .int x6)], [.int r, .int s0], pm_hp L fz t I J, 0, 0)
def K_X2_rowBy_27 (d : Nat) (fz t : Bool) (Q : pm_R → pm_H → Prop) (x1 : Int32) (x3 : Int32) (x4 : Int32) (x5 : Int32) (x6 : Int32) (s0 : Int32) : pm_R → pm_H → Prop := pm_K d 13 Q 27 [(0, .ref 3), (1, .int x1), (3, .int x3), (4, .int x4), (5, .int x5), (6, .int x6)] [.int s0] 118 0 fz 0 0
def t_X2_rowBy_43 (d L : Nat) (fz t : Bool) (Q : pm_R → pm_H → Prop) (x1 : Int32) (x3 : Int32) (x4 : Int32) (x5 : Int32) (x6 : Int32) (s0 : Int32) (s1 : Int32) (r : Int32) (I : Nat → Nat → Int32) (J : Nat → Nat → Int64) : Prop := pm_T (pm_Ev d) 13 Q (43, [(0, .ref 3), (1, .int x1), (3, .int x3), (4, .int x4), (5, .int x5), (6, .int x6)], [.int r, .int s1, .int s0], pm_hp L fz t I J, 0, 0)
def K_X2_rowBy_43 (d : Nat) (fz t : Bool) (Q : pm_R → pm_H → Prop) (x1 : Int32) (x3 : Int32) (x4 : Int32) (x5 : Int32) (x6 : Int32) (s0 : Int32) (s1 : Int32) : pm_R → pm_H → Prop := pm_K d 13 Q 43 [(0, .ref 3), (1, .int x1), (3, .int x3), (4, .int x4), (5, .int x5), (6, .int x6)] [.int s1, .int s0] 118 0 fz 0 0
def t_X2_rowBy_61 (d L : Nat) (fz t : Bool) (Q : pm_R → pm_H → Prop) (s0 : Int32) (s1 : Int32) (r : Int32) (I : Nat → Nat → Int32) (J : Nat → Nat → Int64) : Prop := pm_T (pm_Ev d) 13 Q (61, [], [.int r, .int s1, .int s0], pm_hp L fz t I J, 0, 0)
def K_X2_rowBy_61 (d : Nat) (fz t : Bool) (Q : pm_R → pm_H → Prop) (s0 : Int32) (s1 : Int32) : pm_R → pm_H → Prop := pm_K d 13 Q 61 [] [.int s1, .int s0] 118 0 fz 0 0
set_option maxRecDepth 100000 in
theorem b_X2_rowBy_0 {d L : Nat} {fz t : Bool} {Q : pm_R → pm_H → Prop} {x1 : Int32} {x2 : Int32} {x3 : Int32} {x4 : Int32} {I : Nat → Nat → Int32} {J : Nat → Nat → Int64}
    (h : pm_Ev d 14 [.ref 3, .int x1, .int x3, .int x4] (pm_hp L fz t I J) (K_X2_rowBy_27 d fz t Q x1 x3 x4 ((x3 <<< ((nI 1) &&& 31)) &&& x2) (x3 >>> ((nI 1) &&& 31)) ((((x3 <<< ((nI 1) &&& 31)) &&& x2) ||| (x3 >>> ((nI 1) &&& 31))) ^^^ (-1 : Int32)))) :
    t_X2_rowBy_0 d L fz t Q x1 x2 x3 x4 I J := by
  exact pm_go d [(27, [0, 1, 3, 4, 5, 6]), (43, [0, 1, 3, 4, 5, 6]), (61, [])] 400 h
theorem e_X2_rowBy {d L : Nat} {fz t : Bool} {Q : pm_R → pm_H → Prop} {x1 : Int32} {x2 : Int32} {x3 : Int32} {x4 : Int32} {I : Nat → Nat → Int32} {J : Nat → Nat → Int64}
    (h : pm_Ev d 14 [.ref 3, .int x1, .int x3, .int x4] (pm_hp L fz t I J) (K_X2_rowBy_27 d fz t Q x1 x3 x4 ((x3 <<< ((nI 1) &&& 31)) &&& x2) (x3 >>> ((nI 1) &&& 31)) ((((x3 <<< ((nI 1) &&& 31)) &&& x2) ||| (x3 >>> ((nI 1) &&& 31))) ^^^ (-1 : Int32)))) :
    pm_Ev (d + 1) 13 [.ref 3, .int x1, .int x2, .int x3, .int x4] (pm_hp L fz t I J) Q := pm_Ev_in rfl (b_X2_rowBy_0 h)
set_option maxRecDepth 100000 in
theorem b_X2_rowBy_27 {d L : Nat} {fz t : Bool} {Q : pm_R → pm_H → Prop} {x1 : Int32} {x3 : Int32} {x4 : Int32} {x5 : Int32} {x6 : Int32} {s0 : Int32} {r : Int32} {I : Nat → Nat → Int32} {J : Nat → Nat → Int64}
    (h : pm_Ev d 14 [.ref 3, .int (x1 + (nI 4)), .int x3, .int x4] (pm_hp L fz t I J) (K_X2_rowBy_43 d fz t Q x1 x3 x4 x5 x6 (s0 &&& r) (x5 ^^^ x6))) :
    t_X2_rowBy_27 d L fz t Q x1 x3 x4 x5 x6 s0 r I J := by
  exact pm_go d [(27, [0, 1, 3, 4, 5, 6]), (43, [0, 1, 3, 4, 5, 6]), (61, [])] 400 h
theorem kb_X2_rowBy_27 {d L : Nat} {fz t : Bool} {Q : pm_R → pm_H → Prop} {x1 : Int32} {x3 : Int32} {x4 : Int32} {x5 : Int32} {x6 : Int32} {s0 : Int32} {r : Int32} {fz1 : Bool} {I : Nat → Nat → Int32} {J : Nat → Nat → Int64}
    (h : pm_Ev d 14 [.ref 3, .int (x1 + (nI 4)), .int x3, .int x4] (pm_hp L fz t I J) (K_X2_rowBy_43 d fz t Q x1 x3 x4 x5 x6 (s0 &&& r) (x5 ^^^ x6))) :
    K_X2_rowBy_27 d fz t Q x1 x3 x4 x5 x6 s0 (.inl (some (.int r))) (pm_hp L fz1 t I J) := b_X2_rowBy_27 h
set_option maxRecDepth 100000 in
theorem b_X2_rowBy_43 {d L : Nat} {fz t : Bool} {Q : pm_R → pm_H → Prop} {x1 : Int32} {x3 : Int32} {x4 : Int32} {x5 : Int32} {x6 : Int32} {s0 : Int32} {s1 : Int32} {r : Int32} {I : Nat → Nat → Int32} {J : Nat → Nat → Int64}
    (h : pm_Ev d 14 [.ref 3, .int (x1 + (nI 8)), .int x3, .int x4] (pm_hp L fz t I J) (K_X2_rowBy_61 d fz t Q (s0 ||| (s1 &&& r)) (x5 &&& x6))) :
    t_X2_rowBy_43 d L fz t Q x1 x3 x4 x5 x6 s0 s1 r I J := by
  exact pm_go d [(27, [0, 1, 3, 4, 5, 6]), (43, [0, 1, 3, 4, 5, 6]), (61, [])] 400 h
theorem kb_X2_rowBy_43 {d L : Nat} {fz t : Bool} {Q : pm_R → pm_H → Prop} {x1 : Int32} {x3 : Int32} {x4 : Int32} {x5 : Int32} {x6 : Int32} {s0 : Int32} {s1 : Int32} {r : Int32} {fz1 : Bool} {I : Nat → Nat → Int32} {J : Nat → Nat → Int64}
    (h : pm_Ev d 14 [.ref 3, .int (x1 + (nI 8)), .int x3, .int x4] (pm_hp L fz t I J) (K_X2_rowBy_61 d fz t Q (s0 ||| (s1 &&& r)) (x5 &&& x6))) :
    K_X2_rowBy_43 d fz t Q x1 x3 x4 x5 x6 s0 s1 (.inl (some (.int r))) (pm_hp L fz1 t I J) := b_X2_rowBy_43 h
set_option maxRecDepth 100000 in
theorem b_X2_rowBy_61 {d L : Nat} {fz t : Bool} {Q : pm_R → pm_H → Prop} {s0 : Int32} {s1 : Int32} {r : Int32} {I : Nat → Nat → Int32} {J : Nat → Nat → Int64}
    (h : Q (.inl (some (.int (s0 ||| (s1 &&& r))))) (pm_hp L fz t I J)) :
    t_X2_rowBy_61 d L fz t Q s0 s1 r I J := by
  exact pm_go d [(27, [0, 1, 3, 4, 5, 6]), (43, [0, 1, 3, 4, 5, 6]), (61, [])] 400 h
theorem kb_X2_rowBy_61 {d L : Nat} {fz t : Bool} {Q : pm_R → pm_H → Prop} {s0 : Int32} {s1 : Int32} {r : Int32} {fz1 : Bool} {I : Nat → Nat → Int32} {J : Nat → Nat → Int64}
    (h : Q (.inl (some (.int (s0 ||| (s1 &&& r))))) (pm_hp L fz t I J)) :
    K_X2_rowBy_61 d fz t Q s0 s1 (.inl (some (.int r))) (pm_hp L fz1 t I J) := b_X2_rowBy_61 h
def t_X2_liftedAmong_0 (d L : Nat) (fz t : Bool) (Q : pm_R → pm_H → Prop) (x1 : Int32) (x2 : Int32) (x3 : Int32) (I : Nat → Nat → Int32) (J : Nat → Nat → Int64) : Prop := pm_T (pm_Ev d) 14 Q (0, [(0, .ref 3), (1, .int x1), (2, .int x2), (3, .int x3)], [], pm_hp L fz t I J, 0, 0)
set_option maxRecDepth 100000 in
theorem b_X2_liftedAmong_0 {d L : Nat} {fz t : Bool} {Q : pm_R → pm_H → Prop} {x1 : Int32} {x2 : Int32} {x3 : Int32} {I : Nat → Nat → Int32} {J : Nat → Nat → Int64}
    (h : (vp_in (x1 + (nI 3)) 1440 ∧ (vp_in (x1 + (nI 2)) 1440 ∧ (vp_in (x1 + (nI 1)) 1440 ∧ (vp_in x1 1440 ∧ Q (.inl (some (.int ((x3 &&& ((x2 &&& (I 7 ((x1 + (nI 3))).toNatClampNeg)) ||| ((x2 ^^^ (-1 : Int32)) &&& (I 7 ((x1 + (nI 2))).toNatClampNeg)))) ||| ((x3 ^^^ (-1 : Int32)) &&& ((x2 &&& (I 7 ((x1 + (nI 1))).toNatClampNeg)) ||| ((x2 ^^^ (-1 : Int32)) &&& (I 7 (x1).toNatClampNeg)))))))) (pm_hp L fz t I J)))))) :
    t_X2_liftedAmong_0 d L fz t Q x1 x2 x3 I J := by
  exact pm_go d [] 400 ⟨(h).1, ⟨((h).2).1, ⟨(((h).2).2).1, ⟨((((h).2).2).2).1, ((((h).2).2).2).2⟩⟩⟩⟩
theorem e_X2_liftedAmong {d L : Nat} {fz t : Bool} {Q : pm_R → pm_H → Prop} {x1 : Int32} {x2 : Int32} {x3 : Int32} {I : Nat → Nat → Int32} {J : Nat → Nat → Int64}
    (h : (vp_in (x1 + (nI 3)) 1440 ∧ (vp_in (x1 + (nI 2)) 1440 ∧ (vp_in (x1 + (nI 1)) 1440 ∧ (vp_in x1 1440 ∧ Q (.inl (some (.int ((x3 &&& ((x2 &&& (I 7 ((x1 + (nI 3))).toNatClampNeg)) ||| ((x2 ^^^ (-1 : Int32)) &&& (I 7 ((x1 + (nI 2))).toNatClampNeg)))) ||| ((x3 ^^^ (-1 : Int32)) &&& ((x2 &&& (I 7 ((x1 + (nI 1))).toNatClampNeg)) ||| ((x2 ^^^ (-1 : Int32)) &&& (I 7 (x1).toNatClampNeg)))))))) (pm_hp L fz t I J)))))) :
    pm_Ev (d + 1) 14 [.ref 3, .int x1, .int x2, .int x3] (pm_hp L fz t I J) Q := pm_Ev_in rfl (b_X2_liftedAmong_0 h)
def t_X2_learn_0 (d L : Nat) (fz t : Bool) (Q : pm_R → pm_H → Prop) (a1 : Nat) (x2 : Int32) (x3 : Int32) (x4 : Int32) (I : Nat → Nat → Int32) (J : Nat → Nat → Int64) : Prop := pm_T (pm_Ev d) 15 Q (0, [(0, .ref 3), (1, .ref a1), (2, .int x2), (3, .int x3), (4, .int x4)], [], pm_hp L fz t I J, 0, 0)
def t_X2_learn_8 (d L : Nat) (fz t : Bool) (Q : pm_R → pm_H → Prop) (a1 : Nat) (x2 : Int32) (x3 : Int32) (x4 : Int32) (r : Int32) (I : Nat → Nat → Int32) (J : Nat → Nat → Int64) : Prop := pm_T (pm_Ev d) 15 Q (8, [(0, .ref 3), (1, .ref a1), (2, .int x2), (3, .int x3), (4, .int x4)], [.int r], pm_hp L fz t I J, 0, 0)
def K_X2_learn_8 (d : Nat) (fz t : Bool) (Q : pm_R → pm_H → Prop) (a1 : Nat) (x2 : Int32) (x3 : Int32) (x4 : Int32) : pm_R → pm_H → Prop := pm_K d 15 Q 8 [(0, .ref 3), (1, .ref a1), (2, .int x2), (3, .int x3), (4, .int x4)] [] 118 0 fz 0 0
def t_X2_learn_24 (d L : Nat) (fz t : Bool) (Q : pm_R → pm_H → Prop) (a1 : Nat) (x2 : Int32) (x3 : Int32) (x4 : Int32) (s0 : Int32) (r : Int32) (I : Nat → Nat → Int32) (J : Nat → Nat → Int64) : Prop := pm_T (pm_Ev d) 15 Q (24, [(0, .ref 3), (1, .ref a1), (2, .int x2), (3, .int x3), (4, .int x4)], [.int r, .int s0], pm_hp L fz t I J, 0, 0)
def K_X2_learn_24 (d : Nat) (fz t : Bool) (Q : pm_R → pm_H → Prop) (a1 : Nat) (x2 : Int32) (x3 : Int32) (x4 : Int32) (s0 : Int32) : pm_R → pm_H → Prop := pm_K d 15 Q 24 [(0, .ref 3), (1, .ref a1), (2, .int x2), (3, .int x3), (4, .int x4)] [.int s0] 118 0 fz 0 0
def t_X2_learn_41 (d L : Nat) (fz t : Bool) (Q : pm_R → pm_H → Prop) (a1 : Nat) (x2 : Int32) (x3 : Int32) (x4 : Int32) (s0 : Int32) (r : Int32) (I : Nat → Nat → Int32) (J : Nat → Nat → Int64) : Prop := pm_T (pm_Ev d) 15 Q (41, [(0, .ref 3), (1, .ref a1), (2, .int x2), (3, .int x3), (4, .int x4)], [.int r, .int s0], pm_hp L fz t I J, 0, 0)
def K_X2_learn_41 (d : Nat) (fz t : Bool) (Q : pm_R → pm_H → Prop) (a1 : Nat) (x2 : Int32) (x3 : Int32) (x4 : Int32) (s0 : Int32) : pm_R → pm_H → Prop := pm_K d 15 Q 41 [(0, .ref 3), (1, .ref a1), (2, .int x2), (3, .int x3), (4, .int x4)] [.int s0] 118 0 fz 0 0
def t_X2_learn_71 (d L : Nat) (fz t : Bool) (Q : pm_R → pm_H → Prop) (a1 : Nat) (x2 : Int32) (x5 : Int32) (x6 : Int32) (I : Nat → Nat → Int32) (J : Nat → Nat → Int64) : Prop := pm_T (pm_Ev d) 15 Q (71, [(0, .ref 3), (1, .ref a1), (2, .int x2), (5, .int x5), (6, .int x6)], [], pm_hp L fz t I J, 0, 0)
def t_X2_learn_125 (d L : Nat) (fz t : Bool) (Q : pm_R → pm_H → Prop) (a1 : Nat) (x2 : Int32) (x5 : Int32) (x6 : Int32) (s1 : Int32) (r : Int32) (I : Nat → Nat → Int32) (J : Nat → Nat → Int64) : Prop := pm_T (pm_Ev d) 15 Q (125, [(0, .ref 3), (1, .ref a1), (2, .int x2), (5, .int x5), (6, .int x6)], [.int r, .int s1, .ref 7], pm_hp L fz t I J, 0, 0)
def K_X2_learn_125 (d : Nat) (fz t : Bool) (Q : pm_R → pm_H → Prop) (a1 : Nat) (x2 : Int32) (x5 : Int32) (x6 : Int32) (s1 : Int32) : pm_R → pm_H → Prop := pm_K d 15 Q 125 [(0, .ref 3), (1, .ref a1), (2, .int x2), (5, .int x5), (6, .int x6)] [.int s1, .ref 7] 118 0 fz 0 0
set_option maxRecDepth 100000 in
theorem b_X2_learn_0 {d L : Nat} {fz t : Bool} {Q : pm_R → pm_H → Prop} {a1 : Nat} {x2 : Int32} {x3 : Int32} {x4 : Int32} {I : Nat → Nat → Int32} {J : Nat → Nat → Int64} (ha1 : a1 = 55 ∨ a1 = 70)
    (h : pm_Ev d 6 [.ref (a1 + 9), .int (nI 0)] (pm_hp L fz t I J) (K_X2_learn_8 d fz t Q a1 x2 x3 x4)) :
    t_X2_learn_0 d L fz t Q a1 x2 x3 x4 I J := by
  rcases ha1 with rfl | rfl <;> exact pm_go d [(8, [0, 1, 2, 3, 4]), (24, [0, 1, 2, 3, 4]), (41, [0, 1, 2, 3, 4]), (71, [0, 1, 2, 5, 6]), (125, [0, 1, 2, 5, 6])] 400 h
theorem e_X2_learn {d L : Nat} {fz t : Bool} {Q : pm_R → pm_H → Prop} {a1 : Nat} {x2 : Int32} {x3 : Int32} {x4 : Int32} {I : Nat → Nat → Int32} {J : Nat → Nat → Int64} (ha1 : a1 = 55 ∨ a1 = 70)
    (h : pm_Ev d 6 [.ref (a1 + 9), .int (nI 0)] (pm_hp L fz t I J) (K_X2_learn_8 d fz t Q a1 x2 x3 x4)) :
    pm_Ev (d + 1) 15 [.ref 3, .ref a1, .int x2, .int x3, .int x4] (pm_hp L fz t I J) Q := pm_Ev_in rfl (b_X2_learn_0 ha1 h)
set_option maxRecDepth 100000 in
theorem b_X2_learn_8 {d L : Nat} {fz t : Bool} {Q : pm_R → pm_H → Prop} {a1 : Nat} {x2 : Int32} {x3 : Int32} {x4 : Int32} {r : Int32} {I : Nat → Nat → Int32} {J : Nat → Nat → Int64} (ha1 : a1 = 55 ∨ a1 = 70)
    (h : ((r = (nI 0) → pm_Ev d 6 [.ref (a1 + 9), .int (nI 2)] (pm_hp L fz t I J) (K_X2_learn_24 d fz t Q a1 x2 x3 x4 (nI 0))) ∧ (¬ r = (nI 0) → pm_Ev d 6 [.ref (a1 + 9), .int (nI 2)] (pm_hp L fz t I J) (K_X2_learn_24 d fz t Q a1 x2 x3 x4 (nI 1))))) :
    t_X2_learn_8 d L fz t Q a1 x2 x3 x4 r I J := by
  rcases ha1 with rfl | rfl <;> exact pm_go d [(8, [0, 1, 2, 3, 4]), (24, [0, 1, 2, 3, 4]), (41, [0, 1, 2, 3, 4]), (71, [0, 1, 2, 5, 6]), (125, [0, 1, 2, 5, 6])] 400 ⟨fun q0 => ((h).1 q0), fun q0 => ((h).2 q0)⟩
theorem kb_X2_learn_8 {d L : Nat} {fz t : Bool} {Q : pm_R → pm_H → Prop} {a1 : Nat} {x2 : Int32} {x3 : Int32} {x4 : Int32} {r : Int32} {fz1 : Bool} {I : Nat → Nat → Int32} {J : Nat → Nat → Int64} (ha1 : a1 = 55 ∨ a1 = 70)
    (h : ((r = (nI 0) → pm_Ev d 6 [.ref (a1 + 9), .int (nI 2)] (pm_hp L fz t I J) (K_X2_learn_24 d fz t Q a1 x2 x3 x4 (nI 0))) ∧ (¬ r = (nI 0) → pm_Ev d 6 [.ref (a1 + 9), .int (nI 2)] (pm_hp L fz t I J) (K_X2_learn_24 d fz t Q a1 x2 x3 x4 (nI 1))))) :
    K_X2_learn_8 d fz t Q a1 x2 x3 x4 (.inl (some (.int r))) (pm_hp L fz1 t I J) := b_X2_learn_8 ha1 h
set_option maxRecDepth 100000 in
theorem b_X2_learn_24 {d L : Nat} {fz t : Bool} {Q : pm_R → pm_H → Prop} {a1 : Nat} {x2 : Int32} {x3 : Int32} {x4 : Int32} {s0 : Int32} {r : Int32} {I : Nat → Nat → Int32} {J : Nat → Nat → Int64} (ha1 : a1 = 55 ∨ a1 = 70)
    (h : ((r = (nI 0) → pm_Ev d 6 [.ref (a1 + 9), .int (nI 1)] (pm_hp L fz t I J) (K_X2_learn_41 d fz t Q a1 x2 x3 x4 (s0 ||| (nI 0)))) ∧ (¬ r = (nI 0) → pm_Ev d 6 [.ref (a1 + 9), .int (nI 1)] (pm_hp L fz t I J) (K_X2_learn_41 d fz t Q a1 x2 x3 x4 (s0 ||| (nI 2)))))) :
    t_X2_learn_24 d L fz t Q a1 x2 x3 x4 s0 r I J := by
  rcases ha1 with rfl | rfl <;> exact pm_go d [(8, [0, 1, 2, 3, 4]), (24, [0, 1, 2, 3, 4]), (41, [0, 1, 2, 3, 4]), (71, [0, 1, 2, 5, 6]), (125, [0, 1, 2, 5, 6])] 400 ⟨fun q0 => ((h).1 q0), fun q0 => ((h).2 q0)⟩
theorem kb_X2_learn_24 {d L : Nat} {fz t : Bool} {Q : pm_R → pm_H → Prop} {a1 : Nat} {x2 : Int32} {x3 : Int32} {x4 : Int32} {s0 : Int32} {r : Int32} {fz1 : Bool} {I : Nat → Nat → Int32} {J : Nat → Nat → Int64} (ha1 : a1 = 55 ∨ a1 = 70)
    (h : ((r = (nI 0) → pm_Ev d 6 [.ref (a1 + 9), .int (nI 1)] (pm_hp L fz t I J) (K_X2_learn_41 d fz t Q a1 x2 x3 x4 (s0 ||| (nI 0)))) ∧ (¬ r = (nI 0) → pm_Ev d 6 [.ref (a1 + 9), .int (nI 1)] (pm_hp L fz t I J) (K_X2_learn_41 d fz t Q a1 x2 x3 x4 (s0 ||| (nI 2)))))) :
    K_X2_learn_24 d fz t Q a1 x2 x3 x4 s0 (.inl (some (.int r))) (pm_hp L fz1 t I J) := b_X2_learn_24 ha1 h
set_option maxRecDepth 100000 in
theorem b_X2_learn_41 {d L : Nat} {fz t : Bool} {Q : pm_R → pm_H → Prop} {a1 : Nat} {x2 : Int32} {x3 : Int32} {x4 : Int32} {s0 : Int32} {r : Int32} {I : Nat → Nat → Int32} {J : Nat → Nat → Int64} (ha1 : a1 = 55 ∨ a1 = 70)
    (h : ((r = (nI 0) → t_X2_learn_71 d L fz t Q a1 x2 (s0 ||| (nI 0)) (nI 0) (pm_u (pm_u I 6 3 x3) 6 5 x4) J) ∧ (¬ r = (nI 0) → t_X2_learn_71 d L fz t Q a1 x2 (s0 ||| (nI 12)) (nI 0) (pm_u (pm_u I 6 3 x3) 6 5 x4) J))) :
    t_X2_learn_41 d L fz t Q a1 x2 x3 x4 s0 r I J := by
  rcases ha1 with rfl | rfl <;> exact pm_go d [(8, [0, 1, 2, 3, 4]), (24, [0, 1, 2, 3, 4]), (41, [0, 1, 2, 3, 4]), (71, [0, 1, 2, 5, 6]), (125, [0, 1, 2, 5, 6])] 400 ⟨fun q0 => ⟨(vp_in_nI (by decide : 3 < 6) (by decide) : vp_in (nI 3) 6), ⟨(vp_in_nI (by decide : 5 < 6) (by decide) : vp_in (nI 5) 6), ((h).1 q0)⟩⟩, fun q0 => ⟨(vp_in_nI (by decide : 3 < 6) (by decide) : vp_in (nI 3) 6), ⟨(vp_in_nI (by decide : 5 < 6) (by decide) : vp_in (nI 5) 6), ((h).2 q0)⟩⟩⟩
theorem kb_X2_learn_41 {d L : Nat} {fz t : Bool} {Q : pm_R → pm_H → Prop} {a1 : Nat} {x2 : Int32} {x3 : Int32} {x4 : Int32} {s0 : Int32} {r : Int32} {fz1 : Bool} {I : Nat → Nat → Int32} {J : Nat → Nat → Int64} (ha1 : a1 = 55 ∨ a1 = 70)
    (h : ((r = (nI 0) → t_X2_learn_71 d L fz t Q a1 x2 (s0 ||| (nI 0)) (nI 0) (pm_u (pm_u I 6 3 x3) 6 5 x4) J) ∧ (¬ r = (nI 0) → t_X2_learn_71 d L fz t Q a1 x2 (s0 ||| (nI 12)) (nI 0) (pm_u (pm_u I 6 3 x3) 6 5 x4) J))) :
    K_X2_learn_41 d fz t Q a1 x2 x3 x4 s0 (.inl (some (.int r))) (pm_hp L fz1 t I J) := b_X2_learn_41 ha1 h
set_option maxRecDepth 100000 in
theorem b_X2_learn_71 {d L : Nat} {fz t : Bool} {Q : pm_R → pm_H → Prop} {a1 : Nat} {x2 : Int32} {x5 : Int32} {x6 : Int32} {I : Nat → Nat → Int32} {J : Nat → Nat → Int64} (ha1 : a1 = 55 ∨ a1 = 70)
    (h : (((nI 12) ≤ x6 → (vp_in x2 120 ∧ Q (.inl none) (pm_hp L fz t (pm_u I 8 (x2).toNatClampNeg (nI 1)) J))) ∧ (¬ (nI 12) ≤ x6 → ((x6 ≤ (x6 &&& x5) → pm_Ev d 16 [.ref 3, .ref a1, .int x6] (pm_hp L fz t I J) (K_X2_learn_125 d fz t Q a1 x2 x5 x6 ((x2 * (nI 12)) + x6))) ∧ (¬ x6 ≤ (x6 &&& x5) → (vp_in ((x2 * (nI 12)) + (x6 &&& x5)) 1440 ∧ t_X2_learn_125 d L fz t Q a1 x2 x5 x6 ((x2 * (nI 12)) + x6) (I 7 (((x2 * (nI 12)) + (x6 &&& x5))).toNatClampNeg) I J)))))) :
    t_X2_learn_71 d L fz t Q a1 x2 x5 x6 I J := by
  rcases ha1 with rfl | rfl <;> exact pm_go d [(8, [0, 1, 2, 3, 4]), (24, [0, 1, 2, 3, 4]), (41, [0, 1, 2, 3, 4]), (71, [0, 1, 2, 5, 6]), (125, [0, 1, 2, 5, 6])] 400 ⟨fun q0 => ⟨(((h).1 q0)).1, (((h).1 q0)).2⟩, fun q0 => ⟨fun q1 => ((((h).2 q0)).1 q1), fun q1 => ⟨(((((h).2 q0)).2 q1)).1, (((((h).2 q0)).2 q1)).2⟩⟩⟩
set_option maxRecDepth 100000 in
theorem b_X2_learn_125 {d L : Nat} {fz t : Bool} {Q : pm_R → pm_H → Prop} {a1 : Nat} {x2 : Int32} {x5 : Int32} {x6 : Int32} {s1 : Int32} {r : Int32} {I : Nat → Nat → Int32} {J : Nat → Nat → Int64} (ha1 : a1 = 55 ∨ a1 = 70)
    (h : (vp_in s1 1440 ∧ t_X2_learn_71 d L fz t Q a1 x2 x5 (x6 + (nI 1)) (pm_u I 7 (s1).toNatClampNeg r) J)) :
    t_X2_learn_125 d L fz t Q a1 x2 x5 x6 s1 r I J := by
  rcases ha1 with rfl | rfl <;> exact pm_go d [(8, [0, 1, 2, 3, 4]), (24, [0, 1, 2, 3, 4]), (41, [0, 1, 2, 3, 4]), (71, [0, 1, 2, 5, 6]), (125, [0, 1, 2, 5, 6])] 400 ⟨(h).1, (h).2⟩
theorem kb_X2_learn_125 {d L : Nat} {fz t : Bool} {Q : pm_R → pm_H → Prop} {a1 : Nat} {x2 : Int32} {x5 : Int32} {x6 : Int32} {s1 : Int32} {r : Int32} {fz1 : Bool} {I : Nat → Nat → Int32} {J : Nat → Nat → Int64} (ha1 : a1 = 55 ∨ a1 = 70)
    (h : (vp_in s1 1440 ∧ t_X2_learn_71 d L fz t Q a1 x2 x5 (x6 + (nI 1)) (pm_u I 7 (s1).toNatClampNeg r) J)) :
    K_X2_learn_125 d fz t Q a1 x2 x5 x6 s1 (.inl (some (.int r))) (pm_hp L fz1 t I J) := b_X2_learn_125 ha1 h
def t_X2_workOut_0 (d L : Nat) (fz t : Bool) (Q : pm_R → pm_H → Prop) (a1 : Nat) (x2 : Int32) (I : Nat → Nat → Int32) (J : Nat → Nat → Int64) : Prop := pm_T (pm_Ev d) 16 Q (0, [(0, .ref 3), (1, .ref a1), (2, .int x2)], [], pm_hp L fz t I J, 0, 0)
def t_X2_workOut_44 (d L : Nat) (fz t : Bool) (Q : pm_R → pm_H → Prop) (a1 : Nat) (r : Int32) (I : Nat → Nat → Int32) (J : Nat → Nat → Int64) : Prop := pm_T (pm_Ev d) 16 Q (44, [(0, .ref 3), (1, .ref a1)], [.int r], pm_hp L fz t I J, 0, 0)
def K_X2_workOut_44 (d : Nat) (fz t : Bool) (Q : pm_R → pm_H → Prop) (a1 : Nat) : pm_R → pm_H → Prop := pm_K d 16 Q 44 [(0, .ref 3), (1, .ref a1)] [] 118 0 fz 0 0
def t_X2_workOut_75 (d L : Nat) (fz t : Bool) (Q : pm_R → pm_H → Prop) (a1 : Nat) (x3 : Int32) (x4 : Int32) (I : Nat → Nat → Int32) (J : Nat → Nat → Int64) : Prop := pm_T (pm_Ev d) 16 Q (75, [(0, .ref 3), (1, .ref a1), (3, .int x3), (4, .int x4)], [], pm_hp L fz t I J, 0, 0)
def t_X2_workOut_58 (d L : Nat) (fz t : Bool) (Q : pm_R → pm_H → Prop) (a1 : Nat) (r : Int32) (I : Nat → Nat → Int32) (J : Nat → Nat → Int64) : Prop := pm_T (pm_Ev d) 16 Q (58, [(1, .ref a1)], [.int r], pm_hp L fz t I J, 0, 0)
def K_X2_workOut_58 (d : Nat) (fz t : Bool) (Q : pm_R → pm_H → Prop) (a1 : Nat) : pm_R → pm_H → Prop := pm_K d 16 Q 58 [(1, .ref a1)] [] 118 0 fz 0 0
def t_X2_workOut_103 (d L : Nat) (fz t : Bool) (Q : pm_R → pm_H → Prop) (a1 : Nat) (x3 : Int32) (x4 : Int32) (r : Int32) (I : Nat → Nat → Int32) (J : Nat → Nat → Int64) : Prop := pm_T (pm_Ev d) 16 Q (103, [(0, .ref 3), (1, .ref a1), (3, .int x3), (4, .int x4)], [.int r], pm_hp L fz t I J, 0, 0)
def K_X2_workOut_103 (d : Nat) (fz t : Bool) (Q : pm_R → pm_H → Prop) (a1 : Nat) (x3 : Int32) (x4 : Int32) : pm_R → pm_H → Prop := pm_K d 16 Q 103 [(0, .ref 3), (1, .ref a1), (3, .int x3), (4, .int x4)] [] 118 0 fz 0 0
set_option maxRecDepth 100000 in
theorem b_X2_workOut_0 {d L : Nat} {fz t : Bool} {Q : pm_R → pm_H → Prop} {a1 : Nat} {x2 : Int32} {I : Nat → Nat → Int32} {J : Nat → Nat → Int64} (ha1 : a1 = 55 ∨ a1 = 70)
    (h : pm_Ev d 6 [.ref (a1 + 9), .int (nI 4)] (pm_hp L fz t (pm_u (pm_u (pm_u (pm_u I 6 0 (x2 &&& (nI 1))) 6 2 ((x2 >>> ((nI 1) &&& 31)) &&& (nI 1))) 6 1 (x2 >>> ((nI 2) &&& 31))) 6 4 (nI 0)) J) (K_X2_workOut_44 d fz t Q a1)) :
    t_X2_workOut_0 d L fz t Q a1 x2 I J := by
  rcases ha1 with rfl | rfl <;> exact pm_go d [(44, [0, 1]), (58, [1]), (75, [0, 1, 3, 4]), (103, [0, 1, 3, 4])] 400 ⟨(vp_in_nI (by decide : 0 < 6) (by decide) : vp_in (nI 0) 6), ⟨(vp_in_nI (by decide : 2 < 6) (by decide) : vp_in (nI 2) 6), ⟨(vp_in_nI (by decide : 1 < 6) (by decide) : vp_in (nI 1) 6), ⟨(vp_in_nI (by decide : 4 < 6) (by decide) : vp_in (nI 4) 6), h⟩⟩⟩⟩
theorem e_X2_workOut {d L : Nat} {fz t : Bool} {Q : pm_R → pm_H → Prop} {a1 : Nat} {x2 : Int32} {I : Nat → Nat → Int32} {J : Nat → Nat → Int64} (ha1 : a1 = 55 ∨ a1 = 70)
    (h : pm_Ev d 6 [.ref (a1 + 9), .int (nI 4)] (pm_hp L fz t (pm_u (pm_u (pm_u (pm_u I 6 0 (x2 &&& (nI 1))) 6 2 ((x2 >>> ((nI 1) &&& 31)) &&& (nI 1))) 6 1 (x2 >>> ((nI 2) &&& 31))) 6 4 (nI 0)) J) (K_X2_workOut_44 d fz t Q a1)) :
    pm_Ev (d + 1) 16 [.ref 3, .ref a1, .int x2] (pm_hp L fz t I J) Q := pm_Ev_in rfl (b_X2_workOut_0 ha1 h)
set_option maxRecDepth 100000 in
theorem b_X2_workOut_44 {d L : Nat} {fz t : Bool} {Q : pm_R → pm_H → Prop} {a1 : Nat} {r : Int32} {I : Nat → Nat → Int32} {J : Nat → Nat → Int64} (ha1 : a1 = 55 ∨ a1 = 70)
    (h : ((¬ r = (nI 0) → t_X2_workOut_75 d L fz t Q a1 (nI 0) (nI 0) I J) ∧ (r = (nI 0) → pm_Ev d 9 [.ref (a1 + 9), .ref 6] (pm_hp L fz t I J) (K_X2_workOut_58 d fz t Q a1)))) :
    t_X2_workOut_44 d L fz t Q a1 r I J := by
  rcases ha1 with rfl | rfl <;> exact pm_go d [(44, [0, 1]), (58, [1]), (75, [0, 1, 3, 4]), (103, [0, 1, 3, 4])] 400 ⟨fun q0 => ((h).1 q0), fun q0 => ((h).2 q0)⟩
theorem kb_X2_workOut_44 {d L : Nat} {fz t : Bool} {Q : pm_R → pm_H → Prop} {a1 : Nat} {r : Int32} {fz1 : Bool} {I : Nat → Nat → Int32} {J : Nat → Nat → Int64} (ha1 : a1 = 55 ∨ a1 = 70)
    (h : ((¬ r = (nI 0) → t_X2_workOut_75 d L fz t Q a1 (nI 0) (nI 0) I J) ∧ (r = (nI 0) → pm_Ev d 9 [.ref (a1 + 9), .ref 6] (pm_hp L fz t I J) (K_X2_workOut_58 d fz t Q a1)))) :
    K_X2_workOut_44 d fz t Q a1 (.inl (some (.int r))) (pm_hp L fz1 t I J) := b_X2_workOut_44 ha1 h
set_option maxRecDepth 100000 in
theorem b_X2_workOut_75 {d L : Nat} {fz t : Bool} {Q : pm_R → pm_H → Prop} {a1 : Nat} {x3 : Int32} {x4 : Int32} {I : Nat → Nat → Int32} {J : Nat → Nat → Int64} (ha1 : a1 = 55 ∨ a1 = 70)
    (h : (((I a1 11) ≤ x4 → Q (.inl (some (.int x3))) (pm_hp L fz t I J)) ∧ (¬ (I a1 11) ≤ x4 → pm_Ev d 9 [.ref (a1 + 9), .ref 6] (pm_hp L fz t (pm_u I 6 4 x4) J) (K_X2_workOut_103 d fz t Q a1 x3 x4)))) :
    t_X2_workOut_75 d L fz t Q a1 x3 x4 I J := by
  rcases ha1 with rfl | rfl <;> exact pm_go d [(44, [0, 1]), (58, [1]), (75, [0, 1, 3, 4]), (103, [0, 1, 3, 4])] 400 ⟨fun q0 => ((h).1 q0), fun q0 => ⟨(vp_in_nI (by decide : 4 < 6) (by decide) : vp_in (nI 4) 6), ((h).2 q0)⟩⟩
set_option maxRecDepth 100000 in
theorem b_X2_workOut_58 {d L : Nat} {fz t : Bool} {Q : pm_R → pm_H → Prop} {a1 : Nat} {r : Int32} {I : Nat → Nat → Int32} {J : Nat → Nat → Int64} (ha1 : a1 = 55 ∨ a1 = 70)
    (h : ((r = (nI 0) → Q (.inl (some (.int (nI 0)))) (pm_hp L fz t I J)) ∧ (¬ r = (nI 0) → Q (.inl (some (.int (I a1 12)))) (pm_hp L fz t I J)))) :
    t_X2_workOut_58 d L fz t Q a1 r I J := by
  rcases ha1 with rfl | rfl <;> exact pm_go d [(44, [0, 1]), (58, [1]), (75, [0, 1, 3, 4]), (103, [0, 1, 3, 4])] 400 ⟨fun q0 => ((h).1 q0), fun q0 => ((h).2 q0)⟩
theorem kb_X2_workOut_58 {d L : Nat} {fz t : Bool} {Q : pm_R → pm_H → Prop} {a1 : Nat} {r : Int32} {fz1 : Bool} {I : Nat → Nat → Int32} {J : Nat → Nat → Int64} (ha1 : a1 = 55 ∨ a1 = 70)
    (h : ((r = (nI 0) → Q (.inl (some (.int (nI 0)))) (pm_hp L fz t I J)) ∧ (¬ r = (nI 0) → Q (.inl (some (.int (I a1 12)))) (pm_hp L fz t I J)))) :
    K_X2_workOut_58 d fz t Q a1 (.inl (some (.int r))) (pm_hp L fz1 t I J) := b_X2_workOut_58 ha1 h
set_option maxRecDepth 100000 in
theorem b_X2_workOut_103 {d L : Nat} {fz t : Bool} {Q : pm_R → pm_H → Prop} {a1 : Nat} {x3 : Int32} {x4 : Int32} {r : Int32} {I : Nat → Nat → Int32} {J : Nat → Nat → Int64} (ha1 : a1 = 55 ∨ a1 = 70)
    (h : ((r = (nI 0) → t_X2_workOut_75 d L fz t Q a1 x3 (x4 + (nI 1)) I J) ∧ (¬ r = (nI 0) → t_X2_workOut_75 d L fz t Q a1 (x3 ||| ((nI 1) <<< (x4 &&& 31))) (x4 + (nI 1)) I J))) :
    t_X2_workOut_103 d L fz t Q a1 x3 x4 r I J := by
  rcases ha1 with rfl | rfl <;> exact pm_go d [(44, [0, 1]), (58, [1]), (75, [0, 1, 3, 4]), (103, [0, 1, 3, 4])] 400 ⟨fun q0 => ((h).1 q0), fun q0 => ((h).2 q0)⟩
theorem kb_X2_workOut_103 {d L : Nat} {fz t : Bool} {Q : pm_R → pm_H → Prop} {a1 : Nat} {x3 : Int32} {x4 : Int32} {r : Int32} {fz1 : Bool} {I : Nat → Nat → Int32} {J : Nat → Nat → Int64} (ha1 : a1 = 55 ∨ a1 = 70)
    (h : ((r = (nI 0) → t_X2_workOut_75 d L fz t Q a1 x3 (x4 + (nI 1)) I J) ∧ (¬ r = (nI 0) → t_X2_workOut_75 d L fz t Q a1 (x3 ||| ((nI 1) <<< (x4 &&& 31))) (x4 + (nI 1)) I J))) :
    K_X2_workOut_103 d fz t Q a1 x3 x4 (.inl (some (.int r))) (pm_hp L fz1 t I J) := b_X2_workOut_103 ha1 h
def t_X2_keepAside_0 (d L : Nat) (fz t : Bool) (Q : pm_R → pm_H → Prop) (I : Nat → Nat → Int32) (J : Nat → Nat → Int64) : Prop := pm_T (pm_Ev d) 17 Q (0, [(0, .ref 3)], [], pm_hp L fz t I J, 0, 0)
set_option maxRecDepth 100000 in
theorem b_X2_keepAside_0 {d L : Nat} {fz t : Bool} {Q : pm_R → pm_H → Prop} {I : Nat → Nat → Int32} {J : Nat → Nat → Int64}
    (h : Q (.inl none) (pm_hp L fz t (pm_ur I 5 (va_cpy (I 4) (I 5) 0 0 12)) J)) :
    t_X2_keepAside_0 d L fz t Q I J := by
  exact pm_go d [] 400 ⟨⟨by decide, by decide, by decide, (by decide : 0 + 12 ≤ 12), (by decide : 0 + 12 ≤ 12)⟩, h⟩
theorem e_X2_keepAside {d L : Nat} {fz t : Bool} {Q : pm_R → pm_H → Prop} {I : Nat → Nat → Int32} {J : Nat → Nat → Int64}
    (h : Q (.inl none) (pm_hp L fz t (pm_ur I 5 (va_cpy (I 4) (I 5) 0 0 12)) J)) :
    pm_Ev (d + 1) 17 [.ref 3] (pm_hp L fz t I J) Q := pm_Ev_in rfl (b_X2_keepAside_0 h)
def t_X2_unlikeAside_0 (d L : Nat) (fz t : Bool) (Q : pm_R → pm_H → Prop) (I : Nat → Nat → Int32) (J : Nat → Nat → Int64) : Prop := pm_T (pm_Ev d) 18 Q (0, [(0, .ref 3)], [], pm_hp L fz t I J, 0, 0)
def t_X2_unlikeAside_4 (d L : Nat) (fz t : Bool) (Q : pm_R → pm_H → Prop) (x1 : Int32) (x2 : Int32) (I : Nat → Nat → Int32) (J : Nat → Nat → Int64) : Prop := pm_T (pm_Ev d) 18 Q (4, [(0, .ref 3), (1, .int x1), (2, .int x2)], [], pm_hp L fz t I J, 0, 0)
set_option maxRecDepth 100000 in
theorem b_X2_unlikeAside_0 {d L : Nat} {fz t : Bool} {Q : pm_R → pm_H → Prop} {I : Nat → Nat → Int32} {J : Nat → Nat → Int64}
    (h : t_X2_unlikeAside_4 d L fz t Q (nI 0) (nI 0) I J) :
    t_X2_unlikeAside_0 d L fz t Q I J := by
  exact pm_go d [(4, [0, 1, 2])] 400 h
theorem e_X2_unlikeAside {d L : Nat} {fz t : Bool} {Q : pm_R → pm_H → Prop} {I : Nat → Nat → Int32} {J : Nat → Nat → Int64}
    (h : t_X2_unlikeAside_4 d L fz t Q (nI 0) (nI 0) I J) :
    pm_Ev (d + 1) 18 [.ref 3] (pm_hp L fz t I J) Q := pm_Ev_in rfl (b_X2_unlikeAside_0 h)
set_option maxRecDepth 100000 in
theorem b_X2_unlikeAside_4 {d L : Nat} {fz t : Bool} {Q : pm_R → pm_H → Prop} {x1 : Int32} {x2 : Int32} {I : Nat → Nat → Int32} {J : Nat → Nat → Int64}
    (h : (((I 3 1) ≤ x2 → Q (.inl (some (.int x1))) (pm_hp L fz t I J)) ∧ (¬ (I 3 1) ≤ x2 → (vp_in x2 12 ∧ (vp_in x2 12 ∧ t_X2_unlikeAside_4 d L fz t Q (x1 ||| ((I 4 (x2).toNatClampNeg) ^^^ (I 5 (x2).toNatClampNeg))) (x2 + (nI 1)) I J))))) :
    t_X2_unlikeAside_4 d L fz t Q x1 x2 I J := by
  exact pm_go d [(4, [0, 1, 2])] 400 ⟨fun q0 => ((h).1 q0), fun q0 => ⟨(((h).2 q0)).1, ⟨((((h).2 q0)).2).1, ((((h).2 q0)).2).2⟩⟩⟩
def t_X2_isAsMovedBy_0 (d L : Nat) (fz t : Bool) (Q : pm_R → pm_H → Prop) (x1 : Int32) (I : Nat → Nat → Int32) (J : Nat → Nat → Int64) : Prop := pm_T (pm_Ev d) 19 Q (0, [(0, .ref 3), (1, .int x1)], [], pm_hp L fz t I J, 0, 0)
def t_X2_isAsMovedBy_2 (d L : Nat) (fz t : Bool) (Q : pm_R → pm_H → Prop) (x1 : Int32) (x2 : Int32) (I : Nat → Nat → Int32) (J : Nat → Nat → Int64) : Prop := pm_T (pm_Ev d) 19 Q (2, [(0, .ref 3), (1, .int x1), (2, .int x2)], [], pm_hp L fz t I J, 0, 0)
set_option maxRecDepth 100000 in
theorem b_X2_isAsMovedBy_0 {d L : Nat} {fz t : Bool} {Q : pm_R → pm_H → Prop} {x1 : Int32} {I : Nat → Nat → Int32} {J : Nat → Nat → Int64}
    (h : t_X2_isAsMovedBy_2 d L fz t Q x1 (nI 0) I J) :
    t_X2_isAsMovedBy_0 d L fz t Q x1 I J := by
  exact pm_go d [(2, [0, 1, 2])] 400 h
theorem e_X2_isAsMovedBy {d L : Nat} {fz t : Bool} {Q : pm_R → pm_H → Prop} {x1 : Int32} {I : Nat → Nat → Int32} {J : Nat → Nat → Int64}
    (h : t_X2_isAsMovedBy_2 d L fz t Q x1 (nI 0) I J) :
    pm_Ev (d + 1) 19 [.ref 3, .int x1] (pm_hp L fz t I J) Q := pm_Ev_in rfl (b_X2_isAsMovedBy_0 h)
set_option maxRecDepth 100000 in
theorem b_X2_isAsMovedBy_2 {d L : Nat} {fz t : Bool} {Q : pm_R → pm_H → Prop} {x1 : Int32} {x2 : Int32} {I : Nat → Nat → Int32} {J : Nat → Nat → Int64}
    (h : (((I 3 1) ≤ (x2 + x1) → Q (.inl (some (.int (nI 1)))) (pm_hp L fz t I J)) ∧ (¬ (I 3 1) ≤ (x2 + x1) → (vp_in x2 12 ∧ (vp_in (x2 + x1) 12 ∧ (((I 4 (x2).toNatClampNeg) = (I 4 ((x2 + x1)).toNatClampNeg) → t_X2_isAsMovedBy_2 d L fz t Q x1 (x2 + (nI 1)) I J) ∧ (¬ (I 4 (x2).toNatClampNeg) = (I 4 ((x2 + x1)).toNatClampNeg) → Q (.inl (some (.int (nI 0)))) (pm_hp L fz t I J)))))))) :
    t_X2_isAsMovedBy_2 d L fz t Q x1 x2 I J := by
  exact pm_go d [(2, [0, 1, 2])] 400 ⟨fun q0 => ⟨Or.inr rfl, ((h).1 q0)⟩, fun q0 => ⟨(((h).2 q0)).1, ⟨((((h).2 q0)).2).1, ⟨fun q1 => ((((((h).2 q0)).2).2).1 q1), fun q1 => ⟨Or.inl rfl, ((((((h).2 q0)).2).2).2 q1)⟩⟩⟩⟩⟩
def t_X2_floatOf_0 (d L : Nat) (fz t : Bool) (Q : pm_R → pm_H → Prop) (x1 : Int32) (I : Nat → Nat → Int32) (J : Nat → Nat → Int64) : Prop := pm_T (pm_Ev d) 20 Q (0, [(0, .ref 3), (1, .int x1)], [], pm_hp L fz t I J, 0, 0)
def t_X2_floatOf_7 (d L : Nat) (fz t : Bool) (Q : pm_R → pm_H → Prop) (x1 : Int32) (x2 : Int32) (x3 : Int32) (x4 : Int32) (I : Nat → Nat → Int32) (J : Nat → Nat → Int64) : Prop := pm_T (pm_Ev d) 20 Q (7, [(0, .ref 3), (1, .int x1), (2, .int x2), (3, .int x3), (4, .int x4)], [], pm_hp L fz t I J, 0, 0)
set_option maxRecDepth 100000 in
theorem b_X2_floatOf_0 {d L : Nat} {fz t : Bool} {Q : pm_R → pm_H → Prop} {x1 : Int32} {I : Nat → Nat → Int32} {J : Nat → Nat → Int64}
    (h : t_X2_floatOf_7 d L fz t Q x1 (nI 0) (nI 0) (nI 0) I J) :
    t_X2_floatOf_0 d L fz t Q x1 I J := by
  exact pm_go d [(7, [0, 1, 2, 3, 4])] 400 h
theorem e_X2_floatOf {d L : Nat} {fz t : Bool} {Q : pm_R → pm_H → Prop} {x1 : Int32} {I : Nat → Nat → Int32} {J : Nat → Nat → Int64}
    (h : t_X2_floatOf_7 d L fz t Q x1 (nI 0) (nI 0) (nI 0) I J) :
    pm_Ev (d + 1) 20 [.ref 3, .int x1] (pm_hp L fz t I J) Q := pm_Ev_in rfl (b_X2_floatOf_0 h)
set_option maxRecDepth 100000 in
theorem b_X2_floatOf_7 {d L : Nat} {fz t : Bool} {Q : pm_R → pm_H → Prop} {x1 : Int32} {x2 : Int32} {x3 : Int32} {x4 : Int32} {I : Nat → Nat → Int32} {J : Nat → Nat → Int64}
    (h : (((I 3 1) ≤ x4 → Q (.inl (some (.int x2))) (pm_hp L fz t I J)) ∧ (¬ (I 3 1) ≤ x4 → ((x4 ≤ (nI 0) → t_X2_floatOf_7 d L fz t Q x1 (if x2 < (nI 1) then (nI 1) else x2) (nI 1) (x4 + (nI 1)) I J) ∧ (¬ x4 ≤ (nI 0) → (vp_in x4 12 ∧ (vp_in (x4 - (nI 1)) 12 ∧ ((¬ (((I 4 (x4).toNatClampNeg) >>> (x1 &&& 31)) &&& (nI 1)) = (((I 4 ((x4 - (nI 1))).toNatClampNeg) >>> (x1 &&& 31)) &&& (nI 1)) → t_X2_floatOf_7 d L fz t Q x1 (if x2 < (nI 1) then (nI 1) else x2) (nI 1) (x4 + (nI 1)) I J) ∧ ((((I 4 (x4).toNatClampNeg) >>> (x1 &&& 31)) &&& (nI 1)) = (((I 4 ((x4 - (nI 1))).toNatClampNeg) >>> (x1 &&& 31)) &&& (nI 1)) → t_X2_floatOf_7 d L fz t Q x1 (if x2 < (x3 + (nI 1)) then (x3 + (nI 1)) else x2) (x3 + (nI 1)) (x4 + (nI 1)) I J))))))))) :
    t_X2_floatOf_7 d L fz t Q x1 x2 x3 x4 I J := by
  exact pm_go d [(7, [0, 1, 2, 3, 4])] 400 ⟨fun q0 => ((h).1 q0), fun q0 => ⟨fun q1 => ⟨fun _ => ((((h).2 q0)).1 q1), fun q => absurd (by decide) q⟩, fun q1 => ⟨(((((h).2 q0)).2 q1)).1, ⟨((((((h).2 q0)).2 q1)).2).1, ⟨fun q2 => ⟨fun _ => ((((((((h).2 q0)).2 q1)).2).2).1 q2), fun q => absurd (by decide) q⟩, fun q2 => ⟨fun q => absurd q (by decide), fun _ => ((((((((h).2 q0)).2 q1)).2).2).2 q2)⟩⟩⟩⟩⟩⟩
def t_X2_startsAt_0 (d L : Nat) (fz t : Bool) (Q : pm_R → pm_H → Prop) (a1 : Nat) (x2 : Int32) (x3 : Int32) (I : Nat → Nat → Int32) (J : Nat → Nat → Int64) : Prop := pm_T (pm_Ev d) 21 Q (0, [(0, .ref 3), (1, .ref a1), (2, .int x2), (3, .int x3)], [], pm_hp L fz t I J, 0, 0)
def t_X2_startsAt_54 (d L : Nat) (fz t : Bool) (Q : pm_R → pm_H → Prop) (a1 : Nat) (x2 : Int32) (x3 : Int32) (x4 : Int32) (x5 : Int32) (x7 : Int32) (x8 : Int32) (I : Nat → Nat → Int32) (J : Nat → Nat → Int64) : Prop := pm_T (pm_Ev d) 21 Q (54, [(0, .ref 3), (1, .ref a1), (2, .int x2), (3, .int x3), (4, .int x4), (5, .int x5), (7, .int x7), (8, .int x8)], [], pm_hp L fz t I J, 0, 0)
def t_X2_startsAt_82 (d L : Nat) (fz t : Bool) (Q : pm_R → pm_H → Prop) (a1 : Nat) (x2 : Int32) (x3 : Int32) (x4 : Int32) (x5 : Int32) (x7 : Int32) (x8 : Int32) (x9 : Int32) (x10 : Int32) (I : Nat → Nat → Int32) (J : Nat → Nat → Int64) : Prop := pm_T (pm_Ev d) 21 Q (82, [(0, .ref 3), (1, .ref a1), (2, .int x2), (3, .int x3), (4, .int x4), (5, .int x5), (7, .int x7), (8, .int x8), (9, .int x9), (10, .int x10)], [], pm_hp L fz t I J, 0, 0)
set_option maxRecDepth 100000 in
theorem b_X2_startsAt_0 {d L : Nat} {fz t : Bool} {Q : pm_R → pm_H → Prop} {a1 : Nat} {x2 : Int32} {x3 : Int32} {I : Nat → Nat → Int32} {J : Nat → Nat → Int64} (ha1 : a1 = 55 ∨ a1 = 70)
    (h : (vp_in x2 5 ∧ (vp_in x2 5 ∧ ((((I a1 11) - (I (a1 + 6) (x2).toNatClampNeg)) < (nI 0) → Q (.inl (some (.int (nI 0)))) (pm_hp L fz t I J)) ∧ (¬ ((I a1 11) - (I (a1 + 6) (x2).toNatClampNeg)) < (nI 0) → (((x3 + (I (a1 + 7) (x2).toNatClampNeg)) ≤ (I 3 1) → t_X2_startsAt_54 d L fz t Q a1 x2 x3 (I (a1 + 6) (x2).toNatClampNeg) (I (a1 + 7) (x2).toNatClampNeg) (((nI 2) <<< (((I a1 11) - (I (a1 + 6) (x2).toNatClampNeg)) &&& 31)) - (nI 1)) (nI 0) I J) ∧ (¬ (x3 + (I (a1 + 7) (x2).toNatClampNeg)) ≤ (I 3 1) → Q (.inl (some (.int (nI 0)))) (pm_hp L fz t I J)))))))) :
    t_X2_startsAt_0 d L fz t Q a1 x2 x3 I J := by
  rcases ha1 with rfl | rfl <;> exact pm_go d [(54, [0, 1, 2, 3, 4, 5, 7, 8]), (82, [0, 1, 2, 3, 4, 5, 7, 8, 9, 10])] 400 ⟨(h).1, ⟨((h).2).1, ⟨fun q0 => ((((h).2).2).1 q0), fun q0 => ⟨fun q1 => ((((((h).2).2).2 q0)).1 q1), fun q1 => ((((((h).2).2).2 q0)).2 q1)⟩⟩⟩⟩
theorem e_X2_startsAt {d L : Nat} {fz t : Bool} {Q : pm_R → pm_H → Prop} {a1 : Nat} {x2 : Int32} {x3 : Int32} {I : Nat → Nat → Int32} {J : Nat → Nat → Int64} (ha1 : a1 = 55 ∨ a1 = 70)
    (h : (vp_in x2 5 ∧ (vp_in x2 5 ∧ ((((I a1 11) - (I (a1 + 6) (x2).toNatClampNeg)) < (nI 0) → Q (.inl (some (.int (nI 0)))) (pm_hp L fz t I J)) ∧ (¬ ((I a1 11) - (I (a1 + 6) (x2).toNatClampNeg)) < (nI 0) → (((x3 + (I (a1 + 7) (x2).toNatClampNeg)) ≤ (I 3 1) → t_X2_startsAt_54 d L fz t Q a1 x2 x3 (I (a1 + 6) (x2).toNatClampNeg) (I (a1 + 7) (x2).toNatClampNeg) (((nI 2) <<< (((I a1 11) - (I (a1 + 6) (x2).toNatClampNeg)) &&& 31)) - (nI 1)) (nI 0) I J) ∧ (¬ (x3 + (I (a1 + 7) (x2).toNatClampNeg)) ≤ (I 3 1) → Q (.inl (some (.int (nI 0)))) (pm_hp L fz t I J)))))))) :
    pm_Ev (d + 1) 21 [.ref 3, .ref a1, .int x2, .int x3] (pm_hp L fz t I J) Q := pm_Ev_in rfl (b_X2_startsAt_0 ha1 h)
set_option maxRecDepth 100000 in
theorem b_X2_startsAt_54 {d L : Nat} {fz t : Bool} {Q : pm_R → pm_H → Prop} {a1 : Nat} {x2 : Int32} {x3 : Int32} {x4 : Int32} {x5 : Int32} {x7 : Int32} {x8 : Int32} {I : Nat → Nat → Int32} {J : Nat → Nat → Int64} (ha1 : a1 = 55 ∨ a1 = 70)
    (h : ((x5 ≤ x8 → Q (.inl (some (.int x7))) (pm_hp L fz t I J)) ∧ (¬ x5 ≤ x8 → ((x7 = (nI 0) → Q (.inl (some (.int x7))) (pm_hp L fz t I J)) ∧ (¬ x7 = (nI 0) → (vp_in ((x2 * (nI 3)) + x8) 15 ∧ t_X2_startsAt_82 d L fz t Q a1 x2 x3 x4 x5 x7 x8 (I (a1 + 8) (((x2 * (nI 3)) + x8)).toNatClampNeg) (nI 0) I J)))))) :
    t_X2_startsAt_54 d L fz t Q a1 x2 x3 x4 x5 x7 x8 I J := by
  rcases ha1 with rfl | rfl <;> exact pm_go d [(54, [0, 1, 2, 3, 4, 5, 7, 8]), (82, [0, 1, 2, 3, 4, 5, 7, 8, 9, 10])] 400 ⟨fun q0 => ((h).1 q0), fun q0 => ⟨fun q1 => ((((h).2 q0)).1 q1), fun q1 => ⟨(((((h).2 q0)).2 q1)).1, (((((h).2 q0)).2 q1)).2⟩⟩⟩
set_option maxRecDepth 100000 in
theorem b_X2_startsAt_82 {d L : Nat} {fz t : Bool} {Q : pm_R → pm_H → Prop} {a1 : Nat} {x2 : Int32} {x3 : Int32} {x4 : Int32} {x5 : Int32} {x7 : Int32} {x8 : Int32} {x9 : Int32} {x10 : Int32} {I : Nat → Nat → Int32} {J : Nat → Nat → Int64} (ha1 : a1 = 55 ∨ a1 = 70)
    (h : ((x4 ≤ x10 → t_X2_startsAt_54 d L fz t Q a1 x2 x3 x4 x5 x7 (x8 + (nI 1)) I J) ∧ (¬ x4 ≤ x10 → (vp_in (x3 + x8) 12 ∧ ((¬ ((x9 >>> (x10 &&& 31)) &&& (nI 1)) = (nI 1) → t_X2_startsAt_82 d L fz t Q a1 x2 x3 x4 x5 (x7 &&& (((I 4 ((x3 + x8)).toNatClampNeg) >>> (x10 &&& 31)) ^^^ (-1 : Int32))) x8 x9 (x10 + (nI 1)) I J) ∧ (((x9 >>> (x10 &&& 31)) &&& (nI 1)) = (nI 1) → t_X2_startsAt_82 d L fz t Q a1 x2 x3 x4 x5 (x7 &&& ((I 4 ((x3 + x8)).toNatClampNeg) >>> (x10 &&& 31))) x8 x9 (x10 + (nI 1)) I J)))))) :
    t_X2_startsAt_82 d L fz t Q a1 x2 x3 x4 x5 x7 x8 x9 x10 I J := by
  rcases ha1 with rfl | rfl <;> exact pm_go d [(54, [0, 1, 2, 3, 4, 5, 7, 8]), (82, [0, 1, 2, 3, 4, 5, 7, 8, 9, 10])] 400 ⟨fun q0 => ((h).1 q0), fun q0 => ⟨(((h).2 q0)).1, ⟨fun q1 => (((((h).2 q0)).2).1 q1), fun q1 => (((((h).2 q0)).2).2 q1)⟩⟩⟩
def t_X2_isAnywhere_0 (d L : Nat) (fz t : Bool) (Q : pm_R → pm_H → Prop) (a1 : Nat) (x2 : Int32) (I : Nat → Nat → Int32) (J : Nat → Nat → Int64) : Prop := pm_T (pm_Ev d) 22 Q (0, [(0, .ref 3), (1, .ref a1), (2, .int x2)], [], pm_hp L fz t I J, 0, 0)
def t_X2_isAnywhere_2 (d L : Nat) (fz t : Bool) (Q : pm_R → pm_H → Prop) (a1 : Nat) (x2 : Int32) (x3 : Int32) (I : Nat → Nat → Int32) (J : Nat → Nat → Int64) : Prop := pm_T (pm_Ev d) 22 Q (2, [(0, .ref 3), (1, .ref a1), (2, .int x2), (3, .int x3)], [], pm_hp L fz t I J, 0, 0)
def t_X2_isAnywhere_17 (d L : Nat) (fz t : Bool) (Q : pm_R → pm_H → Prop) (a1 : Nat) (x2 : Int32) (x3 : Int32) (r : Int32) (I : Nat → Nat → Int32) (J : Nat → Nat → Int64) : Prop := pm_T (pm_Ev d) 22 Q (17, [(0, .ref 3), (1, .ref a1), (2, .int x2), (3, .int x3)], [.int r], pm_hp L fz t I J, 0, 0)
def K_X2_isAnywhere_17 (d : Nat) (fz t : Bool) (Q : pm_R → pm_H → Prop) (a1 : Nat) (x2 : Int32) (x3 : Int32) : pm_R → pm_H → Prop := pm_K d 22 Q 17 [(0, .ref 3), (1, .ref a1), (2, .int x2), (3, .int x3)] [] 118 0 fz 0 0
set_option maxRecDepth 100000 in
theorem b_X2_isAnywhere_0 {d L : Nat} {fz t : Bool} {Q : pm_R → pm_H → Prop} {a1 : Nat} {x2 : Int32} {I : Nat → Nat → Int32} {J : Nat → Nat → Int64} (ha1 : a1 = 55 ∨ a1 = 70)
    (h : t_X2_isAnywhere_2 d L fz t Q a1 x2 (nI 0) I J) :
    t_X2_isAnywhere_0 d L fz t Q a1 x2 I J := by
  rcases ha1 with rfl | rfl <;> exact pm_go d [(2, [0, 1, 2, 3]), (17, [0, 1, 2, 3])] 400 h
theorem e_X2_isAnywhere {d L : Nat} {fz t : Bool} {Q : pm_R → pm_H → Prop} {a1 : Nat} {x2 : Int32} {I : Nat → Nat → Int32} {J : Nat → Nat → Int64} (ha1 : a1 = 55 ∨ a1 = 70)
    (h : t_X2_isAnywhere_2 d L fz t Q a1 x2 (nI 0) I J) :
    pm_Ev (d + 1) 22 [.ref 3, .ref a1, .int x2] (pm_hp L fz t I J) Q := pm_Ev_in rfl (b_X2_isAnywhere_0 ha1 h)
set_option maxRecDepth 100000 in
theorem b_X2_isAnywhere_2 {d L : Nat} {fz t : Bool} {Q : pm_R → pm_H → Prop} {a1 : Nat} {x2 : Int32} {x3 : Int32} {I : Nat → Nat → Int32} {J : Nat → Nat → Int64} (ha1 : a1 = 55 ∨ a1 = 70)
    (h : (((I 3 1) ≤ x3 → Q (.inl (some (.int (nI 0)))) (pm_hp L fz t I J)) ∧ (¬ (I 3 1) ≤ x3 → pm_Ev d 21 [.ref 3, .ref a1, .int x2, .int x3] (pm_hp L fz t I J) (K_X2_isAnywhere_17 d fz t Q a1 x2 x3)))) :
    t_X2_isAnywhere_2 d L fz t Q a1 x2 x3 I J := by
  rcases ha1 with rfl | rfl <;> exact pm_go d [(2, [0, 1, 2, 3]), (17, [0, 1, 2, 3])] 400 ⟨fun q0 => ⟨Or.inl rfl, ((h).1 q0)⟩, fun q0 => ((h).2 q0)⟩
set_option maxRecDepth 100000 in
theorem b_X2_isAnywhere_17 {d L : Nat} {fz t : Bool} {Q : pm_R → pm_H → Prop} {a1 : Nat} {x2 : Int32} {x3 : Int32} {r : Int32} {I : Nat → Nat → Int32} {J : Nat → Nat → Int64} (ha1 : a1 = 55 ∨ a1 = 70)
    (h : ((r = (nI 0) → t_X2_isAnywhere_2 d L fz t Q a1 x2 (x3 + (nI 1)) I J) ∧ (¬ r = (nI 0) → Q (.inl (some (.int (nI 1)))) (pm_hp L fz t I J)))) :
    t_X2_isAnywhere_17 d L fz t Q a1 x2 x3 r I J := by
  rcases ha1 with rfl | rfl <;> exact pm_go d [(2, [0, 1, 2, 3]), (17, [0, 1, 2, 3])] 400 ⟨fun q0 => ((h).1 q0), fun q0 => ⟨Or.inr rfl, ((h).2 q0)⟩⟩
theorem kb_X2_isAnywhere_17 {d L : Nat} {fz t : Bool} {Q : pm_R → pm_H → Prop} {a1 : Nat} {x2 : Int32} {x3 : Int32} {r : Int32} {fz1 : Bool} {I : Nat → Nat → Int32} {J : Nat → Nat → Int64} (ha1 : a1 = 55 ∨ a1 = 70)
    (h : ((r = (nI 0) → t_X2_isAnywhere_2 d L fz t Q a1 x2 (x3 + (nI 1)) I J) ∧ (¬ r = (nI 0) → Q (.inl (some (.int (nI 1)))) (pm_hp L fz t I J)))) :
    K_X2_isAnywhere_17 d fz t Q a1 x2 x3 (.inl (some (.int r))) (pm_hp L fz1 t I J) := b_X2_isAnywhere_17 ha1 h
def t_X2_standing_0 (d L : Nat) (fz t : Bool) (Q : pm_R → pm_H → Prop) (a1 : Nat) (I : Nat → Nat → Int32) (J : Nat → Nat → Int64) : Prop := pm_T (pm_Ev d) 23 Q (0, [(0, .ref 3), (1, .ref a1)], [], pm_hp L fz t I J, 0, 0)
def t_X2_standing_4 (d L : Nat) (fz t : Bool) (Q : pm_R → pm_H → Prop) (a1 : Nat) (x2 : Int32) (x3 : Int32) (I : Nat → Nat → Int32) (J : Nat → Nat → Int64) : Prop := pm_T (pm_Ev d) 23 Q (4, [(0, .ref 3), (1, .ref a1), (2, .int x2), (3, .int x3)], [], pm_hp L fz t I J, 0, 0)
def t_X2_standing_18 (d L : Nat) (fz t : Bool) (Q : pm_R → pm_H → Prop) (a1 : Nat) (x2 : Int32) (x3 : Int32) (r : Int32) (I : Nat → Nat → Int32) (J : Nat → Nat → Int64) : Prop := pm_T (pm_Ev d) 23 Q (18, [(0, .ref 3), (1, .ref a1), (2, .int x2), (3, .int x3)], [.int r], pm_hp L fz t I J, 0, 0)
def K_X2_standing_18 (d : Nat) (fz t : Bool) (Q : pm_R → pm_H → Prop) (a1 : Nat) (x2 : Int32) (x3 : Int32) : pm_R → pm_H → Prop := pm_K d 23 Q 18 [(0, .ref 3), (1, .ref a1), (2, .int x2), (3, .int x3)] [] 118 0 fz 0 0
set_option maxRecDepth 100000 in
theorem b_X2_standing_0 {d L : Nat} {fz t : Bool} {Q : pm_R → pm_H → Prop} {a1 : Nat} {I : Nat → Nat → Int32} {J : Nat → Nat → Int64} (ha1 : a1 = 55 ∨ a1 = 70)
    (h : t_X2_standing_4 d L fz t Q a1 (nI 0) (nI 0) I J) :
    t_X2_standing_0 d L fz t Q a1 I J := by
  rcases ha1 with rfl | rfl <;> exact pm_go d [(4, [0, 1, 2, 3]), (18, [0, 1, 2, 3])] 400 h
theorem e_X2_standing {d L : Nat} {fz t : Bool} {Q : pm_R → pm_H → Prop} {a1 : Nat} {I : Nat → Nat → Int32} {J : Nat → Nat → Int64} (ha1 : a1 = 55 ∨ a1 = 70)
    (h : t_X2_standing_4 d L fz t Q a1 (nI 0) (nI 0) I J) :
    pm_Ev (d + 1) 23 [.ref 3, .ref a1] (pm_hp L fz t I J) Q := pm_Ev_in rfl (b_X2_standing_0 ha1 h)
set_option maxRecDepth 100000 in
theorem b_X2_standing_4 {d L : Nat} {fz t : Bool} {Q : pm_R → pm_H → Prop} {a1 : Nat} {x2 : Int32} {x3 : Int32} {I : Nat → Nat → Int32} {J : Nat → Nat → Int64} (ha1 : a1 = 55 ∨ a1 = 70)
    (h : (((I a1 15) ≤ x3 → Q (.inl (some (.int x2))) (pm_hp L fz t I J)) ∧ (¬ (I a1 15) ≤ x3 → pm_Ev d 22 [.ref 3, .ref a1, .int x3] (pm_hp L fz t I J) (K_X2_standing_18 d fz t Q a1 x2 x3)))) :
    t_X2_standing_4 d L fz t Q a1 x2 x3 I J := by
  rcases ha1 with rfl | rfl <;> exact pm_go d [(4, [0, 1, 2, 3]), (18, [0, 1, 2, 3])] 400 ⟨fun q0 => ((h).1 q0), fun q0 => ((h).2 q0)⟩
set_option maxRecDepth 100000 in
theorem b_X2_standing_18 {d L : Nat} {fz t : Bool} {Q : pm_R → pm_H → Prop} {a1 : Nat} {x2 : Int32} {x3 : Int32} {r : Int32} {I : Nat → Nat → Int32} {J : Nat → Nat → Int64} (ha1 : a1 = 55 ∨ a1 = 70)
    (h : ((r = (nI 0) → t_X2_standing_4 d L fz t Q a1 x2 (x3 + (nI 1)) I J) ∧ (¬ r = (nI 0) → t_X2_standing_4 d L fz t Q a1 (x2 ||| ((nI 1) <<< (x3 &&& 31))) (x3 + (nI 1)) I J))) :
    t_X2_standing_18 d L fz t Q a1 x2 x3 r I J := by
  rcases ha1 with rfl | rfl <;> exact pm_go d [(4, [0, 1, 2, 3]), (18, [0, 1, 2, 3])] 400 ⟨fun q0 => ((h).1 q0), fun q0 => ((h).2 q0)⟩
theorem kb_X2_standing_18 {d L : Nat} {fz t : Bool} {Q : pm_R → pm_H → Prop} {a1 : Nat} {x2 : Int32} {x3 : Int32} {r : Int32} {fz1 : Bool} {I : Nat → Nat → Int32} {J : Nat → Nat → Int64} (ha1 : a1 = 55 ∨ a1 = 70)
    (h : ((r = (nI 0) → t_X2_standing_4 d L fz t Q a1 x2 (x3 + (nI 1)) I J) ∧ (¬ r = (nI 0) → t_X2_standing_4 d L fz t Q a1 (x2 ||| ((nI 1) <<< (x3 &&& 31))) (x3 + (nI 1)) I J))) :
    K_X2_standing_18 d fz t Q a1 x2 x3 (.inl (some (.int r))) (pm_hp L fz1 t I J) := b_X2_standing_18 ha1 h
def t_X2_coatsFor_0 (d L : Nat) (fz t : Bool) (Q : pm_R → pm_H → Prop) (x1 : Int32) (I : Nat → Nat → Int32) (J : Nat → Nat → Int64) : Prop := pm_T (pm_Ev d) 24 Q (0, [(0, .ref 3), (1, .int x1)], [], pm_hp L fz t I J, 0, 0)
def t_X2_coatsFor_4 (d L : Nat) (fz t : Bool) (Q : pm_R → pm_H → Prop) (x1 : Int32) (x2 : Int32) (x3 : Int32) (I : Nat → Nat → Int32) (J : Nat → Nat → Int64) : Prop := pm_T (pm_Ev d) 24 Q (4, [(0, .ref 3), (1, .int x1), (2, .int x2), (3, .int x3)], [], pm_hp L fz t I J, 0, 0)
set_option maxRecDepth 100000 in
theorem b_X2_coatsFor_0 {d L : Nat} {fz t : Bool} {Q : pm_R → pm_H → Prop} {x1 : Int32} {I : Nat → Nat → Int32} {J : Nat → Nat → Int64}
    (h : t_X2_coatsFor_4 d L fz t Q x1 (nI 0) (nI 0) I J) :
    t_X2_coatsFor_0 d L fz t Q x1 I J := by
  exact pm_go d [(4, [0, 1, 2, 3])] 400 h
theorem e_X2_coatsFor {d L : Nat} {fz t : Bool} {Q : pm_R → pm_H → Prop} {x1 : Int32} {I : Nat → Nat → Int32} {J : Nat → Nat → Int64}
    (h : t_X2_coatsFor_4 d L fz t Q x1 (nI 0) (nI 0) I J) :
    pm_Ev (d + 1) 24 [.ref 3, .int x1] (pm_hp L fz t I J) Q := pm_Ev_in rfl (b_X2_coatsFor_0 h)
set_option maxRecDepth 100000 in
theorem b_X2_coatsFor_4 {d L : Nat} {fz t : Bool} {Q : pm_R → pm_H → Prop} {x1 : Int32} {x2 : Int32} {x3 : Int32} {I : Nat → Nat → Int32} {J : Nat → Nat → Int64}
    (h : (((I 3 1) ≤ x3 → Q (.inl (some (.int x2))) (pm_hp L fz t I J)) ∧ (¬ (I 3 1) ≤ x3 → (vp_in x3 12 ∧ ((¬ ((I 4 (x3).toNatClampNeg) &&& (x1 ^^^ (-1 : Int32))) = (nI 0) → t_X2_coatsFor_4 d L fz t Q x1 x2 (x3 + (nI 1)) I J) ∧ (((I 4 (x3).toNatClampNeg) &&& (x1 ^^^ (-1 : Int32))) = (nI 0) → t_X2_coatsFor_4 d L fz t Q x1 (x2 ||| ((nI 1) <<< (x3 &&& 31))) (x3 + (nI 1)) I J)))))) :
    t_X2_coatsFor_4 d L fz t Q x1 x2 x3 I J := by
  exact pm_go d [(4, [0, 1, 2, 3])] 400 ⟨fun q0 => ((h).1 q0), fun q0 => ⟨(((h).2 q0)).1, ⟨fun q1 => (((((h).2 q0)).2).1 q1), fun q1 => (((((h).2 q0)).2).2 q1)⟩⟩⟩
