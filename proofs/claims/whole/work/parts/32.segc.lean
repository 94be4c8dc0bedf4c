def t_X4_add_0 (d L : Nat) (fz t : Bool) (Q : pm_R → pm_H → Prop) (a0 : Nat) (x1 : Int32) (x2 : Int32) (x3 : Int32) (x4 : Int32) (I : Nat → Nat → Int32) (J : Nat → Nat → Int64) : Prop := pm_T (pm_Ev d) 53 Q (0, [(0, .ref a0), (1, .int x1), (2, .int x2), (3, .int x3), (4, .int x4)], [], pm_hp L fz t I J, 0, 0)
def t_X4_add_16 (d L : Nat) (fz t : Bool) (Q : pm_R → pm_H → Prop) (a0 : Nat) (x1 : Int32) (x2 : Int32) (x3 : Int32) (x4 : Int32) (x5 : Int32) (I : Nat → Nat → Int32) (J : Nat → Nat → Int64) : Prop := pm_T (pm_Ev d) 53 Q (16, [(0, .ref a0), (1, .int x1), (2, .int x2), (3, .int x3), (4, .int x4), (5, .int x5)], [], pm_hp L fz t I J, 0, 0)
set_option maxRecDepth 100000 in
theorem b_X4_add_0 {d L : Nat} {fz t : Bool} {Q : pm_R → pm_H → Prop} {a0 : Nat} {x1 : Int32} {x2 : Int32} {x3 : Int32} {x4 : Int32} {I : Nat → Nat → Int32} {J : Nat → Nat → Int64} (ha0 : a0 = 45 ∨ a0 = 50)
    (h : (((I a0 4) < (nI 8) → t_X4_add_16 d L fz t Q a0 x1 x2 x3 x4 (I a0 4) I J) ∧ (¬ (I a0 4) < (nI 8) → Q (.inl none) (pm_hp L fz t I J)))) :
    t_X4_add_0 d L fz t Q a0 x1 x2 x3 x4 I J := by
  rcases ha0 with rfl | rfl <;> exact pm_go d [(16, [0, 1, 2, 3, 4, 5])] 400 ⟨fun q0 => ((h).1 q0), fun q0 => ((h).2 q0)⟩
theorem e_X4_add {d L : Nat} {fz t : Bool} {Q : pm_R → pm_H → Prop} {a0 : Nat} {x1 : Int32} {x2 : Int32} {x3 : Int32} {x4 : Int32} {I : Nat → Nat → Int32} {J : Nat → Nat → Int64} (ha0 : a0 = 45 ∨ a0 = 50)
    (h : (((I a0 4) < (nI 8) → t_X4_add_16 d L fz t Q a0 x1 x2 x3 x4 (I a0 4) I J) ∧ (¬ (I a0 4) < (nI 8) → Q (.inl none) (pm_hp L fz t I J)))) :
    pm_Ev (d + 1) 53 [.ref a0, .int x1, .int x2, .int x3, .int x4] (pm_hp L fz t I J) Q := pm_Ev_in rfl (b_X4_add_0 ha0 h)
set_option maxRecDepth 100000 in
theorem b_X4_add_16 {d L : Nat} {fz t : Bool} {Q : pm_R → pm_H → Prop} {a0 : Nat} {x1 : Int32} {x2 : Int32} {x3 : Int32} {x4 : Int32} {x5 : Int32} {I : Nat → Nat → Int32} {J : Nat → Nat → Int64} (ha0 : a0 = 45 ∨ a0 = 50)
    (h : ((x5 ≤ (nI 0) → (vp_in x5 8 ∧ (vp_in x5 8 ∧ (vp_in x5 8 ∧ (vp_in x5 8 ∧ Q (.inl none) (pm_hp L fz t (pm_u (pm_u (pm_u (pm_u (pm_u I (a0 + 1) (x5).toNatClampNeg x1) (a0 + 2) (x5).toNatClampNeg x2) (a0 + 3) (x5).toNatClampNeg x3) (a0 + 4) (x5).toNatClampNeg (vp_nar .boolean x4)) a0 4 ((I a0 4) + (nI 1))) J)))))) ∧ (¬ x5 ≤ (nI 0) → (vp_in (x5 - (nI 1)) 8 ∧ (((I (a0 + 3) ((x5 - (nI 1))).toNatClampNeg) ≤ x3 → (vp_in x5 8 ∧ (vp_in x5 8 ∧ (vp_in x5 8 ∧ (vp_in x5 8 ∧ Q (.inl none) (pm_hp L fz t (pm_u (pm_u (pm_u (pm_u (pm_u I (a0 + 1) (x5).toNatClampNeg x1) (a0 + 2) (x5).toNatClampNeg x2) (a0 + 3) (x5).toNatClampNeg x3) (a0 + 4) (x5).toNatClampNeg (vp_nar .boolean x4)) a0 4 ((I a0 4) + (nI 1))) J)))))) ∧ (¬ (I (a0 + 3) ((x5 - (nI 1))).toNatClampNeg) ≤ x3 → (vp_in (x5 - (nI 1)) 8 ∧ (vp_in x5 8 ∧ (vp_in (x5 - (nI 1)) 8 ∧ (vp_in x5 8 ∧ (vp_in (x5 - (nI 1)) 8 ∧ (vp_in x5 8 ∧ (vp_in (x5 - (nI 1)) 8 ∧ (vp_in x5 8 ∧ t_X4_add_16 d L fz t Q a0 x1 x2 x3 x4 (x5 + (-1 : Int32)) (pm_u (pm_u (pm_u (pm_u I (a0 + 1) (x5).toNatClampNeg (I (a0 + 1) ((x5 - (nI 1))).toNatClampNeg)) (a0 + 2) (x5).toNatClampNeg (I (a0 + 2) ((x5 - (nI 1))).toNatClampNeg)) (a0 + 3) (x5).toNatClampNeg (I (a0 + 3) ((x5 - (nI 1))).toNatClampNeg)) (a0 + 4) (x5).toNatClampNeg (vp_nar .boolean (I (a0 + 4) ((x5 - (nI 1))).toNatClampNeg))) J)))))))))))))) :
    t_X4_add_16 d L fz t Q a0 x1 x2 x3 x4 x5 I J := by
  rcases ha0 with rfl | rfl <;> exact pm_go d [(16, [0, 1, 2, 3, 4, 5])] 400 ⟨fun q0 => ⟨(((h).1 q0)).1, ⟨((((h).1 q0)).2).1, ⟨(((((h).1 q0)).2).2).1, ⟨((((((h).1 q0)).2).2).2).1, ((((((h).1 q0)).2).2).2).2⟩⟩⟩⟩, fun q0 => ⟨(((h).2 q0)).1, ⟨fun q1 => ⟨((((((h).2 q0)).2).1 q1)).1, ⟨(((((((h).2 q0)).2).1 q1)).2).1, ⟨((((((((h).2 q0)).2).1 q1)).2).2).1, ⟨(((((((((h).2 q0)).2).1 q1)).2).2).2).1, (((((((((h).2 q0)).2).1 q1)).2).2).2).2⟩⟩⟩⟩, fun q1 => ⟨((((((h).2 q0)).2).2 q1)).1, ⟨(((((((h).2 q0)).2).2 q1)).2).1, ⟨((((((((h).2 q0)).2).2 q1)).2).2).1, ⟨(((((((((h).2 q0)).2).2 q1)).2).2).2).1, ⟨((((((((((h).2 q0)).2).2 q1)).2).2).2).2).1, ⟨(((((((((((h).2 q0)).2).2 q1)).2).2).2).2).2).1, ⟨((((((((((((h).2 q0)).2).2 q1)).2).2).2).2).2).2).1, ⟨(((((((((((((h).2 q0)).2).2 q1)).2).2).2).2).2).2).2).1, (((((((((((((h).2 q0)).2).2 q1)).2).2).2).2).2).2).2).2⟩⟩⟩⟩⟩⟩⟩⟩⟩⟩⟩
def t_X4_copy_0 (d L : Nat) (fz t : Bool) (Q : pm_R → pm_H → Prop) (a0 : Nat) (a1 : Nat) (I : Nat → Nat → Int32) (J : Nat → Nat → Int64) : Prop := pm_T (pm_Ev d) 54 Q (0, [(0, .ref a0), (1, .ref a1)], [], pm_hp L fz t I J, 0, 0)
def t_X4_copy_2 (d L : Nat) (fz t : Bool) (Q : pm_R → pm_H → Prop) (a0 : Nat) (a1 : Nat) (x2 : Int32) (I : Nat → Nat → Int32) (J : Nat → Nat → Int64) : Prop := pm_T (pm_Ev d) 54 Q (2, [(0, .ref a0), (1, .ref a1), (2, .int x2)], [], pm_hp L fz t I J, 0, 0)
set_option maxRecDepth 100000 in
theorem b_X4_copy_0 {d L : Nat} {fz t : Bool} {Q : pm_R → pm_H → Prop} {a0 : Nat} {a1 : Nat} {I : Nat → Nat → Int32} {J : Nat → Nat → Int64} (ha0 : a0 = 45 ∨ a0 = 50) (ha1 : a1 = 45 ∨ a1 = 50)
    (h : t_X4_copy_2 d L fz t Q a0 a1 (nI 0) I J) :
    t_X4_copy_0 d L fz t Q a0 a1 I J := by
  rcases ha0 with rfl | rfl <;> rcases ha1 with rfl | rfl <;> exact pm_go d [(2, [0, 1, 2])] 400 h
theorem e_X4_copy {d L : Nat} {fz t : Bool} {Q : pm_R → pm_H → Prop} {a0 : Nat} {a1 : Nat} {I : Nat → Nat → Int32} {J : Nat → Nat → Int64} (ha0 : a0 = 45 ∨ a0 = 50) (ha1 : a1 = 45 ∨ a1 = 50)
    (h : t_X4_copy_2 d L fz t Q a0 a1 (nI 0) I J) :
    pm_Ev (d + 1) 54 [.ref a0, .ref a1] (pm_hp L fz t I J) Q := pm_Ev_in rfl (b_X4_copy_0 ha0 ha1 h)
set_option maxRecDepth 100000 in
theorem b_X4_copy_2 {d L : Nat} {fz t : Bool} {Q : pm_R → pm_H → Prop} {a0 : Nat} {a1 : Nat} {x2 : Int32} {I : Nat → Nat → Int32} {J : Nat → Nat → Int64} (ha0 : a0 = 45 ∨ a0 = 50) (ha1 : a1 = 45 ∨ a1 = 50)
    (h : (((nI 8) ≤ x2 → Q (.inl none) (pm_hp L fz t (pm_u I a0 4 (I a1 4)) J)) ∧ (¬ (nI 8) ≤ x2 → (vp_in x2 8 ∧ (vp_in x2 8 ∧ (vp_in x2 8 ∧ (vp_in x2 8 ∧ (vp_in x2 8 ∧ (vp_in x2 8 ∧ (vp_in x2 8 ∧ (vp_in x2 8 ∧ t_X4_copy_2 d L fz t Q a0 a1 (x2 + (nI 1)) (pm_u (pm_u (pm_u (pm_u I (a0 + 1) (x2).toNatClampNeg (I (a1 + 1) (x2).toNatClampNeg)) (a0 + 2) (x2).toNatClampNeg (I (a1 + 2) (x2).toNatClampNeg)) (a0 + 3) (x2).toNatClampNeg (I (a1 + 3) (x2).toNatClampNeg)) (a0 + 4) (x2).toNatClampNeg (vp_nar .boolean (I (a1 + 4) (x2).toNatClampNeg))) J))))))))))) :
    t_X4_copy_2 d L fz t Q a0 a1 x2 I J := by
  rcases ha0 with rfl | rfl <;> rcases ha1 with rfl | rfl <;> exact pm_go d [(2, [0, 1, 2])] 400 ⟨fun q0 => ((h).1 q0), fun q0 => ⟨(((h).2 q0)).1, ⟨((((h).2 q0)).2).1, ⟨(((((h).2 q0)).2).2).1, ⟨((((((h).2 q0)).2).2).2).1, ⟨(((((((h).2 q0)).2).2).2).2).1, ⟨((((((((h).2 q0)).2).2).2).2).2).1, ⟨(((((((((h).2 q0)).2).2).2).2).2).2).1, ⟨((((((((((h).2 q0)).2).2).2).2).2).2).2).1, ((((((((((h).2 q0)).2).2).2).2).2).2).2).2⟩⟩⟩⟩⟩⟩⟩⟩⟩
def t_X5_begin_0 (d L : Nat) (fz t : Bool) (Q : pm_R → pm_H → Prop) (x1 : Int32) (I : Nat → Nat → Int32) (J : Nat → Nat → Int64) : Prop := pm_T (pm_Ev d) 55 Q (0, [(0, .ref 9), (1, .int x1)], [], pm_hp L fz t I J, 0, 0)
def t_X5_begin_7 (d L : Nat) (fz t : Bool) (Q : pm_R → pm_H → Prop) (x2 : Int32) (I : Nat → Nat → Int32) (J : Nat → Nat → Int64) : Prop := pm_T (pm_Ev d) 55 Q (7, [(0, .ref 9), (2, .int x2)], [], pm_hp L fz t I J, 0, 0)
def t_X5_begin_18 (d L : Nat) (fz t : Bool) (Q : pm_R → pm_H → Prop) (x2 : Int32) (x3 : Int32) (x4 : Int32) (I : Nat → Nat → Int32) (J : Nat → Nat → Int64) : Prop := pm_T (pm_Ev d) 55 Q (18, [(0, .ref 9), (2, .int x2), (3, .int x3), (4, .int x4)], [], pm_hp L fz t I J, 0, 0)
set_option maxRecDepth 100000 in
theorem b_X5_begin_0 {d L : Nat} {fz t : Bool} {Q : pm_R → pm_H → Prop} {x1 : Int32} {I : Nat → Nat → Int32} {J : Nat → Nat → Int64}
    (h : t_X5_begin_7 d L fz t Q (nI 0) (pm_u I 9 2 x1) J) :
    t_X5_begin_0 d L fz t Q x1 I J := by
  exact pm_go d [(7, [0, 2]), (18, [0, 2, 3, 4])] 400 h
theorem e_X5_begin {d L : Nat} {fz t : Bool} {Q : pm_R → pm_H → Prop} {x1 : Int32} {I : Nat → Nat → Int32} {J : Nat → Nat → Int64}
    (h : t_X5_begin_7 d L fz t Q (nI 0) (pm_u I 9 2 x1) J) :
    pm_Ev (d + 1) 55 [.ref 9, .int x1] (pm_hp L fz t I J) Q := pm_Ev_in rfl (b_X5_begin_0 h)
set_option maxRecDepth 100000 in
theorem b_X5_begin_7 {d L : Nat} {fz t : Bool} {Q : pm_R → pm_H → Prop} {x2 : Int32} {I : Nat → Nat → Int32} {J : Nat → Nat → Int64}
    (h : (((nI 8) ≤ x2 → Q (.inl none) (pm_hp L fz t I J)) ∧ (¬ (nI 8) ≤ x2 → t_X5_begin_18 d L fz t Q x2 (nI 0) (nI 0) I J))) :
    t_X5_begin_7 d L fz t Q x2 I J := by
  exact pm_go d [(7, [0, 2]), (18, [0, 2, 3, 4])] 400 ⟨fun q0 => ((h).1 q0), fun q0 => ((h).2 q0)⟩
set_option maxRecDepth 100000 in
theorem b_X5_begin_18 {d L : Nat} {fz t : Bool} {Q : pm_R → pm_H → Prop} {x2 : Int32} {x3 : Int32} {x4 : Int32} {I : Nat → Nat → Int32} {J : Nat → Nat → Int64}
    (h : (((nI 3) ≤ x4 → (vp_in x2 8 ∧ (vp_in x2 8 ∧ t_X5_begin_7 d L fz t Q (x2 + (nI 1)) (pm_u (pm_u I 10 (x2).toNatClampNeg (x3 &&& (I 9 2))) 11 (x2).toNatClampNeg (nI 0)) J))) ∧ (¬ (nI 3) ≤ x4 → ((¬ ((x2 >>> (x4 &&& 31)) &&& (nI 1)) = (nI 1) → t_X5_begin_18 d L fz t Q x2 (x3 ||| (nI 0)) (x4 + (nI 1)) I J) ∧ (((x2 >>> (x4 &&& 31)) &&& (nI 1)) = (nI 1) → t_X5_begin_18 d L fz t Q x2 (x3 ||| ((nI 585) <<< (x4 &&& 31))) (x4 + (nI 1)) I J))))) :
    t_X5_begin_18 d L fz t Q x2 x3 x4 I J := by
  exact pm_go d [(7, [0, 2]), (18, [0, 2, 3, 4])] 400 ⟨fun q0 => ⟨(((h).1 q0)).1, ⟨((((h).1 q0)).2).1, ((((h).1 q0)).2).2⟩⟩, fun q0 => ⟨fun q1 => ((((h).2 q0)).1 q1), fun q1 => ((((h).2 q0)).2 q1)⟩⟩
def t_X5_passes_0 (d L : Nat) (fz t : Bool) (Q : pm_R → pm_H → Prop) (x1 : Int32) (I : Nat → Nat → Int32) (J : Nat → Nat → Int64) : Prop := pm_T (pm_Ev d) 56 Q (0, [(0, .ref 9), (1, .int x1)], [], pm_hp L fz t I J, 0, 0)
def t_X5_passes_4 (d L : Nat) (fz t : Bool) (Q : pm_R → pm_H → Prop) (x1 : Int32) (x2 : Int32) (x3 : Int32) (I : Nat → Nat → Int32) (J : Nat → Nat → Int64) : Prop := pm_T (pm_Ev d) 56 Q (4, [(0, .ref 9), (1, .int x1), (2, .int x2), (3, .int x3)], [], pm_hp L fz t I J, 0, 0)
set_option maxRecDepth 100000 in
theorem b_X5_passes_0 {d L : Nat} {fz t : Bool} {Q : pm_R → pm_H → Prop} {x1 : Int32} {I : Nat → Nat → Int32} {J : Nat → Nat → Int64}
    (h : t_X5_passes_4 d L fz t Q x1 (nI 0) (nI 0) I J) :
    t_X5_passes_0 d L fz t Q x1 I J := by
  exact pm_go d [(4, [0, 1, 2, 3])] 400 h
theorem e_X5_passes {d L : Nat} {fz t : Bool} {Q : pm_R → pm_H → Prop} {x1 : Int32} {I : Nat → Nat → Int32} {J : Nat → Nat → Int64}
    (h : t_X5_passes_4 d L fz t Q x1 (nI 0) (nI 0) I J) :
    pm_Ev (d + 1) 56 [.ref 9, .int x1] (pm_hp L fz t I J) Q := pm_Ev_in rfl (b_X5_passes_0 h)
set_option maxRecDepth 100000 in
theorem b_X5_passes_4 {d L : Nat} {fz t : Bool} {Q : pm_R → pm_H → Prop} {x1 : Int32} {x2 : Int32} {x3 : Int32} {I : Nat → Nat → Int32} {J : Nat → Nat → Int64}
    (h : (((nI 8) ≤ x3 → ((¬ x2 = (I 9 2) → Q (.inl (some (.int (nI 0)))) (pm_hp L fz t I J)) ∧ (x2 = (I 9 2) → Q (.inl (some (.int (nI 1)))) (pm_hp L fz t I J)))) ∧ (¬ (nI 8) ≤ x3 → (vp_in x3 8 ∧ (vp_in x3 8 ∧ t_X5_passes_4 d L fz t Q x1 (x2 ||| ((I 11 (x3).toNatClampNeg) &&& ((((x1 ^^^ (I 10 (x3).toNatClampNeg)) ||| ((x1 ^^^ (I 10 (x3).toNatClampNeg)) <<< ((nI 1) &&& 31))) ||| ((x1 ^^^ (I 10 (x3).toNatClampNeg)) >>> ((nI 1) &&& 31))) ^^^ (-1 : Int32)))) (x3 + (nI 1)) I J))))) :
    t_X5_passes_4 d L fz t Q x1 x2 x3 I J := by
  exact pm_go d [(4, [0, 1, 2, 3])] 400 ⟨fun q0 => ⟨fun q1 => ⟨Or.inl rfl, ((((h).1 q0)).1 q1)⟩, fun q1 => ⟨Or.inr rfl, ((((h).1 q0)).2 q1)⟩⟩, fun q0 => ⟨(((h).2 q0)).1, ⟨((((h).2 q0)).2).1, ((((h).2 q0)).2).2⟩⟩⟩
def t_X5_countPassing_0 (d L : Nat) (fz t : Bool) (Q : pm_R → pm_H → Prop) (I : Nat → Nat → Int32) (J : Nat → Nat → Int64) : Prop := pm_T (pm_Ev d) 57 Q (0, [(0, .ref 9)], [], pm_hp L fz t I J, 0, 0)
def t_X5_countPassing_4 (d L : Nat) (fz t : Bool) (Q : pm_R → pm_H → Prop) (x1 : Int32) (x2 : Int32) (I : Nat → Nat → Int32) (J : Nat → Nat → Int64) : Prop := pm_T (pm_Ev d) 57 Q (4, [(0, .ref 9), (1, .int x1), (2, .int x2)], [], pm_hp L fz t I J, 0, 0)
def t_X5_countPassing_17 (d L : Nat) (fz t : Bool) (Q : pm_R → pm_H → Prop) (x1 : Int32) (x2 : Int32) (r : Int32) (I : Nat → Nat → Int32) (J : Nat → Nat → Int64) : Prop := pm_T (pm_Ev d) 57 Q (17, [(0, .ref 9), (1, .int x1), (2, .int x2)], [.int r], pm_hp L fz t I J, 0, 0)
def K_X5_countPassing_17 (d : Nat) (fz t : Bool) (Q : pm_R → pm_H → Prop) (x1 : Int32) (x2 : Int32) : pm_R → pm_H → Prop := pm_K d 57 Q 17 [(0, .ref 9), (1, .int x1), (2, .int x2)] [] 118 0 fz 0 0
set_option maxRecDepth 100000 in
theorem b_X5_countPassing_0 {d L : Nat} {fz t : Bool} {Q : pm_R → pm_H → Prop} {I : Nat → Nat → Int32} {J : Nat → Nat → Int64}
    (h : t_X5_countPassing_4 d L fz t Q (nI 0) (nI 0) I J) :
    t_X5_countPassing_0 d L fz t Q I J := by
  exact pm_go d [(4, [0, 1, 2]), (17, [0, 1, 2])] 400 h
theorem e_X5_countPassing {d L : Nat} {fz t : Bool} {Q : pm_R → pm_H → Prop} {I : Nat → Nat → Int32} {J : Nat → Nat → Int64}
    (h : t_X5_countPassing_4 d L fz t Q (nI 0) (nI 0) I J) :
    pm_Ev (d + 1) 57 [.ref 9] (pm_hp L fz t I J) Q := pm_Ev_in rfl (b_X5_countPassing_0 h)
set_option maxRecDepth 100000 in
theorem b_X5_countPassing_4 {d L : Nat} {fz t : Bool} {Q : pm_R → pm_H → Prop} {x1 : Int32} {x2 : Int32} {I : Nat → Nat → Int32} {J : Nat → Nat → Int64}
    (h : (((I 9 2) < x2 → Q (.inl (some (.int x1))) (pm_hp L fz t I J)) ∧ (¬ (I 9 2) < x2 → pm_Ev d 56 [.ref 9, .int x2] (pm_hp L fz t I J) (K_X5_countPassing_17 d fz t Q x1 x2)))) :
    t_X5_countPassing_4 d L fz t Q x1 x2 I J := by
  exact pm_go d [(4, [0, 1, 2]), (17, [0, 1, 2])] 400 ⟨fun q0 => ((h).1 q0), fun q0 => ((h).2 q0)⟩
set_option maxRecDepth 100000 in
theorem b_X5_countPassing_17 {d L : Nat} {fz t : Bool} {Q : pm_R → pm_H → Prop} {x1 : Int32} {x2 : Int32} {r : Int32} {I : Nat → Nat → Int32} {J : Nat → Nat → Int64}
    (h : ((r = (nI 0) → t_X5_countPassing_4 d L fz t Q x1 (x2 + (nI 1)) I J) ∧ (¬ r = (nI 0) → t_X5_countPassing_4 d L fz t Q (x1 + (nI 1)) (x2 + (nI 1)) I J))) :
    t_X5_countPassing_17 d L fz t Q x1 x2 r I J := by
  exact pm_go d [(4, [0, 1, 2]), (17, [0, 1, 2])] 400 ⟨fun q0 => ((h).1 q0), fun q0 => ((h).2 q0)⟩
theorem kb_X5_countPassing_17 {d L : Nat} {fz t : Bool} {Q : pm_R → pm_H → Prop} {x1 : Int32} {x2 : Int32} {r : Int32} {fz1 : Bool} {I : Nat → Nat → Int32} {J : Nat → Nat → Int64}
    (h : ((r = (nI 0) → t_X5_countPassing_4 d L fz t Q x1 (x2 + (nI 1)) I J) ∧ (¬ r = (nI 0) → t_X5_countPassing_4 d L fz t Q (x1 + (nI 1)) (x2 + (nI 1)) I J))) :
    K_X5_countPassing_17 d fz t Q x1 x2 (.inl (some (.int r))) (pm_hp L fz1 t I J) := b_X5_countPassing_17 h
def t_X5_leastPassing_0 (d L : Nat) (fz t : Bool) (Q : pm_R → pm_H → Prop) (I : Nat → Nat → Int32) (J : Nat → Nat → Int64) : Prop := pm_T (pm_Ev d) 58 Q (0, [(0, .ref 9)], [], pm_hp L fz t I J, 0, 0)
def t_X5_leastPassing_2 (d L : Nat) (fz t : Bool) (Q : pm_R → pm_H → Prop) (x1 : Int32) (I : Nat → Nat → Int32) (J : Nat → Nat → Int64) : Prop := pm_T (pm_Ev d) 58 Q (2, [(0, .ref 9), (1, .int x1)], [], pm_hp L fz t I J, 0, 0)
def t_X5_leastPassing_15 (d L : Nat) (fz t : Bool) (Q : pm_R → pm_H → Prop) (x1 : Int32) (r : Int32) (I : Nat → Nat → Int32) (J : Nat → Nat → Int64) : Prop := pm_T (pm_Ev d) 58 Q (15, [(0, .ref 9), (1, .int x1)], [.int r], pm_hp L fz t I J, 0, 0)
def K_X5_leastPassing_15 (d : Nat) (fz t : Bool) (Q : pm_R → pm_H → Prop) (x1 : Int32) : pm_R → pm_H → Prop := pm_K d 58 Q 15 [(0, .ref 9), (1, .int x1)] [] 118 0 fz 0 0
set_option maxRecDepth 100000 in
theorem b_X5_leastPassing_0 {d L : Nat} {fz t : Bool} {Q : pm_R → pm_H → Prop} {I : Nat → Nat → Int32} {J : Nat → Nat → Int64}
    (h : t_X5_leastPassing_2 d L fz t Q (nI 0) I J) :
    t_X5_leastPassing_0 d L fz t Q I J := by
  exact pm_go d [(2, [0, 1]), (15, [0, 1])] 400 h
theorem e_X5_leastPassing {d L : Nat} {fz t : Bool} {Q : pm_R → pm_H → Prop} {I : Nat → Nat → Int32} {J : Nat → Nat → Int64}
    (h : t_X5_leastPassing_2 d L fz t Q (nI 0) I J) :
    pm_Ev (d + 1) 58 [.ref 9] (pm_hp L fz t I J) Q := pm_Ev_in rfl (b_X5_leastPassing_0 h)
set_option maxRecDepth 100000 in
theorem b_X5_leastPassing_2 {d L : Nat} {fz t : Bool} {Q : pm_R → pm_H → Prop} {x1 : Int32} {I : Nat → Nat → Int32} {J : Nat → Nat → Int64}
    (h : (((I 9 2) < x1 → Q (.inl (some (.int (-1 : Int32)))) (pm_hp L fz t I J)) ∧ (¬ (I 9 2) < x1 → pm_Ev d 56 [.ref 9, .int x1] (pm_hp L fz t I J) (K_X5_leastPassing_15 d fz t Q x1)))) :
    t_X5_leastPassing_2 d L fz t Q x1 I J := by
  exact pm_go d [(2, [0, 1]), (15, [0, 1])] 400 ⟨fun q0 => ((h).1 q0), fun q0 => ((h).2 q0)⟩
set_option maxRecDepth 100000 in
theorem b_X5_leastPassing_15 {d L : Nat} {fz t : Bool} {Q : pm_R → pm_H → Prop} {x1 : Int32} {r : Int32} {I : Nat → Nat → Int32} {J : Nat → Nat → Int64}
    (h : ((r = (nI 0) → t_X5_leastPassing_2 d L fz t Q (x1 + (nI 1)) I J) ∧ (¬ r = (nI 0) → Q (.inl (some (.int x1))) (pm_hp L fz t I J)))) :
    t_X5_leastPassing_15 d L fz t Q x1 r I J := by
  exact pm_go d [(2, [0, 1]), (15, [0, 1])] 400 ⟨fun q0 => ((h).1 q0), fun q0 => ((h).2 q0)⟩
theorem kb_X5_leastPassing_15 {d L : Nat} {fz t : Bool} {Q : pm_R → pm_H → Prop} {x1 : Int32} {r : Int32} {fz1 : Bool} {I : Nat → Nat → Int32} {J : Nat → Nat → Int64}
    (h : ((r = (nI 0) → t_X5_leastPassing_2 d L fz t Q (x1 + (nI 1)) I J) ∧ (¬ r = (nI 0) → Q (.inl (some (.int x1))) (pm_hp L fz t I J)))) :
    K_X5_leastPassing_15 d fz t Q x1 (.inl (some (.int r))) (pm_hp L fz1 t I J) := b_X5_leastPassing_15 h
def t_X6_between_0 (d L : Nat) (fz t : Bool) (Q : pm_R → pm_H → Prop) (a1 : Nat) (x2 : Int32) (x3 : Int32) (x4 : Int32) (x5 : Int32) (I : Nat → Nat → Int32) (J : Nat → Nat → Int64) : Prop := pm_T (pm_Ev d) 59 Q (0, [(0, .ref 12), (1, .ref a1), (2, .int x2), (3, .int x3), (4, .int x4), (5, .int x5)], [], pm_hp L fz t I J, 0, 0)
def t_X6_between_7 (d L : Nat) (fz t : Bool) (Q : pm_R → pm_H → Prop) (a1 : Nat) (x2 : Int32) (x4 : Int32) (r : Int32) (I : Nat → Nat → Int32) (J : Nat → Nat → Int64) : Prop := pm_T (pm_Ev d) 59 Q (7, [(0, .ref 12), (1, .ref a1), (2, .int x2), (4, .int x4)], [.int r], pm_hp L fz t I J, 0, 0)
def K_X6_between_7 (d : Nat) (fz t : Bool) (Q : pm_R → pm_H → Prop) (a1 : Nat) (x2 : Int32) (x4 : Int32) : pm_R → pm_H → Prop := pm_K d 59 Q 7 [(0, .ref 12), (1, .ref a1), (2, .int x2), (4, .int x4)] [] 118 0 fz 0 0
def t_X6_between_39 (d L : Nat) (fz t : Bool) (Q : pm_R → pm_H → Prop) (a1 : Nat) (x2 : Int32) (x4 : Int32) (x6 : Int32) (x7 : Int32) (r : Int32) (I : Nat → Nat → Int32) (J : Nat → Nat → Int64) : Prop := pm_T (pm_Ev d) 59 Q (39, [(0, .ref 12), (1, .ref a1), (2, .int x2), (4, .int x4), (6, .int x6), (7, .int x7)], [.int r], pm_hp L fz t I J, 0, 0)
def K_X6_between_39 (d : Nat) (fz t : Bool) (Q : pm_R → pm_H → Prop) (a1 : Nat) (x2 : Int32) (x4 : Int32) (x6 : Int32) (x7 : Int32) : pm_R → pm_H → Prop := pm_K d 59 Q 39 [(0, .ref 12), (1, .ref a1), (2, .int x2), (4, .int x4), (6, .int x6), (7, .int x7)] [] 118 0 fz 0 0
def t_X6_between_101 (d L : Nat) (fz t : Bool) (Q : pm_R → pm_H → Prop) (s0 : Int32) (r : Int32) (I : Nat → Nat → Int32) (J : Nat → Nat → Int64) : Prop := pm_T (pm_Ev d) 59 Q (101, [], [.int r, .int s0], pm_hp L fz t I J, 0, 0)
def K_X6_between_101 (d : Nat) (fz t : Bool) (Q : pm_R → pm_H → Prop) (s0 : Int32) : pm_R → pm_H → Prop := pm_K d 59 Q 101 [] [.int s0] 118 0 fz 0 0
set_option maxRecDepth 100000 in
theorem b_X6_between_0 {d L : Nat} {fz t : Bool} {Q : pm_R → pm_H → Prop} {a1 : Nat} {x2 : Int32} {x3 : Int32} {x4 : Int32} {x5 : Int32} {I : Nat → Nat → Int32} {J : Nat → Nat → Int64} (ha1 : a1 = 55 ∨ a1 = 70)
    (h : pm_Ev d 236 [.int (x3 &&& x5)] (pm_hp L fz t I J) (K_X6_between_7 d fz t Q a1 x2 x4)) :
    t_X6_between_0 d L fz t Q a1 x2 x3 x4 x5 I J := by
  rcases ha1 with rfl | rfl <;> exact pm_go d [(7, [0, 1, 2, 4]), (39, [0, 1, 2, 4, 6, 7]), (101, [])] 400 h
theorem e_X6_between {d L : Nat} {fz t : Bool} {Q : pm_R → pm_H → Prop} {a1 : Nat} {x2 : Int32} {x3 : Int32} {x4 : Int32} {x5 : Int32} {I : Nat → Nat → Int32} {J : Nat → Nat → Int64} (ha1 : a1 = 55 ∨ a1 = 70)
    (h : pm_Ev d 236 [.int (x3 &&& x5)] (pm_hp L fz t I J) (K_X6_between_7 d fz t Q a1 x2 x4)) :
    pm_Ev (d + 1) 59 [.ref 12, .ref a1, .int x2, .int x3, .int x4, .int x5] (pm_hp L fz t I J) Q := pm_Ev_in rfl (b_X6_between_0 ha1 h)
set_option maxRecDepth 100000 in
theorem b_X6_between_7 {d L : Nat} {fz t : Bool} {Q : pm_R → pm_H → Prop} {a1 : Nat} {x2 : Int32} {x4 : Int32} {r : Int32} {I : Nat → Nat → Int32} {J : Nat → Nat → Int64} (ha1 : a1 = 55 ∨ a1 = 70)
    (h : (vp_in x2 10 ∧ (vp_in x4 10 ∧ ((¬ (I (a1 + 2) (x2).toNatClampNeg) = (I (a1 + 2) (x4).toNatClampNeg) → pm_Ev d 5 [.ref (a1 + 12)] (pm_hp L fz t I J) (K_X6_between_39 d fz t Q a1 x2 x4 r (nI 0))) ∧ ((I (a1 + 2) (x2).toNatClampNeg) = (I (a1 + 2) (x4).toNatClampNeg) → pm_Ev d 5 [.ref (a1 + 12)] (pm_hp L fz t I J) (K_X6_between_39 d fz t Q a1 x2 x4 r (nI 1))))))) :
    t_X6_between_7 d L fz t Q a1 x2 x4 r I J := by
  rcases ha1 with rfl | rfl <;> exact pm_go d [(7, [0, 1, 2, 4]), (39, [0, 1, 2, 4, 6, 7]), (101, [])] 400 ⟨(h).1, ⟨((h).2).1, ⟨fun q0 => ((((h).2).2).1 q0), fun q0 => ((((h).2).2).2 q0)⟩⟩⟩
theorem kb_X6_between_7 {d L : Nat} {fz t : Bool} {Q : pm_R → pm_H → Prop} {a1 : Nat} {x2 : Int32} {x4 : Int32} {r : Int32} {fz1 : Bool} {I : Nat → Nat → Int32} {J : Nat → Nat → Int64} (ha1 : a1 = 55 ∨ a1 = 70)
    (h : (vp_in x2 10 ∧ (vp_in x4 10 ∧ ((¬ (I (a1 + 2) (x2).toNatClampNeg) = (I (a1 + 2) (x4).toNatClampNeg) → pm_Ev d 5 [.ref (a1 + 12)] (pm_hp L fz t I J) (K_X6_between_39 d fz t Q a1 x2 x4 r (nI 0))) ∧ ((I (a1 + 2) (x2).toNatClampNeg) = (I (a1 + 2) (x4).toNatClampNeg) → pm_Ev d 5 [.ref (a1 + 12)] (pm_hp L fz t I J) (K_X6_between_39 d fz t Q a1 x2 x4 r (nI 1))))))) :
    K_X6_between_7 d fz t Q a1 x2 x4 (.inl (some (.int r))) (pm_hp L fz1 t I J) := b_X6_between_7 ha1 h
set_option maxRecDepth 100000 in
theorem b_X6_between_39 {d L : Nat} {fz t : Bool} {Q : pm_R → pm_H → Prop} {a1 : Nat} {x2 : Int32} {x4 : Int32} {x6 : Int32} {x7 : Int32} {r : Int32} {I : Nat → Nat → Int32} {J : Nat → Nat → Int64} (ha1 : a1 = 55 ∨ a1 = 70)
    (h : ((¬ r = (nI 0) → (vp_in x2 10 ∧ (vp_in x4 10 ∧ pm_Ev d 9 [.ref (a1 + 12), .ref 13] (pm_hp L fz t (pm_u (pm_u (pm_u (pm_u I 13 0 x6) 13 1 x7) 13 2 (I (a1 + 2) (x2).toNatClampNeg)) 13 3 (I (a1 + 2) (x4).toNatClampNeg)) J) (K_X6_between_101 d fz t Q (nI 0))))) ∧ (r = (nI 0) → Q (.inl (some (.int (x6 * x7)))) (pm_hp L fz t I J)))) :
    t_X6_between_39 d L fz t Q a1 x2 x4 x6 x7 r I J := by
  rcases ha1 with rfl | rfl <;> exact pm_go d [(7, [0, 1, 2, 4]), (39, [0, 1, 2, 4, 6, 7]), (101, [])] 400 ⟨fun q0 => ⟨(vp_in_nI (by decide : 0 < 4) (by decide) : vp_in (nI 0) 4), ⟨(vp_in_nI (by decide : 1 < 4) (by decide) : vp_in (nI 1) 4), ⟨(((h).1 q0)).1, ⟨(vp_in_nI (by decide : 2 < 4) (by decide) : vp_in (nI 2) 4), ⟨((((h).1 q0)).2).1, ⟨(vp_in_nI (by decide : 3 < 4) (by decide) : vp_in (nI 3) 4), ((((h).1 q0)).2).2⟩⟩⟩⟩⟩⟩, fun q0 => ((h).2 q0)⟩
theorem kb_X6_between_39 {d L : Nat} {fz t : Bool} {Q : pm_R → pm_H → Prop} {a1 : Nat} {x2 : Int32} {x4 : Int32} {x6 : Int32} {x7 : Int32} {r : Int32} {fz1 : Bool} {I : Nat → Nat → Int32} {J : Nat → Nat → Int64} (ha1 : a1 = 55 ∨ a1 = 70)
    (h : ((¬ r = (nI 0) → (vp_in x2 10 ∧ (vp_in x4 10 ∧ pm_Ev d 9 [.ref (a1 + 12), .ref 13] (pm_hp L fz t (pm_u (pm_u (pm_u (pm_u I 13 0 x6) 13 1 x7) 13 2 (I (a1 + 2) (x2).toNatClampNeg)) 13 3 (I (a1 + 2) (x4).toNatClampNeg)) J) (K_X6_between_101 d fz t Q (nI 0))))) ∧ (r = (nI 0) → Q (.inl (some (.int (x6 * x7)))) (pm_hp L fz t I J)))) :
    K_X6_between_39 d fz t Q a1 x2 x4 x6 x7 (.inl (some (.int r))) (pm_hp L fz1 t I J) := b_X6_between_39 ha1 h
set_option maxRecDepth 100000 in
theorem b_X6_between_101 {d L : Nat} {fz t : Bool} {Q : pm_R → pm_H → Prop} {s0 : Int32} {r : Int32} {I : Nat → Nat → Int32} {J : Nat → Nat → Int64}
    (h : Q (.inl (some (.int (if s0 < (if (nI 99) < r then (nI 99) else r) then (if (nI 99) < r then (nI 99) else r) else s0)))) (pm_hp L fz t I J)) :
    t_X6_between_101 d L fz t Q s0 r I J := by
  exact pm_go d [(7, [0, 1, 2, 4]), (39, [0, 1, 2, 4, 6, 7]), (101, [])] 400 h
theorem kb_X6_between_101 {d L : Nat} {fz t : Bool} {Q : pm_R → pm_H → Prop} {s0 : Int32} {r : Int32} {fz1 : Bool} {I : Nat → Nat → Int32} {J : Nat → Nat → Int64}
    (h : Q (.inl (some (.int (if s0 < (if (nI 99) < r then (nI 99) else r) then (if (nI 99) < r then (nI 99) else r) else s0)))) (pm_hp L fz t I J)) :
    K_X6_between_101 d fz t Q s0 (.inl (some (.int r))) (pm_hp L fz1 t I J) := b_X6_between_101 h
def t_X6_learn_0 (d L : Nat) (fz t : Bool) (Q : pm_R → pm_H → Prop) (a1 : Nat) (a2 : Nat) (I : Nat → Nat → Int32) (J : Nat → Nat → Int64) : Prop := pm_T (pm_Ev d) 60 Q (0, [(0, .ref 12), (1, .ref a1), (2, .ref a2)], [], pm_hp L fz t I J, 0, 0)
def t_X6_learn_2 (d L : Nat) (fz t : Bool) (Q : pm_R → pm_H → Prop) (a1 : Nat) (a2 : Nat) (x3 : Int32) (I : Nat → Nat → Int32) (J : Nat → Nat → Int64) : Prop := pm_T (pm_Ev d) 60 Q (2, [(0, .ref 12), (1, .ref a1), (2, .ref a2), (3, .int x3)], [], pm_hp L fz t I J, 0, 0)
def t_X6_learn_13 (d L : Nat) (fz t : Bool) (Q : pm_R → pm_H → Prop) (a1 : Nat) (a2 : Nat) (x3 : Int32) (x4 : Int32) (I : Nat → Nat → Int32) (J : Nat → Nat → Int64) : Prop := pm_T (pm_Ev d) 60 Q (13, [(0, .ref 12), (1, .ref a1), (2, .ref a2), (3, .int x3), (4, .int x4)], [], pm_hp L fz t I J, 0, 0)
def t_X6_learn_42 (d L : Nat) (fz t : Bool) (Q : pm_R → pm_H → Prop) (a1 : Nat) (a2 : Nat) (x3 : Int32) (x4 : Int32) (s1 : Int32) (s4 : Int32) (r : Int32) (I : Nat → Nat → Int32) (J : Nat → Nat → Int64) : Prop := pm_T (pm_Ev d) 60 Q (42, [(0, .ref 12), (1, .ref a1), (2, .ref a2), (3, .int x3), (4, .int x4)], [.int r, .int s4, .ref a1, .ref 12, .int s1, .ref 14], pm_hp L fz t I J, 0, 0)
def K_X6_learn_42 (d : Nat) (fz t : Bool) (Q : pm_R → pm_H → Prop) (a1 : Nat) (a2 : Nat) (x3 : Int32) (x4 : Int32) (s1 : Int32) (s4 : Int32) : pm_R → pm_H → Prop := pm_K d 60 Q 42 [(0, .ref 12), (1, .ref a1), (2, .ref a2), (3, .int x3), (4, .int x4)] [.int s4, .ref a1, .ref 12, .int s1, .ref 14] 118 0 fz 0 0
def t_X6_learn_51 (d L : Nat) (fz t : Bool) (Q : pm_R → pm_H → Prop) (a1 : Nat) (a2 : Nat) (x3 : Int32) (x4 : Int32) (s1 : Int32) (s4 : Int32) (s5 : Int32) (s6 : Int32) (r : Int32) (I : Nat → Nat → Int32) (J : Nat → Nat → Int64) : Prop := pm_T (pm_Ev d) 60 Q (51, [(0, .ref 12), (1, .ref a1), (2, .ref a2), (3, .int x3), (4, .int x4)], [.int r, .int s6, .int s5, .int s4, .ref a1, .ref 12, .int s1, .ref 14], pm_hp L fz t I J, 0, 0)
def K_X6_learn_51 (d : Nat) (fz t : Bool) (Q : pm_R → pm_H → Prop) (a1 : Nat) (a2 : Nat) (x3 : Int32) (x4 : Int32) (s1 : Int32) (s4 : Int32) (s5 : Int32) (s6 : Int32) : pm_R → pm_H → Prop := pm_K d 60 Q 51 [(0, .ref 12), (1, .ref a1), (2, .ref a2), (3, .int x3), (4, .int x4)] [.int s6, .int s5, .int s4, .ref a1, .ref 12, .int s1, .ref 14] 118 0 fz 0 0
def t_X6_learn_54 (d L : Nat) (fz t : Bool) (Q : pm_R → pm_H → Prop) (a1 : Nat) (a2 : Nat) (x3 : Int32) (x4 : Int32) (s1 : Int32) (r : Int32) (I : Nat → Nat → Int32) (J : Nat → Nat → Int64) : Prop := pm_T (pm_Ev d) 60 Q (54, [(0, .ref 12), (1, .ref a1), (2, .ref a2), (3, .int x3), (4, .int x4)], [.int r, .int s1, .ref 14], pm_hp L fz t I J, 0, 0)
def K_X6_learn_54 (d : Nat) (fz t : Bool) (Q : pm_R → pm_H → Prop) (a1 : Nat) (a2 : Nat) (x3 : Int32) (x4 : Int32) (s1 : Int32) : pm_R → pm_H → Prop := pm_K d 60 Q 54 [(0, .ref 12), (1, .ref a1), (2, .ref a2), (3, .int x3), (4, .int x4)] [.int s1, .ref 14] 118 0 fz 0 0
set_option maxRecDepth 100000 in
theorem b_X6_learn_0 {d L : Nat} {fz t : Bool} {Q : pm_R → pm_H → Prop} {a1 : Nat} {a2 : Nat} {I : Nat → Nat → Int32} {J : Nat → Nat → Int64} (ha1 : a1 = 55 ∨ a1 = 70) (ha2 : a2 = 23 ∨ a2 = 27 ∨ a2 = 31)
    (h : t_X6_learn_2 d L fz t Q a1 a2 (nI 0) I J) :
    t_X6_learn_0 d L fz t Q a1 a2 I J := by
  rcases ha1 with rfl | rfl <;> rcases ha2 with rfl | rfl | rfl <;> exact pm_go d [(2, [0, 1, 2, 3]), (13, [0, 1, 2, 3, 4]), (42, [0, 1, 2, 3, 4]), (51, [0, 1, 2, 3, 4]), (54, [0, 1, 2, 3, 4])] 400 h
theorem e_X6_learn {d L : Nat} {fz t : Bool} {Q : pm_R → pm_H → Prop} {a1 : Nat} {a2 : Nat} {I : Nat → Nat → Int32} {J : Nat → Nat → Int64} (ha1 : a1 = 55 ∨ a1 = 70) (ha2 : a2 = 23 ∨ a2 = 27 ∨ a2 = 31)
    (h : t_X6_learn_2 d L fz t Q a1 a2 (nI 0) I J) :
    pm_Ev (d + 1) 60 [.ref 12, .ref a1, .ref a2] (pm_hp L fz t I J) Q := pm_Ev_in rfl (b_X6_learn_0 ha1 ha2 h)
set_option maxRecDepth 100000 in
theorem b_X6_learn_2 {d L : Nat} {fz t : Bool} {Q : pm_R → pm_H → Prop} {a1 : Nat} {a2 : Nat} {x3 : Int32} {I : Nat → Nat → Int32} {J : Nat → Nat → Int64} (ha1 : a1 = 55 ∨ a1 = 70) (ha2 : a2 = 23 ∨ a2 = 27 ∨ a2 = 31)
    (h : (((I a1 13) ≤ x3 → Q (.inl none) (pm_hp L fz t I J)) ∧ (¬ (I a1 13) ≤ x3 → t_X6_learn_13 d L fz t Q a1 a2 x3 (nI 0) I J))) :
    t_X6_learn_2 d L fz t Q a1 a2 x3 I J := by
  rcases ha1 with rfl | rfl <;> rcases ha2 with rfl | rfl | rfl <;> exact pm_go d [(2, [0, 1, 2, 3]), (13, [0, 1, 2, 3, 4]), (42, [0, 1, 2, 3, 4]), (51, [0, 1, 2, 3, 4]), (54, [0, 1, 2, 3, 4])] 400 ⟨fun q0 => ((h).1 q0), fun q0 => ((h).2 q0)⟩
set_option maxRecDepth 100000 in
theorem b_X6_learn_13 {d L : Nat} {fz t : Bool} {Q : pm_R → pm_H → Prop} {a1 : Nat} {a2 : Nat} {x3 : Int32} {x4 : Int32} {I : Nat → Nat → Int32} {J : Nat → Nat → Int64} (ha1 : a1 = 55 ∨ a1 = 70) (ha2 : a2 = 23 ∨ a2 = 27 ∨ a2 = 31)
    (h : (((I a1 13) ≤ x4 → t_X6_learn_2 d L fz t Q a1 a2 (x3 + (nI 1)) I J) ∧ (¬ (I a1 13) ≤ x4 → pm_Ev d 72 [.ref a1, .ref a2, .int x3] (pm_hp L fz t I J) (K_X6_learn_42 d fz t Q a1 a2 x3 x4 ((x3 * (nI 10)) + x4) x3)))) :
    t_X6_learn_13 d L fz t Q a1 a2 x3 x4 I J := by
  rcases ha1 with rfl | rfl <;> rcases ha2 with rfl | rfl | rfl <;> exact pm_go d [(2, [0, 1, 2, 3]), (13, [0, 1, 2, 3, 4]), (42, [0, 1, 2, 3, 4]), (51, [0, 1, 2, 3, 4]), (54, [0, 1, 2, 3, 4])] 400 ⟨fun q0 => ((h).1 q0), fun q0 => ((h).2 q0)⟩
set_option maxRecDepth 100000 in
theorem b_X6_learn_42 {d L : Nat} {fz t : Bool} {Q : pm_R → pm_H → Prop} {a1 : Nat} {a2 : Nat} {x3 : Int32} {x4 : Int32} {s1 : Int32} {s4 : Int32} {r : Int32} {I : Nat → Nat → Int32} {J : Nat → Nat → Int64} (ha1 : a1 = 55 ∨ a1 = 70) (ha2 : a2 = 23 ∨ a2 = 27 ∨ a2 = 31)
    (h : pm_Ev d 72 [.ref a1, .ref a2, .int x4] (pm_hp L fz t I J) (K_X6_learn_51 d fz t Q a1 a2 x3 x4 s1 s4 r x4)) :
    t_X6_learn_42 d L fz t Q a1 a2 x3 x4 s1 s4 r I J := by
  rcases ha1 with rfl | rfl <;> rcases ha2 with rfl | rfl | rfl <;> exact pm_go d [(2, [0, 1, 2, 3]), (13, [0, 1, 2, 3, 4]), (42, [0, 1, 2, 3, 4]), (51, [0, 1, 2, 3, 4]), (54, [0, 1, 2, 3, 4])] 400 h
theorem kb_X6_learn_42 {d L : Nat} {fz t : Bool} {Q : pm_R → pm_H → Prop} {a1 : Nat} {a2 : Nat} {x3 : Int32} {x4 : Int32} {s1 : Int32} {s4 : Int32} {r : Int32} {fz1 : Bool} {I : Nat → Nat → Int32} {J : Nat → Nat → Int64} (ha1 : a1 = 55 ∨ a1 = 70) (ha2 : a2 = 23 ∨ a2 = 27 ∨ a2 = 31)
    (h : pm_Ev d 72 [.ref a1, .ref a2, .int x4] (pm_hp L fz t I J) (K_X6_learn_51 d fz t Q a1 a2 x3 x4 s1 s4 r x4)) :
    K_X6_learn_42 d fz t Q a1 a2 x3 x4 s1 s4 (.inl (some (.int r))) (pm_hp L fz1 t I J) := b_X6_learn_42 ha1 ha2 h
set_option maxRecDepth 100000 in
theorem b_X6_learn_51 {d L : Nat} {fz t : Bool} {Q : pm_R → pm_H → Prop} {a1 : Nat} {a2 : Nat} {x3 : Int32} {x4 : Int32} {s1 : Int32} {s4 : Int32} {s5 : Int32} {s6 : Int32} {r : Int32} {I : Nat → Nat → Int32} {J : Nat → Nat → Int64} (ha1 : a1 = 55 ∨ a1 = 70) (ha2 : a2 = 23 ∨ a2 = 27 ∨ a2 = 31)
    (h : pm_Ev d 59 [.ref 12, .ref a1, .int s4, .int s5, .int s6, .int r] (pm_hp L fz t I J) (K_X6_learn_54 d fz t Q a1 a2 x3 x4 s1)) :
    t_X6_learn_51 d L fz t Q a1 a2 x3 x4 s1 s4 s5 s6 r I J := by
  rcases ha1 with rfl | rfl <;> rcases ha2 with rfl | rfl | rfl <;> exact pm_go d [(2, [0, 1, 2, 3]), (13, [0, 1, 2, 3, 4]), (42, [0, 1, 2, 3, 4]), (51, [0, 1, 2, 3, 4]), (54, [0, 1, 2, 3, 4])] 400 h
theorem kb_X6_learn_51 {d L : Nat} {fz t : Bool} {Q : pm_R → pm_H → Prop} {a1 : Nat} {a2 : Nat} {x3 : Int32} {x4 : Int32} {s1 : Int32} {s4 : Int32} {s5 : Int32} {s6 : Int32} {r : Int32} {fz1 : Bool} {I : Nat → Nat → Int32} {J : Nat → Nat → Int64} (ha1 : a1 = 55 ∨ a1 = 70) (ha2 : a2 = 23 ∨ a2 = 27 ∨ a2 = 31)
    (h : pm_Ev d 59 [.ref 12, .ref a1, .int s4, .int s5, .int s6, .int r] (pm_hp L fz t I J) (K_X6_learn_54 d fz t Q a1 a2 x3 x4 s1)) :
    K_X6_learn_51 d fz t Q a1 a2 x3 x4 s1 s4 s5 s6 (.inl (some (.int r))) (pm_hp L fz1 t I J) := b_X6_learn_51 ha1 ha2 h
set_option maxRecDepth 100000 in
theorem b_X6_learn_54 {d L : Nat} {fz t : Bool} {Q : pm_R → pm_H → Prop} {a1 : Nat} {a2 : Nat} {x3 : Int32} {x4 : Int32} {s1 : Int32} {r : Int32} {I : Nat → Nat → Int32} {J : Nat → Nat → Int64} (ha1 : a1 = 55 ∨ a1 = 70) (ha2 : a2 = 23 ∨ a2 = 27 ∨ a2 = 31)
    (h : (vp_in s1 100 ∧ t_X6_learn_13 d L fz t Q a1 a2 x3 (x4 + (nI 1)) (pm_u I 14 (s1).toNatClampNeg r) J)) :
    t_X6_learn_54 d L fz t Q a1 a2 x3 x4 s1 r I J := by
  rcases ha1 with rfl | rfl <;> rcases ha2 with rfl | rfl | rfl <;> exact pm_go d [(2, [0, 1, 2, 3]), (13, [0, 1, 2, 3, 4]), (42, [0, 1, 2, 3, 4]), (51, [0, 1, 2, 3, 4]), (54, [0, 1, 2, 3, 4])] 400 ⟨(h).1, (h).2⟩
theorem kb_X6_learn_54 {d L : Nat} {fz t : Bool} {Q : pm_R → pm_H → Prop} {a1 : Nat} {a2 : Nat} {x3 : Int32} {x4 : Int32} {s1 : Int32} {r : Int32} {fz1 : Bool} {I : Nat → Nat → Int32} {J : Nat → Nat → Int64} (ha1 : a1 = 55 ∨ a1 = 70) (ha2 : a2 = 23 ∨ a2 = 27 ∨ a2 = 31)
    (h : (vp_in s1 100 ∧ t_X6_learn_13 d L fz t Q a1 a2 x3 (x4 + (nI 1)) (pm_u I 14 (s1).toNatClampNeg r) J)) :
    K_X6_learn_54 d fz t Q a1 a2 x3 x4 s1 (.inl (some (.int r))) (pm_hp L fz1 t I J) := b_X6_learn_54 ha1 ha2 h
def t_X6_pairAt_0 (d L : Nat) (fz t : Bool) (Q : pm_R → pm_H → Prop) (a1 : Nat) (x2 : Int32) (x3 : Int32) (I : Nat → Nat → Int32) (J : Nat → Nat → Int64) : Prop := pm_T (pm_Ev d) 61 Q (0, [(0, .ref 12), (1, .ref a1), (2, .int x2), (3, .int x3)], [], pm_hp L fz t I J, 0, 0)
set_option maxRecDepth 100000 in
theorem b_X6_pairAt_0 {d L : Nat} {fz t : Bool} {Q : pm_R → pm_H → Prop} {a1 : Nat} {x2 : Int32} {x3 : Int32} {I : Nat → Nat → Int32} {J : Nat → Nat → Int64} (ha1 : a1 = 23 ∨ a1 = 27 ∨ a1 = 31)
    (h : (vp_in x2 12 ∧ (vp_in x3 12 ∧ (vp_in (((I (a1 + 3) (x2).toNatClampNeg) * (nI 10)) + (I (a1 + 3) (x3).toNatClampNeg)) 100 ∧ Q (.inl (some (.int (I 14 ((((I (a1 + 3) (x2).toNatClampNeg) * (nI 10)) + (I (a1 + 3) (x3).toNatClampNeg))).toNatClampNeg)))) (pm_hp L fz t I J))))) :
    t_X6_pairAt_0 d L fz t Q a1 x2 x3 I J := by
  rcases ha1 with rfl | rfl | rfl <;> exact pm_go d [] 400 ⟨(h).1, ⟨((h).2).1, ⟨(((h).2).2).1, (((h).2).2).2⟩⟩⟩
theorem e_X6_pairAt {d L : Nat} {fz t : Bool} {Q : pm_R → pm_H → Prop} {a1 : Nat} {x2 : Int32} {x3 : Int32} {I : Nat → Nat → Int32} {J : Nat → Nat → Int64} (ha1 : a1 = 23 ∨ a1 = 27 ∨ a1 = 31)
    (h : (vp_in x2 12 ∧ (vp_in x3 12 ∧ (vp_in (((I (a1 + 3) (x2).toNatClampNeg) * (nI 10)) + (I (a1 + 3) (x3).toNatClampNeg)) 100 ∧ Q (.inl (some (.int (I 14 ((((I (a1 + 3) (x2).toNatClampNeg) * (nI 10)) + (I (a1 + 3) (x3).toNatClampNeg))).toNatClampNeg)))) (pm_hp L fz t I J))))) :
    pm_Ev (d + 1) 61 [.ref 12, .ref a1, .int x2, .int x3] (pm_hp L fz t I J) Q := pm_Ev_in rfl (b_X6_pairAt_0 ha1 h)
def t_X6_sumOf_0 (d L : Nat) (fz t : Bool) (Q : pm_R → pm_H → Prop) (a1 : Nat) (I : Nat → Nat → Int32) (J : Nat → Nat → Int64) : Prop := pm_T (pm_Ev d) 62 Q (0, [(0, .ref 12), (1, .ref a1)], [], pm_hp L fz t I J, 0, 0)
def t_X6_sumOf_4 (d L : Nat) (fz t : Bool) (Q : pm_R → pm_H → Prop) (a1 : Nat) (x2 : Int32) (x3 : Int32) (I : Nat → Nat → Int32) (J : Nat → Nat → Int64) : Prop := pm_T (pm_Ev d) 62 Q (4, [(0, .ref 12), (1, .ref a1), (2, .int x2), (3, .int x3)], [], pm_hp L fz t I J, 0, 0)
def t_X6_sumOf_24 (d L : Nat) (fz t : Bool) (Q : pm_R → pm_H → Prop) (a1 : Nat) (x3 : Int32) (s0 : Int32) (r : Int32) (I : Nat → Nat → Int32) (J : Nat → Nat → Int64) : Prop := pm_T (pm_Ev d) 62 Q (24, [(0, .ref 12), (1, .ref a1), (3, .int x3)], [.int r, .int s0], pm_hp L fz t I J, 0, 0)
def K_X6_sumOf_24 (d : Nat) (fz t : Bool) (Q : pm_R → pm_H → Prop) (a1 : Nat) (x3 : Int32) (s0 : Int32) : pm_R → pm_H → Prop := pm_K d 62 Q 24 [(0, .ref 12), (1, .ref a1), (3, .int x3)] [.int s0] 118 0 fz 0 0
set_option maxRecDepth 100000 in
theorem b_X6_sumOf_0 {d L : Nat} {fz t : Bool} {Q : pm_R → pm_H → Prop} {a1 : Nat} {I : Nat → Nat → Int32} {J : Nat → Nat → Int64} (ha1 : a1 = 23 ∨ a1 = 27 ∨ a1 = 31)
    (h : t_X6_sumOf_4 d L fz t Q a1 (nI 0) (nI 0) I J) :
    t_X6_sumOf_0 d L fz t Q a1 I J := by
  rcases ha1 with rfl | rfl | rfl <;> exact pm_go d [(4, [0, 1, 2, 3]), (24, [0, 1, 3])] 400 h
theorem e_X6_sumOf {d L : Nat} {fz t : Bool} {Q : pm_R → pm_H → Prop} {a1 : Nat} {I : Nat → Nat → Int32} {J : Nat → Nat → Int64} (ha1 : a1 = 23 ∨ a1 = 27 ∨ a1 = 31)
    (h : t_X6_sumOf_4 d L fz t Q a1 (nI 0) (nI 0) I J) :
    pm_Ev (d + 1) 62 [.ref 12, .ref a1] (pm_hp L fz t I J) Q := pm_Ev_in rfl (b_X6_sumOf_0 ha1 h)
set_option maxRecDepth 100000 in
theorem b_X6_sumOf_4 {d L : Nat} {fz t : Bool} {Q : pm_R → pm_H → Prop} {a1 : Nat} {x2 : Int32} {x3 : Int32} {I : Nat → Nat → Int32} {J : Nat → Nat → Int64} (ha1 : a1 = 23 ∨ a1 = 27 ∨ a1 = 31)
    (h : (((I a1 3) ≤ (x3 + (nI 1)) → Q (.inl (some (.int x2))) (pm_hp L fz t I J)) ∧ (¬ (I a1 3) ≤ (x3 + (nI 1)) → pm_Ev d 61 [.ref 12, .ref a1, .int x3, .int (x3 + (nI 1))] (pm_hp L fz t I J) (K_X6_sumOf_24 d fz t Q a1 x3 x2)))) :
    t_X6_sumOf_4 d L fz t Q a1 x2 x3 I J := by
  rcases ha1 with rfl | rfl | rfl <;> exact pm_go d [(4, [0, 1, 2, 3]), (24, [0, 1, 3])] 400 ⟨fun q0 => ((h).1 q0), fun q0 => ((h).2 q0)⟩
set_option maxRecDepth 100000 in
theorem b_X6_sumOf_24 {d L : Nat} {fz t : Bool} {Q : pm_R → pm_H → Prop} {a1 : Nat} {x3 : Int32} {s0 : Int32} {r : Int32} {I : Nat → Nat → Int32} {J : Nat → Nat → Int64} (ha1 : a1 = 23 ∨ a1 = 27 ∨ a1 = 31)
    (h : t_X6_sumOf_4 d L fz t Q a1 (s0 + r) (x3 + (nI 1)) I J) :
    t_X6_sumOf_24 d L fz t Q a1 x3 s0 r I J := by
  rcases ha1 with rfl | rfl | rfl <;> exact pm_go d [(4, [0, 1, 2, 3]), (24, [0, 1, 3])] 400 h
theorem kb_X6_sumOf_24 {d L : Nat} {fz t : Bool} {Q : pm_R → pm_H → Prop} {a1 : Nat} {x3 : Int32} {s0 : Int32} {r : Int32} {fz1 : Bool} {I : Nat → Nat → Int32} {J : Nat → Nat → Int64} (ha1 : a1 = 23 ∨ a1 = 27 ∨ a1 = 31)
    (h : t_X6_sumOf_4 d L fz t Q a1 (s0 + r) (x3 + (nI 1)) I J) :
    K_X6_sumOf_24 d fz t Q a1 x3 s0 (.inl (some (.int r))) (pm_hp L fz1 t I J) := b_X6_sumOf_24 ha1 h
def t_X6_ofLace_0 (d L : Nat) (fz t : Bool) (Q : pm_R → pm_H → Prop) (a1 : Nat) (a2 : Nat) (I : Nat → Nat → Int32) (J : Nat → Nat → Int64) : Prop := pm_T (pm_Ev d) 63 Q (0, [(0, .ref 12), (1, .ref a1), (2, .ref a2)], [], pm_hp L fz t I J, 0, 0)
def t_X6_ofLace_6 (d L : Nat) (fz t : Bool) (Q : pm_R → pm_H → Prop) (a2 : Nat) (I : Nat → Nat → Int32) (J : Nat → Nat → Int64) : Prop := pm_T (pm_Ev d) 63 Q (6, [(0, .ref 12), (2, .ref a2)], [], pm_hp L fz t I J, 0, 0)
def K_X6_ofLace_6 (d : Nat) (fz t : Bool) (Q : pm_R → pm_H → Prop) (a2 : Nat) : pm_R → pm_H → Prop := pm_K d 63 Q 6 [(0, .ref 12), (2, .ref a2)] [] 118 0 fz 0 0
def t_X6_ofLace_11 (d L : Nat) (fz t : Bool) (Q : pm_R → pm_H → Prop) (r : Int32) (I : Nat → Nat → Int32) (J : Nat → Nat → Int64) : Prop := pm_T (pm_Ev d) 63 Q (11, [], [.int r], pm_hp L fz t I J, 0, 0)
def K_X6_ofLace_11 (d : Nat) (fz t : Bool) (Q : pm_R → pm_H → Prop) : pm_R → pm_H → Prop := pm_K d 63 Q 11 [] [] 118 0 fz 0 0
set_option maxRecDepth 100000 in
theorem b_X6_ofLace_0 {d L : Nat} {fz t : Bool} {Q : pm_R → pm_H → Prop} {a1 : Nat} {a2 : Nat} {I : Nat → Nat → Int32} {J : Nat → Nat → Int64} (ha1 : a1 = 55 ∨ a1 = 70) (ha2 : a2 = 23 ∨ a2 = 27 ∨ a2 = 31)
    (h : pm_Ev d 60 [.ref 12, .ref a1, .ref a2] (pm_hp L fz t I J) (K_X6_ofLace_6 d fz t Q a2)) :
    t_X6_ofLace_0 d L fz t Q a1 a2 I J := by
  rcases ha1 with rfl | rfl <;> rcases ha2 with rfl | rfl | rfl <;> exact pm_go d [(6, [0, 2]), (11, [])] 400 h
theorem e_X6_ofLace {d L : Nat} {fz t : Bool} {Q : pm_R → pm_H → Prop} {a1 : Nat} {a2 : Nat} {I : Nat → Nat → Int32} {J : Nat → Nat → Int64} (ha1 : a1 = 55 ∨ a1 = 70) (ha2 : a2 = 23 ∨ a2 = 27 ∨ a2 = 31)
    (h : pm_Ev d 60 [.ref 12, .ref a1, .ref a2] (pm_hp L fz t I J) (K_X6_ofLace_6 d fz t Q a2)) :
    pm_Ev (d + 1) 63 [.ref 12, .ref a1, .ref a2] (pm_hp L fz t I J) Q := pm_Ev_in rfl (b_X6_ofLace_0 ha1 ha2 h)
set_option maxRecDepth 100000 in
theorem b_X6_ofLace_6 {d L : Nat} {fz t : Bool} {Q : pm_R → pm_H → Prop} {a2 : Nat} {I : Nat → Nat → Int32} {J : Nat → Nat → Int64} (ha2 : a2 = 23 ∨ a2 = 27 ∨ a2 = 31)
    (h : pm_Ev d 62 [.ref 12, .ref a2] (pm_hp L fz t I J) (K_X6_ofLace_11 d fz t Q)) :
    t_X6_ofLace_6 d L fz t Q a2 I J := by
  rcases ha2 with rfl | rfl | rfl <;> exact pm_go d [(6, [0, 2]), (11, [])] 400 h
theorem kb_X6_ofLace_6 {d L : Nat} {fz t : Bool} {Q : pm_R → pm_H → Prop} {a2 : Nat} {fz1 : Bool} {I : Nat → Nat → Int32} {J : Nat → Nat → Int64} (ha2 : a2 = 23 ∨ a2 = 27 ∨ a2 = 31)
    (h : pm_Ev d 62 [.ref 12, .ref a2] (pm_hp L fz t I J) (K_X6_ofLace_11 d fz t Q)) :
    K_X6_ofLace_6 d fz t Q a2 (.inl none) (pm_hp L fz1 t I J) := b_X6_ofLace_6 ha2 h
set_option maxRecDepth 100000 in
theorem b_X6_ofLace_11 {d L : Nat} {fz t : Bool} {Q : pm_R → pm_H → Prop} {r : Int32} {I : Nat → Nat → Int32} {J : Nat → Nat → Int64}
    (h : Q (.inl (some (.int r))) (pm_hp L fz t I J)) :
    t_X6_ofLace_11 d L fz t Q r I J := by
  exact pm_go d [(6, [0, 2]), (11, [])] 400 h
theorem kb_X6_ofLace_11 {d L : Nat} {fz t : Bool} {Q : pm_R → pm_H → Prop} {r : Int32} {fz1 : Bool} {I : Nat → Nat → Int32} {J : Nat → Nat → Int64}
    (h : Q (.inl (some (.int r))) (pm_hp L fz t I J)) :
    K_X6_ofLace_11 d fz t Q (.inl (some (.int r))) (pm_hp L fz1 t I J) := b_X6_ofLace_11 h
def t_X6_bestExchange_0 (d L : Nat) (fz t : Bool) (Q : pm_R → pm_H → Prop) (a1 : Nat) (a2 : Nat) (I : Nat → Nat → Int32) (J : Nat → Nat → Int64) : Prop := pm_T (pm_Ev d) 64 Q (0, [(0, .ref 12), (1, .ref a1), (2, .ref a2)], [], pm_hp L fz t I J, 0, 0)
def t_X6_bestExchange_6 (d L : Nat) (fz t : Bool) (Q : pm_R → pm_H → Prop) (a2 : Nat) (I : Nat → Nat → Int32) (J : Nat → Nat → Int64) : Prop := pm_T (pm_Ev d) 64 Q (6, [(0, .ref 12), (2, .ref a2)], [], pm_hp L fz t I J, 0, 0)
def K_X6_bestExchange_6 (d : Nat) (fz t : Bool) (Q : pm_R → pm_H → Prop) (a2 : Nat) : pm_R → pm_H → Prop := pm_K d 64 Q 6 [(0, .ref 12), (2, .ref a2)] [] 118 0 fz 0 0
def t_X6_bestExchange_11 (d L : Nat) (fz t : Bool) (Q : pm_R → pm_H → Prop) (a2 : Nat) (r : Int32) (I : Nat → Nat → Int32) (J : Nat → Nat → Int64) : Prop := pm_T (pm_Ev d) 64 Q (11, [(0, .ref 12), (2, .ref a2)], [.int r], pm_hp L fz t I J, 0, 0)
def K_X6_bestExchange_11 (d : Nat) (fz t : Bool) (Q : pm_R → pm_H → Prop) (a2 : Nat) : pm_R → pm_H → Prop := pm_K d 64 Q 11 [(0, .ref 12), (2, .ref a2)] [] 118 0 fz 0 0
def t_X6_bestExchange_18 (d L : Nat) (fz t : Bool) (Q : pm_R → pm_H → Prop) (a2 : Nat) (x3 : Int32) (x4 : Int32) (x5 : Int32) (I : Nat → Nat → Int32) (J : Nat → Nat → Int64) : Prop := pm_T (pm_Ev d) 64 Q (18, [(0, .ref 12), (2, .ref a2), (3, .int x3), (4, .int x4), (5, .int x5)], [], pm_hp L fz t I J, 0, 0)
def t_X6_bestExchange_33 (d L : Nat) (fz t : Bool) (Q : pm_R → pm_H → Prop) (a2 : Nat) (x3 : Int32) (x4 : Int32) (x5 : Int32) (x6 : Int32) (I : Nat → Nat → Int32) (J : Nat → Nat → Int64) : Prop := pm_T (pm_Ev d) 64 Q (33, [(0, .ref 12), (2, .ref a2), (3, .int x3), (4, .int x4), (5, .int x5), (6, .int x6)], [], pm_hp L fz t I J, 0, 0)
def t_X6_bestExchange_50 (d L : Nat) (fz t : Bool) (Q : pm_R → pm_H → Prop) (a2 : Nat) (x3 : Int32) (x4 : Int32) (x5 : Int32) (x6 : Int32) (I : Nat → Nat → Int32) (J : Nat → Nat → Int64) : Prop := pm_T (pm_Ev d) 64 Q (50, [(0, .ref 12), (2, .ref a2), (3, .int x3), (4, .int x4), (5, .int x5), (6, .int x6)], [], pm_hp L fz t I J, 0, 0)
def K_X6_bestExchange_50 (d : Nat) (fz t : Bool) (Q : pm_R → pm_H → Prop) (a2 : Nat) (x3 : Int32) (x4 : Int32) (x5 : Int32) (x6 : Int32) : pm_R → pm_H → Prop := pm_K d 64 Q 50 [(0, .ref 12), (2, .ref a2), (3, .int x3), (4, .int x4), (5, .int x5), (6, .int x6)] [] 118 0 fz 0 0
def t_X6_bestExchange_55 (d L : Nat) (fz t : Bool) (Q : pm_R → pm_H → Prop) (a2 : Nat) (x3 : Int32) (x4 : Int32) (x5 : Int32) (x6 : Int32) (r : Int32) (I : Nat → Nat → Int32) (J : Nat → Nat → Int64) : Prop := pm_T (pm_Ev d) 64 Q (55, [(0, .ref 12), (2, .ref a2), (3, .int x3), (4, .int x4), (5, .int x5), (6, .int x6)], [.int r], pm_hp L fz t I J, 0, 0)
def K_X6_bestExchange_55 (d : Nat) (fz t : Bool) (Q : pm_R → pm_H → Prop) (a2 : Nat) (x3 : Int32) (x4 : Int32) (x5 : Int32) (x6 : Int32) : pm_R → pm_H → Prop := pm_K d 64 Q 55 [(0, .ref 12), (2, .ref a2), (3, .int x3), (4, .int x4), (5, .int x5), (6, .int x6)] [] 118 0 fz 0 0
def t_X6_bestExchange_65 (d L : Nat) (fz t : Bool) (Q : pm_R → pm_H → Prop) (a2 : Nat) (x3 : Int32) (x4 : Int32) (x5 : Int32) (x6 : Int32) (x7 : Int32) (I : Nat → Nat → Int32) (J : Nat → Nat → Int64) : Prop := pm_T (pm_Ev d) 64 Q (65, [(0, .ref 12), (2, .ref a2), (3, .int x3), (4, .int x4), (5, .int x5), (6, .int x6), (7, .int x7)], [], pm_hp L fz t I J, 0, 0)
def K_X6_bestExchange_65 (d : Nat) (fz t : Bool) (Q : pm_R → pm_H → Prop) (a2 : Nat) (x3 : Int32) (x4 : Int32) (x5 : Int32) (x6 : Int32) (x7 : Int32) : pm_R → pm_H → Prop := pm_K d 64 Q 65 [(0, .ref 12), (2, .ref a2), (3, .int x3), (4, .int x4), (5, .int x5), (6, .int x6), (7, .int x7)] [] 118 0 fz 0 0
set_option maxRecDepth 100000 in
theorem b_X6_bestExchange_0 {d L : Nat} {fz t : Bool} {Q : pm_R → pm_H → Prop} {a1 : Nat} {a2 : Nat} {I : Nat → Nat → Int32} {J : Nat → Nat → Int64} (ha1 : a1 = 55 ∨ a1 = 70) (ha2 : a2 = 23 ∨ a2 = 27 ∨ a2 = 31)
    (h : pm_Ev d 60 [.ref 12, .ref a1, .ref a2] (pm_hp L fz t I J) (K_X6_bestExchange_6 d fz t Q a2)) :
    t_X6_bestExchange_0 d L fz t Q a1 a2 I J := by
  rcases ha1 with rfl | rfl <;> rcases ha2 with rfl | rfl | rfl <;> exact pm_go d [(6, [0, 2]), (11, [0, 2]), (18, [0, 2, 3, 4, 5]), (33, [0, 2, 3, 4, 5, 6]), (50, [0, 2, 3, 4, 5, 6]), (55, [0, 2, 3, 4, 5, 6]), (65, [0, 2, 3, 4, 5, 6, 7])] 400 h
theorem e_X6_bestExchange {d L : Nat} {fz t : Bool} {Q : pm_R → pm_H → Prop} {a1 : Nat} {a2 : Nat} {I : Nat → Nat → Int32} {J : Nat → Nat → Int64} (ha1 : a1 = 55 ∨ a1 = 70) (ha2 : a2 = 23 ∨ a2 = 27 ∨ a2 = 31)
    (h : pm_Ev d 60 [.ref 12, .ref a1, .ref a2] (pm_hp L fz t I J) (K_X6_bestExchange_6 d fz t Q a2)) :
    pm_Ev (d + 1) 64 [.ref 12, .ref a1, .ref a2] (pm_hp L fz t I J) Q := pm_Ev_in rfl (b_X6_bestExchange_0 ha1 ha2 h)
set_option maxRecDepth 100000 in
theorem b_X6_bestExchange_6 {d L : Nat} {fz t : Bool} {Q : pm_R → pm_H → Prop} {a2 : Nat} {I : Nat → Nat → Int32} {J : Nat → Nat → Int64} (ha2 : a2 = 23 ∨ a2 = 27 ∨ a2 = 31)
    (h : pm_Ev d 62 [.ref 12, .ref a2] (pm_hp L fz t I J) (K_X6_bestExchange_11 d fz t Q a2)) :
    t_X6_bestExchange_6 d L fz t Q a2 I J := by
  rcases ha2 with rfl | rfl | rfl <;> exact pm_go d [(6, [0, 2]), (11, [0, 2]), (18, [0, 2, 3, 4, 5]), (33, [0, 2, 3, 4, 5, 6]), (50, [0, 2, 3, 4, 5, 6]), (55, [0, 2, 3, 4, 5, 6]), (65, [0, 2, 3, 4, 5, 6, 7])] 400 h
theorem kb_X6_bestExchange_6 {d L : Nat} {fz t : Bool} {Q : pm_R → pm_H → Prop} {a2 : Nat} {fz1 : Bool} {I : Nat → Nat → Int32} {J : Nat → Nat → Int64} (ha2 : a2 = 23 ∨ a2 = 27 ∨ a2 = 31)
    (h : pm_Ev d 62 [.ref 12, .ref a2] (pm_hp L fz t I J) (K_X6_bestExchange_11 d fz t Q a2)) :
    K_X6_bestExchange_6 d fz t Q a2 (.inl none) (pm_hp L fz1 t I J) := b_X6_bestExchange_6 ha2 h
set_option maxRecDepth 100000 in
theorem b_X6_bestExchange_11 {d L : Nat} {fz t : Bool} {Q : pm_R → pm_H → Prop} {a2 : Nat} {r : Int32} {I : Nat → Nat → Int32} {J : Nat → Nat → Int64} (ha2 : a2 = 23 ∨ a2 = 27 ∨ a2 = 31)
    (h : t_X6_bestExchange_18 d L fz t Q a2 r (-1 : Int32) (nI 0) I J) :
    t_X6_bestExchange_11 d L fz t Q a2 r I J := by
  rcases ha2 with rfl | rfl | rfl <;> exact pm_go d [(6, [0, 2]), (11, [0, 2]), (18, [0, 2, 3, 4, 5]), (33, [0, 2, 3, 4, 5, 6]), (50, [0, 2, 3, 4, 5, 6]), (55, [0, 2, 3, 4, 5, 6]), (65, [0, 2, 3, 4, 5, 6, 7])] 400 h
theorem kb_X6_bestExchange_11 {d L : Nat} {fz t : Bool} {Q : pm_R → pm_H → Prop} {a2 : Nat} {r : Int32} {fz1 : Bool} {I : Nat → Nat → Int32} {J : Nat → Nat → Int64} (ha2 : a2 = 23 ∨ a2 = 27 ∨ a2 = 31)
    (h : t_X6_bestExchange_18 d L fz t Q a2 r (-1 : Int32) (nI 0) I J) :
    K_X6_bestExchange_11 d fz t Q a2 (.inl (some (.int r))) (pm_hp L fz1 t I J) := b_X6_bestExchange_11 ha2 h
set_option maxRecDepth 100000 in
theorem b_X6_bestExchange_18 {d L : Nat} {fz t : Bool} {Q : pm_R → pm_H → Prop} {a2 : Nat} {x3 : Int32} {x4 : Int32} {x5 : Int32} {I : Nat → Nat → Int32} {J : Nat → Nat → Int64} (ha2 : a2 = 23 ∨ a2 = 27 ∨ a2 = 31)
    (h : (((I a2 3) ≤ x5 → Q (.inl (some (.int x4))) (pm_hp L fz t I J)) ∧ (¬ (I a2 3) ≤ x5 → t_X6_bestExchange_33 d L fz t Q a2 x3 x4 x5 (x5 + (nI 1)) I J))) :
    t_X6_bestExchange_18 d L fz t Q a2 x3 x4 x5 I J := by
  rcases ha2 with rfl | rfl | rfl <;> exact pm_go d [(6, [0, 2]), (11, [0, 2]), (18, [0, 2, 3, 4, 5]), (33, [0, 2, 3, 4, 5, 6]), (50, [0, 2, 3, 4, 5, 6]), (55, [0, 2, 3, 4, 5, 6]), (65, [0, 2, 3, 4, 5, 6, 7])] 400 ⟨fun q0 => ((h).1 q0), fun q0 => ((h).2 q0)⟩
set_option maxRecDepth 100000 in
theorem b_X6_bestExchange_33 {d L : Nat} {fz t : Bool} {Q : pm_R → pm_H → Prop} {a2 : Nat} {x3 : Int32} {x4 : Int32} {x5 : Int32} {x6 : Int32} {I : Nat → Nat → Int32} {J : Nat → Nat → Int64} (ha2 : a2 = 23 ∨ a2 = 27 ∨ a2 = 31)
    (h : (((I a2 3) ≤ x6 → t_X6_bestExchange_18 d L fz t Q a2 x3 x4 (x5 + (nI 1)) I J) ∧ (¬ (I a2 3) ≤ x6 → pm_Ev d 81 [.ref a2, .int x5, .int x6] (pm_hp L fz t I J) (K_X6_bestExchange_50 d fz t Q a2 x3 x4 x5 x6)))) :
    t_X6_bestExchange_33 d L fz t Q a2 x3 x4 x5 x6 I J := by
  rcases ha2 with rfl | rfl | rfl <;> exact pm_go d [(6, [0, 2]), (11, [0, 2]), (18, [0, 2, 3, 4, 5]), (33, [0, 2, 3, 4, 5, 6]), (50, [0, 2, 3, 4, 5, 6]), (55, [0, 2, 3, 4, 5, 6]), (65, [0, 2, 3, 4, 5, 6, 7])] 400 ⟨fun q0 => ((h).1 q0), fun q0 => ((h).2 q0)⟩
set_option maxRecDepth 100000 in
theorem b_X6_bestExchange_50 {d L : Nat} {fz t : Bool} {Q : pm_R → pm_H → Prop} {a2 : Nat} {x3 : Int32} {x4 : Int32} {x5 : Int32} {x6 : Int32} {I : Nat → Nat → Int32} {J : Nat → Nat → Int64} (ha2 : a2 = 23 ∨ a2 = 27 ∨ a2 = 31)
    (h : pm_Ev d 62 [.ref 12, .ref a2] (pm_hp L fz t I J) (K_X6_bestExchange_55 d fz t Q a2 x3 x4 x5 x6)) :
    t_X6_bestExchange_50 d L fz t Q a2 x3 x4 x5 x6 I J := by
  rcases ha2 with rfl | rfl | rfl <;> exact pm_go d [(6, [0, 2]), (11, [0, 2]), (18, [0, 2, 3, 4, 5]), (33, [0, 2, 3, 4, 5, 6]), (50, [0, 2, 3, 4, 5, 6]), (55, [0, 2, 3, 4, 5, 6]), (65, [0, 2, 3, 4, 5, 6, 7])] 400 h
theorem kb_X6_bestExchange_50 {d L : Nat} {fz t : Bool} {Q : pm_R → pm_H → Prop} {a2 : Nat} {x3 : Int32} {x4 : Int32} {x5 : Int32} {x6 : Int32} {fz1 : Bool} {I : Nat → Nat → Int32} {J : Nat → Nat → Int64} (ha2 : a2 = 23 ∨ a2 = 27 ∨ a2 = 31)
    (h : pm_Ev d 62 [.ref 12, .ref a2] (pm_hp L fz t I J) (K_X6_bestExchange_55 d fz t Q a2 x3 x4 x5 x6)) :
    K_X6_bestExchange_50 d fz t Q a2 x3 x4 x5 x6 (.inl none) (pm_hp L fz1 t I J) := b_X6_bestExchange_50 ha2 h
set_option maxRecDepth 100000 in
theorem b_X6_bestExchange_55 {d L : Nat} {fz t : Bool} {Q : pm_R → pm_H → Prop} {a2 : Nat} {x3 : Int32} {x4 : Int32} {x5 : Int32} {x6 : Int32} {r : Int32} {I : Nat → Nat → Int32} {J : Nat → Nat → Int64} (ha2 : a2 = 23 ∨ a2 = 27 ∨ a2 = 31)
    (h : pm_Ev d 81 [.ref a2, .int x5, .int x6] (pm_hp L fz t I J) (K_X6_bestExchange_65 d fz t Q a2 x3 x4 x5 x6 r)) :
    t_X6_bestExchange_55 d L fz t Q a2 x3 x4 x5 x6 r I J := by
  rcases ha2 with rfl | rfl | rfl <;> exact pm_go d [(6, [0, 2]), (11, [0, 2]), (18, [0, 2, 3, 4, 5]), (33, [0, 2, 3, 4, 5, 6]), (50, [0, 2, 3, 4, 5, 6]), (55, [0, 2, 3, 4, 5, 6]), (65, [0, 2, 3, 4, 5, 6, 7])] 400 h
theorem kb_X6_bestExchange_55 {d L : Nat} {fz t : Bool} {Q : pm_R → pm_H → Prop} {a2 : Nat} {x3 : Int32} {x4 : Int32} {x5 : Int32} {x6 : Int32} {r : Int32} {fz1 : Bool} {I : Nat → Nat → Int32} {J : Nat → Nat → Int64} (ha2 : a2 = 23 ∨ a2 = 27 ∨ a2 = 31)
    (h : pm_Ev d 81 [.ref a2, .int x5, .int x6] (pm_hp L fz t I J) (K_X6_bestExchange_65 d fz t Q a2 x3 x4 x5 x6 r)) :
    K_X6_bestExchange_55 d fz t Q a2 x3 x4 x5 x6 (.inl (some (.int r))) (pm_hp L fz1 t I J) := b_X6_bestExchange_55 ha2 h
set_option maxRecDepth 100000 in
theorem b_X6_bestExchange_65 {d L : Nat} {fz t : Bool} {Q : pm_R → pm_H → Prop} {a2 : Nat} {x3 : Int32} {x4 : Int32} {x5 : Int32} {x6 : Int32} {x7 : Int32} {I : Nat → Nat → Int32} {J : Nat → Nat → Int64} (ha2 : a2 = 23 ∨ a2 = 27 ∨ a2 = 31)
    (h : ((x3 ≤ x7 → t_X6_bestExchange_33 d L fz t Q a2 x3 x4 x5 (x6 + (nI 1)) I J) ∧ (¬ x3 ≤ x7 → t_X6_bestExchange_33 d L fz t Q a2 x7 (((nI 100) * x5) + x6) x5 (x6 + (nI 1)) I J))) :
    t_X6_bestExchange_65 d L fz t Q a2 x3 x4 x5 x6 x7 I J := by
  rcases ha2 with rfl | rfl | rfl <;> exact pm_go d [(6, [0, 2]), (11, [0, 2]), (18, [0, 2, 3, 4, 5]), (33, [0, 2, 3, 4, 5, 6]), (50, [0, 2, 3, 4, 5, 6]), (55, [0, 2, 3, 4, 5, 6]), (65, [0, 2, 3, 4, 5, 6, 7])] 400 ⟨fun q0 => ((h).1 q0), fun q0 => ((h).2 q0)⟩
theorem kb_X6_bestExchange_65 {d L : Nat} {fz t : Bool} {Q : pm_R → pm_H → Prop} {a2 : Nat} {x3 : Int32} {x4 : Int32} {x5 : Int32} {x6 : Int32} {x7 : Int32} {fz1 : Bool} {I : Nat → Nat → Int32} {J : Nat → Nat → Int64} (ha2 : a2 = 23 ∨ a2 = 27 ∨ a2 = 31)
    (h : ((x3 ≤ x7 → t_X6_bestExchange_33 d L fz t Q a2 x3 x4 x5 (x6 + (nI 1)) I J) ∧ (¬ x3 ≤ x7 → t_X6_bestExchange_33 d L fz t Q a2 x7 (((nI 100) * x5) + x6) x5 (x6 + (nI 1)) I J))) :
    K_X6_bestExchange_65 d fz t Q a2 x3 x4 x5 x6 x7 (.inl none) (pm_hp L fz1 t I J) := b_X6_bestExchange_65 ha2 h
def t_X6_bestOrder_0 (d L : Nat) (fz t : Bool) (Q : pm_R → pm_H → Prop) (a1 : Nat) (a2 : Nat) (x3 : Int32) (I : Nat → Nat → Int32) (J : Nat → Nat → Int64) : Prop := pm_T (pm_Ev d) 65 Q (0, [(0, .ref 12), (1, .ref a1), (2, .ref a2), (3, .int x3)], [], pm_hp L fz t I J, 0, 0)
def t_X6_bestOrder_25 (d L : Nat) (fz t : Bool) (Q : pm_R → pm_H → Prop) (a2 : Nat) (x3 : Int32) (I : Nat → Nat → Int32) (J : Nat → Nat → Int64) : Prop := pm_T (pm_Ev d) 65 Q (25, [(0, .ref 12), (2, .ref a2), (3, .int x3)], [], pm_hp L fz t I J, 0, 0)
def K_X6_bestOrder_25 (d : Nat) (fz t : Bool) (Q : pm_R → pm_H → Prop) (a2 : Nat) (x3 : Int32) : pm_R → pm_H → Prop := pm_K d 65 Q 25 [(0, .ref 12), (2, .ref a2), (3, .int x3)] [] 118 0 fz 0 0
def t_X6_bestOrder_39 (d L : Nat) (fz t : Bool) (Q : pm_R → pm_H → Prop) (a2 : Nat) (x3 : Int32) (x4 : Int32) (x5 : Int32) (I : Nat → Nat → Int32) (J : Nat → Nat → Int64) : Prop := pm_T (pm_Ev d) 65 Q (39, [(0, .ref 12), (2, .ref a2), (3, .int x3), (4, .int x4), (5, .int x5)], [], pm_hp L fz t I J, 0, 0)
def t_X6_bestOrder_133 (d L : Nat) (fz t : Bool) (Q : pm_R → pm_H → Prop) (r : Int32) (I : Nat → Nat → Int32) (J : Nat → Nat → Int64) : Prop := pm_T (pm_Ev d) 65 Q (133, [], [.int r], pm_hp L fz t I J, 0, 0)
def K_X6_bestOrder_133 (d : Nat) (fz t : Bool) (Q : pm_R → pm_H → Prop) : pm_R → pm_H → Prop := pm_K d 65 Q 133 [] [] 118 0 fz 0 0
def t_X6_bestOrder_124 (d L : Nat) (fz t : Bool) (Q : pm_R → pm_H → Prop) (r : Int32) (I : Nat → Nat → Int32) (J : Nat → Nat → Int64) : Prop := pm_T (pm_Ev d) 65 Q (124, [], [.int r], pm_hp L fz t I J, 0, 0)
def K_X6_bestOrder_124 (d : Nat) (fz t : Bool) (Q : pm_R → pm_H → Prop) : pm_R → pm_H → Prop := pm_K d 65 Q 124 [] [] 118 0 fz 0 0
def t_X6_bestOrder_47 (d L : Nat) (fz t : Bool) (Q : pm_R → pm_H → Prop) (a2 : Nat) (x3 : Int32) (x4 : Int32) (x5 : Int32) (x6 : Int32) (I : Nat → Nat → Int32) (J : Nat → Nat → Int64) : Prop := pm_T (pm_Ev d) 65 Q (47, [(0, .ref 12), (2, .ref a2), (3, .int x3), (4, .int x4), (5, .int x5), (6, .int x6)], [], pm_hp L fz t I J, 0, 0)
def t_X6_bestOrder_99 (d L : Nat) (fz t : Bool) (Q : pm_R → pm_H → Prop) (a2 : Nat) (x3 : Int32) (x4 : Int32) (x5 : Int32) (x6 : Int32) (s1 : Int32) (r : Int32) (I : Nat → Nat → Int32) (J : Nat → Nat → Int64) : Prop := pm_T (pm_Ev d) 65 Q (99, [(0, .ref 12), (2, .ref a2), (3, .int x3), (4, .int x4), (5, .int x5), (6, .int x6)], [.int r, .int s1, .ref 15], pm_hp L fz t I J, 0, 0)
def K_X6_bestOrder_99 (d : Nat) (fz t : Bool) (Q : pm_R → pm_H → Prop) (a2 : Nat) (x3 : Int32) (x4 : Int32) (x5 : Int32) (x6 : Int32) (s1 : Int32) : pm_R → pm_H → Prop := pm_K d 65 Q 99 [(0, .ref 12), (2, .ref a2), (3, .int x3), (4, .int x4), (5, .int x5), (6, .int x6)] [.int s1, .ref 15] 118 0 fz 0 0
set_option maxRecDepth 100000 in
theorem b_X6_bestOrder_0 {d L : Nat} {fz t : Bool} {Q : pm_R → pm_H → Prop} {a1 : Nat} {a2 : Nat} {x3 : Int32} {I : Nat → Nat → Int32} {J : Nat → Nat → Int64} (ha1 : a1 = 55 ∨ a1 = 70) (ha2 : a2 = 23 ∨ a2 = 27 ∨ a2 = 31)
    (h : (((I a2 3) < (nI 1) → Q (.inl (some (.int (nI 0)))) (pm_hp L fz t I J)) ∧ (¬ (I a2 3) < (nI 1) → (((I a2 3) ≤ (nI 9) → pm_Ev d 60 [.ref 12, .ref a1, .ref a2] (pm_hp L fz t I J) (K_X6_bestOrder_25 d fz t Q a2 x3)) ∧ (¬ (I a2 3) ≤ (nI 9) → Q (.inl (some (.int (nI 0)))) (pm_hp L fz t I J)))))) :
    t_X6_bestOrder_0 d L fz t Q a1 a2 x3 I J := by
  rcases ha1 with rfl | rfl <;> rcases ha2 with rfl | rfl | rfl <;> exact pm_go d [(25, [0, 2, 3]), (39, [0, 2, 3, 4, 5]), (47, [0, 2, 3, 4, 5, 6]), (99, [0, 2, 3, 4, 5, 6]), (124, []), (133, [])] 400 ⟨fun q0 => ((h).1 q0), fun q0 => ⟨fun q1 => ((((h).2 q0)).1 q1), fun q1 => ((((h).2 q0)).2 q1)⟩⟩
theorem e_X6_bestOrder {d L : Nat} {fz t : Bool} {Q : pm_R → pm_H → Prop} {a1 : Nat} {a2 : Nat} {x3 : Int32} {I : Nat → Nat → Int32} {J : Nat → Nat → Int64} (ha1 : a1 = 55 ∨ a1 = 70) (ha2 : a2 = 23 ∨ a2 = 27 ∨ a2 = 31)
    (h : (((I a2 3) < (nI 1) → Q (.inl (some (.int (nI 0)))) (pm_hp L fz t I J)) ∧ (¬ (I a2 3) < (nI 1) → (((I a2 3) ≤ (nI 9) → pm_Ev d 60 [.ref 12, .ref a1, .ref a2] (pm_hp L fz t I J) (K_X6_bestOrder_25 d fz t Q a2 x3)) ∧ (¬ (I a2 3) ≤ (nI 9) → Q (.inl (some (.int (nI 0)))) (pm_hp L fz t I J)))))) :
    pm_Ev (d + 1) 65 [.ref 12, .ref a1, .ref a2, .int x3] (pm_hp L fz t I J) Q := pm_Ev_in rfl (b_X6_bestOrder_0 ha1 ha2 h)
set_option maxRecDepth 100000 in
theorem b_X6_bestOrder_25 {d L : Nat} {fz t : Bool} {Q : pm_R → pm_H → Prop} {a2 : Nat} {x3 : Int32} {I : Nat → Nat → Int32} {J : Nat → Nat → Int64} (ha2 : a2 = 23 ∨ a2 = 27 ∨ a2 = 31)
    (h : t_X6_bestOrder_39 d L fz t Q a2 x3 (((nI 1) <<< ((I a2 3) &&& 31)) - (nI 1)) (((nI 1) <<< ((I a2 3) &&& 31)) - (nI 1)) I J) :
    t_X6_bestOrder_25 d L fz t Q a2 x3 I J := by
  rcases ha2 with rfl | rfl | rfl <;> exact pm_go d [(25, [0, 2, 3]), (39, [0, 2, 3, 4, 5]), (47, [0, 2, 3, 4, 5, 6]), (99, [0, 2, 3, 4, 5, 6]), (124, []), (133, [])] 400 h
theorem kb_X6_bestOrder_25 {d L : Nat} {fz t : Bool} {Q : pm_R → pm_H → Prop} {a2 : Nat} {x3 : Int32} {fz1 : Bool} {I : Nat → Nat → Int32} {J : Nat → Nat → Int64} (ha2 : a2 = 23 ∨ a2 = 27 ∨ a2 = 31)
    (h : t_X6_bestOrder_39 d L fz t Q a2 x3 (((nI 1) <<< ((I a2 3) &&& 31)) - (nI 1)) (((nI 1) <<< ((I a2 3) &&& 31)) - (nI 1)) I J) :
    K_X6_bestOrder_25 d fz t Q a2 x3 (.inl none) (pm_hp L fz1 t I J) := b_X6_bestOrder_25 ha2 h
set_option maxRecDepth 100000 in
theorem b_X6_bestOrder_39 {d L : Nat} {fz t : Bool} {Q : pm_R → pm_H → Prop} {a2 : Nat} {x3 : Int32} {x4 : Int32} {x5 : Int32} {I : Nat → Nat → Int32} {J : Nat → Nat → Int64} (ha2 : a2 = 23 ∨ a2 = 27 ∨ a2 = 31)
    (h : ((x5 ≤ (nI 0) → ((¬ x3 = (-1 : Int32) → pm_Ev d 68 [.ref 12, .ref a2, .int x3] (pm_hp L fz t I J) (K_X6_bestOrder_133 d fz t Q)) ∧ (x3 = (-1 : Int32) → pm_Ev d 66 [.ref 12, .ref a2, .int (nI 0), .int (-1 : Int32)] (pm_hp L fz t I J) (K_X6_bestOrder_124 d fz t Q)))) ∧ (¬ x5 ≤ (nI 0) → t_X6_bestOrder_47 d L fz t Q a2 x3 x4 x5 (nI 0) I J))) :
    t_X6_bestOrder_39 d L fz t Q a2 x3 x4 x5 I J := by
  rcases ha2 with rfl | rfl | rfl <;> exact pm_go d [(25, [0, 2, 3]), (39, [0, 2, 3, 4, 5]), (47, [0, 2, 3, 4, 5, 6]), (99, [0, 2, 3, 4, 5, 6]), (124, []), (133, [])] 400 ⟨fun q0 => ⟨fun q1 => ((((h).1 q0)).1 q1), fun q1 => ((((h).1 q0)).2 q1)⟩, fun q0 => ((h).2 q0)⟩
set_option maxRecDepth 100000 in
theorem b_X6_bestOrder_133 {d L : Nat} {fz t : Bool} {Q : pm_R → pm_H → Prop} {r : Int32} {I : Nat → Nat → Int32} {J : Nat → Nat → Int64}
    (h : Q (.inl (some (.int r))) (pm_hp L fz t I J)) :
    t_X6_bestOrder_133 d L fz t Q r I J := by
  exact pm_go d [(25, [0, 2, 3]), (39, [0, 2, 3, 4, 5]), (47, [0, 2, 3, 4, 5, 6]), (99, [0, 2, 3, 4, 5, 6]), (124, []), (133, [])] 400 h
theorem kb_X6_bestOrder_133 {d L : Nat} {fz t : Bool} {Q : pm_R → pm_H → Prop} {r : Int32} {fz1 : Bool} {I : Nat → Nat → Int32} {J : Nat → Nat → Int64}
    (h : Q (.inl (some (.int r))) (pm_hp L fz t I J)) :
    K_X6_bestOrder_133 d fz t Q (.inl (some (.int r))) (pm_hp L fz1 t I J) := b_X6_bestOrder_133 h
set_option maxRecDepth 100000 in
theorem b_X6_bestOrder_124 {d L : Nat} {fz t : Bool} {Q : pm_R → pm_H → Prop} {r : Int32} {I : Nat → Nat → Int32} {J : Nat → Nat → Int64}
    (h : t_X6_bestOrder_133 d L fz t Q r I J) :
    t_X6_bestOrder_124 d L fz t Q r I J := by
  exact pm_go d [(25, [0, 2, 3]), (39, [0, 2, 3, 4, 5]), (47, [0, 2, 3, 4, 5, 6]), (99, [0, 2, 3, 4, 5, 6]), (124, []), (133, [])] 400 h
theorem kb_X6_bestOrder_124 {d L : Nat} {fz t : Bool} {Q : pm_R → pm_H → Prop} {r : Int32} {fz1 : Bool} {I : Nat → Nat → Int32} {J : Nat → Nat → Int64}
    (h : t_X6_bestOrder_133 d L fz t Q r I J) :
    K_X6_bestOrder_124 d fz t Q (.inl (some (.int r))) (pm_hp L fz1 t I J) := b_X6_bestOrder_124 h
set_option maxRecDepth 100000 in
theorem b_X6_bestOrder_47 {d L : Nat} {fz t : Bool} {Q : pm_R → pm_H → Prop} {a2 : Nat} {x3 : Int32} {x4 : Int32} {x5 : Int32} {x6 : Int32} {I : Nat → Nat → Int32} {J : Nat → Nat → Int64} (ha2 : a2 = 23 ∨ a2 = 27 ∨ a2 = 31)
    (h : (((I a2 3) ≤ x6 → t_X6_bestOrder_39 d L fz t Q a2 x3 x4 (x5 + (-1 : Int32)) I J) ∧ (¬ (I a2 3) ≤ x6 → ((¬ ((x5 >>> (x6 &&& 31)) &&& (nI 1)) = (nI 1) → t_X6_bestOrder_47 d L fz t Q a2 x3 x4 x5 (x6 + (nI 1)) I J) ∧ (((x5 >>> (x6 &&& 31)) &&& (nI 1)) = (nI 1) → ((¬ x5 = x4 → pm_Ev d 66 [.ref 12, .ref a2, .int x5, .int x6] (pm_hp L fz t I J) (K_X6_bestOrder_99 d fz t Q a2 x3 x4 x5 x6 ((x5 * (nI 9)) + x6))) ∧ (x5 = x4 → t_X6_bestOrder_99 d L fz t Q a2 x3 x4 x5 x6 ((x5 * (nI 9)) + x6) (nI 0) I J))))))) :
    t_X6_bestOrder_47 d L fz t Q a2 x3 x4 x5 x6 I J := by
  rcases ha2 with rfl | rfl | rfl <;> exact pm_go d [(25, [0, 2, 3]), (39, [0, 2, 3, 4, 5]), (47, [0, 2, 3, 4, 5, 6]), (99, [0, 2, 3, 4, 5, 6]), (124, []), (133, [])] 400 ⟨fun q0 => ((h).1 q0), fun q0 => ⟨fun q1 => ((((h).2 q0)).1 q1), fun q1 => ⟨fun q2 => ((((((h).2 q0)).2 q1)).1 q2), fun q2 => ((((((h).2 q0)).2 q1)).2 q2)⟩⟩⟩
set_option maxRecDepth 100000 in
theorem b_X6_bestOrder_99 {d L : Nat} {fz t : Bool} {Q : pm_R → pm_H → Prop} {a2 : Nat} {x3 : Int32} {x4 : Int32} {x5 : Int32} {x6 : Int32} {s1 : Int32} {r : Int32} {I : Nat → Nat → Int32} {J : Nat → Nat → Int64} (ha2 : a2 = 23 ∨ a2 = 27 ∨ a2 = 31)
    (h : (vp_in s1 4608 ∧ t_X6_bestOrder_47 d L fz t Q a2 x3 x4 x5 (x6 + (nI 1)) (pm_u I 15 (s1).toNatClampNeg r) J)) :
    t_X6_bestOrder_99 d L fz t Q a2 x3 x4 x5 x6 s1 r I J := by
  rcases ha2 with rfl | rfl | rfl <;> exact pm_go d [(25, [0, 2, 3]), (39, [0, 2, 3, 4, 5]), (47, [0, 2, 3, 4, 5, 6]), (99, [0, 2, 3, 4, 5, 6]), (124, []), (133, [])] 400 ⟨(h).1, (h).2⟩
theorem kb_X6_bestOrder_99 {d L : Nat} {fz t : Bool} {Q : pm_R → pm_H → Prop} {a2 : Nat} {x3 : Int32} {x4 : Int32} {x5 : Int32} {x6 : Int32} {s1 : Int32} {r : Int32} {fz1 : Bool} {I : Nat → Nat → Int32} {J : Nat → Nat → Int64} (ha2 : a2 = 23 ∨ a2 = 27 ∨ a2 = 31)
    (h : (vp_in s1 4608 ∧ t_X6_bestOrder_47 d L fz t Q a2 x3 x4 x5 (x6 + (nI 1)) (pm_u I 15 (s1).toNatClampNeg r) J)) :
    K_X6_bestOrder_99 d fz t Q a2 x3 x4 x5 x6 s1 (.inl (some (.int r))) (pm_hp L fz1 t I J) := b_X6_bestOrder_99 ha2 h
def t_X6_leastBehind_0 (d L : Nat) (fz t : Bool) (Q : pm_R → pm_H → Prop) (a1 : Nat) (x2 : Int32) (x3 : Int32) (I : Nat → Nat → Int32) (J : Nat → Nat → Int64) : Prop := pm_T (pm_Ev d) 66 Q (0, [(0, .ref 12), (1, .ref a1), (2, .int x2), (3, .int x3)], [], pm_hp L fz t I J, 0, 0)
def t_X6_leastBehind_7 (d L : Nat) (fz t : Bool) (Q : pm_R → pm_H → Prop) (a1 : Nat) (x2 : Int32) (x3 : Int32) (x4 : Int32) (x5 : Int32) (I : Nat → Nat → Int32) (J : Nat → Nat → Int64) : Prop := pm_T (pm_Ev d) 66 Q (7, [(0, .ref 12), (1, .ref a1), (2, .int x2), (3, .int x3), (4, .int x4), (5, .int x5)], [], pm_hp L fz t I J, 0, 0)
def t_X6_leastBehind_36 (d L : Nat) (fz t : Bool) (Q : pm_R → pm_H → Prop) (a1 : Nat) (x2 : Int32) (x3 : Int32) (x5 : Int32) (s0 : Int32) (r : Int32) (I : Nat → Nat → Int32) (J : Nat → Nat → Int64) : Prop := pm_T (pm_Ev d) 66 Q (36, [(0, .ref 12), (1, .ref a1), (2, .int x2), (3, .int x3), (5, .int x5)], [.int r, .int s0], pm_hp L fz t I J, 0, 0)
def K_X6_leastBehind_36 (d : Nat) (fz t : Bool) (Q : pm_R → pm_H → Prop) (a1 : Nat) (x2 : Int32) (x3 : Int32) (x5 : Int32) (s0 : Int32) : pm_R → pm_H → Prop := pm_K d 66 Q 36 [(0, .ref 12), (1, .ref a1), (2, .int x2), (3, .int x3), (5, .int x5)] [.int s0] 118 0 fz 0 0
set_option maxRecDepth 100000 in
theorem b_X6_leastBehind_0 {d L : Nat} {fz t : Bool} {Q : pm_R → pm_H → Prop} {a1 : Nat} {x2 : Int32} {x3 : Int32} {I : Nat → Nat → Int32} {J : Nat → Nat → Int64} (ha1 : a1 = 23 ∨ a1 = 27 ∨ a1 = 31)
    (h : t_X6_leastBehind_7 d L fz t Q a1 x2 x3 (nI 1000000) (nI 0) I J) :
    t_X6_leastBehind_0 d L fz t Q a1 x2 x3 I J := by
  rcases ha1 with rfl | rfl | rfl <;> exact pm_go d [(7, [0, 1, 2, 3, 4, 5]), (36, [0, 1, 2, 3, 5])] 400 h
theorem e_X6_leastBehind {d L : Nat} {fz t : Bool} {Q : pm_R → pm_H → Prop} {a1 : Nat} {x2 : Int32} {x3 : Int32} {I : Nat → Nat → Int32} {J : Nat → Nat → Int64} (ha1 : a1 = 23 ∨ a1 = 27 ∨ a1 = 31)
    (h : t_X6_leastBehind_7 d L fz t Q a1 x2 x3 (nI 1000000) (nI 0) I J) :
    pm_Ev (d + 1) 66 [.ref 12, .ref a1, .int x2, .int x3] (pm_hp L fz t I J) Q := pm_Ev_in rfl (b_X6_leastBehind_0 ha1 h)
set_option maxRecDepth 100000 in
theorem b_X6_leastBehind_7 {d L : Nat} {fz t : Bool} {Q : pm_R → pm_H → Prop} {a1 : Nat} {x2 : Int32} {x3 : Int32} {x4 : Int32} {x5 : Int32} {I : Nat → Nat → Int32} {J : Nat → Nat → Int64} (ha1 : a1 = 23 ∨ a1 = 27 ∨ a1 = 31)
    (h : (((I a1 3) ≤ x5 → Q (.inl (some (.int x4))) (pm_hp L fz t I J)) ∧ (¬ (I a1 3) ≤ x5 → ((¬ ((x2 >>> (x5 &&& 31)) &&& (nI 1)) = (nI 0) → t_X6_leastBehind_7 d L fz t Q a1 x2 x3 x4 (x5 + (nI 1)) I J) ∧ (((x2 >>> (x5 &&& 31)) &&& (nI 1)) = (nI 0) → pm_Ev d 67 [.ref 12, .ref a1, .int x2, .int x3, .int x5] (pm_hp L fz t I J) (K_X6_leastBehind_36 d fz t Q a1 x2 x3 x5 x4)))))) :
    t_X6_leastBehind_7 d L fz t Q a1 x2 x3 x4 x5 I J := by
  rcases ha1 with rfl | rfl | rfl <;> exact pm_go d [(7, [0, 1, 2, 3, 4, 5]), (36, [0, 1, 2, 3, 5])] 400 ⟨fun q0 => ((h).1 q0), fun q0 => ⟨fun q1 => ((((h).2 q0)).1 q1), fun q1 => ((((h).2 q0)).2 q1)⟩⟩
set_option maxRecDepth 100000 in
theorem b_X6_leastBehind_36 {d L : Nat} {fz t : Bool} {Q : pm_R → pm_H → Prop} {a1 : Nat} {x2 : Int32} {x3 : Int32} {x5 : Int32} {s0 : Int32} {r : Int32} {I : Nat → Nat → Int32} {J : Nat → Nat → Int64} (ha1 : a1 = 23 ∨ a1 = 27 ∨ a1 = 31)
    (h : t_X6_leastBehind_7 d L fz t Q a1 x2 x3 (if r < s0 then r else s0) (x5 + (nI 1)) I J) :
    t_X6_leastBehind_36 d L fz t Q a1 x2 x3 x5 s0 r I J := by
  rcases ha1 with rfl | rfl | rfl <;> exact pm_go d [(7, [0, 1, 2, 3, 4, 5]), (36, [0, 1, 2, 3, 5])] 400 h
theorem kb_X6_leastBehind_36 {d L : Nat} {fz t : Bool} {Q : pm_R → pm_H → Prop} {a1 : Nat} {x2 : Int32} {x3 : Int32} {x5 : Int32} {s0 : Int32} {r : Int32} {fz1 : Bool} {I : Nat → Nat → Int32} {J : Nat → Nat → Int64} (ha1 : a1 = 23 ∨ a1 = 27 ∨ a1 = 31)
    (h : t_X6_leastBehind_7 d L fz t Q a1 x2 x3 (if r < s0 then r else s0) (x5 + (nI 1)) I J) :
    K_X6_leastBehind_36 d fz t Q a1 x2 x3 x5 s0 (.inl (some (.int r))) (pm_hp L fz1 t I J) := b_X6_leastBehind_36 ha1 h
def t_X6_stepTo_0 (d L : Nat) (fz t : Bool) (Q : pm_R → pm_H → Prop) (a1 : Nat) (x2 : Int32) (x3 : Int32) (x4 : Int32) (I : Nat → Nat → Int32) (J : Nat → Nat → Int64) : Prop := pm_T (pm_Ev d) 67 Q (0, [(0, .ref 12), (1, .ref a1), (2, .int x2), (3, .int x3), (4, .int x4)], [], pm_hp L fz t I J, 0, 0)
def t_X6_stepTo_17 (d L : Nat) (fz t : Bool) (Q : pm_R → pm_H → Prop) (x2 : Int32) (x4 : Int32) (r : Int32) (I : Nat → Nat → Int32) (J : Nat → Nat → Int64) : Prop := pm_T (pm_Ev d) 67 Q (17, [(0, .ref 12), (2, .int x2), (4, .int x4)], [.int r], pm_hp L fz t I J, 0, 0)
def K_X6_stepTo_17 (d : Nat) (fz t : Bool) (Q : pm_R → pm_H → Prop) (x2 : Int32) (x4 : Int32) : pm_R → pm_H → Prop := pm_K d 67 Q 17 [(0, .ref 12), (2, .int x2), (4, .int x4)] [] 118 0 fz 0 0
set_option maxRecDepth 100000 in
theorem b_X6_stepTo_0 {d L : Nat} {fz t : Bool} {Q : pm_R → pm_H → Prop} {a1 : Nat} {x2 : Int32} {x3 : Int32} {x4 : Int32} {I : Nat → Nat → Int32} {J : Nat → Nat → Int64} (ha1 : a1 = 23 ∨ a1 = 27 ∨ a1 = 31)
    (h : ((¬ x3 = (-1 : Int32) → pm_Ev d 61 [.ref 12, .ref a1, .int x3, .int x4] (pm_hp L fz t I J) (K_X6_stepTo_17 d fz t Q x2 x4)) ∧ (x3 = (-1 : Int32) → t_X6_stepTo_17 d L fz t Q x2 x4 (nI 0) I J))) :
    t_X6_stepTo_0 d L fz t Q a1 x2 x3 x4 I J := by
  rcases ha1 with rfl | rfl | rfl <;> exact pm_go d [(17, [0, 2, 4])] 400 ⟨fun q0 => ((h).1 q0), fun q0 => ((h).2 q0)⟩
theorem e_X6_stepTo {d L : Nat} {fz t : Bool} {Q : pm_R → pm_H → Prop} {a1 : Nat} {x2 : Int32} {x3 : Int32} {x4 : Int32} {I : Nat → Nat → Int32} {J : Nat → Nat → Int64} (ha1 : a1 = 23 ∨ a1 = 27 ∨ a1 = 31)
    (h : ((¬ x3 = (-1 : Int32) → pm_Ev d 61 [.ref 12, .ref a1, .int x3, .int x4] (pm_hp L fz t I J) (K_X6_stepTo_17 d fz t Q x2 x4)) ∧ (x3 = (-1 : Int32) → t_X6_stepTo_17 d L fz t Q x2 x4 (nI 0) I J))) :
    pm_Ev (d + 1) 67 [.ref 12, .ref a1, .int x2, .int x3, .int x4] (pm_hp L fz t I J) Q := pm_Ev_in rfl (b_X6_stepTo_0 ha1 h)
set_option maxRecDepth 100000 in
theorem b_X6_stepTo_17 {d L : Nat} {fz t : Bool} {Q : pm_R → pm_H → Prop} {x2 : Int32} {x4 : Int32} {r : Int32} {I : Nat → Nat → Int32} {J : Nat → Nat → Int64}
    (h : (vp_in (((x2 ||| ((nI 1) <<< (x4 &&& 31))) * (nI 9)) + x4) 4608 ∧ Q (.inl (some (.int (r + (I 15 ((((x2 ||| ((nI 1) <<< (x4 &&& 31))) * (nI 9)) + x4)).toNatClampNeg))))) (pm_hp L fz t I J))) :
    t_X6_stepTo_17 d L fz t Q x2 x4 r I J := by
  exact pm_go d [(17, [0, 2, 4])] 400 ⟨(h).1, (h).2⟩
theorem kb_X6_stepTo_17 {d L : Nat} {fz t : Bool} {Q : pm_R → pm_H → Prop} {x2 : Int32} {x4 : Int32} {r : Int32} {fz1 : Bool} {I : Nat → Nat → Int32} {J : Nat → Nat → Int64}
    (h : (vp_in (((x2 ||| ((nI 1) <<< (x4 &&& 31))) * (nI 9)) + x4) 4608 ∧ Q (.inl (some (.int (r + (I 15 ((((x2 ||| ((nI 1) <<< (x4 &&& 31))) * (nI 9)) + x4)).toNatClampNeg))))) (pm_hp L fz t I J))) :
    K_X6_stepTo_17 d fz t Q x2 x4 (.inl (some (.int r))) (pm_hp L fz1 t I J) := b_X6_stepTo_17 h
def t_X6_walkTo_0 (d L : Nat) (fz t : Bool) (Q : pm_R → pm_H → Prop) (a1 : Nat) (x2 : Int32) (I : Nat → Nat → Int32) (J : Nat → Nat → Int64) : Prop := pm_T (pm_Ev d) 68 Q (0, [(0, .ref 12), (1, .ref a1), (2, .int x2)], [], pm_hp L fz t I J, 0, 0)
def t_X6_walkTo_8 (d L : Nat) (fz t : Bool) (Q : pm_R → pm_H → Prop) (a1 : Nat) (x2 : Int32) (x3 : Int32) (x4 : Int32) (x5 : Int32) (I : Nat → Nat → Int32) (J : Nat → Nat → Int64) : Prop := pm_T (pm_Ev d) 68 Q (8, [(0, .ref 12), (1, .ref a1), (2, .int x2), (3, .int x3), (4, .int x4), (5, .int x5)], [], pm_hp L fz t I J, 0, 0)
def t_X6_walkTo_29 (d L : Nat) (fz t : Bool) (Q : pm_R → pm_H → Prop) (a1 : Nat) (x2 : Int32) (x3 : Int32) (x4 : Int32) (x5 : Int32) (x6 : Int32) (x7 : Int32) (I : Nat → Nat → Int32) (J : Nat → Nat → Int64) : Prop := pm_T (pm_Ev d) 68 Q (29, [(0, .ref 12), (1, .ref a1), (2, .int x2), (3, .int x3), (4, .int x4), (5, .int x5), (6, .int x6), (7, .int x7)], [], pm_hp L fz t I J, 0, 0)
def t_X6_walkTo_75 (d L : Nat) (fz t : Bool) (Q : pm_R → pm_H → Prop) (a1 : Nat) (x2 : Int32) (x3 : Int32) (x4 : Int32) (x5 : Int32) (x6 : Int32) (x7 : Int32) (r : Int32) (I : Nat → Nat → Int32) (J : Nat → Nat → Int64) : Prop := pm_T (pm_Ev d) 68 Q (75, [(0, .ref 12), (1, .ref a1), (2, .int x2), (3, .int x3), (4, .int x4), (5, .int x5), (6, .int x6), (7, .int x7)], [.int r], pm_hp L fz t I J, 0, 0)
def K_X6_walkTo_75 (d : Nat) (fz t : Bool) (Q : pm_R → pm_H → Prop) (a1 : Nat) (x2 : Int32) (x3 : Int32) (x4 : Int32) (x5 : Int32) (x6 : Int32) (x7 : Int32) : pm_R → pm_H → Prop := pm_K d 68 Q 75 [(0, .ref 12), (1, .ref a1), (2, .int x2), (3, .int x3), (4, .int x4), (5, .int x5), (6, .int x6), (7, .int x7)] [] 118 0 fz 0 0
def t_X6_walkTo_85 (d L : Nat) (fz t : Bool) (Q : pm_R → pm_H → Prop) (a1 : Nat) (x2 : Int32) (x3 : Int32) (x4 : Int32) (x5 : Int32) (x6 : Int32) (x7 : Int32) (s0 : Int32) (r : Int32) (I : Nat → Nat → Int32) (J : Nat → Nat → Int64) : Prop := pm_T (pm_Ev d) 68 Q (85, [(0, .ref 12), (1, .ref a1), (2, .int x2), (3, .int x3), (4, .int x4), (5, .int x5), (6, .int x6), (7, .int x7)], [.int r, .int s0], pm_hp L fz t I J, 0, 0)
def K_X6_walkTo_85 (d : Nat) (fz t : Bool) (Q : pm_R → pm_H → Prop) (a1 : Nat) (x2 : Int32) (x3 : Int32) (x4 : Int32) (x5 : Int32) (x6 : Int32) (x7 : Int32) (s0 : Int32) : pm_R → pm_H → Prop := pm_K d 68 Q 85 [(0, .ref 12), (1, .ref a1), (2, .int x2), (3, .int x3), (4, .int x4), (5, .int x5), (6, .int x6), (7, .int x7)] [.int s0] 118 0 fz 0 0
set_option maxRecDepth 100000 in
theorem b_X6_walkTo_0 {d L : Nat} {fz t : Bool} {Q : pm_R → pm_H → Prop} {a1 : Nat} {x2 : Int32} {I : Nat → Nat → Int32} {J : Nat → Nat → Int64} (ha1 : a1 = 23 ∨ a1 = 27 ∨ a1 = 31)
    (h : t_X6_walkTo_8 d L fz t Q a1 x2 (nI 0) (-1 : Int32) (nI 0) I J) :
    t_X6_walkTo_0 d L fz t Q a1 x2 I J := by
  rcases ha1 with rfl | rfl | rfl <;> exact pm_go d [(8, [0, 1, 2, 3, 4, 5]), (29, [0, 1, 2, 3, 4, 5, 6, 7]), (75, [0, 1, 2, 3, 4, 5, 6, 7]), (85, [0, 1, 2, 3, 4, 5, 6, 7])] 400 h
theorem e_X6_walkTo {d L : Nat} {fz t : Bool} {Q : pm_R → pm_H → Prop} {a1 : Nat} {x2 : Int32} {I : Nat → Nat → Int32} {J : Nat → Nat → Int64} (ha1 : a1 = 23 ∨ a1 = 27 ∨ a1 = 31)
    (h : t_X6_walkTo_8 d L fz t Q a1 x2 (nI 0) (-1 : Int32) (nI 0) I J) :
    pm_Ev (d + 1) 68 [.ref 12, .ref a1, .int x2] (pm_hp L fz t I J) Q := pm_Ev_in rfl (b_X6_walkTo_0 ha1 h)
set_option maxRecDepth 100000 in
theorem b_X6_walkTo_8 {d L : Nat} {fz t : Bool} {Q : pm_R → pm_H → Prop} {a1 : Nat} {x2 : Int32} {x3 : Int32} {x4 : Int32} {x5 : Int32} {I : Nat → Nat → Int32} {J : Nat → Nat → Int64} (ha1 : a1 = 23 ∨ a1 = 27 ∨ a1 = 31)
    (h : ((x2 < x5 → Q (.inl (some (.int x4))) (pm_hp L fz t I J)) ∧ (¬ x2 < x5 → (((I a1 3) ≤ x5 → Q (.inl (some (.int x4))) (pm_hp L fz t I J)) ∧ (¬ (I a1 3) ≤ x5 → t_X6_walkTo_29 d L fz t Q a1 x2 x3 x4 x5 (-1 : Int32) (nI 0) I J))))) :
    t_X6_walkTo_8 d L fz t Q a1 x2 x3 x4 x5 I J := by
  rcases ha1 with rfl | rfl | rfl <;> exact pm_go d [(8, [0, 1, 2, 3, 4, 5]), (29, [0, 1, 2, 3, 4, 5, 6, 7]), (75, [0, 1, 2, 3, 4, 5, 6, 7]), (85, [0, 1, 2, 3, 4, 5, 6, 7])] 400 ⟨fun q0 => ((h).1 q0), fun q0 => ⟨fun q1 => ((((h).2 q0)).1 q1), fun q1 => ((((h).2 q0)).2 q1)⟩⟩
set_option maxRecDepth 100000 in
theorem b_X6_walkTo_29 {d L : Nat} {fz t : Bool} {Q : pm_R → pm_H → Prop} {a1 : Nat} {x2 : Int32} {x3 : Int32} {x4 : Int32} {x5 : Int32} {x6 : Int32} {x7 : Int32} {I : Nat → Nat → Int32} {J : Nat → Nat → Int64} (ha1 : a1 = 23 ∨ a1 = 27 ∨ a1 = 31)
    (h : (((I a1 3) ≤ x7 → ((¬ x6 = (-1 : Int32) → t_X6_walkTo_8 d L fz t Q a1 x2 (x3 ||| ((nI 1) <<< (x6 &&& 31))) x6 (x5 + (nI 1)) I J) ∧ (x6 = (-1 : Int32) → Q (.inl (some (.int x4))) (pm_hp L fz t I J)))) ∧ (¬ (I a1 3) ≤ x7 → ((¬ ((x3 >>> (x7 &&& 31)) &&& (nI 1)) = (nI 0) → t_X6_walkTo_29 d L fz t Q a1 x2 x3 x4 x5 x6 (x7 + (nI 1)) I J) ∧ (((x3 >>> (x7 &&& 31)) &&& (nI 1)) = (nI 0) → ((x6 = (-1 : Int32) → t_X6_walkTo_29 d L fz t Q a1 x2 x3 x4 x5 x7 (x7 + (nI 1)) I J) ∧ (¬ x6 = (-1 : Int32) → pm_Ev d 67 [.ref 12, .ref a1, .int x3, .int x4, .int x7] (pm_hp L fz t I J) (K_X6_walkTo_75 d fz t Q a1 x2 x3 x4 x5 x6 x7)))))))) :
    t_X6_walkTo_29 d L fz t Q a1 x2 x3 x4 x5 x6 x7 I J := by
  rcases ha1 with rfl | rfl | rfl <;> exact pm_go d [(8, [0, 1, 2, 3, 4, 5]), (29, [0, 1, 2, 3, 4, 5, 6, 7]), (75, [0, 1, 2, 3, 4, 5, 6, 7]), (85, [0, 1, 2, 3, 4, 5, 6, 7])] 400 ⟨fun q0 => ⟨fun q1 => ((((h).1 q0)).1 q1), fun q1 => ((((h).1 q0)).2 q1)⟩, fun q0 => ⟨fun q1 => ⟨fun _ => ((((h).2 q0)).1 q1), fun q => absurd (by decide) q⟩, fun q1 => ⟨fun q => absurd q (by decide), fun _ => ⟨fun q2 => ((((((h).2 q0)).2 q1)).1 q2), fun q2 => ((((((h).2 q0)).2 q1)).2 q2)⟩⟩⟩⟩
set_option maxRecDepth 100000 in
theorem b_X6_walkTo_75 {d L : Nat} {fz t : Bool} {Q : pm_R → pm_H → Prop} {a1 : Nat} {x2 : Int32} {x3 : Int32} {x4 : Int32} {x5 : Int32} {x6 : Int32} {x7 : Int32} {r : Int32} {I : Nat → Nat → Int32} {J : Nat → Nat → Int64} (ha1 : a1 = 23 ∨ a1 = 27 ∨ a1 = 31)
    (h : pm_Ev d 67 [.ref 12, .ref a1, .int x3, .int x4, .int x6] (pm_hp L fz t I J) (K_X6_walkTo_85 d fz t Q a1 x2 x3 x4 x5 x6 x7 r)) :
    t_X6_walkTo_75 d L fz t Q a1 x2 x3 x4 x5 x6 x7 r I J := by
  rcases ha1 with rfl | rfl | rfl <;> exact pm_go d [(8, [0, 1, 2, 3, 4, 5]), (29, [0, 1, 2, 3, 4, 5, 6, 7]), (75, [0, 1, 2, 3, 4, 5, 6, 7]), (85, [0, 1, 2, 3, 4, 5, 6, 7])] 400 h
theorem kb_X6_walkTo_75 {d L : Nat} {fz t : Bool} {Q : pm_R → pm_H → Prop} {a1 : Nat} {x2 : Int32} {x3 : Int32} {x4 : Int32} {x5 : Int32} {x6 : Int32} {x7 : Int32} {r : Int32} {fz1 : Bool} {I : Nat → Nat → Int32} {J : Nat → Nat → Int64} (ha1 : a1 = 23 ∨ a1 = 27 ∨ a1 = 31)
    (h : pm_Ev d 67 [.ref 12, .ref a1, .int x3, .int x4, .int x6] (pm_hp L fz t I J) (K_X6_walkTo_85 d fz t Q a1 x2 x3 x4 x5 x6 x7 r)) :
    K_X6_walkTo_75 d fz t Q a1 x2 x3 x4 x5 x6 x7 (.inl (some (.int r))) (pm_hp L fz1 t I J) := b_X6_walkTo_75 ha1 h
set_option maxRecDepth 100000 in
theorem b_X6_walkTo_85 {d L : Nat} {fz t : Bool} {Q : pm_R → pm_H → Prop} {a1 : Nat} {x2 : Int32} {x3 : Int32} {x4 : Int32} {x5 : Int32} {x6 : Int32} {x7 : Int32} {s0 : Int32} {r : Int32} {I : Nat → Nat → Int32} {J : Nat → Nat → Int64} (ha1 : a1 = 23 ∨ a1 = 27 ∨ a1 = 31)
    (h : ((r ≤ s0 → t_X6_walkTo_29 d L fz t Q a1 x2 x3 x4 x5 x6 (x7 + (nI 1)) I J) ∧ (¬ r ≤ s0 → t_X6_walkTo_29 d L fz t Q a1 x2 x3 x4 x5 x7 (x7 + (nI 1)) I J))) :
    t_X6_walkTo_85 d L fz t Q a1 x2 x3 x4 x5 x6 x7 s0 r I J := by
  rcases ha1 with rfl | rfl | rfl <;> exact pm_go d [(8, [0, 1, 2, 3, 4, 5]), (29, [0, 1, 2, 3, 4, 5, 6, 7]), (75, [0, 1, 2, 3, 4, 5, 6, 7]), (85, [0, 1, 2, 3, 4, 5, 6, 7])] 400 ⟨fun q0 => ((h).1 q0), fun q0 => ((h).2 q0)⟩
theorem kb_X6_walkTo_85 {d L : Nat} {fz t : Bool} {Q : pm_R → pm_H → Prop} {a1 : Nat} {x2 : Int32} {x3 : Int32} {x4 : Int32} {x5 : Int32} {x6 : Int32} {x7 : Int32} {s0 : Int32} {r : Int32} {fz1 : Bool} {I : Nat → Nat → Int32} {J : Nat → Nat → Int64} (ha1 : a1 = 23 ∨ a1 = 27 ∨ a1 = 31)
    (h : ((r ≤ s0 → t_X6_walkTo_29 d L fz t Q a1 x2 x3 x4 x5 x6 (x7 + (nI 1)) I J) ∧ (¬ r ≤ s0 → t_X6_walkTo_29 d L fz t Q a1 x2 x3 x4 x5 x7 (x7 + (nI 1)) I J))) :
    K_X6_walkTo_85 d fz t Q a1 x2 x3 x4 x5 x6 x7 s0 (.inl (some (.int r))) (pm_hp L fz1 t I J) := b_X6_walkTo_85 ha1 h
def t_X7_clear_0 (d L : Nat) (fz t : Bool) (Q : pm_R → pm_H → Prop) (a0 : Nat) (I : Nat → Nat → Int32) (J : Nat → Nat → Int64) : Prop := pm_T (pm_Ev d) 69 Q (0, [(0, .ref a0)], [], pm_hp L fz t I J, 0, 0)
def t_X7_clear_11 (d L : Nat) (fz t : Bool) (Q : pm_R → pm_H → Prop) (a0 : Nat) (I : Nat → Nat → Int32) (J : Nat → Nat → Int64) : Prop := pm_T (pm_Ev d) 69 Q (11, [(0, .ref a0)], [], pm_hp L fz t I J, 0, 0)
def K_X7_clear_11 (d : Nat) (fz t : Bool) (Q : pm_R → pm_H → Prop) (a0 : Nat) : pm_R → pm_H → Prop := pm_K d 69 Q 11 [(0, .ref a0)] [] 118 0 fz 0 0
def t_X7_clear_34 (d L : Nat) (fz t : Bool) (Q : pm_R → pm_H → Prop) (a0 : Nat) (I : Nat → Nat → Int32) (J : Nat → Nat → Int64) : Prop := pm_T (pm_Ev d) 69 Q (34, [(0, .ref a0)], [], pm_hp L fz t I J, 0, 0)
def K_X7_clear_34 (d : Nat) (fz t : Bool) (Q : pm_R → pm_H → Prop) (a0 : Nat) : pm_R → pm_H → Prop := pm_K d 69 Q 34 [(0, .ref a0)] [] 118 0 fz 0 0
def t_X7_clear_42 (d L : Nat) (fz t : Bool) (Q : pm_R → pm_H → Prop) (a0 : Nat) (I : Nat → Nat → Int32) (J : Nat → Nat → Int64) : Prop := pm_T (pm_Ev d) 69 Q (42, [(0, .ref a0)], [], pm_hp L fz t I J, 0, 0)
def K_X7_clear_42 (d : Nat) (fz t : Bool) (Q : pm_R → pm_H → Prop) (a0 : Nat) : pm_R → pm_H → Prop := pm_K d 69 Q 42 [(0, .ref a0)] [] 118 0 fz 0 0
def t_X7_clear_49 (d L : Nat) (fz t : Bool) (Q : pm_R → pm_H → Prop) (a0 : Nat) (I : Nat → Nat → Int32) (J : Nat → Nat → Int64) : Prop := pm_T (pm_Ev d) 69 Q (49, [(0, .ref a0)], [], pm_hp L fz t I J, 0, 0)
def K_X7_clear_49 (d : Nat) (fz t : Bool) (Q : pm_R → pm_H → Prop) (a0 : Nat) : pm_R → pm_H → Prop := pm_K d 69 Q 49 [(0, .ref a0)] [] 118 0 fz 0 0
def t_X7_clear_56 (d L : Nat) (fz t : Bool) (Q : pm_R → pm_H → Prop) (I : Nat → Nat → Int32) (J : Nat → Nat → Int64) : Prop := pm_T (pm_Ev d) 69 Q (56, [], [], pm_hp L fz t I J, 0, 0)
def K_X7_clear_56 (d : Nat) (fz t : Bool) (Q : pm_R → pm_H → Prop) : pm_R → pm_H → Prop := pm_K d 69 Q 56 [] [] 118 0 fz 0 0
set_option maxRecDepth 100000 in
theorem b_X7_clear_0 {d L : Nat} {fz t : Bool} {Q : pm_R → pm_H → Prop} {a0 : Nat} {I : Nat → Nat → Int32} {J : Nat → Nat → Int64} (ha0 : a0 = 55 ∨ a0 = 70)
    (h : pm_Ev d 70 [.ref a0, .int (nI 8)] (pm_hp L fz t (pm_u I a0 10 (nI 0)) J) (K_X7_clear_11 d fz t Q a0)) :
    t_X7_clear_0 d L fz t Q a0 I J := by
  rcases ha0 with rfl | rfl <;> exact pm_go d [(11, [0]), (34, [0]), (42, [0]), (49, [0]), (56, [])] 400 ⟨Or.inl rfl, h⟩
theorem e_X7_clear {d L : Nat} {fz t : Bool} {Q : pm_R → pm_H → Prop} {a0 : Nat} {I : Nat → Nat → Int32} {J : Nat → Nat → Int64} (ha0 : a0 = 55 ∨ a0 = 70)
    (h : pm_Ev d 70 [.ref a0, .int (nI 8)] (pm_hp L fz t (pm_u I a0 10 (nI 0)) J) (K_X7_clear_11 d fz t Q a0)) :
    pm_Ev (d + 1) 69 [.ref a0] (pm_hp L fz t I J) Q := pm_Ev_in rfl (b_X7_clear_0 ha0 h)
set_option maxRecDepth 100000 in
theorem b_X7_clear_11 {d L : Nat} {fz t : Bool} {Q : pm_R → pm_H → Prop} {a0 : Nat} {I : Nat → Nat → Int32} {J : Nat → Nat → Int64} (ha0 : a0 = 55 ∨ a0 = 70)
    (h : pm_Ev d 237 [.ref (a0 + 8), .int (nI 0)] (pm_hp L fz t (pm_u (pm_u (pm_u I a0 13 (nI 0)) a0 14 (nI 0)) a0 15 (nI 0)) J) (K_X7_clear_34 d fz t Q a0)) :
    t_X7_clear_11 d L fz t Q a0 I J := by
  rcases ha0 with rfl | rfl <;> exact pm_go d [(11, [0]), (34, [0]), (42, [0]), (49, [0]), (56, [])] 400 h
theorem kb_X7_clear_11 {d L : Nat} {fz t : Bool} {Q : pm_R → pm_H → Prop} {a0 : Nat} {fz1 : Bool} {I : Nat → Nat → Int32} {J : Nat → Nat → Int64} (ha0 : a0 = 55 ∨ a0 = 70)
    (h : pm_Ev d 237 [.ref (a0 + 8), .int (nI 0)] (pm_hp L fz t (pm_u (pm_u (pm_u I a0 13 (nI 0)) a0 14 (nI 0)) a0 15 (nI 0)) J) (K_X7_clear_34 d fz t Q a0)) :
    K_X7_clear_11 d fz t Q a0 (.inl none) (pm_hp L fz1 t I J) := b_X7_clear_11 ha0 h
set_option maxRecDepth 100000 in
theorem b_X7_clear_34 {d L : Nat} {fz t : Bool} {Q : pm_R → pm_H → Prop} {a0 : Nat} {I : Nat → Nat → Int32} {J : Nat → Nat → Int64} (ha0 : a0 = 55 ∨ a0 = 70)
    (h : pm_Ev d 237 [.ref (a0 + 7), .int (nI 0)] (pm_hp L fz t I J) (K_X7_clear_42 d fz t Q a0)) :
    t_X7_clear_34 d L fz t Q a0 I J := by
  rcases ha0 with rfl | rfl <;> exact pm_go d [(11, [0]), (34, [0]), (42, [0]), (49, [0]), (56, [])] 400 h
theorem kb_X7_clear_34 {d L : Nat} {fz t : Bool} {Q : pm_R → pm_H → Prop} {a0 : Nat} {fz1 : Bool} {I : Nat → Nat → Int32} {J : Nat → Nat → Int64} (ha0 : a0 = 55 ∨ a0 = 70)
    (h : pm_Ev d 237 [.ref (a0 + 7), .int (nI 0)] (pm_hp L fz t I J) (K_X7_clear_42 d fz t Q a0)) :
    K_X7_clear_34 d fz t Q a0 (.inl none) (pm_hp L fz1 t I J) := b_X7_clear_34 ha0 h
set_option maxRecDepth 100000 in
theorem b_X7_clear_42 {d L : Nat} {fz t : Bool} {Q : pm_R → pm_H → Prop} {a0 : Nat} {I : Nat → Nat → Int32} {J : Nat → Nat → Int64} (ha0 : a0 = 55 ∨ a0 = 70)
    (h : pm_Ev d 4 [.ref (a0 + 9)] (pm_hp L fz t I J) (K_X7_clear_49 d fz t Q a0)) :
    t_X7_clear_42 d L fz t Q a0 I J := by
  rcases ha0 with rfl | rfl <;> exact pm_go d [(11, [0]), (34, [0]), (42, [0]), (49, [0]), (56, [])] 400 h
theorem kb_X7_clear_42 {d L : Nat} {fz t : Bool} {Q : pm_R → pm_H → Prop} {a0 : Nat} {fz1 : Bool} {I : Nat → Nat → Int32} {J : Nat → Nat → Int64} (ha0 : a0 = 55 ∨ a0 = 70)
    (h : pm_Ev d 4 [.ref (a0 + 9)] (pm_hp L fz t I J) (K_X7_clear_49 d fz t Q a0)) :
    K_X7_clear_42 d fz t Q a0 (.inl none) (pm_hp L fz1 t I J) := b_X7_clear_42 ha0 h
set_option maxRecDepth 100000 in
theorem b_X7_clear_49 {d L : Nat} {fz t : Bool} {Q : pm_R → pm_H → Prop} {a0 : Nat} {I : Nat → Nat → Int32} {J : Nat → Nat → Int64} (ha0 : a0 = 55 ∨ a0 = 70)
    (h : pm_Ev d 4 [.ref (a0 + 12)] (pm_hp L fz t I J) (K_X7_clear_56 d fz t Q)) :
    t_X7_clear_49 d L fz t Q a0 I J := by
  rcases ha0 with rfl | rfl <;> exact pm_go d [(11, [0]), (34, [0]), (42, [0]), (49, [0]), (56, [])] 400 h
theorem kb_X7_clear_49 {d L : Nat} {fz t : Bool} {Q : pm_R → pm_H → Prop} {a0 : Nat} {fz1 : Bool} {I : Nat → Nat → Int32} {J : Nat → Nat → Int64} (ha0 : a0 = 55 ∨ a0 = 70)
    (h : pm_Ev d 4 [.ref (a0 + 12)] (pm_hp L fz t I J) (K_X7_clear_56 d fz t Q)) :
    K_X7_clear_49 d fz t Q a0 (.inl none) (pm_hp L fz1 t I J) := b_X7_clear_49 ha0 h
set_option maxRecDepth 100000 in
theorem b_X7_clear_56 {d L : Nat} {fz t : Bool} {Q : pm_R → pm_H → Prop} {I : Nat → Nat → Int32} {J : Nat → Nat → Int64}
    (h : Q (.inl none) (pm_hp L fz t I J)) :
    t_X7_clear_56 d L fz t Q I J := by
  exact pm_go d [(11, [0]), (34, [0]), (42, [0]), (49, [0]), (56, [])] 400 h
theorem kb_X7_clear_56 {d L : Nat} {fz t : Bool} {Q : pm_R → pm_H → Prop} {fz1 : Bool} {I : Nat → Nat → Int32} {J : Nat → Nat → Int64}
    (h : Q (.inl none) (pm_hp L fz t I J)) :
    K_X7_clear_56 d fz t Q (.inl none) (pm_hp L fz1 t I J) := b_X7_clear_56 h
def t_X7_useThreads_0 (d L : Nat) (fz t : Bool) (Q : pm_R → pm_H → Prop) (a0 : Nat) (x1 : Int32) (I : Nat → Nat → Int32) (J : Nat → Nat → Int64) : Prop := pm_T (pm_Ev d) 70 Q (0, [(0, .ref a0), (1, .int x1)], [], pm_hp L fz t I J, 0, 0)
set_option maxRecDepth 100000 in
theorem b_X7_useThreads_0 {d L : Nat} {fz t : Bool} {Q : pm_R → pm_H → Prop} {a0 : Nat} {x1 : Int32} {I : Nat → Nat → Int32} {J : Nat → Nat → Int64} (ha0 : a0 = 55 ∨ a0 = 70)
    (h : Q (.inl none) (pm_hp L fz t (pm_u (pm_u I a0 11 x1) a0 12 (((nI 1) <<< (x1 &&& 31)) - (nI 1))) J)) :
    t_X7_useThreads_0 d L fz t Q a0 x1 I J := by
  rcases ha0 with rfl | rfl <;> exact pm_go d [] 400 h
theorem e_X7_useThreads {d L : Nat} {fz t : Bool} {Q : pm_R → pm_H → Prop} {a0 : Nat} {x1 : Int32} {I : Nat → Nat → Int32} {J : Nat → Nat → Int64} (ha0 : a0 = 55 ∨ a0 = 70)
    (h : Q (.inl none) (pm_hp L fz t (pm_u (pm_u I a0 11 x1) a0 12 (((nI 1) <<< (x1 &&& 31)) - (nI 1))) J)) :
    pm_Ev (d + 1) 70 [.ref a0, .int x1] (pm_hp L fz t I J) Q := pm_Ev_in rfl (b_X7_useThreads_0 ha0 h)
def t_X7_turned_0 (d L : Nat) (fz t : Bool) (Q : pm_R → pm_H → Prop) (a0 : Nat) (x1 : Int32) (I : Nat → Nat → Int32) (J : Nat → Nat → Int64) : Prop := pm_T (pm_Ev d) 71 Q (0, [(0, .ref a0), (1, .int x1)], [], pm_hp L fz t I J, 0, 0)
def t_X7_turned_4 (d L : Nat) (fz t : Bool) (Q : pm_R → pm_H → Prop) (a0 : Nat) (x1 : Int32) (x2 : Int32) (x3 : Int32) (I : Nat → Nat → Int32) (J : Nat → Nat → Int64) : Prop := pm_T (pm_Ev d) 71 Q (4, [(0, .ref a0), (1, .int x1), (2, .int x2), (3, .int x3)], [], pm_hp L fz t I J, 0, 0)
set_option maxRecDepth 100000 in
theorem b_X7_turned_0 {d L : Nat} {fz t : Bool} {Q : pm_R → pm_H → Prop} {a0 : Nat} {x1 : Int32} {I : Nat → Nat → Int32} {J : Nat → Nat → Int64} (ha0 : a0 = 55 ∨ a0 = 70)
    (h : t_X7_turned_4 d L fz t Q a0 x1 (nI 0) (nI 0) I J) :
    t_X7_turned_0 d L fz t Q a0 x1 I J := by
  rcases ha0 with rfl | rfl <;> exact pm_go d [(4, [0, 1, 2, 3])] 400 h
theorem e_X7_turned {d L : Nat} {fz t : Bool} {Q : pm_R → pm_H → Prop} {a0 : Nat} {x1 : Int32} {I : Nat → Nat → Int32} {J : Nat → Nat → Int64} (ha0 : a0 = 55 ∨ a0 = 70)
    (h : t_X7_turned_4 d L fz t Q a0 x1 (nI 0) (nI 0) I J) :
    pm_Ev (d + 1) 71 [.ref a0, .int x1] (pm_hp L fz t I J) Q := pm_Ev_in rfl (b_X7_turned_0 ha0 h)
set_option maxRecDepth 100000 in
theorem b_X7_turned_4 {d L : Nat} {fz t : Bool} {Q : pm_R → pm_H → Prop} {a0 : Nat} {x1 : Int32} {x2 : Int32} {x3 : Int32} {I : Nat → Nat → Int32} {J : Nat → Nat → Int64} (ha0 : a0 = 55 ∨ a0 = 70)
    (h : (((I a0 11) ≤ x3 → Q (.inl (some (.int x2))) (pm_hp L fz t I J)) ∧ (¬ (I a0 11) ≤ x3 → t_X7_turned_4 d L fz t Q a0 x1 ((x2 <<< ((nI 1) &&& 31)) ||| ((x1 >>> (x3 &&& 31)) &&& (nI 1))) (x3 + (nI 1)) I J))) :
    t_X7_turned_4 d L fz t Q a0 x1 x2 x3 I J := by
  rcases ha0 with rfl | rfl <;> exact pm_go d [(4, [0, 1, 2, 3])] 400 ⟨fun q0 => ((h).1 q0), fun q0 => ((h).2 q0)⟩
def t_X7_had_0 (d L : Nat) (fz t : Bool) (Q : pm_R → pm_H → Prop) (a0 : Nat) (a1 : Nat) (x2 : Int32) (I : Nat → Nat → Int32) (J : Nat → Nat → Int64) : Prop := pm_T (pm_Ev d) 72 Q (0, [(0, .ref a0), (1, .ref a1), (2, .int x2)], [], pm_hp L fz t I J, 0, 0)
set_option maxRecDepth 100000 in
theorem b_X7_had_0 {d L : Nat} {fz t : Bool} {Q : pm_R → pm_H → Prop} {a0 : Nat} {a1 : Nat} {x2 : Int32} {I : Nat → Nat → Int32} {J : Nat → Nat → Int64} (ha0 : a0 = 55 ∨ a0 = 70) (ha1 : a1 = 23 ∨ a1 = 27 ∨ a1 = 31)
    (h : (vp_in x2 10 ∧ (((I (a1 + 2) (x2).toNatClampNeg) < (nI 9) → (vp_in x2 10 ∧ Q (.inl (some (.int (I (a1 + 1) (x2).toNatClampNeg)))) (pm_hp L fz t I J))) ∧ (¬ (I (a1 + 2) (x2).toNatClampNeg) < (nI 9) → Q (.inl (some (.int (I a0 12)))) (pm_hp L fz t I J))))) :
    t_X7_had_0 d L fz t Q a0 a1 x2 I J := by
  rcases ha0 with rfl | rfl <;> rcases ha1 with rfl | rfl | rfl <;> exact pm_go d [] 400 ⟨(h).1, ⟨fun q0 => ⟨((((h).2).1 q0)).1, ((((h).2).1 q0)).2⟩, fun q0 => (((h).2).2 q0)⟩⟩
theorem e_X7_had {d L : Nat} {fz t : Bool} {Q : pm_R → pm_H → Prop} {a0 : Nat} {a1 : Nat} {x2 : Int32} {I : Nat → Nat → Int32} {J : Nat → Nat → Int64} (ha0 : a0 = 55 ∨ a0 = 70) (ha1 : a1 = 23 ∨ a1 = 27 ∨ a1 = 31)
    (h : (vp_in x2 10 ∧ (((I (a1 + 2) (x2).toNatClampNeg) < (nI 9) → (vp_in x2 10 ∧ Q (.inl (some (.int (I (a1 + 1) (x2).toNatClampNeg)))) (pm_hp L fz t I J))) ∧ (¬ (I (a1 + 2) (x2).toNatClampNeg) < (nI 9) → Q (.inl (some (.int (I a0 12)))) (pm_hp L fz t I J))))) :
    pm_Ev (d + 1) 72 [.ref a0, .ref a1, .int x2] (pm_hp L fz t I J) Q := pm_Ev_in rfl (b_X7_had_0 ha0 ha1 h)
def t_X8_clear_0 (d L : Nat) (fz t : Bool) (Q : pm_R → pm_H → Prop) (x1 : Int32) (I : Nat → Nat → Int32) (J : Nat → Nat → Int64) : Prop := pm_T (pm_Ev d) 73 Q (0, [(0, .ref 16), (1, .int x1)], [], pm_hp L fz t I J, 0, 0)
def t_X8_clear_13 (d L : Nat) (fz t : Bool) (Q : pm_R → pm_H → Prop) (I : Nat → Nat → Int32) (J : Nat → Nat → Int64) : Prop := pm_T (pm_Ev d) 73 Q (13, [], [], pm_hp L fz t I J, 0, 0)
def K_X8_clear_13 (d : Nat) (fz t : Bool) (Q : pm_R → pm_H → Prop) : pm_R → pm_H → Prop := pm_K d 73 Q 13 [] [] 118 0 fz 0 0
set_option maxRecDepth 100000 in
theorem b_X8_clear_0 {d L : Nat} {fz t : Bool} {Q : pm_R → pm_H → Prop} {x1 : Int32} {I : Nat → Nat → Int32} {J : Nat → Nat → Int64}
    (h : pm_Ev d 237 [.ref 18, .int (-1 : Int32)] (pm_hp L fz t (pm_u I 16 3 x1) J) (K_X8_clear_13 d fz t Q)) :
    t_X8_clear_0 d L fz t Q x1 I J := by
  exact pm_go d [(13, [])] 400 h
theorem e_X8_clear {d L : Nat} {fz t : Bool} {Q : pm_R → pm_H → Prop} {x1 : Int32} {I : Nat → Nat → Int32} {J : Nat → Nat → Int64}
    (h : pm_Ev d 237 [.ref 18, .int (-1 : Int32)] (pm_hp L fz t (pm_u I 16 3 x1) J) (K_X8_clear_13 d fz t Q)) :
    pm_Ev (d + 1) 73 [.ref 16, .int x1] (pm_hp L fz t I J) Q := pm_Ev_in rfl (b_X8_clear_0 h)
set_option maxRecDepth 100000 in
theorem b_X8_clear_13 {d L : Nat} {fz t : Bool} {Q : pm_R → pm_H → Prop} {I : Nat → Nat → Int32} {J : Nat → Nat → Int64}
    (h : Q (.inl none) (pm_hp L fz t I J)) :
    t_X8_clear_13 d L fz t Q I J := by
  exact pm_go d [(13, [])] 400 h
theorem kb_X8_clear_13 {d L : Nat} {fz t : Bool} {Q : pm_R → pm_H → Prop} {fz1 : Bool} {I : Nat → Nat → Int32} {J : Nat → Nat → Int64}
    (h : Q (.inl none) (pm_hp L fz t I J)) :
    K_X8_clear_13 d fz t Q (.inl none) (pm_hp L fz1 t I J) := b_X8_clear_13 h
def t_X8_deal_0 (d L : Nat) (fz t : Bool) (Q : pm_R → pm_H → Prop) (I : Nat → Nat → Int32) (J : Nat → Nat → Int64) : Prop := pm_T (pm_Ev d) 74 Q (0, [(0, .ref 16)], [], pm_hp L fz t I J, 0, 0)
def t_X8_deal_10 (d L : Nat) (fz t : Bool) (Q : pm_R → pm_H → Prop) (x1 : Int32) (r : Int32) (I : Nat → Nat → Int32) (J : Nat → Nat → Int64) : Prop := pm_T (pm_Ev d) 74 Q (10, [(0, .ref 16), (1, .int x1)], [.int r], pm_hp L fz t I J, 0, 0)
def K_X8_deal_10 (d : Nat) (fz t : Bool) (Q : pm_R → pm_H → Prop) (x1 : Int32) : pm_R → pm_H → Prop := pm_K d 74 Q 10 [(0, .ref 16), (1, .int x1)] [] 118 0 fz 0 0
def t_X8_deal_16 (d L : Nat) (fz t : Bool) (Q : pm_R → pm_H → Prop) (x1 : Int32) (x2 : Int32) (x3 : Int32) (x4 : Int32) (I : Nat → Nat → Int32) (J : Nat → Nat → Int64) : Prop := pm_T (pm_Ev d) 74 Q (16, [(0, .ref 16), (1, .int x1), (2, .int x2), (3, .int x3), (4, .int x4)], [], pm_hp L fz t I J, 0, 0)
def t_X8_deal_28 (d L : Nat) (fz t : Bool) (Q : pm_R → pm_H → Prop) (x1 : Int32) (x2 : Int32) (x3 : Int32) (x4 : Int32) (x5 : Int32) (I : Nat → Nat → Int32) (J : Nat → Nat → Int64) : Prop := pm_T (pm_Ev d) 74 Q (28, [(0, .ref 16), (1, .int x1), (2, .int x2), (3, .int x3), (4, .int x4), (5, .int x5)], [], pm_hp L fz t I J, 0, 0)
def t_X8_deal_95 (d L : Nat) (fz t : Bool) (Q : pm_R → pm_H → Prop) (x1 : Int32) (x2 : Int32) (x3 : Int32) (x4 : Int32) (x5 : Int32) (x6 : Int32) (r : Int32) (I : Nat → Nat → Int32) (J : Nat → Nat → Int64) : Prop := pm_T (pm_Ev d) 74 Q (95, [(0, .ref 16), (1, .int x1), (2, .int x2), (3, .int x3), (4, .int x4), (5, .int x5), (6, .int x6)], [.int r], pm_hp L fz t I J, 0, 0)
def K_X8_deal_95 (d : Nat) (fz t : Bool) (Q : pm_R → pm_H → Prop) (x1 : Int32) (x2 : Int32) (x3 : Int32) (x4 : Int32) (x5 : Int32) (x6 : Int32) : pm_R → pm_H → Prop := pm_K d 74 Q 95 [(0, .ref 16), (1, .int x1), (2, .int x2), (3, .int x3), (4, .int x4), (5, .int x5), (6, .int x6)] [] 118 0 fz 0 0
set_option maxRecDepth 100000 in
theorem b_X8_deal_0 {d L : Nat} {fz t : Bool} {Q : pm_R → pm_H → Prop} {I : Nat → Nat → Int32} {J : Nat → Nat → Int64}
    (h : pm_Ev d 75 [.ref 16, .int (nI 0), .int (nI 4095)] (pm_hp L fz t I J) (K_X8_deal_10 d fz t Q (nI 4095))) :
    t_X8_deal_0 d L fz t Q I J := by
  exact pm_go d [(10, [0, 1]), (16, [0, 1, 2, 3, 4]), (28, [0, 1, 2, 3, 4, 5]), (95, [0, 1, 2, 3, 4, 5, 6])] 400 h
theorem e_X8_deal {d L : Nat} {fz t : Bool} {Q : pm_R → pm_H → Prop} {I : Nat → Nat → Int32} {J : Nat → Nat → Int64}
    (h : pm_Ev d 75 [.ref 16, .int (nI 0), .int (nI 4095)] (pm_hp L fz t I J) (K_X8_deal_10 d fz t Q (nI 4095))) :
    pm_Ev (d + 1) 74 [.ref 16] (pm_hp L fz t I J) Q := pm_Ev_in rfl (b_X8_deal_0 h)
set_option maxRecDepth 100000 in
theorem b_X8_deal_10 {d L : Nat} {fz t : Bool} {Q : pm_R → pm_H → Prop} {x1 : Int32} {r : Int32} {I : Nat → Nat → Int32} {J : Nat → Nat → Int64}
    (h : t_X8_deal_16 d L fz t Q x1 r r (nI 0) I J) :
    t_X8_deal_10 d L fz t Q x1 r I J := by
  exact pm_go d [(10, [0, 1]), (16, [0, 1, 2, 3, 4]), (28, [0, 1, 2, 3, 4, 5]), (95, [0, 1, 2, 3, 4, 5, 6])] 400 h
theorem kb_X8_deal_10 {d L : Nat} {fz t : Bool} {Q : pm_R → pm_H → Prop} {x1 : Int32} {r : Int32} {fz1 : Bool} {I : Nat → Nat → Int32} {J : Nat → Nat → Int64}
    (h : t_X8_deal_16 d L fz t Q x1 r r (nI 0) I J) :
    K_X8_deal_10 d fz t Q x1 (.inl (some (.int r))) (pm_hp L fz1 t I J) := b_X8_deal_10 h
set_option maxRecDepth 100000 in
theorem b_X8_deal_16 {d L : Nat} {fz t : Bool} {Q : pm_R → pm_H → Prop} {x1 : Int32} {x2 : Int32} {x3 : Int32} {x4 : Int32} {I : Nat → Nat → Int32} {J : Nat → Nat → Int64}
    (h : (((I 16 3) ≤ x4 → Q (.inl (some (.int x2))) (pm_hp L fz t I J)) ∧ (¬ (I 16 3) ≤ x4 → t_X8_deal_28 d L fz t Q x1 x2 x3 x4 (nI 0) I J))) :
    t_X8_deal_16 d L fz t Q x1 x2 x3 x4 I J := by
  exact pm_go d [(10, [0, 1]), (16, [0, 1, 2, 3, 4]), (28, [0, 1, 2, 3, 4, 5]), (95, [0, 1, 2, 3, 4, 5, 6])] 400 ⟨fun q0 => ((h).1 q0), fun q0 => ((h).2 q0)⟩
set_option maxRecDepth 100000 in
theorem b_X8_deal_28 {d L : Nat} {fz t : Bool} {Q : pm_R → pm_H → Prop} {x1 : Int32} {x2 : Int32} {x3 : Int32} {x4 : Int32} {x5 : Int32} {I : Nat → Nat → Int32} {J : Nat → Nat → Int64}
    (h : (((nI 12) ≤ x5 → t_X8_deal_16 d L fz t Q x1 x2 x3 (x4 + (nI 1)) I J) ∧ (¬ (nI 12) ≤ x5 → (vp_in x4 10 ∧ ((¬ (I 18 (x4).toNatClampNeg) = (-1 : Int32) → t_X8_deal_16 d L fz t Q x1 x2 x3 (x4 + (nI 1)) I J) ∧ ((I 18 (x4).toNatClampNeg) = (-1 : Int32) → (vp_in x4 10 ∧ (((((I 17 (x4).toNatClampNeg) &&& x1) &&& ((nI 1) <<< (x5 &&& 31))) = (nI 0) → t_X8_deal_28 d L fz t Q x1 x2 x3 x4 (x5 + (nI 1)) I J) ∧ (¬ (((I 17 (x4).toNatClampNeg) &&& x1) &&& ((nI 1) <<< (x5 &&& 31))) = (nI 0) → pm_Ev d 75 [.ref 16, .int (x4 + (nI 1)), .int (x1 &&& (((nI 1) <<< (x5 &&& 31)) ^^^ (-1 : Int32)))] (pm_hp L fz t I J) (K_X8_deal_95 d fz t Q x1 x2 x3 x4 x5 (x1 &&& (((nI 1) <<< (x5 &&& 31)) ^^^ (-1 : Int32))))))))))))) :
    t_X8_deal_28 d L fz t Q x1 x2 x3 x4 x5 I J := by
  exact pm_go d [(10, [0, 1]), (16, [0, 1, 2, 3, 4]), (28, [0, 1, 2, 3, 4, 5]), (95, [0, 1, 2, 3, 4, 5, 6])] 400 ⟨fun q0 => ((h).1 q0), fun q0 => ⟨(((h).2 q0)).1, ⟨fun q1 => (((((h).2 q0)).2).1 q1), fun q1 => ⟨((((((h).2 q0)).2).2 q1)).1, ⟨fun q2 => ⟨fun _ => ((((((((h).2 q0)).2).2 q1)).2).1 q2), fun q => absurd (by decide) q⟩, fun q2 => ⟨fun q => absurd q (by decide), fun _ => ((((((((h).2 q0)).2).2 q1)).2).2 q2)⟩⟩⟩⟩⟩⟩
set_option maxRecDepth 100000 in
theorem b_X8_deal_95 {d L : Nat} {fz t : Bool} {Q : pm_R → pm_H → Prop} {x1 : Int32} {x2 : Int32} {x3 : Int32} {x4 : Int32} {x5 : Int32} {x6 : Int32} {r : Int32} {I : Nat → Nat → Int32} {J : Nat → Nat → Int64}
    (h : ((¬ r = (x3 - (nI 1)) → t_X8_deal_28 d L fz t Q x1 x2 x3 x4 (x5 + (nI 1)) I J) ∧ (r = (x3 - (nI 1)) → (vp_in x4 10 ∧ t_X8_deal_28 d L fz t Q x6 x2 (x3 + (-1 : Int32)) x4 (x5 + (nI 1)) (pm_u I 18 (x4).toNatClampNeg x5) J)))) :
    t_X8_deal_95 d L fz t Q x1 x2 x3 x4 x5 x6 r I J := by
  exact pm_go d [(10, [0, 1]), (16, [0, 1, 2, 3, 4]), (28, [0, 1, 2, 3, 4, 5]), (95, [0, 1, 2, 3, 4, 5, 6])] 400 ⟨fun q0 => ((h).1 q0), fun q0 => ⟨(((h).2 q0)).1, (((h).2 q0)).2⟩⟩
theorem kb_X8_deal_95 {d L : Nat} {fz t : Bool} {Q : pm_R → pm_H → Prop} {x1 : Int32} {x2 : Int32} {x3 : Int32} {x4 : Int32} {x5 : Int32} {x6 : Int32} {r : Int32} {fz1 : Bool} {I : Nat → Nat → Int32} {J : Nat → Nat → Int64}
    (h : ((¬ r = (x3 - (nI 1)) → t_X8_deal_28 d L fz t Q x1 x2 x3 x4 (x5 + (nI 1)) I J) ∧ (r = (x3 - (nI 1)) → (vp_in x4 10 ∧ t_X8_deal_28 d L fz t Q x6 x2 (x3 + (-1 : Int32)) x4 (x5 + (nI 1)) (pm_u I 18 (x4).toNatClampNeg x5) J)))) :
    K_X8_deal_95 d fz t Q x1 x2 x3 x4 x5 x6 (.inl (some (.int r))) (pm_hp L fz1 t I J) := b_X8_deal_95 h
def t_X8_mostFrom_0 (d L : Nat) (fz t : Bool) (Q : pm_R → pm_H → Prop) (x1 : Int32) (x2 : Int32) (I : Nat → Nat → Int32) (J : Nat → Nat → Int64) : Prop := pm_T (pm_Ev d) 75 Q (0, [(0, .ref 16), (1, .int x1), (2, .int x2)], [], pm_hp L fz t I J, 0, 0)
def t_X8_mostFrom_8 (d L : Nat) (fz t : Bool) (Q : pm_R → pm_H → Prop) (x1 : Int32) (x2 : Int32) (I : Nat → Nat → Int32) (J : Nat → Nat → Int64) : Prop := pm_T (pm_Ev d) 75 Q (8, [(0, .ref 16), (1, .int x1), (2, .int x2)], [], pm_hp L fz t I J, 0, 0)
def K_X8_mostFrom_8 (d : Nat) (fz t : Bool) (Q : pm_R → pm_H → Prop) (x1 : Int32) (x2 : Int32) : pm_R → pm_H → Prop := pm_K d 75 Q 8 [(0, .ref 16), (1, .int x1), (2, .int x2)] [] 118 0 fz 0 0
def t_X8_mostFrom_13 (d L : Nat) (fz t : Bool) (Q : pm_R → pm_H → Prop) (x2 : Int32) (x3 : Int32) (x4 : Int32) (I : Nat → Nat → Int32) (J : Nat → Nat → Int64) : Prop := pm_T (pm_Ev d) 75 Q (13, [(0, .ref 16), (2, .int x2), (3, .int x3), (4, .int x4)], [], pm_hp L fz t I J, 0, 0)
def t_X8_mostFrom_35 (d L : Nat) (fz t : Bool) (Q : pm_R → pm_H → Prop) (x2 : Int32) (x3 : Int32) (x4 : Int32) (r : Int32) (I : Nat → Nat → Int32) (J : Nat → Nat → Int64) : Prop := pm_T (pm_Ev d) 75 Q (35, [(0, .ref 16), (2, .int x2), (3, .int x3), (4, .int x4)], [.int r], pm_hp L fz t I J, 0, 0)
def K_X8_mostFrom_35 (d : Nat) (fz t : Bool) (Q : pm_R → pm_H → Prop) (x2 : Int32) (x3 : Int32) (x4 : Int32) : pm_R → pm_H → Prop := pm_K d 75 Q 35 [(0, .ref 16), (2, .int x2), (3, .int x3), (4, .int x4)] [] 118 0 fz 0 0
set_option maxRecDepth 100000 in
theorem b_X8_mostFrom_0 {d L : Nat} {fz t : Bool} {Q : pm_R → pm_H → Prop} {x1 : Int32} {x2 : Int32} {I : Nat → Nat → Int32} {J : Nat → Nat → Int64}
    (h : pm_Ev d 237 [.ref 19, .int (-1 : Int32)] (pm_hp L fz t I J) (K_X8_mostFrom_8 d fz t Q x1 x2)) :
    t_X8_mostFrom_0 d L fz t Q x1 x2 I J := by
  exact pm_go d [(8, [0, 1, 2]), (13, [0, 2, 3, 4]), (35, [0, 2, 3, 4])] 400 h
theorem e_X8_mostFrom {d L : Nat} {fz t : Bool} {Q : pm_R → pm_H → Prop} {x1 : Int32} {x2 : Int32} {I : Nat → Nat → Int32} {J : Nat → Nat → Int64}
    (h : pm_Ev d 237 [.ref 19, .int (-1 : Int32)] (pm_hp L fz t I J) (K_X8_mostFrom_8 d fz t Q x1 x2)) :
    pm_Ev (d + 1) 75 [.ref 16, .int x1, .int x2] (pm_hp L fz t I J) Q := pm_Ev_in rfl (b_X8_mostFrom_0 h)
set_option maxRecDepth 100000 in
theorem b_X8_mostFrom_8 {d L : Nat} {fz t : Bool} {Q : pm_R → pm_H → Prop} {x1 : Int32} {x2 : Int32} {I : Nat → Nat → Int32} {J : Nat → Nat → Int64}
    (h : t_X8_mostFrom_13 d L fz t Q x2 (nI 0) x1 I J) :
    t_X8_mostFrom_8 d L fz t Q x1 x2 I J := by
  exact pm_go d [(8, [0, 1, 2]), (13, [0, 2, 3, 4]), (35, [0, 2, 3, 4])] 400 h
theorem kb_X8_mostFrom_8 {d L : Nat} {fz t : Bool} {Q : pm_R → pm_H → Prop} {x1 : Int32} {x2 : Int32} {fz1 : Bool} {I : Nat → Nat → Int32} {J : Nat → Nat → Int64}
    (h : t_X8_mostFrom_13 d L fz t Q x2 (nI 0) x1 I J) :
    K_X8_mostFrom_8 d fz t Q x1 x2 (.inl none) (pm_hp L fz1 t I J) := b_X8_mostFrom_8 h
set_option maxRecDepth 100000 in
theorem b_X8_mostFrom_13 {d L : Nat} {fz t : Bool} {Q : pm_R → pm_H → Prop} {x2 : Int32} {x3 : Int32} {x4 : Int32} {I : Nat → Nat → Int32} {J : Nat → Nat → Int64}
    (h : (((I 16 3) ≤ x4 → Q (.inl (some (.int x3))) (pm_hp L fz t I J)) ∧ (¬ (I 16 3) ≤ x4 → pm_Ev d 76 [.ref 16, .int x4, .int x2, .int (nI 0)] (pm_hp L fz t (pm_u I 16 4 (nI 0)) J) (K_X8_mostFrom_35 d fz t Q x2 x3 x4)))) :
    t_X8_mostFrom_13 d L fz t Q x2 x3 x4 I J := by
  exact pm_go d [(8, [0, 1, 2]), (13, [0, 2, 3, 4]), (35, [0, 2, 3, 4])] 400 ⟨fun q0 => ((h).1 q0), fun q0 => ((h).2 q0)⟩
set_option maxRecDepth 100000 in
theorem b_X8_mostFrom_35 {d L : Nat} {fz t : Bool} {Q : pm_R → pm_H → Prop} {x2 : Int32} {x3 : Int32} {x4 : Int32} {r : Int32} {I : Nat → Nat → Int32} {J : Nat → Nat → Int64}
    (h : ((r = (nI 0) → t_X8_mostFrom_13 d L fz t Q x2 x3 (x4 + (nI 1)) I J) ∧ (¬ r = (nI 0) → t_X8_mostFrom_13 d L fz t Q x2 (x3 + (nI 1)) (x4 + (nI 1)) I J))) :
    t_X8_mostFrom_35 d L fz t Q x2 x3 x4 r I J := by
  exact pm_go d [(8, [0, 1, 2]), (13, [0, 2, 3, 4]), (35, [0, 2, 3, 4])] 400 ⟨fun q0 => ((h).1 q0), fun q0 => ((h).2 q0)⟩
theorem kb_X8_mostFrom_35 {d L : Nat} {fz t : Bool} {Q : pm_R → pm_H → Prop} {x2 : Int32} {x3 : Int32} {x4 : Int32} {r : Int32} {fz1 : Bool} {I : Nat → Nat → Int32} {J : Nat → Nat → Int64}
    (h : ((r = (nI 0) → t_X8_mostFrom_13 d L fz t Q x2 x3 (x4 + (nI 1)) I J) ∧ (¬ r = (nI 0) → t_X8_mostFrom_13 d L fz t Q x2 (x3 + (nI 1)) (x4 + (nI 1)) I J))) :
    K_X8_mostFrom_35 d fz t Q x2 x3 x4 (.inl (some (.int r))) (pm_hp L fz1 t I J) := b_X8_mostFrom_35 h
def t_X8_findCoat_0 (d L : Nat) (fz t : Bool) (Q : pm_R → pm_H → Prop) (x1 : Int32) (x2 : Int32) (x3 : Int32) (I : Nat → Nat → Int32) (J : Nat → Nat → Int64) : Prop := pm_T (pm_Ev d) 76 Q (0, [(0, .ref 16), (1, .int x1), (2, .int x2), (3, .int x3)], [], pm_hp L fz t I J, 0, 0)
def t_X8_findCoat_23 (d L : Nat) (fz t : Bool) (Q : pm_R → pm_H → Prop) (x1 : Int32) (x2 : Int32) (x3 : Int32) (x4 : Int32) (I : Nat → Nat → Int32) (J : Nat → Nat → Int64) : Prop := pm_T (pm_Ev d) 76 Q (23, [(0, .ref 16), (1, .int x1), (2, .int x2), (3, .int x3), (4, .int x4)], [], pm_hp L fz t I J, 0, 0)
def t_X8_findCoat_92 (d L : Nat) (fz t : Bool) (Q : pm_R → pm_H → Prop) (x1 : Int32) (x2 : Int32) (x3 : Int32) (x4 : Int32) (r : Int32) (I : Nat → Nat → Int32) (J : Nat → Nat → Int64) : Prop := pm_T (pm_Ev d) 76 Q (92, [(0, .ref 16), (1, .int x1), (2, .int x2), (3, .int x3), (4, .int x4)], [.int r], pm_hp L fz t I J, 0, 0)
def K_X8_findCoat_92 (d : Nat) (fz t : Bool) (Q : pm_R → pm_H → Prop) (x1 : Int32) (x2 : Int32) (x3 : Int32) (x4 : Int32) : pm_R → pm_H → Prop := pm_K d 76 Q 92 [(0, .ref 16), (1, .int x1), (2, .int x2), (3, .int x3), (4, .int x4)] [] 118 0 fz 0 0
set_option maxRecDepth 100000 in
theorem b_X8_findCoat_0 {d L : Nat} {fz t : Bool} {Q : pm_R → pm_H → Prop} {x1 : Int32} {x2 : Int32} {x3 : Int32} {I : Nat → Nat → Int32} {J : Nat → Nat → Int64}
    (h : (((nI 10) < x3 → Q (.inl (some (.int (nI 0)))) (pm_hp L fz t I J)) ∧ (¬ (nI 10) < x3 → ((x1 < (nI 0) → Q (.inl (some (.int (nI 0)))) (pm_hp L fz t I J)) ∧ (¬ x1 < (nI 0) → ((x1 < (I 16 3) → t_X8_findCoat_23 d L fz t Q x1 x2 x3 (nI 0) I J) ∧ (¬ x1 < (I 16 3) → Q (.inl (some (.int (nI 0)))) (pm_hp L fz t I J)))))))) :
    t_X8_findCoat_0 d L fz t Q x1 x2 x3 I J := by
  exact pm_go d [(23, [0, 1, 2, 3, 4]), (92, [0, 1, 2, 3, 4])] 400 ⟨fun q0 => ⟨Or.inl rfl, ((h).1 q0)⟩, fun q0 => ⟨fun q1 => ⟨Or.inl rfl, ((((h).2 q0)).1 q1)⟩, fun q1 => ⟨fun q2 => ((((((h).2 q0)).2 q1)).1 q2), fun q2 => ⟨Or.inl rfl, ((((((h).2 q0)).2 q1)).2 q2)⟩⟩⟩⟩
theorem e_X8_findCoat {d L : Nat} {fz t : Bool} {Q : pm_R → pm_H → Prop} {x1 : Int32} {x2 : Int32} {x3 : Int32} {I : Nat → Nat → Int32} {J : Nat → Nat → Int64}
    (h : (((nI 10) < x3 → Q (.inl (some (.int (nI 0)))) (pm_hp L fz t I J)) ∧ (¬ (nI 10) < x3 → ((x1 < (nI 0) → Q (.inl (some (.int (nI 0)))) (pm_hp L fz t I J)) ∧ (¬ x1 < (nI 0) → ((x1 < (I 16 3) → t_X8_findCoat_23 d L fz t Q x1 x2 x3 (nI 0) I J) ∧ (¬ x1 < (I 16 3) → Q (.inl (some (.int (nI 0)))) (pm_hp L fz t I J)))))))) :
    pm_Ev (d + 1) 76 [.ref 16, .int x1, .int x2, .int x3] (pm_hp L fz t I J) Q := pm_Ev_in rfl (b_X8_findCoat_0 h)
set_option maxRecDepth 100000 in
theorem b_X8_findCoat_23 {d L : Nat} {fz t : Bool} {Q : pm_R → pm_H → Prop} {x1 : Int32} {x2 : Int32} {x3 : Int32} {x4 : Int32} {I : Nat → Nat → Int32} {J : Nat → Nat → Int64}
    (h : (((nI 12) ≤ x4 → Q (.inl (some (.int (nI 0)))) (pm_hp L fz t I J)) ∧ (¬ (nI 12) ≤ x4 → (vp_in x1 10 ∧ ((((((I 17 (x1).toNatClampNeg) &&& x2) &&& ((I 16 4) ^^^ (-1 : Int32))) &&& ((nI 1) <<< (x4 &&& 31))) = (nI 0) → t_X8_findCoat_23 d L fz t Q x1 x2 x3 (x4 + (nI 1)) I J) ∧ (¬ ((((I 17 (x1).toNatClampNeg) &&& x2) &&& ((I 16 4) ^^^ (-1 : Int32))) &&& ((nI 1) <<< (x4 &&& 31))) = (nI 0) → (vp_in x4 12 ∧ (((I 19 (x4).toNatClampNeg) = (-1 : Int32) → (vp_in x4 12 ∧ Q (.inl (some (.int (nI 1)))) (pm_hp L fz t (pm_u (pm_u I 16 4 ((I 16 4) ||| ((nI 1) <<< (x4 &&& 31)))) 19 (x4).toNatClampNeg x1) J))) ∧ (¬ (I 19 (x4).toNatClampNeg) = (-1 : Int32) → (vp_in x4 12 ∧ pm_Ev d 76 [.ref 16, .int (I 19 (x4).toNatClampNeg), .int x2, .int (x3 + (nI 1))] (pm_hp L fz t (pm_u I 16 4 ((I 16 4) ||| ((nI 1) <<< (x4 &&& 31)))) J) (K_X8_findCoat_92 d fz t Q x1 x2 x3 x4))))))))))) :
    t_X8_findCoat_23 d L fz t Q x1 x2 x3 x4 I J := by
  exact pm_go d [(23, [0, 1, 2, 3, 4]), (92, [0, 1, 2, 3, 4])] 400 ⟨fun q0 => ⟨Or.inl rfl, ((h).1 q0)⟩, fun q0 => ⟨(((h).2 q0)).1, ⟨fun q1 => (((((h).2 q0)).2).1 q1), fun q1 => ⟨((((((h).2 q0)).2).2 q1)).1, ⟨fun q2 => ⟨(((((((((h).2 q0)).2).2 q1)).2).1 q2)).1, ⟨Or.inr rfl, (((((((((h).2 q0)).2).2 q1)).2).1 q2)).2⟩⟩, fun q2 => ⟨(((((((((h).2 q0)).2).2 q1)).2).2 q2)).1, (((((((((h).2 q0)).2).2 q1)).2).2 q2)).2⟩⟩⟩⟩⟩⟩
set_option maxRecDepth 100000 in
theorem b_X8_findCoat_92 {d L : Nat} {fz t : Bool} {Q : pm_R → pm_H → Prop} {x1 : Int32} {x2 : Int32} {x3 : Int32} {x4 : Int32} {r : Int32} {I : Nat → Nat → Int32} {J : Nat → Nat → Int64}
    (h : ((r = (nI 0) → t_X8_findCoat_23 d L fz t Q x1 x2 x3 (x4 + (nI 1)) I J) ∧ (¬ r = (nI 0) → (vp_in x4 12 ∧ Q (.inl (some (.int (nI 1)))) (pm_hp L fz t (pm_u I 19 (x4).toNatClampNeg x1) J))))) :
    t_X8_findCoat_92 d L fz t Q x1 x2 x3 x4 r I J := by
  exact pm_go d [(23, [0, 1, 2, 3, 4]), (92, [0, 1, 2, 3, 4])] 400 ⟨fun q0 => ((h).1 q0), fun q0 => ⟨(((h).2 q0)).1, ⟨Or.inr rfl, (((h).2 q0)).2⟩⟩⟩
theorem kb_X8_findCoat_92 {d L : Nat} {fz t : Bool} {Q : pm_R → pm_H → Prop} {x1 : Int32} {x2 : Int32} {x3 : Int32} {x4 : Int32} {r : Int32} {fz1 : Bool} {I : Nat → Nat → Int32} {J : Nat → Nat → Int64}
    (h : ((r = (nI 0) → t_X8_findCoat_23 d L fz t Q x1 x2 x3 (x4 + (nI 1)) I J) ∧ (¬ r = (nI 0) → (vp_in x4 12 ∧ Q (.inl (some (.int (nI 1)))) (pm_hp L fz t (pm_u I 19 (x4).toNatClampNeg x1) J))))) :
    K_X8_findCoat_92 d fz t Q x1 x2 x3 x4 (.inl (some (.int r))) (pm_hp L fz1 t I J) := b_X8_findCoat_92 h
def t_X9_begin_0 (d L : Nat) (fz t : Bool) (Q : pm_R → pm_H → Prop) (a0 : Nat) (a1 : Nat) (I : Nat → Nat → Int32) (J : Nat → Nat → Int64) : Prop := pm_T (pm_Ev d) 77 Q (0, [(0, .ref a0), (1, .ref a1)], [], pm_hp L fz t I J, 0, 0)
def t_X9_begin_2 (d L : Nat) (fz t : Bool) (Q : pm_R → pm_H → Prop) (a0 : Nat) (a1 : Nat) (x2 : Int32) (I : Nat → Nat → Int32) (J : Nat → Nat → Int64) : Prop := pm_T (pm_Ev d) 77 Q (2, [(0, .ref a0), (1, .ref a1), (2, .int x2)], [], pm_hp L fz t I J, 0, 0)
set_option maxRecDepth 100000 in
theorem b_X9_begin_0 {d L : Nat} {fz t : Bool} {Q : pm_R → pm_H → Prop} {a0 : Nat} {a1 : Nat} {I : Nat → Nat → Int32} {J : Nat → Nat → Int64} (ha0 : a0 = 23 ∨ a0 = 27 ∨ a0 = 31) (ha1 : a1 = 55 ∨ a1 = 70)
    (h : t_X9_begin_2 d L fz t Q a0 a1 (nI 0) I J) :
    t_X9_begin_0 d L fz t Q a0 a1 I J := by
  rcases ha0 with rfl | rfl | rfl <;> rcases ha1 with rfl | rfl <;> exact pm_go d [(2, [0, 1, 2])] 400 h
theorem e_X9_begin {d L : Nat} {fz t : Bool} {Q : pm_R → pm_H → Prop} {a0 : Nat} {a1 : Nat} {I : Nat → Nat → Int32} {J : Nat → Nat → Int64} (ha0 : a0 = 23 ∨ a0 = 27 ∨ a0 = 31) (ha1 : a1 = 55 ∨ a1 = 70)
    (h : t_X9_begin_2 d L fz t Q a0 a1 (nI 0) I J) :
    pm_Ev (d + 1) 77 [.ref a0, .ref a1] (pm_hp L fz t I J) Q := pm_Ev_in rfl (b_X9_begin_0 ha0 ha1 h)
set_option maxRecDepth 100000 in
theorem b_X9_begin_2 {d L : Nat} {fz t : Bool} {Q : pm_R → pm_H → Prop} {a0 : Nat} {a1 : Nat} {x2 : Int32} {I : Nat → Nat → Int32} {J : Nat → Nat → Int64} (ha0 : a0 = 23 ∨ a0 = 27 ∨ a0 = 31) (ha1 : a1 = 55 ∨ a1 = 70)
    (h : (((nI 10) ≤ x2 → Q (.inl none) (pm_hp L fz t (pm_u (pm_u (pm_u (pm_ur (pm_ur I (a0 + 2) (va_cpy (I (a1 + 3)) (I (a0 + 2)) 0 0 10)) (a0 + 3) (va_cpy (I (a1 + 4)) (I (a0 + 3)) 0 0 12)) a0 3 (I a1 14)) a0 4 (nI 0)) a0 5 (nI 0)) J)) ∧ (¬ (nI 10) ≤ x2 → (vp_in x2 10 ∧ (vp_in x2 10 ∧ t_X9_begin_2 d L fz t Q a0 a1 (x2 + (nI 1)) (pm_u I (a0 + 1) (x2).toNatClampNeg ((I (a1 + 1) (x2).toNatClampNeg) &&& (I a1 12))) J))))) :
    t_X9_begin_2 d L fz t Q a0 a1 x2 I J := by
  rcases ha0 with rfl | rfl | rfl <;> rcases ha1 with rfl | rfl <;> exact pm_go d [(2, [0, 1, 2])] 400 ⟨fun q0 => ⟨⟨by decide, by decide, by decide, (by decide : 0 + 10 ≤ 10), (by decide : 0 + 10 ≤ 10)⟩, ⟨⟨by decide, by decide, by decide, (by decide : 0 + 12 ≤ 12), (by decide : 0 + 12 ≤ 12)⟩, ((h).1 q0)⟩⟩, fun q0 => ⟨(((h).2 q0)).1, ⟨((((h).2 q0)).2).1, ((((h).2 q0)).2).2⟩⟩⟩
def t_X9_copy_0 (d L : Nat) (fz t : Bool) (Q : pm_R → pm_H → Prop) (a0 : Nat) (a1 : Nat) (I : Nat → Nat → Int32) (J : Nat → Nat → Int64) : Prop := pm_T (pm_Ev d) 78 Q (0, [(0, .ref a0), (1, .ref a1)], [], pm_hp L fz t I J, 0, 0)
set_option maxRecDepth 100000 in
theorem b_X9_copy_0 {d L : Nat} {fz t : Bool} {Q : pm_R → pm_H → Prop} {a0 : Nat} {a1 : Nat} {I : Nat → Nat → Int32} {J : Nat → Nat → Int64} (ha0 : a0 = 23 ∨ a0 = 27 ∨ a0 = 31) (ha1 : a1 = 23 ∨ a1 = 27 ∨ a1 = 31)
    (h : Q (.inl none) (pm_hp L fz t (pm_u (pm_u (pm_u (pm_ur (pm_ur (pm_ur I (a0 + 1) (va_cpy (I (a1 + 1)) (I (a0 + 1)) 0 0 10)) (a0 + 2) (va_cpy (I (a1 + 2)) (I (a0 + 2)) 0 0 10)) (a0 + 3) (va_cpy (I (a1 + 3)) (I (a0 + 3)) 0 0 12)) a0 3 (I a1 3)) a0 4 ((pm_u (pm_ur (pm_ur (pm_ur I (a0 + 1) (va_cpy (I (a1 + 1)) (I (a0 + 1)) 0 0 10)) (a0 + 2) (va_cpy (I (a1 + 2)) (I (a0 + 2)) 0 0 10)) (a0 + 3) (va_cpy (I (a1 + 3)) (I (a0 + 3)) 0 0 12)) a0 3 (I a1 3)) a1 4)) a0 5 ((pm_u (pm_u (pm_ur (pm_ur (pm_ur I (a0 + 1) (va_cpy (I (a1 + 1)) (I (a0 + 1)) 0 0 10)) (a0 + 2) (va_cpy (I (a1 + 2)) (I (a0 + 2)) 0 0 10)) (a0 + 3) (va_cpy (I (a1 + 3)) (I (a0 + 3)) 0 0 12)) a0 3 (I a1 3)) a0 4 ((pm_u (pm_ur (pm_ur (pm_ur I (a0 + 1) (va_cpy (I (a1 + 1)) (I (a0 + 1)) 0 0 10)) (a0 + 2) (va_cpy (I (a1 + 2)) (I (a0 + 2)) 0 0 10)) (a0 + 3) (va_cpy (I (a1 + 3)) (I (a0 + 3)) 0 0 12)) a0 3 (I a1 3)) a1 4)) a1 5)) J)) :
    t_X9_copy_0 d L fz t Q a0 a1 I J := by
  rcases ha0 with rfl | rfl | rfl <;> rcases ha1 with rfl | rfl | rfl <;> exact pm_go d [] 400 ⟨⟨by decide, by decide, by decide, (by decide : 0 + 10 ≤ 10), (by decide : 0 + 10 ≤ 10)⟩, ⟨⟨by decide, by decide, by decide, (by decide : 0 + 10 ≤ 10), (by decide : 0 + 10 ≤ 10)⟩, ⟨⟨by decide, by decide, by decide, (by decide : 0 + 12 ≤ 12), (by decide : 0 + 12 ≤ 12)⟩, h⟩⟩⟩
theorem e_X9_copy {d L : Nat} {fz t : Bool} {Q : pm_R → pm_H → Prop} {a0 : Nat} {a1 : Nat} {I : Nat → Nat → Int32} {J : Nat → Nat → Int64} (ha0 : a0 = 23 ∨ a0 = 27 ∨ a0 = 31) (ha1 : a1 = 23 ∨ a1 = 27 ∨ a1 = 31)
    (h : Q (.inl none) (pm_hp L fz t (pm_u (pm_u (pm_u (pm_ur (pm_ur (pm_ur I (a0 + 1) (va_cpy (I (a1 + 1)) (I (a0 + 1)) 0 0 10)) (a0 + 2) (va_cpy (I (a1 + 2)) (I (a0 + 2)) 0 0 10)) (a0 + 3) (va_cpy (I (a1 + 3)) (I (a0 + 3)) 0 0 12)) a0 3 (I a1 3)) a0 4 ((pm_u (pm_ur (pm_ur (pm_ur I (a0 + 1) (va_cpy (I (a1 + 1)) (I (a0 + 1)) 0 0 10)) (a0 + 2) (va_cpy (I (a1 + 2)) (I (a0 + 2)) 0 0 10)) (a0 + 3) (va_cpy (I (a1 + 3)) (I (a0 + 3)) 0 0 12)) a0 3 (I a1 3)) a1 4)) a0 5 ((pm_u (pm_u (pm_ur (pm_ur (pm_ur I (a0 + 1) (va_cpy (I (a1 + 1)) (I (a0 + 1)) 0 0 10)) (a0 + 2) (va_cpy (I (a1 + 2)) (I (a0 + 2)) 0 0 10)) (a0 + 3) (va_cpy (I (a1 + 3)) (I (a0 + 3)) 0 0 12)) a0 3 (I a1 3)) a0 4 ((pm_u (pm_ur (pm_ur (pm_ur I (a0 + 1) (va_cpy (I (a1 + 1)) (I (a0 + 1)) 0 0 10)) (a0 + 2) (va_cpy (I (a1 + 2)) (I (a0 + 2)) 0 0 10)) (a0 + 3) (va_cpy (I (a1 + 3)) (I (a0 + 3)) 0 0 12)) a0 3 (I a1 3)) a1 4)) a1 5)) J)) :
    pm_Ev (d + 1) 78 [.ref a0, .ref a1] (pm_hp L fz t I J) Q := pm_Ev_in rfl (b_X9_copy_0 ha0 ha1 h)
def t_X9_placesOf_0 (d L : Nat) (fz t : Bool) (Q : pm_R → pm_H → Prop) (a0 : Nat) (x1 : Int32) (I : Nat → Nat → Int32) (J : Nat → Nat → Int64) : Prop := pm_T (pm_Ev d) 79 Q (0, [(0, .ref a0), (1, .int x1)], [], pm_hp L fz t I J, 0, 0)
def t_X9_placesOf_4 (d L : Nat) (fz t : Bool) (Q : pm_R → pm_H → Prop) (a0 : Nat) (x1 : Int32) (x2 : Int32) (x3 : Int32) (I : Nat → Nat → Int32) (J : Nat → Nat → Int64) : Prop := pm_T (pm_Ev d) 79 Q (4, [(0, .ref a0), (1, .int x1), (2, .int x2), (3, .int x3)], [], pm_hp L fz t I J, 0, 0)
set_option maxRecDepth 100000 in
theorem b_X9_placesOf_0 {d L : Nat} {fz t : Bool} {Q : pm_R → pm_H → Prop} {a0 : Nat} {x1 : Int32} {I : Nat → Nat → Int32} {J : Nat → Nat → Int64} (ha0 : a0 = 23 ∨ a0 = 27 ∨ a0 = 31)
    (h : t_X9_placesOf_4 d L fz t Q a0 x1 (nI 0) (nI 0) I J) :
    t_X9_placesOf_0 d L fz t Q a0 x1 I J := by
  rcases ha0 with rfl | rfl | rfl <;> exact pm_go d [(4, [0, 1, 2, 3])] 400 h
theorem e_X9_placesOf {d L : Nat} {fz t : Bool} {Q : pm_R → pm_H → Prop} {a0 : Nat} {x1 : Int32} {I : Nat → Nat → Int32} {J : Nat → Nat → Int64} (ha0 : a0 = 23 ∨ a0 = 27 ∨ a0 = 31)
    (h : t_X9_placesOf_4 d L fz t Q a0 x1 (nI 0) (nI 0) I J) :
    pm_Ev (d + 1) 79 [.ref a0, .int x1] (pm_hp L fz t I J) Q := pm_Ev_in rfl (b_X9_placesOf_0 ha0 h)
set_option maxRecDepth 100000 in
theorem b_X9_placesOf_4 {d L : Nat} {fz t : Bool} {Q : pm_R → pm_H → Prop} {a0 : Nat} {x1 : Int32} {x2 : Int32} {x3 : Int32} {I : Nat → Nat → Int32} {J : Nat → Nat → Int64} (ha0 : a0 = 23 ∨ a0 = 27 ∨ a0 = 31)
    (h : (((I a0 3) ≤ x3 → Q (.inl (some (.int x2))) (pm_hp L fz t I J)) ∧ (¬ (I a0 3) ≤ x3 → (vp_in x3 12 ∧ ((¬ (I (a0 + 3) (x3).toNatClampNeg) = x1 → t_X9_placesOf_4 d L fz t Q a0 x1 x2 (x3 + (nI 1)) I J) ∧ ((I (a0 + 3) (x3).toNatClampNeg) = x1 → t_X9_placesOf_4 d L fz t Q a0 x1 (x2 ||| ((nI 1) <<< (x3 &&& 31))) (x3 + (nI 1)) I J)))))) :
    t_X9_placesOf_4 d L fz t Q a0 x1 x2 x3 I J := by
  rcases ha0 with rfl | rfl | rfl <;> exact pm_go d [(4, [0, 1, 2, 3])] 400 ⟨fun q0 => ((h).1 q0), fun q0 => ⟨(((h).2 q0)).1, ⟨fun q1 => (((((h).2 q0)).2).1 q1), fun q1 => (((((h).2 q0)).2).2 q1)⟩⟩⟩
def t_X9_wearOn_0 (d L : Nat) (fz t : Bool) (Q : pm_R → pm_H → Prop) (a0 : Nat) (I : Nat → Nat → Int32) (J : Nat → Nat → Int64) : Prop := pm_T (pm_Ev d) 80 Q (0, [(0, .ref a0)], [], pm_hp L fz t I J, 0, 0)
def t_X9_wearOn_2 (d L : Nat) (fz t : Bool) (Q : pm_R → pm_H → Prop) (a0 : Nat) (x1 : Int32) (I : Nat → Nat → Int32) (J : Nat → Nat → Int64) : Prop := pm_T (pm_Ev d) 80 Q (2, [(0, .ref a0), (1, .int x1)], [], pm_hp L fz t I J, 0, 0)
def t_X9_wearOn_24 (d L : Nat) (fz t : Bool) (Q : pm_R → pm_H → Prop) (a0 : Nat) (x1 : Int32) (r : Int32) (I : Nat → Nat → Int32) (J : Nat → Nat → Int64) : Prop := pm_T (pm_Ev d) 80 Q (24, [(0, .ref a0), (1, .int x1)], [.int r], pm_hp L fz t I J, 0, 0)
def K_X9_wearOn_24 (d : Nat) (fz t : Bool) (Q : pm_R → pm_H → Prop) (a0 : Nat) (x1 : Int32) : pm_R → pm_H → Prop := pm_K d 80 Q 24 [(0, .ref a0), (1, .int x1)] [] 118 0 fz 0 0
set_option maxRecDepth 100000 in
theorem b_X9_wearOn_0 {d L : Nat} {fz t : Bool} {Q : pm_R → pm_H → Prop} {a0 : Nat} {I : Nat → Nat → Int32} {J : Nat → Nat → Int64} (ha0 : a0 = 23 ∨ a0 = 27 ∨ a0 = 31)
    (h : t_X9_wearOn_2 d L fz t Q a0 (nI 0) I J) :
    t_X9_wearOn_0 d L fz t Q a0 I J := by
  rcases ha0 with rfl | rfl | rfl <;> exact pm_go d [(2, [0, 1]), (24, [0, 1])] 400 h
theorem e_X9_wearOn {d L : Nat} {fz t : Bool} {Q : pm_R → pm_H → Prop} {a0 : Nat} {I : Nat → Nat → Int32} {J : Nat → Nat → Int64} (ha0 : a0 = 23 ∨ a0 = 27 ∨ a0 = 31)
    (h : t_X9_wearOn_2 d L fz t Q a0 (nI 0) I J) :
    pm_Ev (d + 1) 80 [.ref a0] (pm_hp L fz t I J) Q := pm_Ev_in rfl (b_X9_wearOn_0 ha0 h)
set_option maxRecDepth 100000 in
theorem b_X9_wearOn_2 {d L : Nat} {fz t : Bool} {Q : pm_R → pm_H → Prop} {a0 : Nat} {x1 : Int32} {I : Nat → Nat → Int32} {J : Nat → Nat → Int64} (ha0 : a0 = 23 ∨ a0 = 27 ∨ a0 = 31)
    (h : (((nI 10) ≤ x1 → Q (.inl none) (pm_hp L fz t I J)) ∧ (¬ (nI 10) ≤ x1 → (vp_in x1 10 ∧ (((nI 9) ≤ (I (a0 + 2) (x1).toNatClampNeg) → t_X9_wearOn_2 d L fz t Q a0 (x1 + (nI 1)) I J) ∧ (¬ (nI 9) ≤ (I (a0 + 2) (x1).toNatClampNeg) → pm_Ev d 79 [.ref a0, .int x1] (pm_hp L fz t I J) (K_X9_wearOn_24 d fz t Q a0 x1))))))) :
    t_X9_wearOn_2 d L fz t Q a0 x1 I J := by
  rcases ha0 with rfl | rfl | rfl <;> exact pm_go d [(2, [0, 1]), (24, [0, 1])] 400 ⟨fun q0 => ((h).1 q0), fun q0 => ⟨(((h).2 q0)).1, ⟨fun q1 => (((((h).2 q0)).2).1 q1), fun q1 => (((((h).2 q0)).2).2 q1)⟩⟩⟩
set_option maxRecDepth 100000 in
theorem b_X9_wearOn_24 {d L : Nat} {fz t : Bool} {Q : pm_R → pm_H → Prop} {a0 : Nat} {x1 : Int32} {r : Int32} {I : Nat → Nat → Int32} {J : Nat → Nat → Int64} (ha0 : a0 = 23 ∨ a0 = 27 ∨ a0 = 31)
    (h : ((r = (nI 0) → t_X9_wearOn_2 d L fz t Q a0 (x1 + (nI 1)) I J) ∧ (¬ r = (nI 0) → (vp_in x1 10 ∧ (vp_in x1 10 ∧ t_X9_wearOn_2 d L fz t Q a0 (x1 + (nI 1)) (pm_u I (a0 + 2) (x1).toNatClampNeg ((I (a0 + 2) (x1).toNatClampNeg) + (nI 1))) J))))) :
    t_X9_wearOn_24 d L fz t Q a0 x1 r I J := by
  rcases ha0 with rfl | rfl | rfl <;> exact pm_go d [(2, [0, 1]), (24, [0, 1])] 400 ⟨fun q0 => ((h).1 q0), fun q0 => ⟨(((h).2 q0)).1, ⟨((((h).2 q0)).2).1, ((((h).2 q0)).2).2⟩⟩⟩
theorem kb_X9_wearOn_24 {d L : Nat} {fz t : Bool} {Q : pm_R → pm_H → Prop} {a0 : Nat} {x1 : Int32} {r : Int32} {fz1 : Bool} {I : Nat → Nat → Int32} {J : Nat → Nat → Int64} (ha0 : a0 = 23 ∨ a0 = 27 ∨ a0 = 31)
    (h : ((r = (nI 0) → t_X9_wearOn_2 d L fz t Q a0 (x1 + (nI 1)) I J) ∧ (¬ r = (nI 0) → (vp_in x1 10 ∧ (vp_in x1 10 ∧ t_X9_wearOn_2 d L fz t Q a0 (x1 + (nI 1)) (pm_u I (a0 + 2) (x1).toNatClampNeg ((I (a0 + 2) (x1).toNatClampNeg) + (nI 1))) J))))) :
    K_X9_wearOn_24 d fz t Q a0 x1 (.inl (some (.int r))) (pm_hp L fz1 t I J) := b_X9_wearOn_24 ha0 h
def t_X9_exchange_0 (d L : Nat) (fz t : Bool) (Q : pm_R → pm_H → Prop) (a0 : Nat) (x1 : Int32) (x2 : Int32) (I : Nat → Nat → Int32) (J : Nat → Nat → Int64) : Prop := pm_T (pm_Ev d) 81 Q (0, [(0, .ref a0), (1, .int x1), (2, .int x2)], [], pm_hp L fz t I J, 0, 0)
set_option maxRecDepth 100000 in
theorem b_X9_exchange_0 {d L : Nat} {fz t : Bool} {Q : pm_R → pm_H → Prop} {a0 : Nat} {x1 : Int32} {x2 : Int32} {I : Nat → Nat → Int32} {J : Nat → Nat → Int64} (ha0 : a0 = 23 ∨ a0 = 27 ∨ a0 = 31)
    (h : (vp_in x1 12 ∧ (vp_in x2 12 ∧ (vp_in x1 12 ∧ (vp_in x2 12 ∧ Q (.inl none) (pm_hp L fz t (pm_u (pm_u I (a0 + 3) (x1).toNatClampNeg (I (a0 + 3) (x2).toNatClampNeg)) (a0 + 3) (x2).toNatClampNeg (I (a0 + 3) (x1).toNatClampNeg)) J)))))) :
    t_X9_exchange_0 d L fz t Q a0 x1 x2 I J := by
  rcases ha0 with rfl | rfl | rfl <;> exact pm_go d [] 400 ⟨(h).1, ⟨((h).2).1, ⟨(((h).2).2).1, ⟨((((h).2).2).2).1, ((((h).2).2).2).2⟩⟩⟩⟩
theorem e_X9_exchange {d L : Nat} {fz t : Bool} {Q : pm_R → pm_H → Prop} {a0 : Nat} {x1 : Int32} {x2 : Int32} {I : Nat → Nat → Int32} {J : Nat → Nat → Int64} (ha0 : a0 = 23 ∨ a0 = 27 ∨ a0 = 31)
    (h : (vp_in x1 12 ∧ (vp_in x2 12 ∧ (vp_in x1 12 ∧ (vp_in x2 12 ∧ Q (.inl none) (pm_hp L fz t (pm_u (pm_u I (a0 + 3) (x1).toNatClampNeg (I (a0 + 3) (x2).toNatClampNeg)) (a0 + 3) (x2).toNatClampNeg (I (a0 + 3) (x1).toNatClampNeg)) J)))))) :
    pm_Ev (d + 1) 81 [.ref a0, .int x1, .int x2] (pm_hp L fz t I J) Q := pm_Ev_in rfl (b_X9_exchange_0 ha0 h)
def t_X9_leaveOut_0 (d L : Nat) (fz t : Bool) (Q : pm_R → pm_H → Prop) (a0 : Nat) (x1 : Int32) (I : Nat → Nat → Int32) (J : Nat → Nat → Int64) : Prop := pm_T (pm_Ev d) 82 Q (0, [(0, .ref a0), (1, .int x1)], [], pm_hp L fz t I J, 0, 0)
def t_X9_leaveOut_2 (d L : Nat) (fz t : Bool) (Q : pm_R → pm_H → Prop) (a0 : Nat) (x2 : Int32) (I : Nat → Nat → Int32) (J : Nat → Nat → Int64) : Prop := pm_T (pm_Ev d) 82 Q (2, [(0, .ref a0), (2, .int x2)], [], pm_hp L fz t I J, 0, 0)
set_option maxRecDepth 100000 in
theorem b_X9_leaveOut_0 {d L : Nat} {fz t : Bool} {Q : pm_R → pm_H → Prop} {a0 : Nat} {x1 : Int32} {I : Nat → Nat → Int32} {J : Nat → Nat → Int64} (ha0 : a0 = 23 ∨ a0 = 27 ∨ a0 = 31)
    (h : t_X9_leaveOut_2 d L fz t Q a0 x1 I J) :
    t_X9_leaveOut_0 d L fz t Q a0 x1 I J := by
  rcases ha0 with rfl | rfl | rfl <;> exact pm_go d [(2, [0, 2])] 400 h
theorem e_X9_leaveOut {d L : Nat} {fz t : Bool} {Q : pm_R → pm_H → Prop} {a0 : Nat} {x1 : Int32} {I : Nat → Nat → Int32} {J : Nat → Nat → Int64} (ha0 : a0 = 23 ∨ a0 = 27 ∨ a0 = 31)
    (h : t_X9_leaveOut_2 d L fz t Q a0 x1 I J) :
    pm_Ev (d + 1) 82 [.ref a0, .int x1] (pm_hp L fz t I J) Q := pm_Ev_in rfl (b_X9_leaveOut_0 ha0 h)
set_option maxRecDepth 100000 in
theorem b_X9_leaveOut_2 {d L : Nat} {fz t : Bool} {Q : pm_R → pm_H → Prop} {a0 : Nat} {x2 : Int32} {I : Nat → Nat → Int32} {J : Nat → Nat → Int64} (ha0 : a0 = 23 ∨ a0 = 27 ∨ a0 = 31)
    (h : (((I a0 3) ≤ (x2 + (nI 1)) → Q (.inl none) (pm_hp L fz t (pm_u I a0 3 ((I a0 3) - (nI 1))) J)) ∧ (¬ (I a0 3) ≤ (x2 + (nI 1)) → (vp_in (x2 + (nI 1)) 12 ∧ (vp_in x2 12 ∧ t_X9_leaveOut_2 d L fz t Q a0 (x2 + (nI 1)) (pm_u I (a0 + 3) (x2).toNatClampNeg (I (a0 + 3) ((x2 + (nI 1))).toNatClampNeg)) J))))) :
    t_X9_leaveOut_2 d L fz t Q a0 x2 I J := by
  rcases ha0 with rfl | rfl | rfl <;> exact pm_go d [(2, [0, 2])] 400 ⟨fun q0 => ((h).1 q0), fun q0 => ⟨(((h).2 q0)).1, ⟨((((h).2 q0)).2).1, ((((h).2 q0)).2).2⟩⟩⟩
def t_X9_packedWear_0 (d L : Nat) (fz t : Bool) (Q : pm_R → pm_H → Prop) (a0 : Nat) (I : Nat → Nat → Int32) (J : Nat → Nat → Int64) : Prop := pm_T (pm_Ev d) 83 Q (0, [(0, .ref a0)], [], pm_hp L fz t I J, 0, 0)
def t_X9_packedWear_5 (d L : Nat) (fz t : Bool) (Q : pm_R → pm_H → Prop) (a0 : Nat) (y1 : Int64) (x3 : Int32) (I : Nat → Nat → Int32) (J : Nat → Nat → Int64) : Prop := pm_T (pm_Ev d) 83 Q (5, [(0, .ref a0), (1, .long y1), (3, .int x3)], [], pm_hp L fz t I J, 0, 0)
set_option maxRecDepth 100000 in
theorem b_X9_packedWear_0 {d L : Nat} {fz t : Bool} {Q : pm_R → pm_H → Prop} {a0 : Nat} {I : Nat → Nat → Int32} {J : Nat → Nat → Int64} (ha0 : a0 = 23 ∨ a0 = 27 ∨ a0 = 31)
    (h : t_X9_packedWear_5 d L fz t Q a0 (Int64.ofNat 0) (nI 9) I J) :
    t_X9_packedWear_0 d L fz t Q a0 I J := by
  rcases ha0 with rfl | rfl | rfl <;> exact pm_go d [(5, [0, 1, 3])] 400 h
theorem e_X9_packedWear {d L : Nat} {fz t : Bool} {Q : pm_R → pm_H → Prop} {a0 : Nat} {I : Nat → Nat → Int32} {J : Nat → Nat → Int64} (ha0 : a0 = 23 ∨ a0 = 27 ∨ a0 = 31)
    (h : t_X9_packedWear_5 d L fz t Q a0 (Int64.ofNat 0) (nI 9) I J) :
    pm_Ev (d + 1) 83 [.ref a0] (pm_hp L fz t I J) Q := pm_Ev_in rfl (b_X9_packedWear_0 ha0 h)
set_option maxRecDepth 100000 in
theorem b_X9_packedWear_5 {d L : Nat} {fz t : Bool} {Q : pm_R → pm_H → Prop} {a0 : Nat} {y1 : Int64} {x3 : Int32} {I : Nat → Nat → Int32} {J : Nat → Nat → Int64} (ha0 : a0 = 23 ∨ a0 = 27 ∨ a0 = 31)
    (h : ((x3 < (nI 0) → Q (.inl (some (.long y1))) (pm_hp L fz t I J)) ∧ (¬ x3 < (nI 0) → (vp_in x3 10 ∧ t_X9_packedWear_5 d L fz t Q a0 ((y1 <<< (((nI 4)).toInt64 &&& 63)) ||| (((I (a0 + 2) (x3).toNatClampNeg)).toInt64)) (x3 + (-1 : Int32)) I J)))) :
    t_X9_packedWear_5 d L fz t Q a0 y1 x3 I J := by
  rcases ha0 with rfl | rfl | rfl <;> exact pm_go d [(5, [0, 1, 3])] 400 ⟨fun q0 => ((h).1 q0), fun q0 => ⟨(((h).2 q0)).1, (((h).2 q0)).2⟩⟩
def t_X9_unpackWear_0 (d L : Nat) (fz t : Bool) (Q : pm_R → pm_H → Prop) (a0 : Nat) (y1 : Int64) (I : Nat → Nat → Int32) (J : Nat → Nat → Int64) : Prop := pm_T (pm_Ev d) 84 Q (0, [(0, .ref a0), (1, .long y1)], [], pm_hp L fz t I J, 0, 0)
def t_X9_unpackWear_2 (d L : Nat) (fz t : Bool) (Q : pm_R → pm_H → Prop) (a0 : Nat) (y1 : Int64) (x3 : Int32) (I : Nat → Nat → Int32) (J : Nat → Nat → Int64) : Prop := pm_T (pm_Ev d) 84 Q (2, [(0, .ref a0), (1, .long y1), (3, .int x3)], [], pm_hp L fz t I J, 0, 0)
set_option maxRecDepth 100000 in
theorem b_X9_unpackWear_0 {d L : Nat} {fz t : Bool} {Q : pm_R → pm_H → Prop} {a0 : Nat} {y1 : Int64} {I : Nat → Nat → Int32} {J : Nat → Nat → Int64} (ha0 : a0 = 23 ∨ a0 = 27 ∨ a0 = 31)
    (h : t_X9_unpackWear_2 d L fz t Q a0 y1 (nI 0) I J) :
    t_X9_unpackWear_0 d L fz t Q a0 y1 I J := by
  rcases ha0 with rfl | rfl | rfl <;> exact pm_go d [(2, [0, 1, 3])] 400 h
theorem e_X9_unpackWear {d L : Nat} {fz t : Bool} {Q : pm_R → pm_H → Prop} {a0 : Nat} {y1 : Int64} {I : Nat → Nat → Int32} {J : Nat → Nat → Int64} (ha0 : a0 = 23 ∨ a0 = 27 ∨ a0 = 31)
    (h : t_X9_unpackWear_2 d L fz t Q a0 y1 (nI 0) I J) :
    pm_Ev (d + 1) 84 [.ref a0, .long y1] (pm_hp L fz t I J) Q := pm_Ev_in rfl (b_X9_unpackWear_0 ha0 h)
set_option maxRecDepth 100000 in
theorem b_X9_unpackWear_2 {d L : Nat} {fz t : Bool} {Q : pm_R → pm_H → Prop} {a0 : Nat} {y1 : Int64} {x3 : Int32} {I : Nat → Nat → Int32} {J : Nat → Nat → Int64} (ha0 : a0 = 23 ∨ a0 = 27 ∨ a0 = 31)
    (h : (((nI 10) ≤ x3 → Q (.inl none) (pm_hp L fz t I J)) ∧ (¬ (nI 10) ≤ x3 → (vp_in x3 10 ∧ t_X9_unpackWear_2 d L fz t Q a0 y1 (x3 + (nI 1)) (pm_u I (a0 + 2) (x3).toNatClampNeg (Int64.toInt32 ((y1 >>> ((((nI 4) * x3)).toInt64 &&& 63)) &&& ((nI 15)).toInt64))) J)))) :
    t_X9_unpackWear_2 d L fz t Q a0 y1 x3 I J := by
  rcases ha0 with rfl | rfl | rfl <;> exact pm_go d [(2, [0, 1, 3])] 400 ⟨fun q0 => ((h).1 q0), fun q0 => ⟨(((h).2 q0)).1, (((h).2 q0)).2⟩⟩
def t_J6_bitCount_0f7a4_0 (d L : Nat) (fz t : Bool) (Q : pm_R → pm_H → Prop) (x0 : Int32) (I : Nat → Nat → Int32) (J : Nat → Nat → Int64) : Prop := pm_T (pm_Ev d) 236 Q (0, [(0, .int x0)], [], pm_hp L fz t I J, 0, 0)
set_option maxRecDepth 100000 in
theorem b_J6_bitCount_0f7a4_0 {d L : Nat} {fz t : Bool} {Q : pm_R → pm_H → Prop} {x0 : Int32} {I : Nat → Nat → Int32} {J : Nat → Nat → Int64}
    (h : Q (.inl (some (.int ((((((((x0 - ((((x0).toUInt32 >>> (((nI 1)).toUInt32 &&& Int32.toUInt32 31)).toInt32) &&& (nI 1431655765))) &&& (nI 858993459)) + (((((x0 - ((((x0).toUInt32 >>> (((nI 1)).toUInt32 &&& Int32.toUInt32 31)).toInt32) &&& (nI 1431655765)))).toUInt32 >>> (((nI 2)).toUInt32 &&& Int32.toUInt32 31)).toInt32) &&& (nI 858993459))) + ((((((x0 - ((((x0).toUInt32 >>> (((nI 1)).toUInt32 &&& Int32.toUInt32 31)).toInt32) &&& (nI 1431655765))) &&& (nI 858993459)) + (((((x0 - ((((x0).toUInt32 >>> (((nI 1)).toUInt32 &&& Int32.toUInt32 31)).toInt32) &&& (nI 1431655765)))).toUInt32 >>> (((nI 2)).toUInt32 &&& Int32.toUInt32 31)).toInt32) &&& (nI 858993459)))).toUInt32 >>> (((nI 4)).toUInt32 &&& Int32.toUInt32 31)).toInt32)) &&& (nI 252645135)) + ((((((((x0 - ((((x0).toUInt32 >>> (((nI 1)).toUInt32 &&& Int32.toUInt32 31)).toInt32) &&& (nI 1431655765))) &&& (nI 858993459)) + (((((x0 - ((((x0).toUInt32 >>> (((nI 1)).toUInt32 &&& Int32.toUInt32 31)).toInt32) &&& (nI 1431655765)))).toUInt32 >>> (((nI 2)).toUInt32 &&& Int32.toUInt32 31)).toInt32) &&& (nI 858993459))) + ((((((x0 - ((((x0).toUInt32 >>> (((nI 1)).toUInt32 &&& Int32.toUInt32 31)).toInt32) &&& (nI 1431655765))) &&& (nI 858993459)) + (((((x0 - ((((x0).toUInt32 >>> (((nI 1)).toUInt32 &&& Int32.toUInt32 31)).toInt32) &&& (nI 1431655765)))).toUInt32 >>> (((nI 2)).toUInt32 &&& Int32.toUInt32 31)).toInt32) &&& (nI 858993459)))).toUInt32 >>> (((nI 4)).toUInt32 &&& Int32.toUInt32 31)).toInt32)) &&& (nI 252645135))).toUInt32 >>> (((nI 8)).toUInt32 &&& Int32.toUInt32 31)).toInt32)) + (((((((((x0 - ((((x0).toUInt32 >>> (((nI 1)).toUInt32 &&& Int32.toUInt32 31)).toInt32) &&& (nI 1431655765))) &&& (nI 858993459)) + (((((x0 - ((((x0).toUInt32 >>> (((nI 1)).toUInt32 &&& Int32.toUInt32 31)).toInt32) &&& (nI 1431655765)))).toUInt32 >>> (((nI 2)).toUInt32 &&& Int32.toUInt32 31)).toInt32) &&& (nI 858993459))) + ((((((x0 - ((((x0).toUInt32 >>> (((nI 1)).toUInt32 &&& Int32.toUInt32 31)).toInt32) &&& (nI 1431655765))) &&& (nI 858993459)) + (((((x0 - ((((x0).toUInt32 >>> (((nI 1)).toUInt32 &&& Int32.toUInt32 31)).toInt32) &&& (nI 1431655765)))).toUInt32 >>> (((nI 2)).toUInt32 &&& Int32.toUInt32 31)).toInt32) &&& (nI 858993459)))).toUInt32 >>> (((nI 4)).toUInt32 &&& Int32.toUInt32 31)).toInt32)) &&& (nI 252645135)) + ((((((((x0 - ((((x0).toUInt32 >>> (((nI 1)).toUInt32 &&& Int32.toUInt32 31)).toInt32) &&& (nI 1431655765))) &&& (nI 858993459)) + (((((x0 - ((((x0).toUInt32 >>> (((nI 1)).toUInt32 &&& Int32.toUInt32 31)).toInt32) &&& (nI 1431655765)))).toUInt32 >>> (((nI 2)).toUInt32 &&& Int32.toUInt32 31)).toInt32) &&& (nI 858993459))) + ((((((x0 - ((((x0).toUInt32 >>> (((nI 1)).toUInt32 &&& Int32.toUInt32 31)).toInt32) &&& (nI 1431655765))) &&& (nI 858993459)) + (((((x0 - ((((x0).toUInt32 >>> (((nI 1)).toUInt32 &&& Int32.toUInt32 31)).toInt32) &&& (nI 1431655765)))).toUInt32 >>> (((nI 2)).toUInt32 &&& Int32.toUInt32 31)).toInt32) &&& (nI 858993459)))).toUInt32 >>> (((nI 4)).toUInt32 &&& Int32.toUInt32 31)).toInt32)) &&& (nI 252645135))).toUInt32 >>> (((nI 8)).toUInt32 &&& Int32.toUInt32 31)).toInt32))).toUInt32 >>> (((nI 16)).toUInt32 &&& Int32.toUInt32 31)).toInt32)) &&& (nI 63))))) (pm_hp L fz t I J)) :
    t_J6_bitCount_0f7a4_0 d L fz t Q x0 I J := by
  exact pm_go d [] 400 h
theorem e_J6_bitCount_0f7a4 {d L : Nat} {fz t : Bool} {Q : pm_R → pm_H → Prop} {x0 : Int32} {I : Nat → Nat → Int32} {J : Nat → Nat → Int64}
    (h : Q (.inl (some (.int ((((((((x0 - ((((x0).toUInt32 >>> (((nI 1)).toUInt32 &&& Int32.toUInt32 31)).toInt32) &&& (nI 1431655765))) &&& (nI 858993459)) + (((((x0 - ((((x0).toUInt32 >>> (((nI 1)).toUInt32 &&& Int32.toUInt32 31)).toInt32) &&& (nI 1431655765)))).toUInt32 >>> (((nI 2)).toUInt32 &&& Int32.toUInt32 31)).toInt32) &&& (nI 858993459))) + ((((((x0 - ((((x0).toUInt32 >>> (((nI 1)).toUInt32 &&& Int32.toUInt32 31)).toInt32) &&& (nI 1431655765))) &&& (nI 858993459)) + (((((x0 - ((((x0).toUInt32 >>> (((nI 1)).toUInt32 &&& Int32.toUInt32 31)).toInt32) &&& (nI 1431655765)))).toUInt32 >>> (((nI 2)).toUInt32 &&& Int32.toUInt32 31)).toInt32) &&& (nI 858993459)))).toUInt32 >>> (((nI 4)).toUInt32 &&& Int32.toUInt32 31)).toInt32)) &&& (nI 252645135)) + ((((((((x0 - ((((x0).toUInt32 >>> (((nI 1)).toUInt32 &&& Int32.toUInt32 31)).toInt32) &&& (nI 1431655765))) &&& (nI 858993459)) + (((((x0 - ((((x0).toUInt32 >>> (((nI 1)).toUInt32 &&& Int32.toUInt32 31)).toInt32) &&& (nI 1431655765)))).toUInt32 >>> (((nI 2)).toUInt32 &&& Int32.toUInt32 31)).toInt32) &&& (nI 858993459))) + ((((((x0 - ((((x0).toUInt32 >>> (((nI 1)).toUInt32 &&& Int32.toUInt32 31)).toInt32) &&& (nI 1431655765))) &&& (nI 858993459)) + (((((x0 - ((((x0).toUInt32 >>> (((nI 1)).toUInt32 &&& Int32.toUInt32 31)).toInt32) &&& (nI 1431655765)))).toUInt32 >>> (((nI 2)).toUInt32 &&& Int32.toUInt32 31)).toInt32) &&& (nI 858993459)))).toUInt32 >>> (((nI 4)).toUInt32 &&& Int32.toUInt32 31)).toInt32)) &&& (nI 252645135))).toUInt32 >>> (((nI 8)).toUInt32 &&& Int32.toUInt32 31)).toInt32)) + (((((((((x0 - ((((x0).toUInt32 >>> (((nI 1)).toUInt32 &&& Int32.toUInt32 31)).toInt32) &&& (nI 1431655765))) &&& (nI 858993459)) + (((((x0 - ((((x0).toUInt32 >>> (((nI 1)).toUInt32 &&& Int32.toUInt32 31)).toInt32) &&& (nI 1431655765)))).toUInt32 >>> (((nI 2)).toUInt32 &&& Int32.toUInt32 31)).toInt32) &&& (nI 858993459))) + ((((((x0 - ((((x0).toUInt32 >>> (((nI 1)).toUInt32 &&& Int32.toUInt32 31)).toInt32) &&& (nI 1431655765))) &&& (nI 858993459)) + (((((x0 - ((((x0).toUInt32 >>> (((nI 1)).toUInt32 &&& Int32.toUInt32 31)).toInt32) &&& (nI 1431655765)))).toUInt32 >>> (((nI 2)).toUInt32 &&& Int32.toUInt32 31)).toInt32) &&& (nI 858993459)))).toUInt32 >>> (((nI 4)).toUInt32 &&& Int32.toUInt32 31)).toInt32)) &&& (nI 252645135)) + ((((((((x0 - ((((x0).toUInt32 >>> (((nI 1)).toUInt32 &&& Int32.toUInt32 31)).toInt32) &&& (nI 1431655765))) &&& (nI 858993459)) + (((((x0 - ((((x0).toUInt32 >>> (((nI 1)).toUInt32 &&& Int32.toUInt32 31)).toInt32) &&& (nI 1431655765)))).toUInt32 >>> (((nI 2)).toUInt32 &&& Int32.toUInt32 31)).toInt32) &&& (nI 858993459))) + ((((((x0 - ((((x0).toUInt32 >>> (((nI 1)).toUInt32 &&& Int32.toUInt32 31)).toInt32) &&& (nI 1431655765))) &&& (nI 858993459)) + (((((x0 - ((((x0).toUInt32 >>> (((nI 1)).toUInt32 &&& Int32.toUInt32 31)).toInt32) &&& (nI 1431655765)))).toUInt32 >>> (((nI 2)).toUInt32 &&& Int32.toUInt32 31)).toInt32) &&& (nI 858993459)))).toUInt32 >>> (((nI 4)).toUInt32 &&& Int32.toUInt32 31)).toInt32)) &&& (nI 252645135))).toUInt32 >>> (((nI 8)).toUInt32 &&& Int32.toUInt32 31)).toInt32))).toUInt32 >>> (((nI 16)).toUInt32 &&& Int32.toUInt32 31)).toInt32)) &&& (nI 63))))) (pm_hp L fz t I J)) :
    pm_Ev (d + 1) 236 [.int x0] (pm_hp L fz t I J) Q := pm_Ev_in rfl (b_J6_bitCount_0f7a4_0 h)
def t_J7_fill_53178_0 (d L : Nat) (fz t : Bool) (Q : pm_R → pm_H → Prop) (a0 : Nat) (x1 : Int32) (I : Nat → Nat → Int32) (J : Nat → Nat → Int64) : Prop := pm_T (pm_Ev d) 237 Q (0, [(0, .ref a0), (1, .int x1)], [], pm_hp L fz t I J, 0, 0)
def t_J7_fill_53178_5 (d L : Nat) (fz t : Bool) (Q : pm_R → pm_H → Prop) (a0 : Nat) (x1 : Int32) (x2 : Int32) (x3 : Int32) (I : Nat → Nat → Int32) (J : Nat → Nat → Int64) : Prop := pm_T (pm_Ev d) 237 Q (5, [(0, .ref a0), (1, .int x1), (2, .int x2), (3, .int x3)], [], pm_hp L fz t I J, 0, 0)
set_option maxRecDepth 100000 in
theorem b_J7_fill_53178_0 {d L : Nat} {fz t : Bool} {Q : pm_R → pm_H → Prop} {n0 : Nat} {a0 : Nat} {x1 : Int32} {I : Nat → Nat → Int32} {J : Nat → Nat → Int64} (harr : (a0 = 8 ∧ n0 = 120) ∨ (a0 = 63 ∧ n0 = 15) ∨ (a0 = 78 ∧ n0 = 15) ∨ (a0 = 62 ∧ n0 = 5) ∨ (a0 = 77 ∧ n0 = 5) ∨ (a0 = 22 ∧ n0 = 10) ∨ (a0 = 18 ∧ n0 = 10) ∨ (a0 = 19 ∧ n0 = 12))
    (h : t_J7_fill_53178_5 d L fz t Q a0 x1 (nI 0) (nI n0) I J) :
    t_J7_fill_53178_0 d L fz t Q a0 x1 I J := by
  rcases harr with ⟨rfl, rfl⟩ | ⟨rfl, rfl⟩ | ⟨rfl, rfl⟩ | ⟨rfl, rfl⟩ | ⟨rfl, rfl⟩ | ⟨rfl, rfl⟩ | ⟨rfl, rfl⟩ | ⟨rfl, rfl⟩ <;> exact pm_go d [(5, [0, 1, 2, 3])] 400 h
theorem e_J7_fill_53178 {d L : Nat} {fz t : Bool} {Q : pm_R → pm_H → Prop} {n0 : Nat} {a0 : Nat} {x1 : Int32} {I : Nat → Nat → Int32} {J : Nat → Nat → Int64} (harr : (a0 = 8 ∧ n0 = 120) ∨ (a0 = 63 ∧ n0 = 15) ∨ (a0 = 78 ∧ n0 = 15) ∨ (a0 = 62 ∧ n0 = 5) ∨ (a0 = 77 ∧ n0 = 5) ∨ (a0 = 22 ∧ n0 = 10) ∨ (a0 = 18 ∧ n0 = 10) ∨ (a0 = 19 ∧ n0 = 12))
    (h : t_J7_fill_53178_5 d L fz t Q a0 x1 (nI 0) (nI n0) I J) :
    pm_Ev (d + 1) 237 [.ref a0, .int x1] (pm_hp L fz t I J) Q := pm_Ev_in rfl (b_J7_fill_53178_0 harr h)
set_option maxRecDepth 100000 in
theorem b_J7_fill_53178_5 {d L : Nat} {fz t : Bool} {Q : pm_R → pm_H → Prop} {n0 : Nat} {a0 : Nat} {x1 : Int32} {x2 : Int32} {x3 : Int32} {I : Nat → Nat → Int32} {J : Nat → Nat → Int64} (harr : (a0 = 8 ∧ n0 = 120) ∨ (a0 = 63 ∧ n0 = 15) ∨ (a0 = 78 ∧ n0 = 15) ∨ (a0 = 62 ∧ n0 = 5) ∨ (a0 = 77 ∧ n0 = 5) ∨ (a0 = 22 ∧ n0 = 10) ∨ (a0 = 18 ∧ n0 = 10) ∨ (a0 = 19 ∧ n0 = 12))
    (h : ((x3 ≤ x2 → Q (.inl none) (pm_hp L fz t I J)) ∧ (¬ x3 ≤ x2 → (vp_in x2 n0 ∧ t_J7_fill_53178_5 d L fz t Q a0 x1 (x2 + (nI 1)) x3 (pm_u I a0 (x2).toNatClampNeg x1) J)))) :
    t_J7_fill_53178_5 d L fz t Q a0 x1 x2 x3 I J := by
  rcases harr with ⟨rfl, rfl⟩ | ⟨rfl, rfl⟩ | ⟨rfl, rfl⟩ | ⟨rfl, rfl⟩ | ⟨rfl, rfl⟩ | ⟨rfl, rfl⟩ | ⟨rfl, rfl⟩ | ⟨rfl, rfl⟩ <;> exact pm_go d [(5, [0, 1, 2, 3])] 400 ⟨fun q0 => ((h).1 q0), fun q0 => ⟨(((h).2 q0)).1, (((h).2 q0)).2⟩⟩
