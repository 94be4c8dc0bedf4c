def t_X11_thrown_0 (d L : Nat) (fz t : Bool) (Q : pm_R → pm_H → Prop) (I : Nat → Nat → Int32) (J : Nat → Nat → Int64) : Prop := pm_T (pm_Ev d) 117 Q (0, [(0, .ref 85)], [], pm_hp L fz t I J, 0, 0)
set_option maxRecDepth 100000 in
theorem b_X11_thrown_0 {d L : Nat} {fz t : Bool} {Q : pm_R → pm_H → Prop} {I : Nat → Nat → Int32} {J : Nat → Nat → Int64}
    (h : Q (.inl (some (.int (I 85 0)))) (pm_hp L fz t I J)) :
    t_X11_thrown_0 d L fz t Q I J := by
  exact pm_go d [] 400 h
theorem e_X11_thrown {d L : Nat} {fz t : Bool} {Q : pm_R → pm_H → Prop} {I : Nat → Nat → Int32} {J : Nat → Nat → Int64}
    (h : Q (.inl (some (.int (I 85 0)))) (pm_hp L fz t I J)) :
    pm_Ev (d + 1) 117 [.ref 85] (pm_hp L fz t I J) Q := pm_Ev_in rfl (b_X11_thrown_0 h)
def t_X11_right_0 (d L : Nat) (fz t : Bool) (Q : pm_R → pm_H → Prop) (x1 : Int32) (x2 : Int32) (I : Nat → Nat → Int32) (J : Nat → Nat → Int64) : Prop := pm_T (pm_Ev d) 118 Q (0, [(0, .ref 85), (1, .int x1), (2, .int x2)], [], pm_hp L fz t I J, 0, 0)
set_option maxRecDepth 100000 in
theorem b_X11_right_0 {d L : Nat} {fz t : Bool} {Q : pm_R → pm_H → Prop} {x1 : Int32} {x2 : Int32} {I : Nat → Nat → Int32} {J : Nat → Nat → Int64}
    (h : ((¬ (I 85 0) = (nI 0) → Q (.inl (some (.int (nI 0)))) (pm_hp L fz t I J)) ∧ ((I 85 0) = (nI 0) → ((¬ x1 = (nI 0) → Q (.inl (some (.int (nI 1)))) (pm_hp L fz t I J)) ∧ (x1 = (nI 0) → ((¬ x2 = (nI 0) → Q (.inl (some (.int (nI 0)))) (pm_hp L fz t (pm_u I 85 0 x2) J)) ∧ (x2 = (nI 0) → Q (.inl (some (.int (nI 1)))) (pm_hp L fz t (pm_u I 85 0 x2) J)))))))) :
    t_X11_right_0 d L fz t Q x1 x2 I J := by
  exact pm_go d [] 400 ⟨fun q0 => ⟨fun _ => ⟨Or.inl rfl, ((h).1 q0)⟩, fun n => absurd n q0⟩, fun q0 => ⟨fun q1 => ⟨fun n => absurd q0 n, fun _ => ⟨Or.inr rfl, ((((h).2 q0)).1 q1)⟩⟩, fun q1 => ⟨fun q2 => ⟨Or.inl rfl, ((((((h).2 q0)).2 q1)).1 q2)⟩, fun q2 => ⟨Or.inr rfl, ((((((h).2 q0)).2 q1)).2 q2)⟩⟩⟩⟩
theorem e_X11_right {d L : Nat} {fz t : Bool} {Q : pm_R → pm_H → Prop} {x1 : Int32} {x2 : Int32} {I : Nat → Nat → Int32} {J : Nat → Nat → Int64}
    (h : ((¬ (I 85 0) = (nI 0) → Q (.inl (some (.int (nI 0)))) (pm_hp L fz t I J)) ∧ ((I 85 0) = (nI 0) → ((¬ x1 = (nI 0) → Q (.inl (some (.int (nI 1)))) (pm_hp L fz t I J)) ∧ (x1 = (nI 0) → ((¬ x2 = (nI 0) → Q (.inl (some (.int (nI 0)))) (pm_hp L fz t (pm_u I 85 0 x2) J)) ∧ (x2 = (nI 0) → Q (.inl (some (.int (nI 1)))) (pm_hp L fz t (pm_u I 85 0 x2) J)))))))) :
    pm_Ev (d + 1) 118 [.ref 85, .int x1, .int x2] (pm_hp L fz t I J) Q := pm_Ev_in rfl (b_X11_right_0 h)
def t_X11_within_0 (d L : Nat) (fz t : Bool) (Q : pm_R → pm_H → Prop) (x0 : Int32) (x1 : Int32) (x2 : Int32) (I : Nat → Nat → Int32) (J : Nat → Nat → Int64) : Prop := pm_T (pm_Ev d) 119 Q (0, [(0, .int x0), (1, .int x1), (2, .int x2)], [], pm_hp L fz t I J, 0, 0)
set_option maxRecDepth 100000 in
theorem b_X11_within_0 {d L : Nat} {fz t : Bool} {Q : pm_R → pm_H → Prop} {x0 : Int32} {x1 : Int32} {x2 : Int32} {I : Nat → Nat → Int32} {J : Nat → Nat → Int64}
    (h : ((x0 < x1 → Q (.inl (some (.int (nI 0)))) (pm_hp L fz t I J)) ∧ (¬ x0 < x1 → ((x2 < x0 → Q (.inl (some (.int (nI 0)))) (pm_hp L fz t I J)) ∧ (¬ x2 < x0 → Q (.inl (some (.int (nI 1)))) (pm_hp L fz t I J)))))) :
    t_X11_within_0 d L fz t Q x0 x1 x2 I J := by
  exact pm_go d [] 400 ⟨fun q0 => ⟨Or.inl rfl, ((h).1 q0)⟩, fun q0 => ⟨fun q1 => ⟨Or.inl rfl, ((((h).2 q0)).1 q1)⟩, fun q1 => ⟨Or.inr rfl, ((((h).2 q0)).2 q1)⟩⟩⟩
theorem e_X11_within {d L : Nat} {fz t : Bool} {Q : pm_R → pm_H → Prop} {x0 : Int32} {x1 : Int32} {x2 : Int32} {I : Nat → Nat → Int32} {J : Nat → Nat → Int64}
    (h : ((x0 < x1 → Q (.inl (some (.int (nI 0)))) (pm_hp L fz t I J)) ∧ (¬ x0 < x1 → ((x2 < x0 → Q (.inl (some (.int (nI 0)))) (pm_hp L fz t I J)) ∧ (¬ x2 < x0 → Q (.inl (some (.int (nI 1)))) (pm_hp L fz t I J)))))) :
    pm_Ev (d + 1) 119 [.int x0, .int x1, .int x2] (pm_hp L fz t I J) Q := pm_Ev_in rfl (b_X11_within_0 h)
def t_X11_kept_0 (d L : Nat) (fz t : Bool) (Q : pm_R → pm_H → Prop) (x0 : Int32) (x1 : Int32) (x2 : Int32) (I : Nat → Nat → Int32) (J : Nat → Nat → Int64) : Prop := pm_T (pm_Ev d) 120 Q (0, [(0, .int x0), (1, .int x1), (2, .int x2)], [], pm_hp L fz t I J, 0, 0)
set_option maxRecDepth 100000 in
theorem b_X11_kept_0 {d L : Nat} {fz t : Bool} {Q : pm_R → pm_H → Prop} {x0 : Int32} {x1 : Int32} {x2 : Int32} {I : Nat → Nat → Int32} {J : Nat → Nat → Int64}
    (h : ((x1 ≤ x0 → ((x0 ≤ x2 → Q (.inl (some (.int x0))) (pm_hp L fz t I J)) ∧ (¬ x0 ≤ x2 → Q (.inl (some (.int x2))) (pm_hp L fz t I J)))) ∧ (¬ x1 ≤ x0 → Q (.inl (some (.int x1))) (pm_hp L fz t I J)))) :
    t_X11_kept_0 d L fz t Q x0 x1 x2 I J := by
  exact pm_go d [] 400 ⟨fun q0 => ⟨fun q1 => ((((h).1 q0)).1 q1), fun q1 => ((((h).1 q0)).2 q1)⟩, fun q0 => ((h).2 q0)⟩
theorem e_X11_kept {d L : Nat} {fz t : Bool} {Q : pm_R → pm_H → Prop} {x0 : Int32} {x1 : Int32} {x2 : Int32} {I : Nat → Nat → Int32} {J : Nat → Nat → Int64}
    (h : ((x1 ≤ x0 → ((x0 ≤ x2 → Q (.inl (some (.int x0))) (pm_hp L fz t I J)) ∧ (¬ x0 ≤ x2 → Q (.inl (some (.int x2))) (pm_hp L fz t I J)))) ∧ (¬ x1 ≤ x0 → Q (.inl (some (.int x1))) (pm_hp L fz t I J)))) :
    pm_Ev (d + 1) 120 [.int x0, .int x1, .int x2] (pm_hp L fz t I J) Q := pm_Ev_in rfl (b_X11_kept_0 h)
def t_X11_lesser_0 (d L : Nat) (fz t : Bool) (Q : pm_R → pm_H → Prop) (x0 : Int32) (x1 : Int32) (I : Nat → Nat → Int32) (J : Nat → Nat → Int64) : Prop := pm_T (pm_Ev d) 121 Q (0, [(0, .int x0), (1, .int x1)], [], pm_hp L fz t I J, 0, 0)
set_option maxRecDepth 100000 in
theorem b_X11_lesser_0 {d L : Nat} {fz t : Bool} {Q : pm_R → pm_H → Prop} {x0 : Int32} {x1 : Int32} {I : Nat → Nat → Int32} {J : Nat → Nat → Int64}
    (h : ((x1 ≤ x0 → Q (.inl (some (.int x1))) (pm_hp L fz t I J)) ∧ (¬ x1 ≤ x0 → Q (.inl (some (.int x0))) (pm_hp L fz t I J)))) :
    t_X11_lesser_0 d L fz t Q x0 x1 I J := by
  exact pm_go d [] 400 ⟨fun q0 => ((h).1 q0), fun q0 => ((h).2 q0)⟩
theorem e_X11_lesser {d L : Nat} {fz t : Bool} {Q : pm_R → pm_H → Prop} {x0 : Int32} {x1 : Int32} {I : Nat → Nat → Int32} {J : Nat → Nat → Int64}
    (h : ((x1 ≤ x0 → Q (.inl (some (.int x1))) (pm_hp L fz t I J)) ∧ (¬ x1 ≤ x0 → Q (.inl (some (.int x0))) (pm_hp L fz t I J)))) :
    pm_Ev (d + 1) 121 [.int x0, .int x1] (pm_hp L fz t I J) Q := pm_Ev_in rfl (b_X11_lesser_0 h)
def t_X11_copies_0 (d L : Nat) (fz t : Bool) (Q : pm_R → pm_H → Prop) (a1 : Nat) (a2 : Nat) (I : Nat → Nat → Int32) (J : Nat → Nat → Int64) : Prop := pm_T (pm_Ev d) 122 Q (0, [(0, .ref 85), (1, .ref a1), (2, .ref a2)], [], pm_hp L fz t I J, 0, 0)
def t_X11_copies_2 (d L : Nat) (fz t : Bool) (Q : pm_R → pm_H → Prop) (a1 : Nat) (a2 : Nat) (x3 : Int32) (I : Nat → Nat → Int32) (J : Nat → Nat → Int64) : Prop := pm_T (pm_Ev d) 122 Q (2, [(1, .ref a1), (2, .ref a2), (3, .int x3)], [], pm_hp L fz t I J, 0, 0)
set_option maxRecDepth 100000 in
theorem b_X11_copies_0 {d L : Nat} {fz t : Bool} {Q : pm_R → pm_H → Prop} {n0 : Nat} {a1 : Nat} {a2 : Nat} {I : Nat → Nat → Int32} {J : Nat → Nat → Int64} (harr : (a1 = 94 ∧ a2 = 86 ∧ n0 = 10) ∨ (a1 = 95 ∧ a2 = 87 ∧ n0 = 5) ∨ (a1 = 96 ∧ a2 = 88 ∧ n0 = 5) ∨ (a1 = 97 ∧ a2 = 89 ∧ n0 = 5) ∨ (a1 = 98 ∧ a2 = 90 ∧ n0 = 15) ∨ (a1 = 100 ∧ a2 = 91 ∧ n0 = 1400) ∨ (a1 = 107 ∧ a2 = 108 ∧ n0 = 12) ∨ (a1 = 104 ∧ a2 = 115 ∧ n0 = 1360) ∨ (a1 = 110 ∧ a2 = 116 ∧ n0 = 32) ∨ (a1 = 115 ∧ a2 = 104 ∧ n0 = 1360) ∨ (a1 = 116 ∧ a2 = 110 ∧ n0 = 32))
    (h : t_X11_copies_2 d L fz t Q a1 a2 (nI 0) I J) :
    t_X11_copies_0 d L fz t Q a1 a2 I J := by
  rcases harr with ⟨rfl, rfl, rfl⟩ | ⟨rfl, rfl, rfl⟩ | ⟨rfl, rfl, rfl⟩ | ⟨rfl, rfl, rfl⟩ | ⟨rfl, rfl, rfl⟩ | ⟨rfl, rfl, rfl⟩ | ⟨rfl, rfl, rfl⟩ | ⟨rfl, rfl, rfl⟩ | ⟨rfl, rfl, rfl⟩ | ⟨rfl, rfl, rfl⟩ | ⟨rfl, rfl, rfl⟩ <;> exact pm_go d [(2, [1, 2, 3])] 400 h
theorem e_X11_copies {d L : Nat} {fz t : Bool} {Q : pm_R → pm_H → Prop} {n0 : Nat} {a1 : Nat} {a2 : Nat} {I : Nat → Nat → Int32} {J : Nat → Nat → Int64} (harr : (a1 = 94 ∧ a2 = 86 ∧ n0 = 10) ∨ (a1 = 95 ∧ a2 = 87 ∧ n0 = 5) ∨ (a1 = 96 ∧ a2 = 88 ∧ n0 = 5) ∨ (a1 = 97 ∧ a2 = 89 ∧ n0 = 5) ∨ (a1 = 98 ∧ a2 = 90 ∧ n0 = 15) ∨ (a1 = 100 ∧ a2 = 91 ∧ n0 = 1400) ∨ (a1 = 107 ∧ a2 = 108 ∧ n0 = 12) ∨ (a1 = 104 ∧ a2 = 115 ∧ n0 = 1360) ∨ (a1 = 110 ∧ a2 = 116 ∧ n0 = 32) ∨ (a1 = 115 ∧ a2 = 104 ∧ n0 = 1360) ∨ (a1 = 116 ∧ a2 = 110 ∧ n0 = 32))
    (h : t_X11_copies_2 d L fz t Q a1 a2 (nI 0) I J) :
    pm_Ev (d + 1) 122 [.ref 85, .ref a1, .ref a2] (pm_hp L fz t I J) Q := pm_Ev_in rfl (b_X11_copies_0 harr h)
set_option maxRecDepth 100000 in
theorem b_X11_copies_2 {d L : Nat} {fz t : Bool} {Q : pm_R → pm_H → Prop} {n0 : Nat} {a1 : Nat} {a2 : Nat} {x3 : Int32} {I : Nat → Nat → Int32} {J : Nat → Nat → Int64} (harr : (a1 = 94 ∧ a2 = 86 ∧ n0 = 10) ∨ (a1 = 95 ∧ a2 = 87 ∧ n0 = 5) ∨ (a1 = 96 ∧ a2 = 88 ∧ n0 = 5) ∨ (a1 = 97 ∧ a2 = 89 ∧ n0 = 5) ∨ (a1 = 98 ∧ a2 = 90 ∧ n0 = 15) ∨ (a1 = 100 ∧ a2 = 91 ∧ n0 = 1400) ∨ (a1 = 107 ∧ a2 = 108 ∧ n0 = 12) ∨ (a1 = 104 ∧ a2 = 115 ∧ n0 = 1360) ∨ (a1 = 110 ∧ a2 = 116 ∧ n0 = 32) ∨ (a1 = 115 ∧ a2 = 104 ∧ n0 = 1360) ∨ (a1 = 116 ∧ a2 = 110 ∧ n0 = 32))
    (h : (((nI n0) ≤ x3 → Q (.inl none) (pm_hp L fz t I J)) ∧ (¬ (nI n0) ≤ x3 → (vp_in x3 n0 ∧ (vp_in x3 n0 ∧ t_X11_copies_2 d L fz t Q a1 a2 (x3 + (nI 1)) (pm_u I a2 (x3).toNatClampNeg (I a1 (x3).toNatClampNeg)) J))))) :
    t_X11_copies_2 d L fz t Q a1 a2 x3 I J := by
  rcases harr with ⟨rfl, rfl, rfl⟩ | ⟨rfl, rfl, rfl⟩ | ⟨rfl, rfl, rfl⟩ | ⟨rfl, rfl, rfl⟩ | ⟨rfl, rfl, rfl⟩ | ⟨rfl, rfl, rfl⟩ | ⟨rfl, rfl, rfl⟩ | ⟨rfl, rfl, rfl⟩ | ⟨rfl, rfl, rfl⟩ | ⟨rfl, rfl, rfl⟩ | ⟨rfl, rfl, rfl⟩ <;> exact pm_go d [(2, [1, 2, 3])] 400 ⟨fun q0 => ((h).1 q0), fun q0 => ⟨(((h).2 q0)).1, ⟨((((h).2 q0)).2).1, ((((h).2 q0)).2).2⟩⟩⟩
def t_X11_bits_0 (d L : Nat) (fz t : Bool) (Q : pm_R → pm_H → Prop) (x0 : Int32) (I : Nat → Nat → Int32) (J : Nat → Nat → Int64) : Prop := pm_T (pm_Ev d) 123 Q (0, [(0, .int x0)], [], pm_hp L fz t I J, 0, 0)
def t_X11_bits_4 (d L : Nat) (fz t : Bool) (Q : pm_R → pm_H → Prop) (x0 : Int32) (x1 : Int32) (x2 : Int32) (I : Nat → Nat → Int32) (J : Nat → Nat → Int64) : Prop := pm_T (pm_Ev d) 123 Q (4, [(0, .int x0), (1, .int x1), (2, .int x2)], [], pm_hp L fz t I J, 0, 0)
set_option maxRecDepth 100000 in
theorem b_X11_bits_0 {d L : Nat} {fz t : Bool} {Q : pm_R → pm_H → Prop} {x0 : Int32} {I : Nat → Nat → Int32} {J : Nat → Nat → Int64}
    (h : t_X11_bits_4 d L fz t Q x0 (nI 0) (nI 0) I J) :
    t_X11_bits_0 d L fz t Q x0 I J := by
  exact pm_go d [(4, [0, 1, 2])] 400 h
theorem e_X11_bits {d L : Nat} {fz t : Bool} {Q : pm_R → pm_H → Prop} {x0 : Int32} {I : Nat → Nat → Int32} {J : Nat → Nat → Int64}
    (h : t_X11_bits_4 d L fz t Q x0 (nI 0) (nI 0) I J) :
    pm_Ev (d + 1) 123 [.int x0] (pm_hp L fz t I J) Q := pm_Ev_in rfl (b_X11_bits_0 h)
set_option maxRecDepth 100000 in
theorem b_X11_bits_4 {d L : Nat} {fz t : Bool} {Q : pm_R → pm_H → Prop} {x0 : Int32} {x1 : Int32} {x2 : Int32} {I : Nat → Nat → Int32} {J : Nat → Nat → Int64}
    (h : (((nI 12) ≤ x2 → Q (.inl (some (.int x1))) (pm_hp L fz t I J)) ∧ (¬ (nI 12) ≤ x2 → t_X11_bits_4 d L fz t Q x0 (x1 + ((x0 >>> (x2 &&& 31)) &&& (nI 1))) (x2 + (nI 1)) I J))) :
    t_X11_bits_4 d L fz t Q x0 x1 x2 I J := by
  exact pm_go d [(4, [0, 1, 2])] 400 ⟨fun q0 => ((h).1 q0), fun q0 => ((h).2 q0)⟩
def t_X11_feed_0 (d L : Nat) (fz t : Bool) (Q : pm_R → pm_H → Prop) (x1 : Int32) (x2 : Int32) (x3 : Int32) (x4 : Int32) (x5 : Int32) (I : Nat → Nat → Int32) (J : Nat → Nat → Int64) : Prop := pm_T (pm_Ev d) 124 Q (0, [(0, .ref 85), (1, .int x1), (2, .int x2), (3, .int x3), (4, .int x4), (5, .int x5)], [], pm_hp L fz t I J, 0, 0)
def t_X11_feed_25 (d L : Nat) (fz t : Bool) (Q : pm_R → pm_H → Prop) (x2 : Int32) (x3 : Int32) (x4 : Int32) (x5 : Int32) (I : Nat → Nat → Int32) (J : Nat → Nat → Int64) : Prop := pm_T (pm_Ev d) 124 Q (25, [(0, .ref 85), (2, .int x2), (3, .int x3), (4, .int x4), (5, .int x5)], [], pm_hp L fz t I J, 0, 0)
def K_X11_feed_25 (d : Nat) (fz t : Bool) (Q : pm_R → pm_H → Prop) (x2 : Int32) (x3 : Int32) (x4 : Int32) (x5 : Int32) : pm_R → pm_H → Prop := pm_K d 124 Q 25 [(0, .ref 85), (2, .int x2), (3, .int x3), (4, .int x4), (5, .int x5)] [] 118 0 fz 0 0
def t_X11_feed_30 (d L : Nat) (fz t : Bool) (Q : pm_R → pm_H → Prop) (x3 : Int32) (x4 : Int32) (x5 : Int32) (I : Nat → Nat → Int32) (J : Nat → Nat → Int64) : Prop := pm_T (pm_Ev d) 124 Q (30, [(0, .ref 85), (3, .int x3), (4, .int x4), (5, .int x5)], [], pm_hp L fz t I J, 0, 0)
def K_X11_feed_30 (d : Nat) (fz t : Bool) (Q : pm_R → pm_H → Prop) (x3 : Int32) (x4 : Int32) (x5 : Int32) : pm_R → pm_H → Prop := pm_K d 124 Q 30 [(0, .ref 85), (3, .int x3), (4, .int x4), (5, .int x5)] [] 118 0 fz 0 0
def t_X11_feed_35 (d L : Nat) (fz t : Bool) (Q : pm_R → pm_H → Prop) (x4 : Int32) (x5 : Int32) (I : Nat → Nat → Int32) (J : Nat → Nat → Int64) : Prop := pm_T (pm_Ev d) 124 Q (35, [(0, .ref 85), (4, .int x4), (5, .int x5)], [], pm_hp L fz t I J, 0, 0)
def K_X11_feed_35 (d : Nat) (fz t : Bool) (Q : pm_R → pm_H → Prop) (x4 : Int32) (x5 : Int32) : pm_R → pm_H → Prop := pm_K d 124 Q 35 [(0, .ref 85), (4, .int x4), (5, .int x5)] [] 118 0 fz 0 0
def t_X11_feed_41 (d L : Nat) (fz t : Bool) (Q : pm_R → pm_H → Prop) (x5 : Int32) (I : Nat → Nat → Int32) (J : Nat → Nat → Int64) : Prop := pm_T (pm_Ev d) 124 Q (41, [(0, .ref 85), (5, .int x5)], [], pm_hp L fz t I J, 0, 0)
def K_X11_feed_41 (d : Nat) (fz t : Bool) (Q : pm_R → pm_H → Prop) (x5 : Int32) : pm_R → pm_H → Prop := pm_K d 124 Q 41 [(0, .ref 85), (5, .int x5)] [] 118 0 fz 0 0
def t_X11_feed_47 (d L : Nat) (fz t : Bool) (Q : pm_R → pm_H → Prop) (I : Nat → Nat → Int32) (J : Nat → Nat → Int64) : Prop := pm_T (pm_Ev d) 124 Q (47, [(0, .ref 85)], [], pm_hp L fz t I J, 0, 0)
def K_X11_feed_47 (d : Nat) (fz t : Bool) (Q : pm_R → pm_H → Prop) : pm_R → pm_H → Prop := pm_K d 124 Q 47 [(0, .ref 85)] [] 118 0 fz 0 0
set_option maxRecDepth 100000 in
theorem b_X11_feed_0 {d L : Nat} {fz t : Bool} {Q : pm_R → pm_H → Prop} {x1 : Int32} {x2 : Int32} {x3 : Int32} {x4 : Int32} {x5 : Int32} {I : Nat → Nat → Int32} {J : Nat → Nat → Int64}
    (h : ((((I 85 14) + (nI 20)) ≤ (nI 700) → pm_Ev d 125 [.ref 85, .int x1] (pm_hp L fz t (pm_u I 85 0 (nI 0)) J) (K_X11_feed_25 d fz t Q x2 x3 x4 x5)) ∧ (¬ ((I 85 14) + (nI 20)) ≤ (nI 700) → Q (.inl (some (.int (-1 : Int32)))) (pm_hp L fz t (pm_u I 85 0 (nI 0)) J)))) :
    t_X11_feed_0 d L fz t Q x1 x2 x3 x4 x5 I J := by
  exact pm_go d [(25, [0, 2, 3, 4, 5]), (30, [0, 3, 4, 5]), (35, [0, 4, 5]), (41, [0, 5]), (47, [0])] 400 ⟨fun q0 => ((h).1 q0), fun q0 => ((h).2 q0)⟩
theorem e_X11_feed {d L : Nat} {fz t : Bool} {Q : pm_R → pm_H → Prop} {x1 : Int32} {x2 : Int32} {x3 : Int32} {x4 : Int32} {x5 : Int32} {I : Nat → Nat → Int32} {J : Nat → Nat → Int64}
    (h : ((((I 85 14) + (nI 20)) ≤ (nI 700) → pm_Ev d 125 [.ref 85, .int x1] (pm_hp L fz t (pm_u I 85 0 (nI 0)) J) (K_X11_feed_25 d fz t Q x2 x3 x4 x5)) ∧ (¬ ((I 85 14) + (nI 20)) ≤ (nI 700) → Q (.inl (some (.int (-1 : Int32)))) (pm_hp L fz t (pm_u I 85 0 (nI 0)) J)))) :
    pm_Ev (d + 1) 124 [.ref 85, .int x1, .int x2, .int x3, .int x4, .int x5] (pm_hp L fz t I J) Q := pm_Ev_in rfl (b_X11_feed_0 h)
set_option maxRecDepth 100000 in
theorem b_X11_feed_25 {d L : Nat} {fz t : Bool} {Q : pm_R → pm_H → Prop} {x2 : Int32} {x3 : Int32} {x4 : Int32} {x5 : Int32} {I : Nat → Nat → Int32} {J : Nat → Nat → Int64}
    (h : pm_Ev d 125 [.ref 85, .int x2] (pm_hp L fz t I J) (K_X11_feed_30 d fz t Q x3 x4 x5)) :
    t_X11_feed_25 d L fz t Q x2 x3 x4 x5 I J := by
  exact pm_go d [(25, [0, 2, 3, 4, 5]), (30, [0, 3, 4, 5]), (35, [0, 4, 5]), (41, [0, 5]), (47, [0])] 400 h
theorem kb_X11_feed_25 {d L : Nat} {fz t : Bool} {Q : pm_R → pm_H → Prop} {x2 : Int32} {x3 : Int32} {x4 : Int32} {x5 : Int32} {fz1 : Bool} {I : Nat → Nat → Int32} {J : Nat → Nat → Int64}
    (h : pm_Ev d 125 [.ref 85, .int x2] (pm_hp L fz t I J) (K_X11_feed_30 d fz t Q x3 x4 x5)) :
    K_X11_feed_25 d fz t Q x2 x3 x4 x5 (.inl none) (pm_hp L fz1 t I J) := b_X11_feed_25 h
set_option maxRecDepth 100000 in
theorem b_X11_feed_30 {d L : Nat} {fz t : Bool} {Q : pm_R → pm_H → Prop} {x3 : Int32} {x4 : Int32} {x5 : Int32} {I : Nat → Nat → Int32} {J : Nat → Nat → Int64}
    (h : pm_Ev d 125 [.ref 85, .int x3] (pm_hp L fz t I J) (K_X11_feed_35 d fz t Q x4 x5)) :
    t_X11_feed_30 d L fz t Q x3 x4 x5 I J := by
  exact pm_go d [(25, [0, 2, 3, 4, 5]), (30, [0, 3, 4, 5]), (35, [0, 4, 5]), (41, [0, 5]), (47, [0])] 400 h
theorem kb_X11_feed_30 {d L : Nat} {fz t : Bool} {Q : pm_R → pm_H → Prop} {x3 : Int32} {x4 : Int32} {x5 : Int32} {fz1 : Bool} {I : Nat → Nat → Int32} {J : Nat → Nat → Int64}
    (h : pm_Ev d 125 [.ref 85, .int x3] (pm_hp L fz t I J) (K_X11_feed_35 d fz t Q x4 x5)) :
    K_X11_feed_30 d fz t Q x3 x4 x5 (.inl none) (pm_hp L fz1 t I J) := b_X11_feed_30 h
set_option maxRecDepth 100000 in
theorem b_X11_feed_35 {d L : Nat} {fz t : Bool} {Q : pm_R → pm_H → Prop} {x4 : Int32} {x5 : Int32} {I : Nat → Nat → Int32} {J : Nat → Nat → Int64}
    (h : pm_Ev d 125 [.ref 85, .int x4] (pm_hp L fz t I J) (K_X11_feed_41 d fz t Q x5)) :
    t_X11_feed_35 d L fz t Q x4 x5 I J := by
  exact pm_go d [(25, [0, 2, 3, 4, 5]), (30, [0, 3, 4, 5]), (35, [0, 4, 5]), (41, [0, 5]), (47, [0])] 400 h
theorem kb_X11_feed_35 {d L : Nat} {fz t : Bool} {Q : pm_R → pm_H → Prop} {x4 : Int32} {x5 : Int32} {fz1 : Bool} {I : Nat → Nat → Int32} {J : Nat → Nat → Int64}
    (h : pm_Ev d 125 [.ref 85, .int x4] (pm_hp L fz t I J) (K_X11_feed_41 d fz t Q x5)) :
    K_X11_feed_35 d fz t Q x4 x5 (.inl none) (pm_hp L fz1 t I J) := b_X11_feed_35 h
set_option maxRecDepth 100000 in
theorem b_X11_feed_41 {d L : Nat} {fz t : Bool} {Q : pm_R → pm_H → Prop} {x5 : Int32} {I : Nat → Nat → Int32} {J : Nat → Nat → Int64}
    (h : pm_Ev d 125 [.ref 85, .int x5] (pm_hp L fz t I J) (K_X11_feed_47 d fz t Q)) :
    t_X11_feed_41 d L fz t Q x5 I J := by
  exact pm_go d [(25, [0, 2, 3, 4, 5]), (30, [0, 3, 4, 5]), (35, [0, 4, 5]), (41, [0, 5]), (47, [0])] 400 h
theorem kb_X11_feed_41 {d L : Nat} {fz t : Bool} {Q : pm_R → pm_H → Prop} {x5 : Int32} {fz1 : Bool} {I : Nat → Nat → Int32} {J : Nat → Nat → Int64}
    (h : pm_Ev d 125 [.ref 85, .int x5] (pm_hp L fz t I J) (K_X11_feed_47 d fz t Q)) :
    K_X11_feed_41 d fz t Q x5 (.inl none) (pm_hp L fz1 t I J) := b_X11_feed_41 h
set_option maxRecDepth 100000 in
theorem b_X11_feed_47 {d L : Nat} {fz t : Bool} {Q : pm_R → pm_H → Prop} {I : Nat → Nat → Int32} {J : Nat → Nat → Int64}
    (h : Q (.inl (some (.int (I 85 14)))) (pm_hp L fz t I J)) :
    t_X11_feed_47 d L fz t Q I J := by
  exact pm_go d [(25, [0, 2, 3, 4, 5]), (30, [0, 3, 4, 5]), (35, [0, 4, 5]), (41, [0, 5]), (47, [0])] 400 h
theorem kb_X11_feed_47 {d L : Nat} {fz t : Bool} {Q : pm_R → pm_H → Prop} {fz1 : Bool} {I : Nat → Nat → Int32} {J : Nat → Nat → Int64}
    (h : Q (.inl (some (.int (I 85 14)))) (pm_hp L fz t I J)) :
    K_X11_feed_47 d fz t Q (.inl none) (pm_hp L fz1 t I J) := b_X11_feed_47 h
def t_X11_lays_0 (d L : Nat) (fz t : Bool) (Q : pm_R → pm_H → Prop) (x1 : Int32) (I : Nat → Nat → Int32) (J : Nat → Nat → Int64) : Prop := pm_T (pm_Ev d) 125 Q (0, [(0, .ref 85), (1, .int x1)], [], pm_hp L fz t I J, 0, 0)
def t_X11_lays_3 (d L : Nat) (fz t : Bool) (Q : pm_R → pm_H → Prop) (x1 : Int32) (x2 : Int32) (I : Nat → Nat → Int32) (J : Nat → Nat → Int64) : Prop := pm_T (pm_Ev d) 125 Q (3, [(0, .ref 85), (1, .int x1), (2, .int x2)], [], pm_hp L fz t I J, 0, 0)
set_option maxRecDepth 100000 in
theorem b_X11_lays_0 {d L : Nat} {fz t : Bool} {Q : pm_R → pm_H → Prop} {x1 : Int32} {I : Nat → Nat → Int32} {J : Nat → Nat → Int64}
    (h : t_X11_lays_3 d L fz t Q x1 (nI 24) I J) :
    t_X11_lays_0 d L fz t Q x1 I J := by
  exact pm_go d [(3, [0, 1, 2])] 400 h
theorem e_X11_lays {d L : Nat} {fz t : Bool} {Q : pm_R → pm_H → Prop} {x1 : Int32} {I : Nat → Nat → Int32} {J : Nat → Nat → Int64}
    (h : t_X11_lays_3 d L fz t Q x1 (nI 24) I J) :
    pm_Ev (d + 1) 125 [.ref 85, .int x1] (pm_hp L fz t I J) Q := pm_Ev_in rfl (b_X11_lays_0 h)
set_option maxRecDepth 100000 in
theorem b_X11_lays_3 {d L : Nat} {fz t : Bool} {Q : pm_R → pm_H → Prop} {x1 : Int32} {x2 : Int32} {I : Nat → Nat → Int32} {J : Nat → Nat → Int64}
    (h : ((x2 < (nI 0) → Q (.inl none) (pm_hp L fz t I J)) ∧ (¬ x2 < (nI 0) → (vp_in (I 85 14) 700 ∧ t_X11_lays_3 d L fz t Q x1 (x2 + (-8 : Int32)) (pm_u (pm_u I 92 ((I 85 14)).toNatClampNeg ((x1 >>> (x2 &&& 31)) &&& (nI 255))) 85 14 ((I 85 14) + (nI 1))) J)))) :
    t_X11_lays_3 d L fz t Q x1 x2 I J := by
  exact pm_go d [(3, [0, 1, 2])] 400 ⟨fun q0 => ((h).1 q0), fun q0 => ⟨(((h).2 q0)).1, (((h).2 q0)).2⟩⟩
def t_X11_byteAt_0 (d L : Nat) (fz t : Bool) (Q : pm_R → pm_H → Prop) (x1 : Int32) (I : Nat → Nat → Int32) (J : Nat → Nat → Int64) : Prop := pm_T (pm_Ev d) 126 Q (0, [(0, .ref 85), (1, .int x1)], [], pm_hp L fz t I J, 0, 0)
set_option maxRecDepth 100000 in
theorem b_X11_byteAt_0 {d L : Nat} {fz t : Bool} {Q : pm_R → pm_H → Prop} {x1 : Int32} {I : Nat → Nat → Int32} {J : Nat → Nat → Int64}
    (h : (((I 85 18) ≤ x1 → Q (.inl (some (.int (nI 0)))) (pm_hp L fz t I J)) ∧ (¬ (I 85 18) ≤ x1 → (vp_in x1 700 ∧ Q (.inl (some (.int (I 92 (x1).toNatClampNeg)))) (pm_hp L fz t I J))))) :
    t_X11_byteAt_0 d L fz t Q x1 I J := by
  exact pm_go d [] 400 ⟨fun q0 => ((h).1 q0), fun q0 => ⟨(((h).2 q0)).1, (((h).2 q0)).2⟩⟩
theorem e_X11_byteAt {d L : Nat} {fz t : Bool} {Q : pm_R → pm_H → Prop} {x1 : Int32} {I : Nat → Nat → Int32} {J : Nat → Nat → Int64}
    (h : (((I 85 18) ≤ x1 → Q (.inl (some (.int (nI 0)))) (pm_hp L fz t I J)) ∧ (¬ (I 85 18) ≤ x1 → (vp_in x1 700 ∧ Q (.inl (some (.int (I 92 (x1).toNatClampNeg)))) (pm_hp L fz t I J))))) :
    pm_Ev (d + 1) 126 [.ref 85, .int x1] (pm_hp L fz t I J) Q := pm_Ev_in rfl (b_X11_byteAt_0 h)
def t_X11_isLetter_0 (d L : Nat) (fz t : Bool) (Q : pm_R → pm_H → Prop) (x0 : Int32) (I : Nat → Nat → Int32) (J : Nat → Nat → Int64) : Prop := pm_T (pm_Ev d) 127 Q (0, [(0, .int x0)], [], pm_hp L fz t I J, 0, 0)
set_option maxRecDepth 100000 in
theorem b_X11_isLetter_0 {d L : Nat} {fz t : Bool} {Q : pm_R → pm_H → Prop} {x0 : Int32} {I : Nat → Nat → Int32} {J : Nat → Nat → Int64}
    (h : ((x0 < (nI 97) → Q (.inl (some (.int (nI 0)))) (pm_hp L fz t I J)) ∧ (¬ x0 < (nI 97) → (((nI 122) < x0 → Q (.inl (some (.int (nI 0)))) (pm_hp L fz t I J)) ∧ (¬ (nI 122) < x0 → Q (.inl (some (.int (nI 1)))) (pm_hp L fz t I J)))))) :
    t_X11_isLetter_0 d L fz t Q x0 I J := by
  exact pm_go d [] 400 ⟨fun q0 => ⟨Or.inl rfl, ((h).1 q0)⟩, fun q0 => ⟨fun q1 => ⟨Or.inl rfl, ((((h).2 q0)).1 q1)⟩, fun q1 => ⟨Or.inr rfl, ((((h).2 q0)).2 q1)⟩⟩⟩
theorem e_X11_isLetter {d L : Nat} {fz t : Bool} {Q : pm_R → pm_H → Prop} {x0 : Int32} {I : Nat → Nat → Int32} {J : Nat → Nat → Int64}
    (h : ((x0 < (nI 97) → Q (.inl (some (.int (nI 0)))) (pm_hp L fz t I J)) ∧ (¬ x0 < (nI 97) → (((nI 122) < x0 → Q (.inl (some (.int (nI 0)))) (pm_hp L fz t I J)) ∧ (¬ (nI 122) < x0 → Q (.inl (some (.int (nI 1)))) (pm_hp L fz t I J)))))) :
    pm_Ev (d + 1) 127 [.int x0] (pm_hp L fz t I J) Q := pm_Ev_in rfl (b_X11_isLetter_0 h)
def t_X11_isDigit_0 (d L : Nat) (fz t : Bool) (Q : pm_R → pm_H → Prop) (x0 : Int32) (I : Nat → Nat → Int32) (J : Nat → Nat → Int64) : Prop := pm_T (pm_Ev d) 128 Q (0, [(0, .int x0)], [], pm_hp L fz t I J, 0, 0)
set_option maxRecDepth 100000 in
theorem b_X11_isDigit_0 {d L : Nat} {fz t : Bool} {Q : pm_R → pm_H → Prop} {x0 : Int32} {I : Nat → Nat → Int32} {J : Nat → Nat → Int64}
    (h : ((x0 < (nI 48) → Q (.inl (some (.int (nI 0)))) (pm_hp L fz t I J)) ∧ (¬ x0 < (nI 48) → (((nI 57) < x0 → Q (.inl (some (.int (nI 0)))) (pm_hp L fz t I J)) ∧ (¬ (nI 57) < x0 → Q (.inl (some (.int (nI 1)))) (pm_hp L fz t I J)))))) :
    t_X11_isDigit_0 d L fz t Q x0 I J := by
  exact pm_go d [] 400 ⟨fun q0 => ⟨Or.inl rfl, ((h).1 q0)⟩, fun q0 => ⟨fun q1 => ⟨Or.inl rfl, ((((h).2 q0)).1 q1)⟩, fun q1 => ⟨Or.inr rfl, ((((h).2 q0)).2 q1)⟩⟩⟩
theorem e_X11_isDigit {d L : Nat} {fz t : Bool} {Q : pm_R → pm_H → Prop} {x0 : Int32} {I : Nat → Nat → Int32} {J : Nat → Nat → Int64}
    (h : ((x0 < (nI 48) → Q (.inl (some (.int (nI 0)))) (pm_hp L fz t I J)) ∧ (¬ x0 < (nI 48) → (((nI 57) < x0 → Q (.inl (some (.int (nI 0)))) (pm_hp L fz t I J)) ∧ (¬ (nI 57) < x0 → Q (.inl (some (.int (nI 1)))) (pm_hp L fz t I J)))))) :
    pm_Ev (d + 1) 128 [.int x0] (pm_hp L fz t I J) Q := pm_Ev_in rfl (b_X11_isDigit_0 h)
def t_X11_goes_0 (d L : Nat) (fz t : Bool) (Q : pm_R → pm_H → Prop) (I : Nat → Nat → Int32) (J : Nat → Nat → Int64) : Prop := pm_T (pm_Ev d) 129 Q (0, [(0, .ref 85)], [], pm_hp L fz t I J, 0, 0)
def t_X11_goes_76 (d L : Nat) (fz t : Bool) (Q : pm_R → pm_H → Prop) (r : Int32) (I : Nat → Nat → Int32) (J : Nat → Nat → Int64) : Prop := pm_T (pm_Ev d) 129 Q (76, [(0, .ref 85)], [.int r], pm_hp L fz t I J, 0, 0)
def K_X11_goes_76 (d : Nat) (fz t : Bool) (Q : pm_R → pm_H → Prop) : pm_R → pm_H → Prop := pm_K d 129 Q 76 [(0, .ref 85)] [] 118 0 fz 0 0
def t_X11_goes_19 (d L : Nat) (fz t : Bool) (Q : pm_R → pm_H → Prop) (r : Int32) (I : Nat → Nat → Int32) (J : Nat → Nat → Int64) : Prop := pm_T (pm_Ev d) 129 Q (19, [(0, .ref 85)], [.int r], pm_hp L fz t I J, 0, 0)
def K_X11_goes_19 (d : Nat) (fz t : Bool) (Q : pm_R → pm_H → Prop) : pm_R → pm_H → Prop := pm_K d 129 Q 19 [(0, .ref 85)] [] 118 0 fz 0 0
def t_X11_goes_105 (d L : Nat) (fz t : Bool) (Q : pm_R → pm_H → Prop) (x1 : Int32) (r : Int32) (I : Nat → Nat → Int32) (J : Nat → Nat → Int64) : Prop := pm_T (pm_Ev d) 129 Q (105, [(0, .ref 85), (1, .int x1)], [.int r], pm_hp L fz t I J, 0, 0)
def K_X11_goes_105 (d : Nat) (fz t : Bool) (Q : pm_R → pm_H → Prop) (x1 : Int32) : pm_R → pm_H → Prop := pm_K d 129 Q 105 [(0, .ref 85), (1, .int x1)] [] 118 0 fz 0 0
def t_X11_goes_32 (d L : Nat) (fz t : Bool) (Q : pm_R → pm_H → Prop) (r : Int32) (I : Nat → Nat → Int32) (J : Nat → Nat → Int64) : Prop := pm_T (pm_Ev d) 129 Q (32, [(0, .ref 85)], [.int r], pm_hp L fz t I J, 0, 0)
def K_X11_goes_32 (d : Nat) (fz t : Bool) (Q : pm_R → pm_H → Prop) : pm_R → pm_H → Prop := pm_K d 129 Q 32 [(0, .ref 85)] [] 118 0 fz 0 0
def t_X11_goes_184 (d L : Nat) (fz t : Bool) (Q : pm_R → pm_H → Prop) (x1 : Int32) (r : Int32) (I : Nat → Nat → Int32) (J : Nat → Nat → Int64) : Prop := pm_T (pm_Ev d) 129 Q (184, [(0, .ref 85), (1, .int x1)], [.int r], pm_hp L fz t I J, 0, 0)
def K_X11_goes_184 (d : Nat) (fz t : Bool) (Q : pm_R → pm_H → Prop) (x1 : Int32) : pm_R → pm_H → Prop := pm_K d 129 Q 184 [(0, .ref 85), (1, .int x1)] [] 118 0 fz 0 0
def t_X11_goes_108 (d L : Nat) (fz t : Bool) (Q : pm_R → pm_H → Prop) (I : Nat → Nat → Int32) (J : Nat → Nat → Int64) : Prop := pm_T (pm_Ev d) 129 Q (108, [(0, .ref 85)], [], pm_hp L fz t I J, 0, 0)
def t_X11_goes_187 (d L : Nat) (fz t : Bool) (Q : pm_R → pm_H → Prop) (I : Nat → Nat → Int32) (J : Nat → Nat → Int64) : Prop := pm_T (pm_Ev d) 129 Q (187, [(0, .ref 85)], [], pm_hp L fz t I J, 0, 0)
def t_X11_goes_116 (d L : Nat) (fz t : Bool) (Q : pm_R → pm_H → Prop) (r : Int32) (I : Nat → Nat → Int32) (J : Nat → Nat → Int64) : Prop := pm_T (pm_Ev d) 129 Q (116, [(0, .ref 85)], [.int r], pm_hp L fz t I J, 0, 0)
def K_X11_goes_116 (d : Nat) (fz t : Bool) (Q : pm_R → pm_H → Prop) : pm_R → pm_H → Prop := pm_K d 129 Q 116 [(0, .ref 85)] [] 118 0 fz 0 0
def t_X11_goes_195 (d L : Nat) (fz t : Bool) (Q : pm_R → pm_H → Prop) (r : Int32) (I : Nat → Nat → Int32) (J : Nat → Nat → Int64) : Prop := pm_T (pm_Ev d) 129 Q (195, [(0, .ref 85)], [.int r], pm_hp L fz t I J, 0, 0)
def K_X11_goes_195 (d : Nat) (fz t : Bool) (Q : pm_R → pm_H → Prop) : pm_R → pm_H → Prop := pm_K d 129 Q 195 [(0, .ref 85)] [] 118 0 fz 0 0
def t_X11_goes_119 (d L : Nat) (fz t : Bool) (Q : pm_R → pm_H → Prop) (r : Int32) (I : Nat → Nat → Int32) (J : Nat → Nat → Int64) : Prop := pm_T (pm_Ev d) 129 Q (119, [(0, .ref 85)], [.int r], pm_hp L fz t I J, 0, 0)
def K_X11_goes_119 (d : Nat) (fz t : Bool) (Q : pm_R → pm_H → Prop) : pm_R → pm_H → Prop := pm_K d 129 Q 119 [(0, .ref 85)] [] 118 0 fz 0 0
def t_X11_goes_198 (d L : Nat) (fz t : Bool) (Q : pm_R → pm_H → Prop) (r : Int32) (I : Nat → Nat → Int32) (J : Nat → Nat → Int64) : Prop := pm_T (pm_Ev d) 129 Q (198, [(0, .ref 85)], [.int r], pm_hp L fz t I J, 0, 0)
def K_X11_goes_198 (d : Nat) (fz t : Bool) (Q : pm_R → pm_H → Prop) : pm_R → pm_H → Prop := pm_K d 129 Q 198 [(0, .ref 85)] [] 118 0 fz 0 0
def t_X11_goes_151 (d L : Nat) (fz t : Bool) (Q : pm_R → pm_H → Prop) (u1 : Int64) (r : Int32) (I : Nat → Nat → Int32) (J : Nat → Nat → Int64) : Prop := pm_T (pm_Ev d) 129 Q (151, [(0, .ref 85)], [.int r, .long u1, .ref 85], pm_hp L fz t I J, 0, 0)
def K_X11_goes_151 (d : Nat) (fz t : Bool) (Q : pm_R → pm_H → Prop) (u1 : Int64) : pm_R → pm_H → Prop := pm_K d 129 Q 151 [(0, .ref 85)] [.long u1, .ref 85] 118 0 fz 0 0
def t_X11_goes_230 (d L : Nat) (fz t : Bool) (Q : pm_R → pm_H → Prop) (s1 : Int32) (r : Int32) (I : Nat → Nat → Int32) (J : Nat → Nat → Int64) : Prop := pm_T (pm_Ev d) 129 Q (230, [(0, .ref 85)], [.int r, .int s1, .ref 85], pm_hp L fz t I J, 0, 0)
def K_X11_goes_230 (d : Nat) (fz t : Bool) (Q : pm_R → pm_H → Prop) (s1 : Int32) : pm_R → pm_H → Prop := pm_K d 129 Q 230 [(0, .ref 85)] [.int s1, .ref 85] 118 0 fz 0 0
set_option maxRecDepth 100000 in
theorem b_X11_goes_0 {d L : Nat} {fz t : Bool} {Q : pm_R → pm_H → Prop} {I : Nat → Nat → Int32} {J : Nat → Nat → Int64}
    (h : (((I 85 18) ≤ (I 85 19) → pm_Ev d 126 [.ref 85, .int (I 85 19)] (pm_hp L fz t (pm_u (pm_u I 85 21 (I 85 19)) 85 23 (nI 0)) (pm_u J 85 25 (Int64.ofNat 0))) (K_X11_goes_76 d fz t Q)) ∧ (¬ (I 85 18) ≤ (I 85 19) → pm_Ev d 126 [.ref 85, .int (I 85 19)] (pm_hp L fz t I J) (K_X11_goes_19 d fz t Q)))) :
    t_X11_goes_0 d L fz t Q I J := by
  exact pm_go d [(0, [0]), (19, [0]), (32, [0]), (76, [0]), (105, [0, 1]), (108, [0]), (116, [0]), (119, [0]), (151, [0]), (184, [0, 1]), (187, [0]), (195, [0]), (198, [0]), (230, [0])] 400 ⟨fun q0 => ((h).1 q0), fun q0 => ((h).2 q0)⟩
theorem e_X11_goes {d L : Nat} {fz t : Bool} {Q : pm_R → pm_H → Prop} {I : Nat → Nat → Int32} {J : Nat → Nat → Int64}
    (h : (((I 85 18) ≤ (I 85 19) → pm_Ev d 126 [.ref 85, .int (I 85 19)] (pm_hp L fz t (pm_u (pm_u I 85 21 (I 85 19)) 85 23 (nI 0)) (pm_u J 85 25 (Int64.ofNat 0))) (K_X11_goes_76 d fz t Q)) ∧ (¬ (I 85 18) ≤ (I 85 19) → pm_Ev d 126 [.ref 85, .int (I 85 19)] (pm_hp L fz t I J) (K_X11_goes_19 d fz t Q)))) :
    pm_Ev (d + 1) 129 [.ref 85] (pm_hp L fz t I J) Q := pm_Ev_in rfl (b_X11_goes_0 h)
set_option maxRecDepth 100000 in
theorem b_X11_goes_76 {d L : Nat} {fz t : Bool} {Q : pm_R → pm_H → Prop} {r : Int32} {I : Nat → Nat → Int32} {J : Nat → Nat → Int64}
    (h : (((I 85 19) < (I 85 18) → pm_Ev d 127 [.int r] (pm_hp L fz t (pm_u I 85 24 r) J) (K_X11_goes_105 d fz t Q r)) ∧ (¬ (I 85 19) < (I 85 18) → Q (.inl none) (pm_hp L fz t (pm_u (pm_u (pm_u I 85 24 r) 85 20 (nI 0)) 85 22 ((I 85 19) - (I 85 21))) J)))) :
    t_X11_goes_76 d L fz t Q r I J := by
  exact pm_go d [(0, [0]), (19, [0]), (32, [0]), (76, [0]), (105, [0, 1]), (108, [0]), (116, [0]), (119, [0]), (151, [0]), (184, [0, 1]), (187, [0]), (195, [0]), (198, [0]), (230, [0])] 400 ⟨fun q0 => ((h).1 q0), fun q0 => ((h).2 q0)⟩
theorem kb_X11_goes_76 {d L : Nat} {fz t : Bool} {Q : pm_R → pm_H → Prop} {r : Int32} {fz1 : Bool} {I : Nat → Nat → Int32} {J : Nat → Nat → Int64}
    (h : (((I 85 19) < (I 85 18) → pm_Ev d 127 [.int r] (pm_hp L fz t (pm_u I 85 24 r) J) (K_X11_goes_105 d fz t Q r)) ∧ (¬ (I 85 19) < (I 85 18) → Q (.inl none) (pm_hp L fz t (pm_u (pm_u (pm_u I 85 24 r) 85 20 (nI 0)) 85 22 ((I 85 19) - (I 85 21))) J)))) :
    K_X11_goes_76 d fz t Q (.inl (some (.int r))) (pm_hp L fz1 t I J) := b_X11_goes_76 h
set_option maxRecDepth 100000 in
theorem b_X11_goes_19 {d L : Nat} {fz t : Bool} {Q : pm_R → pm_H → Prop} {r : Int32} {I : Nat → Nat → Int32} {J : Nat → Nat → Int64}
    (h : ((r = (nI 32) → t_X11_goes_0 d L fz t Q (pm_u I 85 19 ((I 85 19) + (nI 1))) J) ∧ (¬ r = (nI 32) → pm_Ev d 126 [.ref 85, .int (I 85 19)] (pm_hp L fz t I J) (K_X11_goes_32 d fz t Q)))) :
    t_X11_goes_19 d L fz t Q r I J := by
  exact pm_go d [(0, [0]), (19, [0]), (32, [0]), (76, [0]), (105, [0, 1]), (108, [0]), (116, [0]), (119, [0]), (151, [0]), (184, [0, 1]), (187, [0]), (195, [0]), (198, [0]), (230, [0])] 400 ⟨fun q0 => ((h).1 q0), fun q0 => ((h).2 q0)⟩
theorem kb_X11_goes_19 {d L : Nat} {fz t : Bool} {Q : pm_R → pm_H → Prop} {r : Int32} {fz1 : Bool} {I : Nat → Nat → Int32} {J : Nat → Nat → Int64}
    (h : ((r = (nI 32) → t_X11_goes_0 d L fz t Q (pm_u I 85 19 ((I 85 19) + (nI 1))) J) ∧ (¬ r = (nI 32) → pm_Ev d 126 [.ref 85, .int (I 85 19)] (pm_hp L fz t I J) (K_X11_goes_32 d fz t Q)))) :
    K_X11_goes_19 d fz t Q (.inl (some (.int r))) (pm_hp L fz1 t I J) := b_X11_goes_19 h
set_option maxRecDepth 100000 in
theorem b_X11_goes_105 {d L : Nat} {fz t : Bool} {Q : pm_R → pm_H → Prop} {x1 : Int32} {r : Int32} {I : Nat → Nat → Int32} {J : Nat → Nat → Int64}
    (h : ((r = (nI 0) → pm_Ev d 128 [.int x1] (pm_hp L fz t I J) (K_X11_goes_184 d fz t Q x1)) ∧ (¬ r = (nI 0) → t_X11_goes_108 d L fz t Q I J))) :
    t_X11_goes_105 d L fz t Q x1 r I J := by
  exact pm_go d [(0, [0]), (19, [0]), (32, [0]), (76, [0]), (105, [0, 1]), (108, [0]), (116, [0]), (119, [0]), (151, [0]), (184, [0, 1]), (187, [0]), (195, [0]), (198, [0]), (230, [0])] 400 ⟨fun q0 => ((h).1 q0), fun q0 => ((h).2 q0)⟩
theorem kb_X11_goes_105 {d L : Nat} {fz t : Bool} {Q : pm_R → pm_H → Prop} {x1 : Int32} {r : Int32} {fz1 : Bool} {I : Nat → Nat → Int32} {J : Nat → Nat → Int64}
    (h : ((r = (nI 0) → pm_Ev d 128 [.int x1] (pm_hp L fz t I J) (K_X11_goes_184 d fz t Q x1)) ∧ (¬ r = (nI 0) → t_X11_goes_108 d L fz t Q I J))) :
    K_X11_goes_105 d fz t Q x1 (.inl (some (.int r))) (pm_hp L fz1 t I J) := b_X11_goes_105 h
set_option maxRecDepth 100000 in
theorem b_X11_goes_32 {d L : Nat} {fz t : Bool} {Q : pm_R → pm_H → Prop} {r : Int32} {I : Nat → Nat → Int32} {J : Nat → Nat → Int64}
    (h : ((¬ r = (nI 10) → pm_Ev d 126 [.ref 85, .int (I 85 19)] (pm_hp L fz t (pm_u (pm_u I 85 21 (I 85 19)) 85 23 (nI 0)) (pm_u J 85 25 (Int64.ofNat 0))) (K_X11_goes_76 d fz t Q)) ∧ (r = (nI 10) → t_X11_goes_0 d L fz t Q (pm_u I 85 19 ((I 85 19) + (nI 1))) J))) :
    t_X11_goes_32 d L fz t Q r I J := by
  exact pm_go d [(0, [0]), (19, [0]), (32, [0]), (76, [0]), (105, [0, 1]), (108, [0]), (116, [0]), (119, [0]), (151, [0]), (184, [0, 1]), (187, [0]), (195, [0]), (198, [0]), (230, [0])] 400 ⟨fun q0 => ((h).1 q0), fun q0 => ((h).2 q0)⟩
theorem kb_X11_goes_32 {d L : Nat} {fz t : Bool} {Q : pm_R → pm_H → Prop} {r : Int32} {fz1 : Bool} {I : Nat → Nat → Int32} {J : Nat → Nat → Int64}
    (h : ((¬ r = (nI 10) → pm_Ev d 126 [.ref 85, .int (I 85 19)] (pm_hp L fz t (pm_u (pm_u I 85 21 (I 85 19)) 85 23 (nI 0)) (pm_u J 85 25 (Int64.ofNat 0))) (K_X11_goes_76 d fz t Q)) ∧ (r = (nI 10) → t_X11_goes_0 d L fz t Q (pm_u I 85 19 ((I 85 19) + (nI 1))) J))) :
    K_X11_goes_32 d fz t Q (.inl (some (.int r))) (pm_hp L fz1 t I J) := b_X11_goes_32 h
set_option maxRecDepth 100000 in
theorem b_X11_goes_184 {d L : Nat} {fz t : Bool} {Q : pm_R → pm_H → Prop} {x1 : Int32} {r : Int32} {I : Nat → Nat → Int32} {J : Nat → Nat → Int64}
    (h : ((r = (nI 0) → ((x1 = (nI 59) → Q (.inl none) (pm_hp L fz t (pm_u (pm_u (pm_u I 85 19 ((I 85 19) + (nI 1))) 85 20 (nI 3)) 85 22 (((I 85 19) + (nI 1)) - (I 85 21))) J)) ∧ (¬ x1 = (nI 59) → ((x1 = (nI 40) → Q (.inl none) (pm_hp L fz t (pm_u (pm_u (pm_u I 85 19 ((I 85 19) + (nI 1))) 85 20 (nI 3)) 85 22 (((I 85 19) + (nI 1)) - (I 85 21))) J)) ∧ (¬ x1 = (nI 40) → ((x1 = (nI 41) → Q (.inl none) (pm_hp L fz t (pm_u (pm_u (pm_u I 85 19 ((I 85 19) + (nI 1))) 85 20 (nI 3)) 85 22 (((I 85 19) + (nI 1)) - (I 85 21))) J)) ∧ (¬ x1 = (nI 41) → ((x1 = (nI 43) → Q (.inl none) (pm_hp L fz t (pm_u (pm_u (pm_u I 85 19 ((I 85 19) + (nI 1))) 85 20 (nI 3)) 85 22 (((I 85 19) + (nI 1)) - (I 85 21))) J)) ∧ (¬ x1 = (nI 43) → ((x1 = (nI 45) → Q (.inl none) (pm_hp L fz t (pm_u (pm_u (pm_u I 85 19 ((I 85 19) + (nI 1))) 85 20 (nI 3)) 85 22 (((I 85 19) + (nI 1)) - (I 85 21))) J)) ∧ (¬ x1 = (nI 45) → ((x1 = (nI 42) → Q (.inl none) (pm_hp L fz t (pm_u (pm_u (pm_u I 85 19 ((I 85 19) + (nI 1))) 85 20 (nI 3)) 85 22 (((I 85 19) + (nI 1)) - (I 85 21))) J)) ∧ (¬ x1 = (nI 42) → ((x1 = (nI 47) → Q (.inl none) (pm_hp L fz t (pm_u (pm_u (pm_u I 85 19 ((I 85 19) + (nI 1))) 85 20 (nI 3)) 85 22 (((I 85 19) + (nI 1)) - (I 85 21))) J)) ∧ (¬ x1 = (nI 47) → ((x1 = (nI 60) → Q (.inl none) (pm_hp L fz t (pm_u (pm_u (pm_u I 85 19 ((I 85 19) + (nI 1))) 85 20 (nI 3)) 85 22 (((I 85 19) + (nI 1)) - (I 85 21))) J)) ∧ (¬ x1 = (nI 60) → ((¬ x1 = (nI 61) → Q (.inl none) (pm_hp L fz t (pm_u (pm_u (pm_u I 85 19 ((I 85 19) + (nI 1))) 85 20 (nI 4)) 85 22 (((I 85 19) + (nI 1)) - (I 85 21))) J)) ∧ (x1 = (nI 61) → Q (.inl none) (pm_hp L fz t (pm_u (pm_u (pm_u I 85 19 ((I 85 19) + (nI 1))) 85 20 (nI 3)) 85 22 (((I 85 19) + (nI 1)) - (I 85 21))) J)))))))))))))))))))) ∧ (¬ r = (nI 0) → t_X11_goes_187 d L fz t Q I J))) :
    t_X11_goes_184 d L fz t Q x1 r I J := by
  exact pm_go d [(0, [0]), (19, [0]), (32, [0]), (76, [0]), (105, [0, 1]), (108, [0]), (116, [0]), (119, [0]), (151, [0]), (184, [0, 1]), (187, [0]), (195, [0]), (198, [0]), (230, [0])] 400 ⟨fun q0 => ⟨fun q1 => ((((h).1 q0)).1 q1), fun q1 => ⟨fun q2 => ((((((h).1 q0)).2 q1)).1 q2), fun q2 => ⟨fun q3 => ((((((((h).1 q0)).2 q1)).2 q2)).1 q3), fun q3 => ⟨fun q4 => ((((((((((h).1 q0)).2 q1)).2 q2)).2 q3)).1 q4), fun q4 => ⟨fun q5 => ((((((((((((h).1 q0)).2 q1)).2 q2)).2 q3)).2 q4)).1 q5), fun q5 => ⟨fun q6 => ((((((((((((((h).1 q0)).2 q1)).2 q2)).2 q3)).2 q4)).2 q5)).1 q6), fun q6 => ⟨fun q7 => ((((((((((((((((h).1 q0)).2 q1)).2 q2)).2 q3)).2 q4)).2 q5)).2 q6)).1 q7), fun q7 => ⟨fun q8 => ((((((((((((((((((h).1 q0)).2 q1)).2 q2)).2 q3)).2 q4)).2 q5)).2 q6)).2 q7)).1 q8), fun q8 => ⟨fun q9 => ((((((((((((((((((((h).1 q0)).2 q1)).2 q2)).2 q3)).2 q4)).2 q5)).2 q6)).2 q7)).2 q8)).1 q9), fun q9 => ((((((((((((((((((((h).1 q0)).2 q1)).2 q2)).2 q3)).2 q4)).2 q5)).2 q6)).2 q7)).2 q8)).2 q9)⟩⟩⟩⟩⟩⟩⟩⟩⟩, fun q0 => ((h).2 q0)⟩
theorem kb_X11_goes_184 {d L : Nat} {fz t : Bool} {Q : pm_R → pm_H → Prop} {x1 : Int32} {r : Int32} {fz1 : Bool} {I : Nat → Nat → Int32} {J : Nat → Nat → Int64}
    (h : ((r = (nI 0) → ((x1 = (nI 59) → Q (.inl none) (pm_hp L fz t (pm_u (pm_u (pm_u I 85 19 ((I 85 19) + (nI 1))) 85 20 (nI 3)) 85 22 (((I 85 19) + (nI 1)) - (I 85 21))) J)) ∧ (¬ x1 = (nI 59) → ((x1 = (nI 40) → Q (.inl none) (pm_hp L fz t (pm_u (pm_u (pm_u I 85 19 ((I 85 19) + (nI 1))) 85 20 (nI 3)) 85 22 (((I 85 19) + (nI 1)) - (I 85 21))) J)) ∧ (¬ x1 = (nI 40) → ((x1 = (nI 41) → Q (.inl none) (pm_hp L fz t (pm_u (pm_u (pm_u I 85 19 ((I 85 19) + (nI 1))) 85 20 (nI 3)) 85 22 (((I 85 19) + (nI 1)) - (I 85 21))) J)) ∧ (¬ x1 = (nI 41) → ((x1 = (nI 43) → Q (.inl none) (pm_hp L fz t (pm_u (pm_u (pm_u I 85 19 ((I 85 19) + (nI 1))) 85 20 (nI 3)) 85 22 (((I 85 19) + (nI 1)) - (I 85 21))) J)) ∧ (¬ x1 = (nI 43) → ((x1 = (nI 45) → Q (.inl none) (pm_hp L fz t (pm_u (pm_u (pm_u I 85 19 ((I 85 19) + (nI 1))) 85 20 (nI 3)) 85 22 (((I 85 19) + (nI 1)) - (I 85 21))) J)) ∧ (¬ x1 = (nI 45) → ((x1 = (nI 42) → Q (.inl none) (pm_hp L fz t (pm_u (pm_u (pm_u I 85 19 ((I 85 19) + (nI 1))) 85 20 (nI 3)) 85 22 (((I 85 19) + (nI 1)) - (I 85 21))) J)) ∧ (¬ x1 = (nI 42) → ((x1 = (nI 47) → Q (.inl none) (pm_hp L fz t (pm_u (pm_u (pm_u I 85 19 ((I 85 19) + (nI 1))) 85 20 (nI 3)) 85 22 (((I 85 19) + (nI 1)) - (I 85 21))) J)) ∧ (¬ x1 = (nI 47) → ((x1 = (nI 60) → Q (.inl none) (pm_hp L fz t (pm_u (pm_u (pm_u I 85 19 ((I 85 19) + (nI 1))) 85 20 (nI 3)) 85 22 (((I 85 19) + (nI 1)) - (I 85 21))) J)) ∧ (¬ x1 = (nI 60) → ((¬ x1 = (nI 61) → Q (.inl none) (pm_hp L fz t (pm_u (pm_u (pm_u I 85 19 ((I 85 19) + (nI 1))) 85 20 (nI 4)) 85 22 (((I 85 19) + (nI 1)) - (I 85 21))) J)) ∧ (x1 = (nI 61) → Q (.inl none) (pm_hp L fz t (pm_u (pm_u (pm_u I 85 19 ((I 85 19) + (nI 1))) 85 20 (nI 3)) 85 22 (((I 85 19) + (nI 1)) - (I 85 21))) J)))))))))))))))))))) ∧ (¬ r = (nI 0) → t_X11_goes_187 d L fz t Q I J))) :
    K_X11_goes_184 d fz t Q x1 (.inl (some (.int r))) (pm_hp L fz1 t I J) := b_X11_goes_184 h
set_option maxRecDepth 100000 in
theorem b_X11_goes_108 {d L : Nat} {fz t : Bool} {Q : pm_R → pm_H → Prop} {I : Nat → Nat → Int32} {J : Nat → Nat → Int64}
    (h : pm_Ev d 126 [.ref 85, .int (I 85 19)] (pm_hp L fz t I J) (K_X11_goes_116 d fz t Q)) :
    t_X11_goes_108 d L fz t Q I J := by
  exact pm_go d [(0, [0]), (19, [0]), (32, [0]), (76, [0]), (105, [0, 1]), (108, [0]), (116, [0]), (119, [0]), (151, [0]), (184, [0, 1]), (187, [0]), (195, [0]), (198, [0]), (230, [0])] 400 h
set_option maxRecDepth 100000 in
theorem b_X11_goes_187 {d L : Nat} {fz t : Bool} {Q : pm_R → pm_H → Prop} {I : Nat → Nat → Int32} {J : Nat → Nat → Int64}
    (h : pm_Ev d 126 [.ref 85, .int (I 85 19)] (pm_hp L fz t I J) (K_X11_goes_195 d fz t Q)) :
    t_X11_goes_187 d L fz t Q I J := by
  exact pm_go d [(0, [0]), (19, [0]), (32, [0]), (76, [0]), (105, [0, 1]), (108, [0]), (116, [0]), (119, [0]), (151, [0]), (184, [0, 1]), (187, [0]), (195, [0]), (198, [0]), (230, [0])] 400 h
set_option maxRecDepth 100000 in
theorem b_X11_goes_116 {d L : Nat} {fz t : Bool} {Q : pm_R → pm_H → Prop} {r : Int32} {I : Nat → Nat → Int32} {J : Nat → Nat → Int64}
    (h : pm_Ev d 127 [.int r] (pm_hp L fz t I J) (K_X11_goes_119 d fz t Q)) :
    t_X11_goes_116 d L fz t Q r I J := by
  exact pm_go d [(0, [0]), (19, [0]), (32, [0]), (76, [0]), (105, [0, 1]), (108, [0]), (116, [0]), (119, [0]), (151, [0]), (184, [0, 1]), (187, [0]), (195, [0]), (198, [0]), (230, [0])] 400 h
theorem kb_X11_goes_116 {d L : Nat} {fz t : Bool} {Q : pm_R → pm_H → Prop} {r : Int32} {fz1 : Bool} {I : Nat → Nat → Int32} {J : Nat → Nat → Int64}
    (h : pm_Ev d 127 [.int r] (pm_hp L fz t I J) (K_X11_goes_119 d fz t Q)) :
    K_X11_goes_116 d fz t Q (.inl (some (.int r))) (pm_hp L fz1 t I J) := b_X11_goes_116 h
set_option maxRecDepth 100000 in
theorem b_X11_goes_195 {d L : Nat} {fz t : Bool} {Q : pm_R → pm_H → Prop} {r : Int32} {I : Nat → Nat → Int32} {J : Nat → Nat → Int64}
    (h : pm_Ev d 128 [.int r] (pm_hp L fz t I J) (K_X11_goes_198 d fz t Q)) :
    t_X11_goes_195 d L fz t Q r I J := by
  exact pm_go d [(0, [0]), (19, [0]), (32, [0]), (76, [0]), (105, [0, 1]), (108, [0]), (116, [0]), (119, [0]), (151, [0]), (184, [0, 1]), (187, [0]), (195, [0]), (198, [0]), (230, [0])] 400 h
theorem kb_X11_goes_195 {d L : Nat} {fz t : Bool} {Q : pm_R → pm_H → Prop} {r : Int32} {fz1 : Bool} {I : Nat → Nat → Int32} {J : Nat → Nat → Int64}
    (h : pm_Ev d 128 [.int r] (pm_hp L fz t I J) (K_X11_goes_198 d fz t Q)) :
    K_X11_goes_195 d fz t Q (.inl (some (.int r))) (pm_hp L fz1 t I J) := b_X11_goes_195 h
set_option maxRecDepth 100000 in
theorem b_X11_goes_119 {d L : Nat} {fz t : Bool} {Q : pm_R → pm_H → Prop} {r : Int32} {I : Nat → Nat → Int32} {J : Nat → Nat → Int64}
    (h : ((r = (nI 0) → Q (.inl none) (pm_hp L fz t (pm_u (pm_u I 85 20 (nI 1)) 85 22 ((I 85 19) - (I 85 21))) J)) ∧ (¬ r = (nI 0) → (((nI 7) ≤ ((I 85 19) - (I 85 21)) → t_X11_goes_108 d L fz t Q (pm_u I 85 19 ((I 85 19) + (nI 1))) J) ∧ (¬ (nI 7) ≤ ((I 85 19) - (I 85 21)) → pm_Ev d 126 [.ref 85, .int (I 85 19)] (pm_hp L fz t I J) (K_X11_goes_151 d fz t Q ((J 85 25) <<< (((nI 5)).toInt64 &&& 63)))))))) :
    t_X11_goes_119 d L fz t Q r I J := by
  exact pm_go d [(0, [0]), (19, [0]), (32, [0]), (76, [0]), (105, [0, 1]), (108, [0]), (116, [0]), (119, [0]), (151, [0]), (184, [0, 1]), (187, [0]), (195, [0]), (198, [0]), (230, [0])] 400 ⟨fun q0 => ((h).1 q0), fun q0 => ⟨fun q1 => ((((h).2 q0)).1 q1), fun q1 => ((((h).2 q0)).2 q1)⟩⟩
theorem kb_X11_goes_119 {d L : Nat} {fz t : Bool} {Q : pm_R → pm_H → Prop} {r : Int32} {fz1 : Bool} {I : Nat → Nat → Int32} {J : Nat → Nat → Int64}
    (h : ((r = (nI 0) → Q (.inl none) (pm_hp L fz t (pm_u (pm_u I 85 20 (nI 1)) 85 22 ((I 85 19) - (I 85 21))) J)) ∧ (¬ r = (nI 0) → (((nI 7) ≤ ((I 85 19) - (I 85 21)) → t_X11_goes_108 d L fz t Q (pm_u I 85 19 ((I 85 19) + (nI 1))) J) ∧ (¬ (nI 7) ≤ ((I 85 19) - (I 85 21)) → pm_Ev d 126 [.ref 85, .int (I 85 19)] (pm_hp L fz t I J) (K_X11_goes_151 d fz t Q ((J 85 25) <<< (((nI 5)).toInt64 &&& 63)))))))) :
    K_X11_goes_119 d fz t Q (.inl (some (.int r))) (pm_hp L fz1 t I J) := b_X11_goes_119 h
set_option maxRecDepth 100000 in
theorem b_X11_goes_198 {d L : Nat} {fz t : Bool} {Q : pm_R → pm_H → Prop} {r : Int32} {I : Nat → Nat → Int32} {J : Nat → Nat → Int64}
    (h : ((r = (nI 0) → Q (.inl none) (pm_hp L fz t (pm_u (pm_u I 85 20 (nI 2)) 85 22 ((I 85 19) - (I 85 21))) J)) ∧ (¬ r = (nI 0) → (((nI 4) ≤ ((I 85 19) - (I 85 21)) → t_X11_goes_187 d L fz t Q (pm_u I 85 19 ((I 85 19) + (nI 1))) J) ∧ (¬ (nI 4) ≤ ((I 85 19) - (I 85 21)) → pm_Ev d 126 [.ref 85, .int (I 85 19)] (pm_hp L fz t I J) (K_X11_goes_230 d fz t Q ((nI 10) * (I 85 23)))))))) :
    t_X11_goes_198 d L fz t Q r I J := by
  exact pm_go d [(0, [0]), (19, [0]), (32, [0]), (76, [0]), (105, [0, 1]), (108, [0]), (116, [0]), (119, [0]), (151, [0]), (184, [0, 1]), (187, [0]), (195, [0]), (198, [0]), (230, [0])] 400 ⟨fun q0 => ((h).1 q0), fun q0 => ⟨fun q1 => ((((h).2 q0)).1 q1), fun q1 => ((((h).2 q0)).2 q1)⟩⟩
theorem kb_X11_goes_198 {d L : Nat} {fz t : Bool} {Q : pm_R → pm_H → Prop} {r : Int32} {fz1 : Bool} {I : Nat → Nat → Int32} {J : Nat → Nat → Int64}
    (h : ((r = (nI 0) → Q (.inl none) (pm_hp L fz t (pm_u (pm_u I 85 20 (nI 2)) 85 22 ((I 85 19) - (I 85 21))) J)) ∧ (¬ r = (nI 0) → (((nI 4) ≤ ((I 85 19) - (I 85 21)) → t_X11_goes_187 d L fz t Q (pm_u I 85 19 ((I 85 19) + (nI 1))) J) ∧ (¬ (nI 4) ≤ ((I 85 19) - (I 85 21)) → pm_Ev d 126 [.ref 85, .int (I 85 19)] (pm_hp L fz t I J) (K_X11_goes_230 d fz t Q ((nI 10) * (I 85 23)))))))) :
    K_X11_goes_198 d fz t Q (.inl (some (.int r))) (pm_hp L fz1 t I J) := b_X11_goes_198 h
set_option maxRecDepth 100000 in
theorem b_X11_goes_151 {d L : Nat} {fz t : Bool} {Q : pm_R → pm_H → Prop} {u1 : Int64} {r : Int32} {I : Nat → Nat → Int32} {J : Nat → Nat → Int64}
    (h : t_X11_goes_108 d L fz t Q (pm_u I 85 19 ((I 85 19) + (nI 1))) (pm_u J 85 25 (u1 ||| (((r - (nI 96))).toInt64)))) :
    t_X11_goes_151 d L fz t Q u1 r I J := by
  exact pm_go d [(0, [0]), (19, [0]), (32, [0]), (76, [0]), (105, [0, 1]), (108, [0]), (116, [0]), (119, [0]), (151, [0]), (184, [0, 1]), (187, [0]), (195, [0]), (198, [0]), (230, [0])] 400 h
theorem kb_X11_goes_151 {d L : Nat} {fz t : Bool} {Q : pm_R → pm_H → Prop} {u1 : Int64} {r : Int32} {fz1 : Bool} {I : Nat → Nat → Int32} {J : Nat → Nat → Int64}
    (h : t_X11_goes_108 d L fz t Q (pm_u I 85 19 ((I 85 19) + (nI 1))) (pm_u J 85 25 (u1 ||| (((r - (nI 96))).toInt64)))) :
    K_X11_goes_151 d fz t Q u1 (.inl (some (.int r))) (pm_hp L fz1 t I J) := b_X11_goes_151 h
set_option maxRecDepth 100000 in
theorem b_X11_goes_230 {d L : Nat} {fz t : Bool} {Q : pm_R → pm_H → Prop} {s1 : Int32} {r : Int32} {I : Nat → Nat → Int32} {J : Nat → Nat → Int64}
    (h : t_X11_goes_187 d L fz t Q (pm_u (pm_u I 85 23 ((s1 + r) - (nI 48))) 85 19 ((I 85 19) + (nI 1))) J) :
    t_X11_goes_230 d L fz t Q s1 r I J := by
  exact pm_go d [(0, [0]), (19, [0]), (32, [0]), (76, [0]), (105, [0, 1]), (108, [0]), (116, [0]), (119, [0]), (151, [0]), (184, [0, 1]), (187, [0]), (195, [0]), (198, [0]), (230, [0])] 400 h
theorem kb_X11_goes_230 {d L : Nat} {fz t : Bool} {Q : pm_R → pm_H → Prop} {s1 : Int32} {r : Int32} {fz1 : Bool} {I : Nat → Nat → Int32} {J : Nat → Nat → Int64}
    (h : t_X11_goes_187 d L fz t Q (pm_u (pm_u I 85 23 ((s1 + r) - (nI 48))) 85 19 ((I 85 19) + (nI 1))) J) :
    K_X11_goes_230 d fz t Q s1 (.inl (some (.int r))) (pm_hp L fz1 t I J) := b_X11_goes_230 h
def t_X11_spelled_0 (d L : Nat) (fz t : Bool) (Q : pm_R → pm_H → Prop) (x0 : Int32) (x1 : Int32) (x2 : Int32) (x3 : Int32) (x4 : Int32) (x5 : Int32) (x6 : Int32) (I : Nat → Nat → Int32) (J : Nat → Nat → Int64) : Prop := pm_T (pm_Ev d) 130 Q (0, [(0, .int x0), (1, .int x1), (2, .int x2), (3, .int x3), (4, .int x4), (5, .int x5), (6, .int x6)], [], pm_hp L fz t I J, 0, 0)
def t_X11_spelled_32 (d L : Nat) (fz t : Bool) (Q : pm_R → pm_H → Prop) (x3 : Int32) (x4 : Int32) (x5 : Int32) (x6 : Int32) (y7 : Int64) (I : Nat → Nat → Int32) (J : Nat → Nat → Int64) : Prop := pm_T (pm_Ev d) 130 Q (32, [(3, .int x3), (4, .int x4), (5, .int x5), (6, .int x6), (7, .long y7)], [], pm_hp L fz t I J, 0, 0)
def t_X11_spelled_48 (d L : Nat) (fz t : Bool) (Q : pm_R → pm_H → Prop) (x4 : Int32) (x5 : Int32) (x6 : Int32) (y7 : Int64) (I : Nat → Nat → Int32) (J : Nat → Nat → Int64) : Prop := pm_T (pm_Ev d) 130 Q (48, [(4, .int x4), (5, .int x5), (6, .int x6), (7, .long y7)], [], pm_hp L fz t I J, 0, 0)
def t_X11_spelled_66 (d L : Nat) (fz t : Bool) (Q : pm_R → pm_H → Prop) (x5 : Int32) (x6 : Int32) (y7 : Int64) (I : Nat → Nat → Int32) (J : Nat → Nat → Int64) : Prop := pm_T (pm_Ev d) 130 Q (66, [(5, .int x5), (6, .int x6), (7, .long y7)], [], pm_hp L fz t I J, 0, 0)
def t_X11_spelled_84 (d L : Nat) (fz t : Bool) (Q : pm_R → pm_H → Prop) (x6 : Int32) (y7 : Int64) (I : Nat → Nat → Int32) (J : Nat → Nat → Int64) : Prop := pm_T (pm_Ev d) 130 Q (84, [(6, .int x6), (7, .long y7)], [], pm_hp L fz t I J, 0, 0)
def t_X11_spelled_102 (d L : Nat) (fz t : Bool) (Q : pm_R → pm_H → Prop) (y7 : Int64) (I : Nat → Nat → Int32) (J : Nat → Nat → Int64) : Prop := pm_T (pm_Ev d) 130 Q (102, [(7, .long y7)], [], pm_hp L fz t I J, 0, 0)
set_option maxRecDepth 100000 in
theorem b_X11_spelled_0 {d L : Nat} {fz t : Bool} {Q : pm_R → pm_H → Prop} {x0 : Int32} {x1 : Int32} {x2 : Int32} {x3 : Int32} {x4 : Int32} {x5 : Int32} {x6 : Int32} {I : Nat → Nat → Int32} {J : Nat → Nat → Int64}
    (h : ((x2 = (nI 0) → t_X11_spelled_32 d L fz t Q x3 x4 x5 x6 (((((x0).toInt64) - ((nI 96)).toInt64) <<< (((nI 5)).toInt64 &&& 63)) ||| (((x1 - (nI 96))).toInt64)) I J) ∧ (¬ x2 = (nI 0) → t_X11_spelled_32 d L fz t Q x3 x4 x5 x6 (((((((x0).toInt64) - ((nI 96)).toInt64) <<< (((nI 5)).toInt64 &&& 63)) ||| (((x1 - (nI 96))).toInt64)) <<< (((nI 5)).toInt64 &&& 63)) ||| (((x2 - (nI 96))).toInt64)) I J))) :
    t_X11_spelled_0 d L fz t Q x0 x1 x2 x3 x4 x5 x6 I J := by
  exact pm_go d [(32, [3, 4, 5, 6, 7]), (48, [4, 5, 6, 7]), (66, [5, 6, 7]), (84, [6, 7]), (102, [7])] 400 ⟨fun q0 => ((h).1 q0), fun q0 => ((h).2 q0)⟩
theorem e_X11_spelled {d L : Nat} {fz t : Bool} {Q : pm_R → pm_H → Prop} {x0 : Int32} {x1 : Int32} {x2 : Int32} {x3 : Int32} {x4 : Int32} {x5 : Int32} {x6 : Int32} {I : Nat → Nat → Int32} {J : Nat → Nat → Int64}
    (h : ((x2 = (nI 0) → t_X11_spelled_32 d L fz t Q x3 x4 x5 x6 (((((x0).toInt64) - ((nI 96)).toInt64) <<< (((nI 5)).toInt64 &&& 63)) ||| (((x1 - (nI 96))).toInt64)) I J) ∧ (¬ x2 = (nI 0) → t_X11_spelled_32 d L fz t Q x3 x4 x5 x6 (((((((x0).toInt64) - ((nI 96)).toInt64) <<< (((nI 5)).toInt64 &&& 63)) ||| (((x1 - (nI 96))).toInt64)) <<< (((nI 5)).toInt64 &&& 63)) ||| (((x2 - (nI 96))).toInt64)) I J))) :
    pm_Ev (d + 1) 130 [.int x0, .int x1, .int x2, .int x3, .int x4, .int x5, .int x6] (pm_hp L fz t I J) Q := pm_Ev_in rfl (b_X11_spelled_0 h)
set_option maxRecDepth 100000 in
theorem b_X11_spelled_32 {d L : Nat} {fz t : Bool} {Q : pm_R → pm_H → Prop} {x3 : Int32} {x4 : Int32} {x5 : Int32} {x6 : Int32} {y7 : Int64} {I : Nat → Nat → Int32} {J : Nat → Nat → Int64}
    (h : ((x3 = (nI 0) → t_X11_spelled_48 d L fz t Q x4 x5 x6 y7 I J) ∧ (¬ x3 = (nI 0) → t_X11_spelled_48 d L fz t Q x4 x5 x6 ((y7 <<< (((nI 5)).toInt64 &&& 63)) ||| (((x3 - (nI 96))).toInt64)) I J))) :
    t_X11_spelled_32 d L fz t Q x3 x4 x5 x6 y7 I J := by
  exact pm_go d [(32, [3, 4, 5, 6, 7]), (48, [4, 5, 6, 7]), (66, [5, 6, 7]), (84, [6, 7]), (102, [7])] 400 ⟨fun q0 => ((h).1 q0), fun q0 => ((h).2 q0)⟩
set_option maxRecDepth 100000 in
theorem b_X11_spelled_48 {d L : Nat} {fz t : Bool} {Q : pm_R → pm_H → Prop} {x4 : Int32} {x5 : Int32} {x6 : Int32} {y7 : Int64} {I : Nat → Nat → Int32} {J : Nat → Nat → Int64}
    (h : ((x4 = (nI 0) → t_X11_spelled_66 d L fz t Q x5 x6 y7 I J) ∧ (¬ x4 = (nI 0) → t_X11_spelled_66 d L fz t Q x5 x6 ((y7 <<< (((nI 5)).toInt64 &&& 63)) ||| (((x4 - (nI 96))).toInt64)) I J))) :
    t_X11_spelled_48 d L fz t Q x4 x5 x6 y7 I J := by
  exact pm_go d [(32, [3, 4, 5, 6, 7]), (48, [4, 5, 6, 7]), (66, [5, 6, 7]), (84, [6, 7]), (102, [7])] 400 ⟨fun q0 => ((h).1 q0), fun q0 => ((h).2 q0)⟩
set_option maxRecDepth 100000 in
theorem b_X11_spelled_66 {d L : Nat} {fz t : Bool} {Q : pm_R → pm_H → Prop} {x5 : Int32} {x6 : Int32} {y7 : Int64} {I : Nat → Nat → Int32} {J : Nat → Nat → Int64}
    (h : ((x5 = (nI 0) → t_X11_spelled_84 d L fz t Q x6 y7 I J) ∧ (¬ x5 = (nI 0) → t_X11_spelled_84 d L fz t Q x6 ((y7 <<< (((nI 5)).toInt64 &&& 63)) ||| (((x5 - (nI 96))).toInt64)) I J))) :
    t_X11_spelled_66 d L fz t Q x5 x6 y7 I J := by
  exact pm_go d [(32, [3, 4, 5, 6, 7]), (48, [4, 5, 6, 7]), (66, [5, 6, 7]), (84, [6, 7]), (102, [7])] 400 ⟨fun q0 => ((h).1 q0), fun q0 => ((h).2 q0)⟩
set_option maxRecDepth 100000 in
theorem b_X11_spelled_84 {d L : Nat} {fz t : Bool} {Q : pm_R → pm_H → Prop} {x6 : Int32} {y7 : Int64} {I : Nat → Nat → Int32} {J : Nat → Nat → Int64}
    (h : ((x6 = (nI 0) → t_X11_spelled_102 d L fz t Q y7 I J) ∧ (¬ x6 = (nI 0) → t_X11_spelled_102 d L fz t Q ((y7 <<< (((nI 5)).toInt64 &&& 63)) ||| (((x6 - (nI 96))).toInt64)) I J))) :
    t_X11_spelled_84 d L fz t Q x6 y7 I J := by
  exact pm_go d [(32, [3, 4, 5, 6, 7]), (48, [4, 5, 6, 7]), (66, [5, 6, 7]), (84, [6, 7]), (102, [7])] 400 ⟨fun q0 => ((h).1 q0), fun q0 => ((h).2 q0)⟩
set_option maxRecDepth 100000 in
theorem b_X11_spelled_102 {d L : Nat} {fz t : Bool} {Q : pm_R → pm_H → Prop} {y7 : Int64} {I : Nat → Nat → Int32} {J : Nat → Nat → Int64}
    (h : Q (.inl (some (.long y7))) (pm_hp L fz t I J)) :
    t_X11_spelled_102 d L fz t Q y7 I J := by
  exact pm_go d [(32, [3, 4, 5, 6, 7]), (48, [4, 5, 6, 7]), (66, [5, 6, 7]), (84, [6, 7]), (102, [7])] 400 h
def t_X11_letters_0 (d L : Nat) (fz t : Bool) (Q : pm_R → pm_H → Prop) (x0 : Int32) (I : Nat → Nat → Int32) (J : Nat → Nat → Int64) : Prop := pm_T (pm_Ev d) 131 Q (0, [(0, .int x0)], [], pm_hp L fz t I J, 0, 0)
def t_X11_letters_381 (d L : Nat) (fz t : Bool) (Q : pm_R → pm_H → Prop) (r : Int64) (I : Nat → Nat → Int32) (J : Nat → Nat → Int64) : Prop := pm_T (pm_Ev d) 131 Q (381, [], [.long r], pm_hp L fz t I J, 0, 0)
def K_X11_letters_381 (d : Nat) (fz t : Bool) (Q : pm_R → pm_H → Prop) : pm_R → pm_H → Prop := pm_K d 131 Q 381 [] [] 118 0 fz 0 0
def t_X11_letters_102 (d L : Nat) (fz t : Bool) (Q : pm_R → pm_H → Prop) (r : Int64) (I : Nat → Nat → Int32) (J : Nat → Nat → Int64) : Prop := pm_T (pm_Ev d) 131 Q (102, [], [.long r], pm_hp L fz t I J, 0, 0)
def K_X11_letters_102 (d : Nat) (fz t : Bool) (Q : pm_R → pm_H → Prop) : pm_R → pm_H → Prop := pm_K d 131 Q 102 [] [] 118 0 fz 0 0
def t_X11_letters_119 (d L : Nat) (fz t : Bool) (Q : pm_R → pm_H → Prop) (r : Int64) (I : Nat → Nat → Int32) (J : Nat → Nat → Int64) : Prop := pm_T (pm_Ev d) 131 Q (119, [], [.long r], pm_hp L fz t I J, 0, 0)
def K_X11_letters_119 (d : Nat) (fz t : Bool) (Q : pm_R → pm_H → Prop) : pm_R → pm_H → Prop := pm_K d 131 Q 119 [] [] 118 0 fz 0 0
def t_X11_letters_135 (d L : Nat) (fz t : Bool) (Q : pm_R → pm_H → Prop) (r : Int64) (I : Nat → Nat → Int32) (J : Nat → Nat → Int64) : Prop := pm_T (pm_Ev d) 131 Q (135, [], [.long r], pm_hp L fz t I J, 0, 0)
def K_X11_letters_135 (d : Nat) (fz t : Bool) (Q : pm_R → pm_H → Prop) : pm_R → pm_H → Prop := pm_K d 131 Q 135 [] [] 118 0 fz 0 0
def t_X11_letters_150 (d L : Nat) (fz t : Bool) (Q : pm_R → pm_H → Prop) (r : Int64) (I : Nat → Nat → Int32) (J : Nat → Nat → Int64) : Prop := pm_T (pm_Ev d) 131 Q (150, [], [.long r], pm_hp L fz t I J, 0, 0)
def K_X11_letters_150 (d : Nat) (fz t : Bool) (Q : pm_R → pm_H → Prop) : pm_R → pm_H → Prop := pm_K d 131 Q 150 [] [] 118 0 fz 0 0
def t_X11_letters_167 (d L : Nat) (fz t : Bool) (Q : pm_R → pm_H → Prop) (r : Int64) (I : Nat → Nat → Int32) (J : Nat → Nat → Int64) : Prop := pm_T (pm_Ev d) 131 Q (167, [], [.long r], pm_hp L fz t I J, 0, 0)
def K_X11_letters_167 (d : Nat) (fz t : Bool) (Q : pm_R → pm_H → Prop) : pm_R → pm_H → Prop := pm_K d 131 Q 167 [] [] 118 0 fz 0 0
def t_X11_letters_182 (d L : Nat) (fz t : Bool) (Q : pm_R → pm_H → Prop) (r : Int64) (I : Nat → Nat → Int32) (J : Nat → Nat → Int64) : Prop := pm_T (pm_Ev d) 131 Q (182, [], [.long r], pm_hp L fz t I J, 0, 0)
def K_X11_letters_182 (d : Nat) (fz t : Bool) (Q : pm_R → pm_H → Prop) : pm_R → pm_H → Prop := pm_K d 131 Q 182 [] [] 118 0 fz 0 0
def t_X11_letters_198 (d L : Nat) (fz t : Bool) (Q : pm_R → pm_H → Prop) (r : Int64) (I : Nat → Nat → Int32) (J : Nat → Nat → Int64) : Prop := pm_T (pm_Ev d) 131 Q (198, [], [.long r], pm_hp L fz t I J, 0, 0)
def K_X11_letters_198 (d : Nat) (fz t : Bool) (Q : pm_R → pm_H → Prop) : pm_R → pm_H → Prop := pm_K d 131 Q 198 [] [] 118 0 fz 0 0
def t_X11_letters_214 (d L : Nat) (fz t : Bool) (Q : pm_R → pm_H → Prop) (r : Int64) (I : Nat → Nat → Int32) (J : Nat → Nat → Int64) : Prop := pm_T (pm_Ev d) 131 Q (214, [], [.long r], pm_hp L fz t I J, 0, 0)
def K_X11_letters_214 (d : Nat) (fz t : Bool) (Q : pm_R → pm_H → Prop) : pm_R → pm_H → Prop := pm_K d 131 Q 214 [] [] 118 0 fz 0 0
def t_X11_letters_230 (d L : Nat) (fz t : Bool) (Q : pm_R → pm_H → Prop) (r : Int64) (I : Nat → Nat → Int32) (J : Nat → Nat → Int64) : Prop := pm_T (pm_Ev d) 131 Q (230, [], [.long r], pm_hp L fz t I J, 0, 0)
def K_X11_letters_230 (d : Nat) (fz t : Bool) (Q : pm_R → pm_H → Prop) : pm_R → pm_H → Prop := pm_K d 131 Q 230 [] [] 118 0 fz 0 0
def t_X11_letters_247 (d L : Nat) (fz t : Bool) (Q : pm_R → pm_H → Prop) (r : Int64) (I : Nat → Nat → Int32) (J : Nat → Nat → Int64) : Prop := pm_T (pm_Ev d) 131 Q (247, [], [.long r], pm_hp L fz t I J, 0, 0)
def K_X11_letters_247 (d : Nat) (fz t : Bool) (Q : pm_R → pm_H → Prop) : pm_R → pm_H → Prop := pm_K d 131 Q 247 [] [] 118 0 fz 0 0
def t_X11_letters_265 (d L : Nat) (fz t : Bool) (Q : pm_R → pm_H → Prop) (r : Int64) (I : Nat → Nat → Int32) (J : Nat → Nat → Int64) : Prop := pm_T (pm_Ev d) 131 Q (265, [], [.long r], pm_hp L fz t I J, 0, 0)
def K_X11_letters_265 (d : Nat) (fz t : Bool) (Q : pm_R → pm_H → Prop) : pm_R → pm_H → Prop := pm_K d 131 Q 265 [] [] 118 0 fz 0 0
def t_X11_letters_280 (d L : Nat) (fz t : Bool) (Q : pm_R → pm_H → Prop) (r : Int64) (I : Nat → Nat → Int32) (J : Nat → Nat → Int64) : Prop := pm_T (pm_Ev d) 131 Q (280, [], [.long r], pm_hp L fz t I J, 0, 0)
def K_X11_letters_280 (d : Nat) (fz t : Bool) (Q : pm_R → pm_H → Prop) : pm_R → pm_H → Prop := pm_K d 131 Q 280 [] [] 118 0 fz 0 0
def t_X11_letters_295 (d L : Nat) (fz t : Bool) (Q : pm_R → pm_H → Prop) (r : Int64) (I : Nat → Nat → Int32) (J : Nat → Nat → Int64) : Prop := pm_T (pm_Ev d) 131 Q (295, [], [.long r], pm_hp L fz t I J, 0, 0)
def K_X11_letters_295 (d : Nat) (fz t : Bool) (Q : pm_R → pm_H → Prop) : pm_R → pm_H → Prop := pm_K d 131 Q 295 [] [] 118 0 fz 0 0
def t_X11_letters_312 (d L : Nat) (fz t : Bool) (Q : pm_R → pm_H → Prop) (r : Int64) (I : Nat → Nat → Int32) (J : Nat → Nat → Int64) : Prop := pm_T (pm_Ev d) 131 Q (312, [], [.long r], pm_hp L fz t I J, 0, 0)
def K_X11_letters_312 (d : Nat) (fz t : Bool) (Q : pm_R → pm_H → Prop) : pm_R → pm_H → Prop := pm_K d 131 Q 312 [] [] 118 0 fz 0 0
def t_X11_letters_325 (d L : Nat) (fz t : Bool) (Q : pm_R → pm_H → Prop) (r : Int64) (I : Nat → Nat → Int32) (J : Nat → Nat → Int64) : Prop := pm_T (pm_Ev d) 131 Q (325, [], [.long r], pm_hp L fz t I J, 0, 0)
def K_X11_letters_325 (d : Nat) (fz t : Bool) (Q : pm_R → pm_H → Prop) : pm_R → pm_H → Prop := pm_K d 131 Q 325 [] [] 118 0 fz 0 0
def t_X11_letters_340 (d L : Nat) (fz t : Bool) (Q : pm_R → pm_H → Prop) (r : Int64) (I : Nat → Nat → Int32) (J : Nat → Nat → Int64) : Prop := pm_T (pm_Ev d) 131 Q (340, [], [.long r], pm_hp L fz t I J, 0, 0)
def K_X11_letters_340 (d : Nat) (fz t : Bool) (Q : pm_R → pm_H → Prop) : pm_R → pm_H → Prop := pm_K d 131 Q 340 [] [] 118 0 fz 0 0
def t_X11_letters_354 (d L : Nat) (fz t : Bool) (Q : pm_R → pm_H → Prop) (r : Int64) (I : Nat → Nat → Int32) (J : Nat → Nat → Int64) : Prop := pm_T (pm_Ev d) 131 Q (354, [], [.long r], pm_hp L fz t I J, 0, 0)
def K_X11_letters_354 (d : Nat) (fz t : Bool) (Q : pm_R → pm_H → Prop) : pm_R → pm_H → Prop := pm_K d 131 Q 354 [] [] 118 0 fz 0 0
def t_X11_letters_367 (d L : Nat) (fz t : Bool) (Q : pm_R → pm_H → Prop) (r : Int64) (I : Nat → Nat → Int32) (J : Nat → Nat → Int64) : Prop := pm_T (pm_Ev d) 131 Q (367, [], [.long r], pm_hp L fz t I J, 0, 0)
def K_X11_letters_367 (d : Nat) (fz t : Bool) (Q : pm_R → pm_H → Prop) : pm_R → pm_H → Prop := pm_K d 131 Q 367 [] [] 118 0 fz 0 0
set_option maxRecDepth 100000 in
theorem b_X11_letters_0 {d L : Nat} {fz t : Bool} {Q : pm_R → pm_H → Prop} {x0 : Int32} {I : Nat → Nat → Int32} {J : Nat → Nat → Int64}
    (h : (((x0).toInt < 0 ∨ 17 < (x0).toInt → pm_Ev d 130 [.int (nI 110), .int (nI 111), .int (nI 116), .int (nI 0), .int (nI 0), .int (nI 0), .int (nI 0)] (pm_hp L fz t I J) (K_X11_letters_381 d fz t Q)) ∧ ((x0).toInt = 0 → pm_Ev d 130 [.int (nI 104), .int (nI 111), .int (nI 108), .int (nI 101), .int (nI 0), .int (nI 0), .int (nI 0)] (pm_hp L fz t I J) (K_X11_letters_102 d fz t Q)) ∧ ((x0).toInt = 1 → pm_Ev d 130 [.int (nI 98), .int (nI 101), .int (nI 115), .int (nI 105), .int (nI 100), .int (nI 101), .int (nI 0)] (pm_hp L fz t I J) (K_X11_letters_119 d fz t Q)) ∧ ((x0).toInt = 2 → pm_Ev d 130 [.int (nI 97), .int (nI 104), .int (nI 101), .int (nI 97), .int (nI 100), .int (nI 0), .int (nI 0)] (pm_hp L fz t I J) (K_X11_letters_135 d fz t Q)) ∧ ((x0).toInt = 3 → pm_Ev d 130 [.int (nI 112), .int (nI 105), .int (nI 99), .int (nI 107), .int (nI 0), .int (nI 0), .int (nI 0)] (pm_hp L fz t I J) (K_X11_letters_150 d fz t Q)) ∧ ((x0).toInt = 4 → pm_Ev d 130 [.int (nI 116), .int (nI 104), .int (nI 114), .int (nI 101), .int (nI 97), .int (nI 100), .int (nI 0)] (pm_hp L fz t I J) (K_X11_letters_167 d fz t Q)) ∧ ((x0).toInt = 5 → pm_Ev d 130 [.int (nI 119), .int (nI 101), .int (nI 97), .int (nI 114), .int (nI 0), .int (nI 0), .int (nI 0)] (pm_hp L fz t I J) (K_X11_letters_182 d fz t Q)) ∧ ((x0).toInt = 6 → pm_Ev d 130 [.int (nI 104), .int (nI 111), .int (nI 108), .int (nI 101), .int (nI 115), .int (nI 0), .int (nI 0)] (pm_hp L fz t I J) (K_X11_letters_198 d fz t Q)) ∧ ((x0).toInt = 7 → pm_Ev d 130 [.int (nI 97), .int (nI 108), .int (nI 105), .int (nI 107), .int (nI 101), .int (nI 0), .int (nI 0)] (pm_hp L fz t I J) (K_X11_letters_214 d fz t Q)) ∧ ((x0).toInt = 8 → pm_Ev d 130 [.int (nI 102), .int (nI 105), .int (nI 114), .int (nI 115), .int (nI 116), .int (nI 0), .int (nI 0)] (pm_hp L fz t I J) (K_X11_letters_230 d fz t Q)) ∧ ((x0).toInt = 9 → pm_Ev d 130 [.int (nI 115), .int (nI 101), .int (nI 99), .int (nI 111), .int (nI 110), .int (nI 100), .int (nI 0)] (pm_hp L fz t I J) (K_X11_letters_247 d fz t Q)) ∧ ((x0).toInt = 10 → pm_Ev d 130 [.int (nI 116), .int (nI 104), .int (nI 114), .int (nI 101), .int (nI 97), .int (nI 100), .int (nI 115)] (pm_hp L fz t I J) (K_X11_letters_265 d fz t Q)) ∧ ((x0).toInt = 11 → pm_Ev d 130 [.int (nI 99), .int (nI 97), .int (nI 114), .int (nI 100), .int (nI 0), .int (nI 0), .int (nI 0)] (pm_hp L fz t I J) (K_X11_letters_280 d fz t Q)) ∧ ((x0).toInt = 12 → pm_Ev d 130 [.int (nI 108), .int (nI 97), .int (nI 99), .int (nI 101), .int (nI 0), .int (nI 0), .int (nI 0)] (pm_hp L fz t I J) (K_X11_letters_295 d fz t Q)) ∧ ((x0).toInt = 13 → pm_Ev d 130 [.int (nI 102), .int (nI 105), .int (nI 103), .int (nI 117), .int (nI 114), .int (nI 101), .int (nI 0)] (pm_hp L fz t I J) (K_X11_letters_312 d fz t Q)) ∧ ((x0).toInt = 14 → pm_Ev d 130 [.int (nI 117), .int (nI 112), .int (nI 0), .int (nI 0), .int (nI 0), .int (nI 0), .int (nI 0)] (pm_hp L fz t I J) (K_X11_letters_325 d fz t Q)) ∧ ((x0).toInt = 15 → pm_Ev d 130 [.int (nI 104), .int (nI 97), .int (nI 114), .int (nI 109), .int (nI 0), .int (nI 0), .int (nI 0)] (pm_hp L fz t I J) (K_X11_letters_340 d fz t Q)) ∧ ((x0).toInt = 16 → pm_Ev d 130 [.int (nI 97), .int (nI 110), .int (nI 100), .int (nI 0), .int (nI 0), .int (nI 0), .int (nI 0)] (pm_hp L fz t I J) (K_X11_letters_354 d fz t Q)) ∧ ((x0).toInt = 17 → pm_Ev d 130 [.int (nI 111), .int (nI 114), .int (nI 0), .int (nI 0), .int (nI 0), .int (nI 0), .int (nI 0)] (pm_hp L fz t I J) (K_X11_letters_367 d fz t Q)))) :
    t_X11_letters_0 d L fz t Q x0 I J := by
  exact pm_go d [(102, []), (119, []), (135, []), (150, []), (167, []), (182, []), (198, []), (214, []), (230, []), (247, []), (265, []), (280, []), (295, []), (312, []), (325, []), (340, []), (354, []), (367, []), (381, [])] 400 ⟨fun q0 => ((h).1 q0), fun q0 => (((h).2).1 q0), fun q0 => ((((h).2).2).1 q0), fun q0 => (((((h).2).2).2).1 q0), fun q0 => ((((((h).2).2).2).2).1 q0), fun q0 => (((((((h).2).2).2).2).2).1 q0), fun q0 => ((((((((h).2).2).2).2).2).2).1 q0), fun q0 => (((((((((h).2).2).2).2).2).2).2).1 q0), fun q0 => ((((((((((h).2).2).2).2).2).2).2).2).1 q0), fun q0 => (((((((((((h).2).2).2).2).2).2).2).2).2).1 q0), fun q0 => ((((((((((((h).2).2).2).2).2).2).2).2).2).2).1 q0), fun q0 => (((((((((((((h).2).2).2).2).2).2).2).2).2).2).2).1 q0), fun q0 => ((((((((((((((h).2).2).2).2).2).2).2).2).2).2).2).2).1 q0), fun q0 => (((((((((((((((h).2).2).2).2).2).2).2).2).2).2).2).2).2).1 q0), fun q0 => ((((((((((((((((h).2).2).2).2).2).2).2).2).2).2).2).2).2).2).1 q0), fun q0 => (((((((((((((((((h).2).2).2).2).2).2).2).2).2).2).2).2).2).2).2).1 q0), fun q0 => ((((((((((((((((((h).2).2).2).2).2).2).2).2).2).2).2).2).2).2).2).2).1 q0), fun q0 => (((((((((((((((((((h).2).2).2).2).2).2).2).2).2).2).2).2).2).2).2).2).2).1 q0), fun q0 => (((((((((((((((((((h).2).2).2).2).2).2).2).2).2).2).2).2).2).2).2).2).2).2 q0), trivial⟩
theorem e_X11_letters {d L : Nat} {fz t : Bool} {Q : pm_R → pm_H → Prop} {x0 : Int32} {I : Nat → Nat → Int32} {J : Nat → Nat → Int64}
    (h : (((x0).toInt < 0 ∨ 17 < (x0).toInt → pm_Ev d 130 [.int (nI 110), .int (nI 111), .int (nI 116), .int (nI 0), .int (nI 0), .int (nI 0), .int (nI 0)] (pm_hp L fz t I J) (K_X11_letters_381 d fz t Q)) ∧ ((x0).toInt = 0 → pm_Ev d 130 [.int (nI 104), .int (nI 111), .int (nI 108), .int (nI 101), .int (nI 0), .int (nI 0), .int (nI 0)] (pm_hp L fz t I J) (K_X11_letters_102 d fz t Q)) ∧ ((x0).toInt = 1 → pm_Ev d 130 [.int (nI 98), .int (nI 101), .int (nI 115), .int (nI 105), .int (nI 100), .int (nI 101), .int (nI 0)] (pm_hp L fz t I J) (K_X11_letters_119 d fz t Q)) ∧ ((x0).toInt = 2 → pm_Ev d 130 [.int (nI 97), .int (nI 104), .int (nI 101), .int (nI 97), .int (nI 100), .int (nI 0), .int (nI 0)] (pm_hp L fz t I J) (K_X11_letters_135 d fz t Q)) ∧ ((x0).toInt = 3 → pm_Ev d 130 [.int (nI 112), .int (nI 105), .int (nI 99), .int (nI 107), .int (nI 0), .int (nI 0), .int (nI 0)] (pm_hp L fz t I J) (K_X11_letters_150 d fz t Q)) ∧ ((x0).toInt = 4 → pm_Ev d 130 [.int (nI 116), .int (nI 104), .int (nI 114), .int (nI 101), .int (nI 97), .int (nI 100), .int (nI 0)] (pm_hp L fz t I J) (K_X11_letters_167 d fz t Q)) ∧ ((x0).toInt = 5 → pm_Ev d 130 [.int (nI 119), .int (nI 101), .int (nI 97), .int (nI 114), .int (nI 0), .int (nI 0), .int (nI 0)] (pm_hp L fz t I J) (K_X11_letters_182 d fz t Q)) ∧ ((x0).toInt = 6 → pm_Ev d 130 [.int (nI 104), .int (nI 111), .int (nI 108), .int (nI 101), .int (nI 115), .int (nI 0), .int (nI 0)] (pm_hp L fz t I J) (K_X11_letters_198 d fz t Q)) ∧ ((x0).toInt = 7 → pm_Ev d 130 [.int (nI 97), .int (nI 108), .int (nI 105), .int (nI 107), .int (nI 101), .int (nI 0), .int (nI 0)] (pm_hp L fz t I J) (K_X11_letters_214 d fz t Q)) ∧ ((x0).toInt = 8 → pm_Ev d 130 [.int (nI 102), .int (nI 105), .int (nI 114), .int (nI 115), .int (nI 116), .int (nI 0), .int (nI 0)] (pm_hp L fz t I J) (K_X11_letters_230 d fz t Q)) ∧ ((x0).toInt = 9 → pm_Ev d 130 [.int (nI 115), .int (nI 101), .int (nI 99), .int (nI 111), .int (nI 110), .int (nI 100), .int (nI 0)] (pm_hp L fz t I J) (K_X11_letters_247 d fz t Q)) ∧ ((x0).toInt = 10 → pm_Ev d 130 [.int (nI 116), .int (nI 104), .int (nI 114), .int (nI 101), .int (nI 97), .int (nI 100), .int (nI 115)] (pm_hp L fz t I J) (K_X11_letters_265 d fz t Q)) ∧ ((x0).toInt = 11 → pm_Ev d 130 [.int (nI 99), .int (nI 97), .int (nI 114), .int (nI 100), .int (nI 0), .int (nI 0), .int (nI 0)] (pm_hp L fz t I J) (K_X11_letters_280 d fz t Q)) ∧ ((x0).toInt = 12 → pm_Ev d 130 [.int (nI 108), .int (nI 97), .int (nI 99), .int (nI 101), .int (nI 0), .int (nI 0), .int (nI 0)] (pm_hp L fz t I J) (K_X11_letters_295 d fz t Q)) ∧ ((x0).toInt = 13 → pm_Ev d 130 [.int (nI 102), .int (nI 105), .int (nI 103), .int (nI 117), .int (nI 114), .int (nI 101), .int (nI 0)] (pm_hp L fz t I J) (K_X11_letters_312 d fz t Q)) ∧ ((x0).toInt = 14 → pm_Ev d 130 [.int (nI 117), .int (nI 112), .int (nI 0), .int (nI 0), .int (nI 0), .int (nI 0), .int (nI 0)] (pm_hp L fz t I J) (K_X11_letters_325 d fz t Q)) ∧ ((x0).toInt = 15 → pm_Ev d 130 [.int (nI 104), .int (nI 97), .int (nI 114), .int (nI 109), .int (nI 0), .int (nI 0), .int (nI 0)] (pm_hp L fz t I J) (K_X11_letters_340 d fz t Q)) ∧ ((x0).toInt = 16 → pm_Ev d 130 [.int (nI 97), .int (nI 110), .int (nI 100), .int (nI 0), .int (nI 0), .int (nI 0), .int (nI 0)] (pm_hp L fz t I J) (K_X11_letters_354 d fz t Q)) ∧ ((x0).toInt = 17 → pm_Ev d 130 [.int (nI 111), .int (nI 114), .int (nI 0), .int (nI 0), .int (nI 0), .int (nI 0), .int (nI 0)] (pm_hp L fz t I J) (K_X11_letters_367 d fz t Q)))) :
    pm_Ev (d + 1) 131 [.int x0] (pm_hp L fz t I J) Q := pm_Ev_in rfl (b_X11_letters_0 h)
set_option maxRecDepth 100000 in
theorem b_X11_letters_381 {d L : Nat} {fz t : Bool} {Q : pm_R → pm_H → Prop} {r : Int64} {I : Nat → Nat → Int32} {J : Nat → Nat → Int64}
    (h : Q (.inl (some (.long r))) (pm_hp L fz t I J)) :
    t_X11_letters_381 d L fz t Q r I J := by
  exact pm_go d [(102, []), (119, []), (135, []), (150, []), (167, []), (182, []), (198, []), (214, []), (230, []), (247, []), (265, []), (280, []), (295, []), (312, []), (325, []), (340, []), (354, []), (367, []), (381, [])] 400 h
theorem kb_X11_letters_381 {d L : Nat} {fz t : Bool} {Q : pm_R → pm_H → Prop} {r : Int64} {fz1 : Bool} {I : Nat → Nat → Int32} {J : Nat → Nat → Int64}
    (h : Q (.inl (some (.long r))) (pm_hp L fz t I J)) :
    K_X11_letters_381 d fz t Q (.inl (some (.long r))) (pm_hp L fz1 t I J) := b_X11_letters_381 h
set_option maxRecDepth 100000 in
theorem b_X11_letters_102 {d L : Nat} {fz t : Bool} {Q : pm_R → pm_H → Prop} {r : Int64} {I : Nat → Nat → Int32} {J : Nat → Nat → Int64}
    (h : Q (.inl (some (.long r))) (pm_hp L fz t I J)) :
    t_X11_letters_102 d L fz t Q r I J := by
  exact pm_go d [(102, []), (119, []), (135, []), (150, []), (167, []), (182, []), (198, []), (214, []), (230, []), (247, []), (265, []), (280, []), (295, []), (312, []), (325, []), (340, []), (354, []), (367, []), (381, [])] 400 h
theorem kb_X11_letters_102 {d L : Nat} {fz t : Bool} {Q : pm_R → pm_H → Prop} {r : Int64} {fz1 : Bool} {I : Nat → Nat → Int32} {J : Nat → Nat → Int64}
    (h : Q (.inl (some (.long r))) (pm_hp L fz t I J)) :
    K_X11_letters_102 d fz t Q (.inl (some (.long r))) (pm_hp L fz1 t I J) := b_X11_letters_102 h
set_option maxRecDepth 100000 in
theorem b_X11_letters_119 {d L : Nat} {fz t : Bool} {Q : pm_R → pm_H → Prop} {r : Int64} {I : Nat → Nat → Int32} {J : Nat → Nat → Int64}
    (h : Q (.inl (some (.long r))) (pm_hp L fz t I J)) :
    t_X11_letters_119 d L fz t Q r I J := by
  exact pm_go d [(102, []), (119, []), (135, []), (150, []), (167, []), (182, []), (198, []), (214, []), (230, []), (247, []), (265, []), (280, []), (295, []), (312, []), (325, []), (340, []), (354, []), (367, []), (381, [])] 400 h
theorem kb_X11_letters_119 {d L : Nat} {fz t : Bool} {Q : pm_R → pm_H → Prop} {r : Int64} {fz1 : Bool} {I : Nat → Nat → Int32} {J : Nat → Nat → Int64}
    (h : Q (.inl (some (.long r))) (pm_hp L fz t I J)) :
    K_X11_letters_119 d fz t Q (.inl (some (.long r))) (pm_hp L fz1 t I J) := b_X11_letters_119 h
set_option maxRecDepth 100000 in
theorem b_X11_letters_135 {d L : Nat} {fz t : Bool} {Q : pm_R → pm_H → Prop} {r : Int64} {I : Nat → Nat → Int32} {J : Nat → Nat → Int64}
    (h : Q (.inl (some (.long r))) (pm_hp L fz t I J)) :
    t_X11_letters_135 d L fz t Q r I J := by
  exact pm_go d [(102, []), (119, []), (135, []), (150, []), (167, []), (182, []), (198, []), (214, []), (230, []), (247, []), (265, []), (280, []), (295, []), (312, []), (325, []), (340, []), (354, []), (367, []), (381, [])] 400 h
theorem kb_X11_letters_135 {d L : Nat} {fz t : Bool} {Q : pm_R → pm_H → Prop} {r : Int64} {fz1 : Bool} {I : Nat → Nat → Int32} {J : Nat → Nat → Int64}
    (h : Q (.inl (some (.long r))) (pm_hp L fz t I J)) :
    K_X11_letters_135 d fz t Q (.inl (some (.long r))) (pm_hp L fz1 t I J) := b_X11_letters_135 h
set_option maxRecDepth 100000 in
theorem b_X11_letters_150 {d L : Nat} {fz t : Bool} {Q : pm_R → pm_H → Prop} {r : Int64} {I : Nat → Nat → Int32} {J : Nat → Nat → Int64}
    (h : Q (.inl (some (.long r))) (pm_hp L fz t I J)) :
    t_X11_letters_150 d L fz t Q r I J := by
  exact pm_go d [(102, []), (119, []), (135, []), (150, []), (167, []), (182, []), (198, []), (214, []), (230, []), (247, []), (265, []), (280, []), (295, []), (312, []), (325, []), (340, []), (354, []), (367, []), (381, [])] 400 h
theorem kb_X11_letters_150 {d L : Nat} {fz t : Bool} {Q : pm_R → pm_H → Prop} {r : Int64} {fz1 : Bool} {I : Nat → Nat → Int32} {J : Nat → Nat → Int64}
    (h : Q (.inl (some (.long r))) (pm_hp L fz t I J)) :
    K_X11_letters_150 d fz t Q (.inl (some (.long r))) (pm_hp L fz1 t I J) := b_X11_letters_150 h
set_option maxRecDepth 100000 in
theorem b_X11_letters_167 {d L : Nat} {fz t : Bool} {Q : pm_R → pm_H → Prop} {r : Int64} {I : Nat → Nat → Int32} {J : Nat → Nat → Int64}
    (h : Q (.inl (some (.long r))) (pm_hp L fz t I J)) :
    t_X11_letters_167 d L fz t Q r I J := by
  exact pm_go d [(102, []), (119, []), (135, []), (150, []), (167, []), (182, []), (198, []), (214, []), (230, []), (247, []), (265, []), (280, []), (295, []), (312, []), (325, []), (340, []), (354, []), (367, []), (381, [])] 400 h
theorem kb_X11_letters_167 {d L : Nat} {fz t : Bool} {Q : pm_R → pm_H → Prop} {r : Int64} {fz1 : Bool} {I : Nat → Nat → Int32} {J : Nat → Nat → Int64}
    (h : Q (.inl (some (.long r))) (pm_hp L fz t I J)) :
    K_X11_letters_167 d fz t Q (.inl (some (.long r))) (pm_hp L fz1 t I J) := b_X11_letters_167 h
set_option maxRecDepth 100000 in
theorem b_X11_letters_182 {d L : Nat} {fz t : Bool} {Q : pm_R → pm_H → Prop} {r : Int64} {I : Nat → Nat → Int32} {J : Nat → Nat → Int64}
    (h : Q (.inl (some (.long r))) (pm_hp L fz t I J)) :
    t_X11_letters_182 d L fz t Q r I J := by
  exact pm_go d [(102, []), (119, []), (135, []), (150, []), (167, []), (182, []), (198, []), (214, []), (230, []), (247, []), (265, []), (280, []), (295, []), (312, []), (325, []), (340, []), (354, []), (367, []), (381, [])] 400 h
theorem kb_X11_letters_182 {d L : Nat} {fz t : Bool} {Q : pm_R → pm_H → Prop} {r : Int64} {fz1 : Bool} {I : Nat → Nat → Int32} {J : Nat → Nat → Int64}
    (h : Q (.inl (some (.long r))) (pm_hp L fz t I J)) :
    K_X11_letters_182 d fz t Q (.inl (some (.long r))) (pm_hp L fz1 t I J) := b_X11_letters_182 h
set_option maxRecDepth 100000 in
theorem b_X11_letters_198 {d L : Nat} {fz t : Bool} {Q : pm_R → pm_H → Prop} {r : Int64} {I : Nat → Nat → Int32} {J : Nat → Nat → Int64}
    (h : Q (.inl (some (.long r))) (pm_hp L fz t I J)) :
    t_X11_letters_198 d L fz t Q r I J := by
  exact pm_go d [(102, []), (119, []), (135, []), (150, []), (167, []), (182, []), (198, []), (214, []), (230, []), (247, []), (265, []), (280, []), (295, []), (312, []), (325, []), (340, []), (354, []), (367, []), (381, [])] 400 h
theorem kb_X11_letters_198 {d L : Nat} {fz t : Bool} {Q : pm_R → pm_H → Prop} {r : Int64} {fz1 : Bool} {I : Nat → Nat → Int32} {J : Nat → Nat → Int64}
    (h : Q (.inl (some (.long r))) (pm_hp L fz t I J)) :
    K_X11_letters_198 d fz t Q (.inl (some (.long r))) (pm_hp L fz1 t I J) := b_X11_letters_198 h
set_option maxRecDepth 100000 in
theorem b_X11_letters_214 {d L : Nat} {fz t : Bool} {Q : pm_R → pm_H → Prop} {r : Int64} {I : Nat → Nat → Int32} {J : Nat → Nat → Int64}
    (h : Q (.inl (some (.long r))) (pm_hp L fz t I J)) :
    t_X11_letters_214 d L fz t Q r I J := by
  exact pm_go d [(102, []), (119, []), (135, []), (150, []), (167, []), (182, []), (198, []), (214, []), (230, []), (247, []), (265, []), (280, []), (295, []), (312, []), (325, []), (340, []), (354, []), (367, []), (381, [])] 400 h
theorem kb_X11_letters_214 {d L : Nat} {fz t : Bool} {Q : pm_R → pm_H → Prop} {r : Int64} {fz1 : Bool} {I : Nat → Nat → Int32} {J : Nat → Nat → Int64}
    (h : Q (.inl (some (.long r))) (pm_hp L fz t I J)) :
    K_X11_letters_214 d fz t Q (.inl (some (.long r))) (pm_hp L fz1 t I J) := b_X11_letters_214 h
set_option maxRecDepth 100000 in
theorem b_X11_letters_230 {d L : Nat} {fz t : Bool} {Q : pm_R → pm_H → Prop} {r : Int64} {I : Nat → Nat → Int32} {J : Nat → Nat → Int64}
    (h : Q (.inl (some (.long r))) (pm_hp L fz t I J)) :
    t_X11_letters_230 d L fz t Q r I J := by
  exact pm_go d [(102, []), (119, []), (135, []), (150, []), (167, []), (182, []), (198, []), (214, []), (230, []), (247, []), (265, []), (280, []), (295, []), (312, []), (325, []), (340, []), (354, []), (367, []), (381, [])] 400 h
theorem kb_X11_letters_230 {d L : Nat} {fz t : Bool} {Q : pm_R → pm_H → Prop} {r : Int64} {fz1 : Bool} {I : Nat → Nat → Int32} {J : Nat → Nat → Int64}
    (h : Q (.inl (some (.long r))) (pm_hp L fz t I J)) :
    K_X11_letters_230 d fz t Q (.inl (some (.long r))) (pm_hp L fz1 t I J) := b_X11_letters_230 h
set_option maxRecDepth 100000 in
theorem b_X11_letters_247 {d L : Nat} {fz t : Bool} {Q : pm_R → pm_H → Prop} {r : Int64} {I : Nat → Nat → Int32} {J : Nat → Nat → Int64}
    (h : Q (.inl (some (.long r))) (pm_hp L fz t I J)) :
    t_X11_letters_247 d L fz t Q r I J := by
  exact pm_go d [(102, []), (119, []), (135, []), (150, []), (167, []), (182, []), (198, []), (214, []), (230, []), (247, []), (265, []), (280, []), (295, []), (312, []), (325, []), (340, []), (354, []), (367, []), (381, [])] 400 h
theorem kb_X11_letters_247 {d L : Nat} {fz t : Bool} {Q : pm_R → pm_H → Prop} {r : Int64} {fz1 : Bool} {I : Nat → Nat → Int32} {J : Nat → Nat → Int64}
    (h : Q (.inl (some (.long r))) (pm_hp L fz t I J)) :
    K_X11_letters_247 d fz t Q (.inl (some (.long r))) (pm_hp L fz1 t I J) := b_X11_letters_247 h
set_option maxRecDepth 100000 in
theorem b_X11_letters_265 {d L : Nat} {fz t : Bool} {Q : pm_R → pm_H → Prop} {r : Int64} {I : Nat → Nat → Int32} {J : Nat → Nat → Int64}
    (h : Q (.inl (some (.long r))) (pm_hp L fz t I J)) :
    t_X11_letters_265 d L fz t Q r I J := by
  exact pm_go d [(102, []), (119, []), (135, []), (150, []), (167, []), (182, []), (198, []), (214, []), (230, []), (247, []), (265, []), (280, []), (295, []), (312, []), (325, []), (340, []), (354, []), (367, []), (381, [])] 400 h
theorem kb_X11_letters_265 {d L : Nat} {fz t : Bool} {Q : pm_R → pm_H → Prop} {r : Int64} {fz1 : Bool} {I : Nat → Nat → Int32} {J : Nat → Nat → Int64}
    (h : Q (.inl (some (.long r))) (pm_hp L fz t I J)) :
    K_X11_letters_265 d fz t Q (.inl (some (.long r))) (pm_hp L fz1 t I J) := b_X11_letters_265 h
set_option maxRecDepth 100000 in
theorem b_X11_letters_280 {d L : Nat} {fz t : Bool} {Q : pm_R → pm_H → Prop} {r : Int64} {I : Nat → Nat → Int32} {J : Nat → Nat → Int64}
    (h : Q (.inl (some (.long r))) (pm_hp L fz t I J)) :
    t_X11_letters_280 d L fz t Q r I J := by
  exact pm_go d [(102, []), (119, []), (135, []), (150, []), (167, []), (182, []), (198, []), (214, []), (230, []), (247, []), (265, []), (280, []), (295, []), (312, []), (325, []), (340, []), (354, []), (367, []), (381, [])] 400 h
theorem kb_X11_letters_280 {d L : Nat} {fz t : Bool} {Q : pm_R → pm_H → Prop} {r : Int64} {fz1 : Bool} {I : Nat → Nat → Int32} {J : Nat → Nat → Int64}
    (h : Q (.inl (some (.long r))) (pm_hp L fz t I J)) :
    K_X11_letters_280 d fz t Q (.inl (some (.long r))) (pm_hp L fz1 t I J) := b_X11_letters_280 h
set_option maxRecDepth 100000 in
theorem b_X11_letters_295 {d L : Nat} {fz t : Bool} {Q : pm_R → pm_H → Prop} {r : Int64} {I : Nat → Nat → Int32} {J : Nat → Nat → Int64}
    (h : Q (.inl (some (.long r))) (pm_hp L fz t I J)) :
    t_X11_letters_295 d L fz t Q r I J := by
  exact pm_go d [(102, []), (119, []), (135, []), (150, []), (167, []), (182, []), (198, []), (214, []), (230, []), (247, []), (265, []), (280, []), (295, []), (312, []), (325, []), (340, []), (354, []), (367, []), (381, [])] 400 h
theorem kb_X11_letters_295 {d L : Nat} {fz t : Bool} {Q : pm_R → pm_H → Prop} {r : Int64} {fz1 : Bool} {I : Nat → Nat → Int32} {J : Nat → Nat → Int64}
    (h : Q (.inl (some (.long r))) (pm_hp L fz t I J)) :
    K_X11_letters_295 d fz t Q (.inl (some (.long r))) (pm_hp L fz1 t I J) := b_X11_letters_295 h
set_option maxRecDepth 100000 in
theorem b_X11_letters_312 {d L : Nat} {fz t : Bool} {Q : pm_R → pm_H → Prop} {r : Int64} {I : Nat → Nat → Int32} {J : Nat → Nat → Int64}
    (h : Q (.inl (some (.long r))) (pm_hp L fz t I J)) :
    t_X11_letters_312 d L fz t Q r I J := by
  exact pm_go d [(102, []), (119, []), (135, []), (150, []), (167, []), (182, []), (198, []), (214, []), (230, []), (247, []), (265, []), (280, []), (295, []), (312, []), (325, []), (340, []), (354, []), (367, []), (381, [])] 400 h
theorem kb_X11_letters_312 {d L : Nat} {fz t : Bool} {Q : pm_R → pm_H → Prop} {r : Int64} {fz1 : Bool} {I : Nat → Nat → Int32} {J : Nat → Nat → Int64}
    (h : Q (.inl (some (.long r))) (pm_hp L fz t I J)) :
    K_X11_letters_312 d fz t Q (.inl (some (.long r))) (pm_hp L fz1 t I J) := b_X11_letters_312 h
set_option maxRecDepth 100000 in
theorem b_X11_letters_325 {d L : Nat} {fz t : Bool} {Q : pm_R → pm_H → Prop} {r : Int64} {I : Nat → Nat → Int32} {J : Nat → Nat → Int64}
    (h : Q (.inl (some (.long r))) (pm_hp L fz t I J)) :
    t_X11_letters_325 d L fz t Q r I J := by
  exact pm_go d [(102, []), (119, []), (135, []), (150, []), (167, []), (182, []), (198, []), (214, []), (230, []), (247, []), (265, []), (280, []), (295, []), (312, []), (325, []), (340, []), (354, []), (367, []), (381, [])] 400 h
theorem kb_X11_letters_325 {d L : Nat} {fz t : Bool} {Q : pm_R → pm_H → Prop} {r : Int64} {fz1 : Bool} {I : Nat → Nat → Int32} {J : Nat → Nat → Int64}
    (h : Q (.inl (some (.long r))) (pm_hp L fz t I J)) :
    K_X11_letters_325 d fz t Q (.inl (some (.long r))) (pm_hp L fz1 t I J) := b_X11_letters_325 h
set_option maxRecDepth 100000 in
theorem b_X11_letters_340 {d L : Nat} {fz t : Bool} {Q : pm_R → pm_H → Prop} {r : Int64} {I : Nat → Nat → Int32} {J : Nat → Nat → Int64}
    (h : Q (.inl (some (.long r))) (pm_hp L fz t I J)) :
    t_X11_letters_340 d L fz t Q r I J := by
  exact pm_go d [(102, []), (119, []), (135, []), (150, []), (167, []), (182, []), (198, []), (214, []), (230, []), (247, []), (265, []), (280, []), (295, []), (312, []), (325, []), (340, []), (354, []), (367, []), (381, [])] 400 h
theorem kb_X11_letters_340 {d L : Nat} {fz t : Bool} {Q : pm_R → pm_H → Prop} {r : Int64} {fz1 : Bool} {I : Nat → Nat → Int32} {J : Nat → Nat → Int64}
    (h : Q (.inl (some (.long r))) (pm_hp L fz t I J)) :
    K_X11_letters_340 d fz t Q (.inl (some (.long r))) (pm_hp L fz1 t I J) := b_X11_letters_340 h
set_option maxRecDepth 100000 in
theorem b_X11_letters_354 {d L : Nat} {fz t : Bool} {Q : pm_R → pm_H → Prop} {r : Int64} {I : Nat → Nat → Int32} {J : Nat → Nat → Int64}
    (h : Q (.inl (some (.long r))) (pm_hp L fz t I J)) :
    t_X11_letters_354 d L fz t Q r I J := by
  exact pm_go d [(102, []), (119, []), (135, []), (150, []), (167, []), (182, []), (198, []), (214, []), (230, []), (247, []), (265, []), (280, []), (295, []), (312, []), (325, []), (340, []), (354, []), (367, []), (381, [])] 400 h
theorem kb_X11_letters_354 {d L : Nat} {fz t : Bool} {Q : pm_R → pm_H → Prop} {r : Int64} {fz1 : Bool} {I : Nat → Nat → Int32} {J : Nat → Nat → Int64}
    (h : Q (.inl (some (.long r))) (pm_hp L fz t I J)) :
    K_X11_letters_354 d fz t Q (.inl (some (.long r))) (pm_hp L fz1 t I J) := b_X11_letters_354 h
set_option maxRecDepth 100000 in
theorem b_X11_letters_367 {d L : Nat} {fz t : Bool} {Q : pm_R → pm_H → Prop} {r : Int64} {I : Nat → Nat → Int32} {J : Nat → Nat → Int64}
    (h : Q (.inl (some (.long r))) (pm_hp L fz t I J)) :
    t_X11_letters_367 d L fz t Q r I J := by
  exact pm_go d [(102, []), (119, []), (135, []), (150, []), (167, []), (182, []), (198, []), (214, []), (230, []), (247, []), (265, []), (280, []), (295, []), (312, []), (325, []), (340, []), (354, []), (367, []), (381, [])] 400 h
theorem kb_X11_letters_367 {d L : Nat} {fz t : Bool} {Q : pm_R → pm_H → Prop} {r : Int64} {fz1 : Bool} {I : Nat → Nat → Int32} {J : Nat → Nat → Int64}
    (h : Q (.inl (some (.long r))) (pm_hp L fz t I J)) :
    K_X11_letters_367 d fz t Q (.inl (some (.long r))) (pm_hp L fz1 t I J) := b_X11_letters_367 h
def t_X11_knownWord_0 (d L : Nat) (fz t : Bool) (Q : pm_R → pm_H → Prop) (I : Nat → Nat → Int32) (J : Nat → Nat → Int64) : Prop := pm_T (pm_Ev d) 132 Q (0, [(0, .ref 85)], [], pm_hp L fz t I J, 0, 0)
def t_X11_knownWord_21 (d L : Nat) (fz t : Bool) (Q : pm_R → pm_H → Prop) (x1 : Int32) (I : Nat → Nat → Int32) (J : Nat → Nat → Int64) : Prop := pm_T (pm_Ev d) 132 Q (21, [(0, .ref 85), (1, .int x1)], [], pm_hp L fz t I J, 0, 0)
def t_X11_knownWord_31 (d L : Nat) (fz t : Bool) (Q : pm_R → pm_H → Prop) (x1 : Int32) (r : Int64) (I : Nat → Nat → Int32) (J : Nat → Nat → Int64) : Prop := pm_T (pm_Ev d) 132 Q (31, [(0, .ref 85), (1, .int x1)], [.long r], pm_hp L fz t I J, 0, 0)
def K_X11_knownWord_31 (d : Nat) (fz t : Bool) (Q : pm_R → pm_H → Prop) (x1 : Int32) : pm_R → pm_H → Prop := pm_K d 132 Q 31 [(0, .ref 85), (1, .int x1)] [] 118 0 fz 0 0
set_option maxRecDepth 100000 in
theorem b_X11_knownWord_0 {d L : Nat} {fz t : Bool} {Q : pm_R → pm_H → Prop} {I : Nat → Nat → Int32} {J : Nat → Nat → Int64}
    (h : ((¬ (I 85 20) = (nI 1) → Q (.inl (some (.int (-1 : Int32)))) (pm_hp L fz t I J)) ∧ ((I 85 20) = (nI 1) → (((I 85 22) ≤ (nI 7) → t_X11_knownWord_21 d L fz t Q (nI 0) I J) ∧ (¬ (I 85 22) ≤ (nI 7) → Q (.inl (some (.int (-1 : Int32)))) (pm_hp L fz t I J)))))) :
    t_X11_knownWord_0 d L fz t Q I J := by
  exact pm_go d [(21, [0, 1]), (31, [0, 1])] 400 ⟨fun q0 => ((h).1 q0), fun q0 => ⟨fun q1 => ((((h).2 q0)).1 q1), fun q1 => ((((h).2 q0)).2 q1)⟩⟩
theorem e_X11_knownWord {d L : Nat} {fz t : Bool} {Q : pm_R → pm_H → Prop} {I : Nat → Nat → Int32} {J : Nat → Nat → Int64}
    (h : ((¬ (I 85 20) = (nI 1) → Q (.inl (some (.int (-1 : Int32)))) (pm_hp L fz t I J)) ∧ ((I 85 20) = (nI 1) → (((I 85 22) ≤ (nI 7) → t_X11_knownWord_21 d L fz t Q (nI 0) I J) ∧ (¬ (I 85 22) ≤ (nI 7) → Q (.inl (some (.int (-1 : Int32)))) (pm_hp L fz t I J)))))) :
    pm_Ev (d + 1) 132 [.ref 85] (pm_hp L fz t I J) Q := pm_Ev_in rfl (b_X11_knownWord_0 h)
set_option maxRecDepth 100000 in
theorem b_X11_knownWord_21 {d L : Nat} {fz t : Bool} {Q : pm_R → pm_H → Prop} {x1 : Int32} {I : Nat → Nat → Int32} {J : Nat → Nat → Int64}
    (h : (((nI 19) ≤ x1 → Q (.inl (some (.int (-1 : Int32)))) (pm_hp L fz t I J)) ∧ (¬ (nI 19) ≤ x1 → pm_Ev d 131 [.int x1] (pm_hp L fz t I J) (K_X11_knownWord_31 d fz t Q x1)))) :
    t_X11_knownWord_21 d L fz t Q x1 I J := by
  exact pm_go d [(21, [0, 1]), (31, [0, 1])] 400 ⟨fun q0 => ((h).1 q0), fun q0 => ((h).2 q0)⟩
set_option maxRecDepth 100000 in
theorem b_X11_knownWord_31 {d L : Nat} {fz t : Bool} {Q : pm_R → pm_H → Prop} {x1 : Int32} {r : Int64} {I : Nat → Nat → Int32} {J : Nat → Nat → Int64}
    (h : ((¬ (lg_cmp r (J 85 25)) = (nI 0) → t_X11_knownWord_21 d L fz t Q (x1 + (nI 1)) I J) ∧ ((lg_cmp r (J 85 25)) = (nI 0) → Q (.inl (some (.int x1))) (pm_hp L fz t I J)))) :
    t_X11_knownWord_31 d L fz t Q x1 r I J := by
  exact pm_go d [(21, [0, 1]), (31, [0, 1])] 400 ⟨fun q0 => ((h).1 q0), fun q0 => ((h).2 q0)⟩
theorem kb_X11_knownWord_31 {d L : Nat} {fz t : Bool} {Q : pm_R → pm_H → Prop} {x1 : Int32} {r : Int64} {fz1 : Bool} {I : Nat → Nat → Int32} {J : Nat → Nat → Int64}
    (h : ((¬ (lg_cmp r (J 85 25)) = (nI 0) → t_X11_knownWord_21 d L fz t Q (x1 + (nI 1)) I J) ∧ ((lg_cmp r (J 85 25)) = (nI 0) → Q (.inl (some (.int x1))) (pm_hp L fz t I J)))) :
    K_X11_knownWord_31 d fz t Q x1 (.inl (some (.long r))) (pm_hp L fz1 t I J) := b_X11_knownWord_31 h
def t_X11_wrong_0 (d L : Nat) (fz t : Bool) (Q : pm_R → pm_H → Prop) (x1 : Int32) (I : Nat → Nat → Int32) (J : Nat → Nat → Int64) : Prop := pm_T (pm_Ev d) 133 Q (0, [(0, .ref 85), (1, .int x1)], [], pm_hp L fz t I J, 0, 0)
set_option maxRecDepth 100000 in
theorem b_X11_wrong_0 {d L : Nat} {fz t : Bool} {Q : pm_R → pm_H → Prop} {x1 : Int32} {I : Nat → Nat → Int32} {J : Nat → Nat → Int64}
    (h : (((I 85 15) = (nI 0) → Q (.inl none) (pm_hp L fz t (pm_u (pm_u I 85 15 x1) 85 16 (I 85 21)) J)) ∧ (¬ (I 85 15) = (nI 0) → Q (.inl none) (pm_hp L fz t I J)))) :
    t_X11_wrong_0 d L fz t Q x1 I J := by
  exact pm_go d [] 400 ⟨fun q0 => ((h).1 q0), fun q0 => ((h).2 q0)⟩
theorem e_X11_wrong {d L : Nat} {fz t : Bool} {Q : pm_R → pm_H → Prop} {x1 : Int32} {I : Nat → Nat → Int32} {J : Nat → Nat → Int64}
    (h : (((I 85 15) = (nI 0) → Q (.inl none) (pm_hp L fz t (pm_u (pm_u I 85 15 x1) 85 16 (I 85 21)) J)) ∧ (¬ (I 85 15) = (nI 0) → Q (.inl none) (pm_hp L fz t I J)))) :
    pm_Ev (d + 1) 133 [.ref 85, .int x1] (pm_hp L fz t I J) Q := pm_Ev_in rfl (b_X11_wrong_0 h)
def t_X11_isGood_0 (d L : Nat) (fz t : Bool) (Q : pm_R → pm_H → Prop) (I : Nat → Nat → Int32) (J : Nat → Nat → Int64) : Prop := pm_T (pm_Ev d) 134 Q (0, [(0, .ref 85)], [], pm_hp L fz t I J, 0, 0)
set_option maxRecDepth 100000 in
theorem b_X11_isGood_0 {d L : Nat} {fz t : Bool} {Q : pm_R → pm_H → Prop} {I : Nat → Nat → Int32} {J : Nat → Nat → Int64}
    (h : ((¬ (I 85 15) = (nI 0) → Q (.inl (some (.int (nI 0)))) (pm_hp L fz t I J)) ∧ ((I 85 15) = (nI 0) → Q (.inl (some (.int (nI 1)))) (pm_hp L fz t I J)))) :
    t_X11_isGood_0 d L fz t Q I J := by
  exact pm_go d [] 400 ⟨fun q0 => ⟨Or.inl rfl, ((h).1 q0)⟩, fun q0 => ⟨Or.inr rfl, ((h).2 q0)⟩⟩
theorem e_X11_isGood {d L : Nat} {fz t : Bool} {Q : pm_R → pm_H → Prop} {I : Nat → Nat → Int32} {J : Nat → Nat → Int64}
    (h : ((¬ (I 85 15) = (nI 0) → Q (.inl (some (.int (nI 0)))) (pm_hp L fz t I J)) ∧ ((I 85 15) = (nI 0) → Q (.inl (some (.int (nI 1)))) (pm_hp L fz t I J)))) :
    pm_Ev (d + 1) 134 [.ref 85] (pm_hp L fz t I J) Q := pm_Ev_in rfl (b_X11_isGood_0 h)
def t_X11_isSign_0 (d L : Nat) (fz t : Bool) (Q : pm_R → pm_H → Prop) (x1 : Int32) (I : Nat → Nat → Int32) (J : Nat → Nat → Int64) : Prop := pm_T (pm_Ev d) 135 Q (0, [(0, .ref 85), (1, .int x1)], [], pm_hp L fz t I J, 0, 0)
set_option maxRecDepth 100000 in
theorem b_X11_isSign_0 {d L : Nat} {fz t : Bool} {Q : pm_R → pm_H → Prop} {x1 : Int32} {I : Nat → Nat → Int32} {J : Nat → Nat → Int64}
    (h : ((¬ (I 85 20) = (nI 3) → Q (.inl (some (.int (nI 0)))) (pm_hp L fz t I J)) ∧ ((I 85 20) = (nI 3) → ((¬ (I 85 24) = x1 → Q (.inl (some (.int (nI 0)))) (pm_hp L fz t I J)) ∧ ((I 85 24) = x1 → Q (.inl (some (.int (nI 1)))) (pm_hp L fz t I J)))))) :
    t_X11_isSign_0 d L fz t Q x1 I J := by
  exact pm_go d [] 400 ⟨fun q0 => ⟨Or.inl rfl, ((h).1 q0)⟩, fun q0 => ⟨fun q1 => ⟨Or.inl rfl, ((((h).2 q0)).1 q1)⟩, fun q1 => ⟨Or.inr rfl, ((((h).2 q0)).2 q1)⟩⟩⟩
theorem e_X11_isSign {d L : Nat} {fz t : Bool} {Q : pm_R → pm_H → Prop} {x1 : Int32} {I : Nat → Nat → Int32} {J : Nat → Nat → Int64}
    (h : ((¬ (I 85 20) = (nI 3) → Q (.inl (some (.int (nI 0)))) (pm_hp L fz t I J)) ∧ ((I 85 20) = (nI 3) → ((¬ (I 85 24) = x1 → Q (.inl (some (.int (nI 0)))) (pm_hp L fz t I J)) ∧ ((I 85 24) = x1 → Q (.inl (some (.int (nI 1)))) (pm_hp L fz t I J)))))) :
    pm_Ev (d + 1) 135 [.ref 85, .int x1] (pm_hp L fz t I J) Q := pm_Ev_in rfl (b_X11_isSign_0 h)
def t_X11_need_0 (d L : Nat) (fz t : Bool) (Q : pm_R → pm_H → Prop) (x1 : Int32) (I : Nat → Nat → Int32) (J : Nat → Nat → Int64) : Prop := pm_T (pm_Ev d) 136 Q (0, [(0, .ref 85), (1, .int x1)], [], pm_hp L fz t I J, 0, 0)
def t_X11_need_4 (d L : Nat) (fz t : Bool) (Q : pm_R → pm_H → Prop) (x1 : Int32) (r : Int32) (I : Nat → Nat → Int32) (J : Nat → Nat → Int64) : Prop := pm_T (pm_Ev d) 136 Q (4, [(0, .ref 85), (1, .int x1)], [.int r], pm_hp L fz t I J, 0, 0)
def K_X11_need_4 (d : Nat) (fz t : Bool) (Q : pm_R → pm_H → Prop) (x1 : Int32) : pm_R → pm_H → Prop := pm_K d 136 Q 4 [(0, .ref 85), (1, .int x1)] [] 118 0 fz 0 0
def t_X11_need_24 (d L : Nat) (fz t : Bool) (Q : pm_R → pm_H → Prop) (I : Nat → Nat → Int32) (J : Nat → Nat → Int64) : Prop := pm_T (pm_Ev d) 136 Q (24, [], [], pm_hp L fz t I J, 0, 0)
def K_X11_need_24 (d : Nat) (fz t : Bool) (Q : pm_R → pm_H → Prop) : pm_R → pm_H → Prop := pm_K d 136 Q 24 [] [] 118 0 fz 0 0
def t_X11_need_16 (d L : Nat) (fz t : Bool) (Q : pm_R → pm_H → Prop) (I : Nat → Nat → Int32) (J : Nat → Nat → Int64) : Prop := pm_T (pm_Ev d) 136 Q (16, [], [], pm_hp L fz t I J, 0, 0)
def K_X11_need_16 (d : Nat) (fz t : Bool) (Q : pm_R → pm_H → Prop) : pm_R → pm_H → Prop := pm_K d 136 Q 16 [] [] 118 0 fz 0 0
set_option maxRecDepth 100000 in
theorem b_X11_need_0 {d L : Nat} {fz t : Bool} {Q : pm_R → pm_H → Prop} {x1 : Int32} {I : Nat → Nat → Int32} {J : Nat → Nat → Int64}
    (h : pm_Ev d 134 [.ref 85] (pm_hp L fz t I J) (K_X11_need_4 d fz t Q x1)) :
    t_X11_need_0 d L fz t Q x1 I J := by
  exact pm_go d [(4, [0, 1]), (16, []), (24, [])] 400 h
theorem e_X11_need {d L : Nat} {fz t : Bool} {Q : pm_R → pm_H → Prop} {x1 : Int32} {I : Nat → Nat → Int32} {J : Nat → Nat → Int64}
    (h : pm_Ev d 134 [.ref 85] (pm_hp L fz t I J) (K_X11_need_4 d fz t Q x1)) :
    pm_Ev (d + 1) 136 [.ref 85, .int x1] (pm_hp L fz t I J) Q := pm_Ev_in rfl (b_X11_need_0 h)
set_option maxRecDepth 100000 in
theorem b_X11_need_4 {d L : Nat} {fz t : Bool} {Q : pm_R → pm_H → Prop} {x1 : Int32} {r : Int32} {I : Nat → Nat → Int32} {J : Nat → Nat → Int64}
    (h : ((¬ r = (nI 0) → ((x1 = (nI 0) → pm_Ev d 133 [.ref 85, .int (nI 1)] (pm_hp L fz t I J) (K_X11_need_24 d fz t Q)) ∧ (¬ x1 = (nI 0) → pm_Ev d 129 [.ref 85] (pm_hp L fz t I J) (K_X11_need_16 d fz t Q)))) ∧ (r = (nI 0) → Q (.inl none) (pm_hp L fz t I J)))) :
    t_X11_need_4 d L fz t Q x1 r I J := by
  exact pm_go d [(4, [0, 1]), (16, []), (24, [])] 400 ⟨fun q0 => ⟨fun q1 => ((((h).1 q0)).1 q1), fun q1 => ((((h).1 q0)).2 q1)⟩, fun q0 => ((h).2 q0)⟩
theorem kb_X11_need_4 {d L : Nat} {fz t : Bool} {Q : pm_R → pm_H → Prop} {x1 : Int32} {r : Int32} {fz1 : Bool} {I : Nat → Nat → Int32} {J : Nat → Nat → Int64}
    (h : ((¬ r = (nI 0) → ((x1 = (nI 0) → pm_Ev d 133 [.ref 85, .int (nI 1)] (pm_hp L fz t I J) (K_X11_need_24 d fz t Q)) ∧ (¬ x1 = (nI 0) → pm_Ev d 129 [.ref 85] (pm_hp L fz t I J) (K_X11_need_16 d fz t Q)))) ∧ (r = (nI 0) → Q (.inl none) (pm_hp L fz t I J)))) :
    K_X11_need_4 d fz t Q x1 (.inl (some (.int r))) (pm_hp L fz1 t I J) := b_X11_need_4 h
set_option maxRecDepth 100000 in
theorem b_X11_need_24 {d L : Nat} {fz t : Bool} {Q : pm_R → pm_H → Prop} {I : Nat → Nat → Int32} {J : Nat → Nat → Int64}
    (h : Q (.inl none) (pm_hp L fz t I J)) :
    t_X11_need_24 d L fz t Q I J := by
  exact pm_go d [(4, [0, 1]), (16, []), (24, [])] 400 h
theorem kb_X11_need_24 {d L : Nat} {fz t : Bool} {Q : pm_R → pm_H → Prop} {fz1 : Bool} {I : Nat → Nat → Int32} {J : Nat → Nat → Int64}
    (h : Q (.inl none) (pm_hp L fz t I J)) :
    K_X11_need_24 d fz t Q (.inl none) (pm_hp L fz1 t I J) := b_X11_need_24 h
set_option maxRecDepth 100000 in
theorem b_X11_need_16 {d L : Nat} {fz t : Bool} {Q : pm_R → pm_H → Prop} {I : Nat → Nat → Int32} {J : Nat → Nat → Int64}
    (h : t_X11_need_24 d L fz t Q I J) :
    t_X11_need_16 d L fz t Q I J := by
  exact pm_go d [(4, [0, 1]), (16, []), (24, [])] 400 h
theorem kb_X11_need_16 {d L : Nat} {fz t : Bool} {Q : pm_R → pm_H → Prop} {fz1 : Bool} {I : Nat → Nat → Int32} {J : Nat → Nat → Int64}
    (h : t_X11_need_24 d L fz t Q I J) :
    K_X11_need_16 d fz t Q (.inl none) (pm_hp L fz1 t I J) := b_X11_need_16 h
def t_X11_number_0 (d L : Nat) (fz t : Bool) (Q : pm_R → pm_H → Prop) (x1 : Int32) (x2 : Int32) (I : Nat → Nat → Int32) (J : Nat → Nat → Int64) : Prop := pm_T (pm_Ev d) 137 Q (0, [(0, .ref 85), (1, .int x1), (2, .int x2)], [], pm_hp L fz t I J, 0, 0)
def t_X11_number_4 (d L : Nat) (fz t : Bool) (Q : pm_R → pm_H → Prop) (x1 : Int32) (x2 : Int32) (r : Int32) (I : Nat → Nat → Int32) (J : Nat → Nat → Int64) : Prop := pm_T (pm_Ev d) 137 Q (4, [(0, .ref 85), (1, .int x1), (2, .int x2)], [.int r], pm_hp L fz t I J, 0, 0)
def K_X11_number_4 (d : Nat) (fz t : Bool) (Q : pm_R → pm_H → Prop) (x1 : Int32) (x2 : Int32) : pm_R → pm_H → Prop := pm_K d 137 Q 4 [(0, .ref 85), (1, .int x1), (2, .int x2)] [] 118 0 fz 0 0
def t_X11_number_54 (d L : Nat) (fz t : Bool) (Q : pm_R → pm_H → Prop) (I : Nat → Nat → Int32) (J : Nat → Nat → Int64) : Prop := pm_T (pm_Ev d) 137 Q (54, [(0, .ref 85)], [], pm_hp L fz t I J, 0, 0)
def K_X11_number_54 (d : Nat) (fz t : Bool) (Q : pm_R → pm_H → Prop) : pm_R → pm_H → Prop := pm_K d 137 Q 54 [(0, .ref 85)] [] 118 0 fz 0 0
def t_X11_number_22 (d L : Nat) (fz t : Bool) (Q : pm_R → pm_H → Prop) (I : Nat → Nat → Int32) (J : Nat → Nat → Int64) : Prop := pm_T (pm_Ev d) 137 Q (22, [(0, .ref 85)], [], pm_hp L fz t I J, 0, 0)
def K_X11_number_22 (d : Nat) (fz t : Bool) (Q : pm_R → pm_H → Prop) : pm_R → pm_H → Prop := pm_K d 137 Q 22 [(0, .ref 85)] [] 118 0 fz 0 0
def t_X11_number_63 (d L : Nat) (fz t : Bool) (Q : pm_R → pm_H → Prop) (x3 : Int32) (r : Int32) (I : Nat → Nat → Int32) (J : Nat → Nat → Int64) : Prop := pm_T (pm_Ev d) 137 Q (63, [(0, .ref 85), (3, .int x3)], [.int r], pm_hp L fz t I J, 0, 0)
def K_X11_number_63 (d : Nat) (fz t : Bool) (Q : pm_R → pm_H → Prop) (x3 : Int32) : pm_R → pm_H → Prop := pm_K d 137 Q 63 [(0, .ref 85), (3, .int x3)] [] 118 0 fz 0 0
def t_X11_number_70 (d L : Nat) (fz t : Bool) (Q : pm_R → pm_H → Prop) (x3 : Int32) (I : Nat → Nat → Int32) (J : Nat → Nat → Int64) : Prop := pm_T (pm_Ev d) 137 Q (70, [(3, .int x3)], [], pm_hp L fz t I J, 0, 0)
def K_X11_number_70 (d : Nat) (fz t : Bool) (Q : pm_R → pm_H → Prop) (x3 : Int32) : pm_R → pm_H → Prop := pm_K d 137 Q 70 [(3, .int x3)] [] 118 0 fz 0 0
set_option maxRecDepth 100000 in
theorem b_X11_number_0 {d L : Nat} {fz t : Bool} {Q : pm_R → pm_H → Prop} {x1 : Int32} {x2 : Int32} {I : Nat → Nat → Int32} {J : Nat → Nat → Int64}
    (h : pm_Ev d 134 [.ref 85] (pm_hp L fz t I J) (K_X11_number_4 d fz t Q x1 x2)) :
    t_X11_number_0 d L fz t Q x1 x2 I J := by
  exact pm_go d [(4, [0, 1, 2]), (22, [0]), (54, [0]), (63, [0, 3]), (70, [3])] 400 h
theorem e_X11_number {d L : Nat} {fz t : Bool} {Q : pm_R → pm_H → Prop} {x1 : Int32} {x2 : Int32} {I : Nat → Nat → Int32} {J : Nat → Nat → Int64}
    (h : pm_Ev d 134 [.ref 85] (pm_hp L fz t I J) (K_X11_number_4 d fz t Q x1 x2)) :
    pm_Ev (d + 1) 137 [.ref 85, .int x1, .int x2] (pm_hp L fz t I J) Q := pm_Ev_in rfl (b_X11_number_0 h)
set_option maxRecDepth 100000 in
theorem b_X11_number_4 {d L : Nat} {fz t : Bool} {Q : pm_R → pm_H → Prop} {x1 : Int32} {x2 : Int32} {r : Int32} {I : Nat → Nat → Int32} {J : Nat → Nat → Int64}
    (h : ((¬ r = (nI 0) → (((I 85 20) = (nI 2) → (((nI 4) < (I 85 22) → pm_Ev d 133 [.ref 85, .int (nI 2)] (pm_hp L fz t I J) (K_X11_number_54 d fz t Q)) ∧ (¬ (nI 4) < (I 85 22) → (((I 85 23) < x1 → pm_Ev d 133 [.ref 85, .int (nI 2)] (pm_hp L fz t I J) (K_X11_number_54 d fz t Q)) ∧ (¬ (I 85 23) < x1 → (((I 85 23) ≤ x2 → t_X11_number_54 d L fz t Q I J) ∧ (¬ (I 85 23) ≤ x2 → pm_Ev d 133 [.ref 85, .int (nI 2)] (pm_hp L fz t I J) (K_X11_number_54 d fz t Q)))))))) ∧ (¬ (I 85 20) = (nI 2) → pm_Ev d 133 [.ref 85, .int (nI 1)] (pm_hp L fz t I J) (K_X11_number_22 d fz t Q)))) ∧ (r = (nI 0) → Q (.inl (some (.int (nI 0)))) (pm_hp L fz t I J)))) :
    t_X11_number_4 d L fz t Q x1 x2 r I J := by
  exact pm_go d [(4, [0, 1, 2]), (22, [0]), (54, [0]), (63, [0, 3]), (70, [3])] 400 ⟨fun q0 => ⟨fun q1 => ⟨fun q2 => ((((((h).1 q0)).1 q1)).1 q2), fun q2 => ⟨fun q3 => ((((((((h).1 q0)).1 q1)).2 q2)).1 q3), fun q3 => ⟨fun q4 => ((((((((((h).1 q0)).1 q1)).2 q2)).2 q3)).1 q4), fun q4 => ((((((((((h).1 q0)).1 q1)).2 q2)).2 q3)).2 q4)⟩⟩⟩, fun q1 => ((((h).1 q0)).2 q1)⟩, fun q0 => ((h).2 q0)⟩
theorem kb_X11_number_4 {d L : Nat} {fz t : Bool} {Q : pm_R → pm_H → Prop} {x1 : Int32} {x2 : Int32} {r : Int32} {fz1 : Bool} {I : Nat → Nat → Int32} {J : Nat → Nat → Int64}
    (h : ((¬ r = (nI 0) → (((I 85 20) = (nI 2) → (((nI 4) < (I 85 22) → pm_Ev d 133 [.ref 85, .int (nI 2)] (pm_hp L fz t I J) (K_X11_number_54 d fz t Q)) ∧ (¬ (nI 4) < (I 85 22) → (((I 85 23) < x1 → pm_Ev d 133 [.ref 85, .int (nI 2)] (pm_hp L fz t I J) (K_X11_number_54 d fz t Q)) ∧ (¬ (I 85 23) < x1 → (((I 85 23) ≤ x2 → t_X11_number_54 d L fz t Q I J) ∧ (¬ (I 85 23) ≤ x2 → pm_Ev d 133 [.ref 85, .int (nI 2)] (pm_hp L fz t I J) (K_X11_number_54 d fz t Q)))))))) ∧ (¬ (I 85 20) = (nI 2) → pm_Ev d 133 [.ref 85, .int (nI 1)] (pm_hp L fz t I J) (K_X11_number_22 d fz t Q)))) ∧ (r = (nI 0) → Q (.inl (some (.int (nI 0)))) (pm_hp L fz t I J)))) :
    K_X11_number_4 d fz t Q x1 x2 (.inl (some (.int r))) (pm_hp L fz1 t I J) := b_X11_number_4 h
set_option maxRecDepth 100000 in
theorem b_X11_number_54 {d L : Nat} {fz t : Bool} {Q : pm_R → pm_H → Prop} {I : Nat → Nat → Int32} {J : Nat → Nat → Int64}
    (h : pm_Ev d 134 [.ref 85] (pm_hp L fz t I J) (K_X11_number_63 d fz t Q (I 85 23))) :
    t_X11_number_54 d L fz t Q I J := by
  exact pm_go d [(4, [0, 1, 2]), (22, [0]), (54, [0]), (63, [0, 3]), (70, [3])] 400 h
theorem kb_X11_number_54 {d L : Nat} {fz t : Bool} {Q : pm_R → pm_H → Prop} {fz1 : Bool} {I : Nat → Nat → Int32} {J : Nat → Nat → Int64}
    (h : pm_Ev d 134 [.ref 85] (pm_hp L fz t I J) (K_X11_number_63 d fz t Q (I 85 23))) :
    K_X11_number_54 d fz t Q (.inl none) (pm_hp L fz1 t I J) := b_X11_number_54 h
set_option maxRecDepth 100000 in
theorem b_X11_number_22 {d L : Nat} {fz t : Bool} {Q : pm_R → pm_H → Prop} {I : Nat → Nat → Int32} {J : Nat → Nat → Int64}
    (h : t_X11_number_54 d L fz t Q I J) :
    t_X11_number_22 d L fz t Q I J := by
  exact pm_go d [(4, [0, 1, 2]), (22, [0]), (54, [0]), (63, [0, 3]), (70, [3])] 400 h
theorem kb_X11_number_22 {d L : Nat} {fz t : Bool} {Q : pm_R → pm_H → Prop} {fz1 : Bool} {I : Nat → Nat → Int32} {J : Nat → Nat → Int64}
    (h : t_X11_number_54 d L fz t Q I J) :
    K_X11_number_22 d fz t Q (.inl none) (pm_hp L fz1 t I J) := b_X11_number_22 h
set_option maxRecDepth 100000 in
theorem b_X11_number_63 {d L : Nat} {fz t : Bool} {Q : pm_R → pm_H → Prop} {x3 : Int32} {r : Int32} {I : Nat → Nat → Int32} {J : Nat → Nat → Int64}
    (h : ((r = (nI 0) → t_X11_number_70 d L fz t Q x3 I J) ∧ (¬ r = (nI 0) → pm_Ev d 129 [.ref 85] (pm_hp L fz t I J) (K_X11_number_70 d fz t Q x3)))) :
    t_X11_number_63 d L fz t Q x3 r I J := by
  exact pm_go d [(4, [0, 1, 2]), (22, [0]), (54, [0]), (63, [0, 3]), (70, [3])] 400 ⟨fun q0 => ((h).1 q0), fun q0 => ((h).2 q0)⟩
theorem kb_X11_number_63 {d L : Nat} {fz t : Bool} {Q : pm_R → pm_H → Prop} {x3 : Int32} {r : Int32} {fz1 : Bool} {I : Nat → Nat → Int32} {J : Nat → Nat → Int64}
    (h : ((r = (nI 0) → t_X11_number_70 d L fz t Q x3 I J) ∧ (¬ r = (nI 0) → pm_Ev d 129 [.ref 85] (pm_hp L fz t I J) (K_X11_number_70 d fz t Q x3)))) :
    K_X11_number_63 d fz t Q x3 (.inl (some (.int r))) (pm_hp L fz1 t I J) := b_X11_number_63 h
set_option maxRecDepth 100000 in
theorem b_X11_number_70 {d L : Nat} {fz t : Bool} {Q : pm_R → pm_H → Prop} {x3 : Int32} {I : Nat → Nat → Int32} {J : Nat → Nat → Int64}
    (h : Q (.inl (some (.int x3))) (pm_hp L fz t I J)) :
    t_X11_number_70 d L fz t Q x3 I J := by
  exact pm_go d [(4, [0, 1, 2]), (22, [0]), (54, [0]), (63, [0, 3]), (70, [3])] 400 h
theorem kb_X11_number_70 {d L : Nat} {fz t : Bool} {Q : pm_R → pm_H → Prop} {x3 : Int32} {fz1 : Bool} {I : Nat → Nat → Int32} {J : Nat → Nat → Int64}
    (h : Q (.inl (some (.int x3))) (pm_hp L fz t I J)) :
    K_X11_number_70 d fz t Q x3 (.inl none) (pm_hp L fz1 t I J) := b_X11_number_70 h
def t_X11_among_0 (d L : Nat) (fz t : Bool) (Q : pm_R → pm_H → Prop) (x1 : Int32) (I : Nat → Nat → Int32) (J : Nat → Nat → Int64) : Prop := pm_T (pm_Ev d) 138 Q (0, [(0, .ref 85), (1, .int x1)], [], pm_hp L fz t I J, 0, 0)
def t_X11_among_4 (d L : Nat) (fz t : Bool) (Q : pm_R → pm_H → Prop) (x1 : Int32) (r : Int32) (I : Nat → Nat → Int32) (J : Nat → Nat → Int64) : Prop := pm_T (pm_Ev d) 138 Q (4, [(0, .ref 85), (1, .int x1)], [.int r], pm_hp L fz t I J, 0, 0)
def K_X11_among_4 (d : Nat) (fz t : Bool) (Q : pm_R → pm_H → Prop) (x1 : Int32) : pm_R → pm_H → Prop := pm_K d 138 Q 4 [(0, .ref 85), (1, .int x1)] [] 118 0 fz 0 0
def t_X11_among_54 (d L : Nat) (fz t : Bool) (Q : pm_R → pm_H → Prop) (I : Nat → Nat → Int32) (J : Nat → Nat → Int64) : Prop := pm_T (pm_Ev d) 138 Q (54, [(0, .ref 85)], [], pm_hp L fz t I J, 0, 0)
def K_X11_among_54 (d : Nat) (fz t : Bool) (Q : pm_R → pm_H → Prop) : pm_R → pm_H → Prop := pm_K d 138 Q 54 [(0, .ref 85)] [] 118 0 fz 0 0
def t_X11_among_38 (d L : Nat) (fz t : Bool) (Q : pm_R → pm_H → Prop) (I : Nat → Nat → Int32) (J : Nat → Nat → Int64) : Prop := pm_T (pm_Ev d) 138 Q (38, [(0, .ref 85)], [], pm_hp L fz t I J, 0, 0)
def K_X11_among_38 (d : Nat) (fz t : Bool) (Q : pm_R → pm_H → Prop) : pm_R → pm_H → Prop := pm_K d 138 Q 38 [(0, .ref 85)] [] 118 0 fz 0 0
def t_X11_among_22 (d L : Nat) (fz t : Bool) (Q : pm_R → pm_H → Prop) (I : Nat → Nat → Int32) (J : Nat → Nat → Int64) : Prop := pm_T (pm_Ev d) 138 Q (22, [(0, .ref 85)], [], pm_hp L fz t I J, 0, 0)
def K_X11_among_22 (d : Nat) (fz t : Bool) (Q : pm_R → pm_H → Prop) : pm_R → pm_H → Prop := pm_K d 138 Q 22 [(0, .ref 85)] [] 118 0 fz 0 0
def t_X11_among_63 (d L : Nat) (fz t : Bool) (Q : pm_R → pm_H → Prop) (x2 : Int32) (r : Int32) (I : Nat → Nat → Int32) (J : Nat → Nat → Int64) : Prop := pm_T (pm_Ev d) 138 Q (63, [(0, .ref 85), (2, .int x2)], [.int r], pm_hp L fz t I J, 0, 0)
def K_X11_among_63 (d : Nat) (fz t : Bool) (Q : pm_R → pm_H → Prop) (x2 : Int32) : pm_R → pm_H → Prop := pm_K d 138 Q 63 [(0, .ref 85), (2, .int x2)] [] 118 0 fz 0 0
def t_X11_among_70 (d L : Nat) (fz t : Bool) (Q : pm_R → pm_H → Prop) (x2 : Int32) (I : Nat → Nat → Int32) (J : Nat → Nat → Int64) : Prop := pm_T (pm_Ev d) 138 Q (70, [(2, .int x2)], [], pm_hp L fz t I J, 0, 0)
def K_X11_among_70 (d : Nat) (fz t : Bool) (Q : pm_R → pm_H → Prop) (x2 : Int32) : pm_R → pm_H → Prop := pm_K d 138 Q 70 [(2, .int x2)] [] 118 0 fz 0 0
set_option maxRecDepth 100000 in
theorem b_X11_among_0 {d L : Nat} {fz t : Bool} {Q : pm_R → pm_H → Prop} {x1 : Int32} {I : Nat → Nat → Int32} {J : Nat → Nat → Int64}
    (h : pm_Ev d 134 [.ref 85] (pm_hp L fz t I J) (K_X11_among_4 d fz t Q x1)) :
    t_X11_among_0 d L fz t Q x1 I J := by
  exact pm_go d [(4, [0, 1]), (22, [0]), (38, [0]), (54, [0]), (63, [0, 2]), (70, [2])] 400 h
theorem e_X11_among {d L : Nat} {fz t : Bool} {Q : pm_R → pm_H → Prop} {x1 : Int32} {I : Nat → Nat → Int32} {J : Nat → Nat → Int64}
    (h : pm_Ev d 134 [.ref 85] (pm_hp L fz t I J) (K_X11_among_4 d fz t Q x1)) :
    pm_Ev (d + 1) 138 [.ref 85, .int x1] (pm_hp L fz t I J) Q := pm_Ev_in rfl (b_X11_among_0 h)
set_option maxRecDepth 100000 in
theorem b_X11_among_4 {d L : Nat} {fz t : Bool} {Q : pm_R → pm_H → Prop} {x1 : Int32} {r : Int32} {I : Nat → Nat → Int32} {J : Nat → Nat → Int64}
    (h : ((¬ r = (nI 0) → (((I 85 20) = (nI 2) → (((I 85 22) ≤ (nI 4) → (((I 85 23) < x1 → t_X11_among_54 d L fz t Q I J) ∧ (¬ (I 85 23) < x1 → pm_Ev d 133 [.ref 85, .int (nI 3)] (pm_hp L fz t I J) (K_X11_among_54 d fz t Q)))) ∧ (¬ (I 85 22) ≤ (nI 4) → pm_Ev d 133 [.ref 85, .int (nI 2)] (pm_hp L fz t I J) (K_X11_among_38 d fz t Q)))) ∧ (¬ (I 85 20) = (nI 2) → pm_Ev d 133 [.ref 85, .int (nI 1)] (pm_hp L fz t I J) (K_X11_among_22 d fz t Q)))) ∧ (r = (nI 0) → Q (.inl (some (.int (nI 0)))) (pm_hp L fz t I J)))) :
    t_X11_among_4 d L fz t Q x1 r I J := by
  exact pm_go d [(4, [0, 1]), (22, [0]), (38, [0]), (54, [0]), (63, [0, 2]), (70, [2])] 400 ⟨fun q0 => ⟨fun q1 => ⟨fun q2 => ⟨fun q3 => ((((((((h).1 q0)).1 q1)).1 q2)).1 q3), fun q3 => ((((((((h).1 q0)).1 q1)).1 q2)).2 q3)⟩, fun q2 => ((((((h).1 q0)).1 q1)).2 q2)⟩, fun q1 => ((((h).1 q0)).2 q1)⟩, fun q0 => ((h).2 q0)⟩
theorem kb_X11_among_4 {d L : Nat} {fz t : Bool} {Q : pm_R → pm_H → Prop} {x1 : Int32} {r : Int32} {fz1 : Bool} {I : Nat → Nat → Int32} {J : Nat → Nat → Int64}
    (h : ((¬ r = (nI 0) → (((I 85 20) = (nI 2) → (((I 85 22) ≤ (nI 4) → (((I 85 23) < x1 → t_X11_among_54 d L fz t Q I J) ∧ (¬ (I 85 23) < x1 → pm_Ev d 133 [.ref 85, .int (nI 3)] (pm_hp L fz t I J) (K_X11_among_54 d fz t Q)))) ∧ (¬ (I 85 22) ≤ (nI 4) → pm_Ev d 133 [.ref 85, .int (nI 2)] (pm_hp L fz t I J) (K_X11_among_38 d fz t Q)))) ∧ (¬ (I 85 20) = (nI 2) → pm_Ev d 133 [.ref 85, .int (nI 1)] (pm_hp L fz t I J) (K_X11_among_22 d fz t Q)))) ∧ (r = (nI 0) → Q (.inl (some (.int (nI 0)))) (pm_hp L fz t I J)))) :
    K_X11_among_4 d fz t Q x1 (.inl (some (.int r))) (pm_hp L fz1 t I J) := b_X11_among_4 h
set_option maxRecDepth 100000 in
theorem b_X11_among_54 {d L : Nat} {fz t : Bool} {Q : pm_R → pm_H → Prop} {I : Nat → Nat → Int32} {J : Nat → Nat → Int64}
    (h : pm_Ev d 134 [.ref 85] (pm_hp L fz t I J) (K_X11_among_63 d fz t Q (I 85 23))) :
    t_X11_among_54 d L fz t Q I J := by
  exact pm_go d [(4, [0, 1]), (22, [0]), (38, [0]), (54, [0]), (63, [0, 2]), (70, [2])] 400 h
theorem kb_X11_among_54 {d L : Nat} {fz t : Bool} {Q : pm_R → pm_H → Prop} {fz1 : Bool} {I : Nat → Nat → Int32} {J : Nat → Nat → Int64}
    (h : pm_Ev d 134 [.ref 85] (pm_hp L fz t I J) (K_X11_among_63 d fz t Q (I 85 23))) :
    K_X11_among_54 d fz t Q (.inl none) (pm_hp L fz1 t I J) := b_X11_among_54 h
set_option maxRecDepth 100000 in
theorem b_X11_among_38 {d L : Nat} {fz t : Bool} {Q : pm_R → pm_H → Prop} {I : Nat → Nat → Int32} {J : Nat → Nat → Int64}
    (h : t_X11_among_54 d L fz t Q I J) :
    t_X11_among_38 d L fz t Q I J := by
  exact pm_go d [(4, [0, 1]), (22, [0]), (38, [0]), (54, [0]), (63, [0, 2]), (70, [2])] 400 h
theorem kb_X11_among_38 {d L : Nat} {fz t : Bool} {Q : pm_R → pm_H → Prop} {fz1 : Bool} {I : Nat → Nat → Int32} {J : Nat → Nat → Int64}
    (h : t_X11_among_54 d L fz t Q I J) :
    K_X11_among_38 d fz t Q (.inl none) (pm_hp L fz1 t I J) := b_X11_among_38 h
set_option maxRecDepth 100000 in
theorem b_X11_among_22 {d L : Nat} {fz t : Bool} {Q : pm_R → pm_H → Prop} {I : Nat → Nat → Int32} {J : Nat → Nat → Int64}
    (h : t_X11_among_54 d L fz t Q I J) :
    t_X11_among_22 d L fz t Q I J := by
  exact pm_go d [(4, [0, 1]), (22, [0]), (38, [0]), (54, [0]), (63, [0, 2]), (70, [2])] 400 h
theorem kb_X11_among_22 {d L : Nat} {fz t : Bool} {Q : pm_R → pm_H → Prop} {fz1 : Bool} {I : Nat → Nat → Int32} {J : Nat → Nat → Int64}
    (h : t_X11_among_54 d L fz t Q I J) :
    K_X11_among_22 d fz t Q (.inl none) (pm_hp L fz1 t I J) := b_X11_among_22 h
set_option maxRecDepth 100000 in
theorem b_X11_among_63 {d L : Nat} {fz t : Bool} {Q : pm_R → pm_H → Prop} {x2 : Int32} {r : Int32} {I : Nat → Nat → Int32} {J : Nat → Nat → Int64}
    (h : ((r = (nI 0) → t_X11_among_70 d L fz t Q x2 I J) ∧ (¬ r = (nI 0) → pm_Ev d 129 [.ref 85] (pm_hp L fz t I J) (K_X11_among_70 d fz t Q x2)))) :
    t_X11_among_63 d L fz t Q x2 r I J := by
  exact pm_go d [(4, [0, 1]), (22, [0]), (38, [0]), (54, [0]), (63, [0, 2]), (70, [2])] 400 ⟨fun q0 => ((h).1 q0), fun q0 => ((h).2 q0)⟩
theorem kb_X11_among_63 {d L : Nat} {fz t : Bool} {Q : pm_R → pm_H → Prop} {x2 : Int32} {r : Int32} {fz1 : Bool} {I : Nat → Nat → Int32} {J : Nat → Nat → Int64}
    (h : ((r = (nI 0) → t_X11_among_70 d L fz t Q x2 I J) ∧ (¬ r = (nI 0) → pm_Ev d 129 [.ref 85] (pm_hp L fz t I J) (K_X11_among_70 d fz t Q x2)))) :
    K_X11_among_63 d fz t Q x2 (.inl (some (.int r))) (pm_hp L fz1 t I J) := b_X11_among_63 h
set_option maxRecDepth 100000 in
theorem b_X11_among_70 {d L : Nat} {fz t : Bool} {Q : pm_R → pm_H → Prop} {x2 : Int32} {I : Nat → Nat → Int32} {J : Nat → Nat → Int64}
    (h : Q (.inl (some (.int x2))) (pm_hp L fz t I J)) :
    t_X11_among_70 d L fz t Q x2 I J := by
  exact pm_go d [(4, [0, 1]), (22, [0]), (38, [0]), (54, [0]), (63, [0, 2]), (70, [2])] 400 h
theorem kb_X11_among_70 {d L : Nat} {fz t : Bool} {Q : pm_R → pm_H → Prop} {x2 : Int32} {fz1 : Bool} {I : Nat → Nat → Int32} {J : Nat → Nat → Int64}
    (h : Q (.inl (some (.int x2))) (pm_hp L fz t I J)) :
    K_X11_among_70 d fz t Q x2 (.inl none) (pm_hp L fz1 t I J) := b_X11_among_70 h
def t_X11_puts_0 (d L : Nat) (fz t : Bool) (Q : pm_R → pm_H → Prop) (x1 : Int32) (I : Nat → Nat → Int32) (J : Nat → Nat → Int64) : Prop := pm_T (pm_Ev d) 139 Q (0, [(0, .ref 85), (1, .int x1)], [], pm_hp L fz t I J, 0, 0)
set_option maxRecDepth 100000 in
theorem b_X11_puts_0 {d L : Nat} {fz t : Bool} {Q : pm_R → pm_H → Prop} {x1 : Int32} {I : Nat → Nat → Int32} {J : Nat → Nat → Int64}
    (h : (vp_in (I 85 32) 1400 ∧ Q (.inl none) (pm_hp L fz t (pm_u (pm_u I 100 ((I 85 32)).toNatClampNeg x1) 85 32 ((I 85 32) + (nI 1))) J))) :
    t_X11_puts_0 d L fz t Q x1 I J := by
  exact pm_go d [] 400 ⟨(h).1, (h).2⟩
theorem e_X11_puts {d L : Nat} {fz t : Bool} {Q : pm_R → pm_H → Prop} {x1 : Int32} {I : Nat → Nat → Int32} {J : Nat → Nat → Int64}
    (h : (vp_in (I 85 32) 1400 ∧ Q (.inl none) (pm_hp L fz t (pm_u (pm_u I 100 ((I 85 32)).toNatClampNeg x1) 85 32 ((I 85 32) + (nI 1))) J))) :
    pm_Ev (d + 1) 139 [.ref 85, .int x1] (pm_hp L fz t I J) Q := pm_Ev_in rfl (b_X11_puts_0 h)
def t_X11_isOpen_0 (d L : Nat) (fz t : Bool) (Q : pm_R → pm_H → Prop) (x0 : Int32) (I : Nat → Nat → Int32) (J : Nat → Nat → Int64) : Prop := pm_T (pm_Ev d) 140 Q (0, [(0, .int x0)], [], pm_hp L fz t I J, 0, 0)
set_option maxRecDepth 100000 in
theorem b_X11_isOpen_0 {d L : Nat} {fz t : Bool} {Q : pm_R → pm_H → Prop} {x0 : Int32} {I : Nat → Nat → Int32} {J : Nat → Nat → Int64}
    (h : ((x0 < (nI 14) → Q (.inl (some (.int (nI 0)))) (pm_hp L fz t I J)) ∧ (¬ x0 < (nI 14) → Q (.inl (some (.int (nI 1)))) (pm_hp L fz t I J)))) :
    t_X11_isOpen_0 d L fz t Q x0 I J := by
  exact pm_go d [] 400 ⟨fun q0 => ⟨Or.inl rfl, ((h).1 q0)⟩, fun q0 => ⟨Or.inr rfl, ((h).2 q0)⟩⟩
theorem e_X11_isOpen {d L : Nat} {fz t : Bool} {Q : pm_R → pm_H → Prop} {x0 : Int32} {I : Nat → Nat → Int32} {J : Nat → Nat → Int64}
    (h : ((x0 < (nI 14) → Q (.inl (some (.int (nI 0)))) (pm_hp L fz t I J)) ∧ (¬ x0 < (nI 14) → Q (.inl (some (.int (nI 1)))) (pm_hp L fz t I J)))) :
    pm_Ev (d + 1) 140 [.int x0] (pm_hp L fz t I J) Q := pm_Ev_in rfl (b_X11_isOpen_0 h)
def t_X11_strength_0 (d L : Nat) (fz t : Bool) (Q : pm_R → pm_H → Prop) (x0 : Int32) (I : Nat → Nat → Int32) (J : Nat → Nat → Int64) : Prop := pm_T (pm_Ev d) 141 Q (0, [(0, .int x0)], [], pm_hp L fz t I J, 0, 0)
set_option maxRecDepth 100000 in
theorem b_X11_strength_0 {d L : Nat} {fz t : Bool} {Q : pm_R → pm_H → Prop} {x0 : Int32} {I : Nat → Nat → Int32} {J : Nat → Nat → Int64}
    (h : ((¬ x0 = (nI 5) → ((¬ x0 = (nI 4) → ((¬ x0 = (nI 3) → ((x0 = (nI 6) → Q (.inl (some (.int (nI 4)))) (pm_hp L fz t I J)) ∧ (¬ x0 = (nI 6) → ((¬ x0 = (nI 7) → ((x0 = (nI 8) → Q (.inl (some (.int (nI 5)))) (pm_hp L fz t I J)) ∧ (¬ x0 = (nI 8) → ((¬ x0 = (nI 9) → Q (.inl (some (.int (nI 6)))) (pm_hp L fz t I J)) ∧ (x0 = (nI 9) → Q (.inl (some (.int (nI 5)))) (pm_hp L fz t I J)))))) ∧ (x0 = (nI 7) → Q (.inl (some (.int (nI 4)))) (pm_hp L fz t I J)))))) ∧ (x0 = (nI 3) → Q (.inl (some (.int (nI 3)))) (pm_hp L fz t I J)))) ∧ (x0 = (nI 4) → Q (.inl (some (.int (nI 2)))) (pm_hp L fz t I J)))) ∧ (x0 = (nI 5) → Q (.inl (some (.int (nI 1)))) (pm_hp L fz t I J)))) :
    t_X11_strength_0 d L fz t Q x0 I J := by
  exact pm_go d [] 400 ⟨fun q0 => ⟨fun q1 => ⟨fun q2 => ⟨fun q3 => ((((((((h).1 q0)).1 q1)).1 q2)).1 q3), fun q3 => ⟨fun q4 => ⟨fun q5 => ((((((((((((h).1 q0)).1 q1)).1 q2)).2 q3)).1 q4)).1 q5), fun q5 => ⟨fun q6 => ((((((((((((((h).1 q0)).1 q1)).1 q2)).2 q3)).1 q4)).2 q5)).1 q6), fun q6 => ((((((((((((((h).1 q0)).1 q1)).1 q2)).2 q3)).1 q4)).2 q5)).2 q6)⟩⟩, fun q4 => ((((((((((h).1 q0)).1 q1)).1 q2)).2 q3)).2 q4)⟩⟩, fun q2 => ((((((h).1 q0)).1 q1)).2 q2)⟩, fun q1 => ((((h).1 q0)).2 q1)⟩, fun q0 => ((h).2 q0)⟩
theorem e_X11_strength {d L : Nat} {fz t : Bool} {Q : pm_R → pm_H → Prop} {x0 : Int32} {I : Nat → Nat → Int32} {J : Nat → Nat → Int64}
    (h : ((¬ x0 = (nI 5) → ((¬ x0 = (nI 4) → ((¬ x0 = (nI 3) → ((x0 = (nI 6) → Q (.inl (some (.int (nI 4)))) (pm_hp L fz t I J)) ∧ (¬ x0 = (nI 6) → ((¬ x0 = (nI 7) → ((x0 = (nI 8) → Q (.inl (some (.int (nI 5)))) (pm_hp L fz t I J)) ∧ (¬ x0 = (nI 8) → ((¬ x0 = (nI 9) → Q (.inl (some (.int (nI 6)))) (pm_hp L fz t I J)) ∧ (x0 = (nI 9) → Q (.inl (some (.int (nI 5)))) (pm_hp L fz t I J)))))) ∧ (x0 = (nI 7) → Q (.inl (some (.int (nI 4)))) (pm_hp L fz t I J)))))) ∧ (x0 = (nI 3) → Q (.inl (some (.int (nI 3)))) (pm_hp L fz t I J)))) ∧ (x0 = (nI 4) → Q (.inl (some (.int (nI 2)))) (pm_hp L fz t I J)))) ∧ (x0 = (nI 5) → Q (.inl (some (.int (nI 1)))) (pm_hp L fz t I J)))) :
    pm_Ev (d + 1) 141 [.int x0] (pm_hp L fz t I J) Q := pm_Ev_in rfl (b_X11_strength_0 h)
def t_X11_drops_0 (d L : Nat) (fz t : Bool) (Q : pm_R → pm_H → Prop) (x1 : Int32) (I : Nat → Nat → Int32) (J : Nat → Nat → Int64) : Prop := pm_T (pm_Ev d) 142 Q (0, [(0, .ref 85), (1, .int x1)], [], pm_hp L fz t I J, 0, 0)
def t_X11_drops_21 (d L : Nat) (fz t : Bool) (Q : pm_R → pm_H → Prop) (x1 : Int32) (r : Int32) (I : Nat → Nat → Int32) (J : Nat → Nat → Int64) : Prop := pm_T (pm_Ev d) 142 Q (21, [(0, .ref 85), (1, .int x1)], [.int r], pm_hp L fz t I J, 0, 0)
def K_X11_drops_21 (d : Nat) (fz t : Bool) (Q : pm_R → pm_H → Prop) (x1 : Int32) : pm_R → pm_H → Prop := pm_K d 142 Q 21 [(0, .ref 85), (1, .int x1)] [] 118 0 fz 0 0
def t_X11_drops_38 (d L : Nat) (fz t : Bool) (Q : pm_R → pm_H → Prop) (x1 : Int32) (r : Int32) (I : Nat → Nat → Int32) (J : Nat → Nat → Int64) : Prop := pm_T (pm_Ev d) 142 Q (38, [(0, .ref 85), (1, .int x1)], [.int r], pm_hp L fz t I J, 0, 0)
def K_X11_drops_38 (d : Nat) (fz t : Bool) (Q : pm_R → pm_H → Prop) (x1 : Int32) : pm_R → pm_H → Prop := pm_K d 142 Q 38 [(0, .ref 85), (1, .int x1)] [] 118 0 fz 0 0
def t_X11_drops_65 (d L : Nat) (fz t : Bool) (Q : pm_R → pm_H → Prop) (x1 : Int32) (I : Nat → Nat → Int32) (J : Nat → Nat → Int64) : Prop := pm_T (pm_Ev d) 142 Q (65, [(0, .ref 85), (1, .int x1)], [], pm_hp L fz t I J, 0, 0)
def K_X11_drops_65 (d : Nat) (fz t : Bool) (Q : pm_R → pm_H → Prop) (x1 : Int32) : pm_R → pm_H → Prop := pm_K d 142 Q 65 [(0, .ref 85), (1, .int x1)] [] 118 0 fz 0 0
set_option maxRecDepth 100000 in
theorem b_X11_drops_0 {d L : Nat} {fz t : Bool} {Q : pm_R → pm_H → Prop} {x1 : Int32} {I : Nat → Nat → Int32} {J : Nat → Nat → Int64}
    (h : (((I 85 35) ≤ (nI 0) → Q (.inl none) (pm_hp L fz t I J)) ∧ (¬ (I 85 35) ≤ (nI 0) → (vp_in ((I 85 35) - (nI 1)) 950 ∧ pm_Ev d 140 [.int (I 101 (((I 85 35) - (nI 1))).toNatClampNeg)] (pm_hp L fz t I J) (K_X11_drops_21 d fz t Q x1))))) :
    t_X11_drops_0 d L fz t Q x1 I J := by
  exact pm_go d [(0, [0, 1]), (21, [0, 1]), (38, [0, 1]), (65, [0, 1])] 400 ⟨fun q0 => ((h).1 q0), fun q0 => ⟨(((h).2 q0)).1, (((h).2 q0)).2⟩⟩
theorem e_X11_drops {d L : Nat} {fz t : Bool} {Q : pm_R → pm_H → Prop} {x1 : Int32} {I : Nat → Nat → Int32} {J : Nat → Nat → Int64}
    (h : (((I 85 35) ≤ (nI 0) → Q (.inl none) (pm_hp L fz t I J)) ∧ (¬ (I 85 35) ≤ (nI 0) → (vp_in ((I 85 35) - (nI 1)) 950 ∧ pm_Ev d 140 [.int (I 101 (((I 85 35) - (nI 1))).toNatClampNeg)] (pm_hp L fz t I J) (K_X11_drops_21 d fz t Q x1))))) :
    pm_Ev (d + 1) 142 [.ref 85, .int x1] (pm_hp L fz t I J) Q := pm_Ev_in rfl (b_X11_drops_0 h)
set_option maxRecDepth 100000 in
theorem b_X11_drops_21 {d L : Nat} {fz t : Bool} {Q : pm_R → pm_H → Prop} {x1 : Int32} {r : Int32} {I : Nat → Nat → Int32} {J : Nat → Nat → Int64}
    (h : ((¬ r = (nI 0) → Q (.inl none) (pm_hp L fz t I J)) ∧ (r = (nI 0) → (vp_in ((I 85 35) - (nI 1)) 950 ∧ pm_Ev d 141 [.int (I 101 (((I 85 35) - (nI 1))).toNatClampNeg)] (pm_hp L fz t I J) (K_X11_drops_38 d fz t Q x1))))) :
    t_X11_drops_21 d L fz t Q x1 r I J := by
  exact pm_go d [(0, [0, 1]), (21, [0, 1]), (38, [0, 1]), (65, [0, 1])] 400 ⟨fun q0 => ((h).1 q0), fun q0 => ⟨(((h).2 q0)).1, (((h).2 q0)).2⟩⟩
theorem kb_X11_drops_21 {d L : Nat} {fz t : Bool} {Q : pm_R → pm_H → Prop} {x1 : Int32} {r : Int32} {fz1 : Bool} {I : Nat → Nat → Int32} {J : Nat → Nat → Int64}
    (h : ((¬ r = (nI 0) → Q (.inl none) (pm_hp L fz t I J)) ∧ (r = (nI 0) → (vp_in ((I 85 35) - (nI 1)) 950 ∧ pm_Ev d 141 [.int (I 101 (((I 85 35) - (nI 1))).toNatClampNeg)] (pm_hp L fz t I J) (K_X11_drops_38 d fz t Q x1))))) :
    K_X11_drops_21 d fz t Q x1 (.inl (some (.int r))) (pm_hp L fz1 t I J) := b_X11_drops_21 h
set_option maxRecDepth 100000 in
theorem b_X11_drops_38 {d L : Nat} {fz t : Bool} {Q : pm_R → pm_H → Prop} {x1 : Int32} {r : Int32} {I : Nat → Nat → Int32} {J : Nat → Nat → Int64}
    (h : ((r < x1 → Q (.inl none) (pm_hp L fz t I J)) ∧ (¬ r < x1 → (vp_in ((I 85 35) - (nI 1)) 950 ∧ pm_Ev d 139 [.ref 85, .int (I 101 (((I 85 35) - (nI 1))).toNatClampNeg)] (pm_hp L fz t (pm_u I 85 35 ((I 85 35) - (nI 1))) J) (K_X11_drops_65 d fz t Q x1))))) :
    t_X11_drops_38 d L fz t Q x1 r I J := by
  exact pm_go d [(0, [0, 1]), (21, [0, 1]), (38, [0, 1]), (65, [0, 1])] 400 ⟨fun q0 => ((h).1 q0), fun q0 => ⟨(((h).2 q0)).1, (((h).2 q0)).2⟩⟩
theorem kb_X11_drops_38 {d L : Nat} {fz t : Bool} {Q : pm_R → pm_H → Prop} {x1 : Int32} {r : Int32} {fz1 : Bool} {I : Nat → Nat → Int32} {J : Nat → Nat → Int64}
    (h : ((r < x1 → Q (.inl none) (pm_hp L fz t I J)) ∧ (¬ r < x1 → (vp_in ((I 85 35) - (nI 1)) 950 ∧ pm_Ev d 139 [.ref 85, .int (I 101 (((I 85 35) - (nI 1))).toNatClampNeg)] (pm_hp L fz t (pm_u I 85 35 ((I 85 35) - (nI 1))) J) (K_X11_drops_65 d fz t Q x1))))) :
    K_X11_drops_38 d fz t Q x1 (.inl (some (.int r))) (pm_hp L fz1 t I J) := b_X11_drops_38 h
set_option maxRecDepth 100000 in
theorem b_X11_drops_65 {d L : Nat} {fz t : Bool} {Q : pm_R → pm_H → Prop} {x1 : Int32} {I : Nat → Nat → Int32} {J : Nat → Nat → Int64}
    (h : t_X11_drops_0 d L fz t Q x1 I J) :
    t_X11_drops_65 d L fz t Q x1 I J := by
  exact pm_go d [(0, [0, 1]), (21, [0, 1]), (38, [0, 1]), (65, [0, 1])] 400 h
theorem kb_X11_drops_65 {d L : Nat} {fz t : Bool} {Q : pm_R → pm_H → Prop} {x1 : Int32} {fz1 : Bool} {I : Nat → Nat → Int32} {J : Nat → Nat → Int64}
    (h : t_X11_drops_0 d L fz t Q x1 I J) :
    K_X11_drops_65 d fz t Q x1 (.inl none) (pm_hp L fz1 t I J) := b_X11_drops_65 h
def t_X11_waitsFor_0 (d L : Nat) (fz t : Bool) (Q : pm_R → pm_H → Prop) (x1 : Int32) (I : Nat → Nat → Int32) (J : Nat → Nat → Int64) : Prop := pm_T (pm_Ev d) 143 Q (0, [(0, .ref 85), (1, .int x1)], [], pm_hp L fz t I J, 0, 0)
set_option maxRecDepth 100000 in
theorem b_X11_waitsFor_0 {d L : Nat} {fz t : Bool} {Q : pm_R → pm_H → Prop} {x1 : Int32} {I : Nat → Nat → Int32} {J : Nat → Nat → Int64}
    (h : (vp_in (I 85 35) 950 ∧ Q (.inl none) (pm_hp L fz t (pm_u (pm_u I 101 ((I 85 35)).toNatClampNeg x1) 85 35 ((I 85 35) + (nI 1))) J))) :
    t_X11_waitsFor_0 d L fz t Q x1 I J := by
  exact pm_go d [] 400 ⟨(h).1, (h).2⟩
theorem e_X11_waitsFor {d L : Nat} {fz t : Bool} {Q : pm_R → pm_H → Prop} {x1 : Int32} {I : Nat → Nat → Int32} {J : Nat → Nat → Int64}
    (h : (vp_in (I 85 35) 950 ∧ Q (.inl none) (pm_hp L fz t (pm_u (pm_u I 101 ((I 85 35)).toNatClampNeg x1) 85 35 ((I 85 35) + (nI 1))) J))) :
    pm_Ev (d + 1) 143 [.ref 85, .int x1] (pm_hp L fz t I J) Q := pm_Ev_in rfl (b_X11_waitsFor_0 h)
def t_X11_part_0 (d L : Nat) (fz t : Bool) (Q : pm_R → pm_H → Prop) (I : Nat → Nat → Int32) (J : Nat → Nat → Int64) : Prop := pm_T (pm_Ev d) 144 Q (0, [(0, .ref 85)], [], pm_hp L fz t I J, 0, 0)
def t_X11_part_4 (d L : Nat) (fz t : Bool) (Q : pm_R → pm_H → Prop) (r : Int32) (I : Nat → Nat → Int32) (J : Nat → Nat → Int64) : Prop := pm_T (pm_Ev d) 144 Q (4, [(0, .ref 85)], [.int r], pm_hp L fz t I J, 0, 0)
def K_X11_part_4 (d : Nat) (fz t : Bool) (Q : pm_R → pm_H → Prop) : pm_R → pm_H → Prop := pm_K d 144 Q 4 [(0, .ref 85)] [] 118 0 fz 0 0
def t_X11_part_97 (d L : Nat) (fz t : Bool) (Q : pm_R → pm_H → Prop) (I : Nat → Nat → Int32) (J : Nat → Nat → Int64) : Prop := pm_T (pm_Ev d) 144 Q (97, [(0, .ref 85)], [], pm_hp L fz t I J, 0, 0)
def K_X11_part_97 (d : Nat) (fz t : Bool) (Q : pm_R → pm_H → Prop) : pm_R → pm_H → Prop := pm_K d 144 Q 97 [(0, .ref 85)] [] 118 0 fz 0 0
def t_X11_part_57 (d L : Nat) (fz t : Bool) (Q : pm_R → pm_H → Prop) (r : Int32) (I : Nat → Nat → Int32) (J : Nat → Nat → Int64) : Prop := pm_T (pm_Ev d) 144 Q (57, [(0, .ref 85)], [.int r], pm_hp L fz t I J, 0, 0)
def K_X11_part_57 (d : Nat) (fz t : Bool) (Q : pm_R → pm_H → Prop) : pm_R → pm_H → Prop := pm_K d 144 Q 57 [(0, .ref 85)] [] 118 0 fz 0 0
def t_X11_part_29 (d L : Nat) (fz t : Bool) (Q : pm_R → pm_H → Prop) (I : Nat → Nat → Int32) (J : Nat → Nat → Int64) : Prop := pm_T (pm_Ev d) 144 Q (29, [(0, .ref 85)], [], pm_hp L fz t I J, 0, 0)
def K_X11_part_29 (d : Nat) (fz t : Bool) (Q : pm_R → pm_H → Prop) : pm_R → pm_H → Prop := pm_K d 144 Q 29 [(0, .ref 85)] [] 118 0 fz 0 0
def t_X11_part_101 (d L : Nat) (fz t : Bool) (Q : pm_R → pm_H → Prop) (r : Int32) (I : Nat → Nat → Int32) (J : Nat → Nat → Int64) : Prop := pm_T (pm_Ev d) 144 Q (101, [(0, .ref 85)], [.int r], pm_hp L fz t I J, 0, 0)
def K_X11_part_101 (d : Nat) (fz t : Bool) (Q : pm_R → pm_H → Prop) : pm_R → pm_H → Prop := pm_K d 144 Q 101 [(0, .ref 85)] [] 118 0 fz 0 0
def t_X11_part_79 (d L : Nat) (fz t : Bool) (Q : pm_R → pm_H → Prop) (x1 : Int32) (I : Nat → Nat → Int32) (J : Nat → Nat → Int64) : Prop := pm_T (pm_Ev d) 144 Q (79, [(0, .ref 85), (1, .int x1)], [], pm_hp L fz t I J, 0, 0)
def K_X11_part_79 (d : Nat) (fz t : Bool) (Q : pm_R → pm_H → Prop) (x1 : Int32) : pm_R → pm_H → Prop := pm_K d 144 Q 79 [(0, .ref 85), (1, .int x1)] [] 118 0 fz 0 0
def t_X11_part_34 (d L : Nat) (fz t : Bool) (Q : pm_R → pm_H → Prop) (I : Nat → Nat → Int32) (J : Nat → Nat → Int64) : Prop := pm_T (pm_Ev d) 144 Q (34, [(0, .ref 85)], [], pm_hp L fz t I J, 0, 0)
def K_X11_part_34 (d : Nat) (fz t : Bool) (Q : pm_R → pm_H → Prop) : pm_R → pm_H → Prop := pm_K d 144 Q 34 [(0, .ref 85)] [] 118 0 fz 0 0
def t_X11_part_108 (d L : Nat) (fz t : Bool) (Q : pm_R → pm_H → Prop) (I : Nat → Nat → Int32) (J : Nat → Nat → Int64) : Prop := pm_T (pm_Ev d) 144 Q (108, [], [], pm_hp L fz t I J, 0, 0)
def K_X11_part_108 (d : Nat) (fz t : Bool) (Q : pm_R → pm_H → Prop) : pm_R → pm_H → Prop := pm_K d 144 Q 108 [] [] 118 0 fz 0 0
def t_X11_part_84 (d L : Nat) (fz t : Bool) (Q : pm_R → pm_H → Prop) (x1 : Int32) (I : Nat → Nat → Int32) (J : Nat → Nat → Int64) : Prop := pm_T (pm_Ev d) 144 Q (84, [(0, .ref 85), (1, .int x1)], [], pm_hp L fz t I J, 0, 0)
def K_X11_part_84 (d : Nat) (fz t : Bool) (Q : pm_R → pm_H → Prop) (x1 : Int32) : pm_R → pm_H → Prop := pm_K d 144 Q 84 [(0, .ref 85), (1, .int x1)] [] 118 0 fz 0 0
def t_X11_part_42 (d L : Nat) (fz t : Bool) (Q : pm_R → pm_H → Prop) (I : Nat → Nat → Int32) (J : Nat → Nat → Int64) : Prop := pm_T (pm_Ev d) 144 Q (42, [(0, .ref 85)], [], pm_hp L fz t I J, 0, 0)
def K_X11_part_42 (d : Nat) (fz t : Bool) (Q : pm_R → pm_H → Prop) : pm_R → pm_H → Prop := pm_K d 144 Q 42 [(0, .ref 85)] [] 118 0 fz 0 0
def t_X11_part_89 (d L : Nat) (fz t : Bool) (Q : pm_R → pm_H → Prop) (I : Nat → Nat → Int32) (J : Nat → Nat → Int64) : Prop := pm_T (pm_Ev d) 144 Q (89, [(0, .ref 85)], [], pm_hp L fz t I J, 0, 0)
def K_X11_part_89 (d : Nat) (fz t : Bool) (Q : pm_R → pm_H → Prop) : pm_R → pm_H → Prop := pm_K d 144 Q 89 [(0, .ref 85)] [] 118 0 fz 0 0
set_option maxRecDepth 100000 in
theorem b_X11_part_0 {d L : Nat} {fz t : Bool} {Q : pm_R → pm_H → Prop} {I : Nat → Nat → Int32} {J : Nat → Nat → Int64}
    (h : pm_Ev d 134 [.ref 85] (pm_hp L fz t I J) (K_X11_part_4 d fz t Q)) :
    t_X11_part_0 d L fz t Q I J := by
  exact pm_go d [(4, [0]), (29, [0]), (34, [0]), (42, [0]), (57, [0]), (79, [0, 1]), (84, [0, 1]), (89, [0]), (97, [0]), (101, [0]), (108, [])] 400 h
theorem e_X11_part {d L : Nat} {fz t : Bool} {Q : pm_R → pm_H → Prop} {I : Nat → Nat → Int32} {J : Nat → Nat → Int64}
    (h : pm_Ev d 134 [.ref 85] (pm_hp L fz t I J) (K_X11_part_4 d fz t Q)) :
    pm_Ev (d + 1) 144 [.ref 85] (pm_hp L fz t I J) Q := pm_Ev_in rfl (b_X11_part_0 h)
set_option maxRecDepth 100000 in
theorem b_X11_part_4 {d L : Nat} {fz t : Bool} {Q : pm_R → pm_H → Prop} {r : Int32} {I : Nat → Nat → Int32} {J : Nat → Nat → Int64}
    (h : ((¬ r = (nI 0) → ((¬ (I 85 20) = (nI 2) → ((¬ (I 85 20) = (nI 1) → pm_Ev d 133 [.ref 85, .int (nI 1)] (pm_hp L fz t I J) (K_X11_part_97 d fz t Q)) ∧ ((I 85 20) = (nI 1) → pm_Ev d 132 [.ref 85] (pm_hp L fz t I J) (K_X11_part_57 d fz t Q)))) ∧ ((I 85 20) = (nI 2) → (((I 85 22) ≤ (nI 4) → t_X11_part_29 d L fz t Q I J) ∧ (¬ (I 85 22) ≤ (nI 4) → pm_Ev d 133 [.ref 85, .int (nI 2)] (pm_hp L fz t I J) (K_X11_part_29 d fz t Q)))))) ∧ (r = (nI 0) → Q (.inl none) (pm_hp L fz t I J)))) :
    t_X11_part_4 d L fz t Q r I J := by
  exact pm_go d [(4, [0]), (29, [0]), (34, [0]), (42, [0]), (57, [0]), (79, [0, 1]), (84, [0, 1]), (89, [0]), (97, [0]), (101, [0]), (108, [])] 400 ⟨fun q0 => ⟨fun q1 => ⟨fun q2 => ((((((h).1 q0)).1 q1)).1 q2), fun q2 => ((((((h).1 q0)).1 q1)).2 q2)⟩, fun q1 => ⟨fun q2 => ((((((h).1 q0)).2 q1)).1 q2), fun q2 => ((((((h).1 q0)).2 q1)).2 q2)⟩⟩, fun q0 => ((h).2 q0)⟩
theorem kb_X11_part_4 {d L : Nat} {fz t : Bool} {Q : pm_R → pm_H → Prop} {r : Int32} {fz1 : Bool} {I : Nat → Nat → Int32} {J : Nat → Nat → Int64}
    (h : ((¬ r = (nI 0) → ((¬ (I 85 20) = (nI 2) → ((¬ (I 85 20) = (nI 1) → pm_Ev d 133 [.ref 85, .int (nI 1)] (pm_hp L fz t I J) (K_X11_part_97 d fz t Q)) ∧ ((I 85 20) = (nI 1) → pm_Ev d 132 [.ref 85] (pm_hp L fz t I J) (K_X11_part_57 d fz t Q)))) ∧ ((I 85 20) = (nI 2) → (((I 85 22) ≤ (nI 4) → t_X11_part_29 d L fz t Q I J) ∧ (¬ (I 85 22) ≤ (nI 4) → pm_Ev d 133 [.ref 85, .int (nI 2)] (pm_hp L fz t I J) (K_X11_part_29 d fz t Q)))))) ∧ (r = (nI 0) → Q (.inl none) (pm_hp L fz t I J)))) :
    K_X11_part_4 d fz t Q (.inl (some (.int r))) (pm_hp L fz1 t I J) := b_X11_part_4 h
set_option maxRecDepth 100000 in
theorem b_X11_part_97 {d L : Nat} {fz t : Bool} {Q : pm_R → pm_H → Prop} {I : Nat → Nat → Int32} {J : Nat → Nat → Int64}
    (h : pm_Ev d 134 [.ref 85] (pm_hp L fz t I J) (K_X11_part_101 d fz t Q)) :
    t_X11_part_97 d L fz t Q I J := by
  exact pm_go d [(4, [0]), (29, [0]), (34, [0]), (42, [0]), (57, [0]), (79, [0, 1]), (84, [0, 1]), (89, [0]), (97, [0]), (101, [0]), (108, [])] 400 h
theorem kb_X11_part_97 {d L : Nat} {fz t : Bool} {Q : pm_R → pm_H → Prop} {fz1 : Bool} {I : Nat → Nat → Int32} {J : Nat → Nat → Int64}
    (h : pm_Ev d 134 [.ref 85] (pm_hp L fz t I J) (K_X11_part_101 d fz t Q)) :
    K_X11_part_97 d fz t Q (.inl none) (pm_hp L fz1 t I J) := b_X11_part_97 h
set_option maxRecDepth 100000 in
theorem b_X11_part_57 {d L : Nat} {fz t : Bool} {Q : pm_R → pm_H → Prop} {r : Int32} {I : Nat → Nat → Int32} {J : Nat → Nat → Int64}
    (h : ((r < (I 85 33) → pm_Ev d 133 [.ref 85, .int (nI 3)] (pm_hp L fz t I J) (K_X11_part_79 d fz t Q r)) ∧ (¬ r < (I 85 33) → ((r ≤ (I 85 34) → t_X11_part_79 d L fz t Q r I J) ∧ (¬ r ≤ (I 85 34) → pm_Ev d 133 [.ref 85, .int (nI 3)] (pm_hp L fz t I J) (K_X11_part_79 d fz t Q r)))))) :
    t_X11_part_57 d L fz t Q r I J := by
  exact pm_go d [(4, [0]), (29, [0]), (34, [0]), (42, [0]), (57, [0]), (79, [0, 1]), (84, [0, 1]), (89, [0]), (97, [0]), (101, [0]), (108, [])] 400 ⟨fun q0 => ((h).1 q0), fun q0 => ⟨fun q1 => ((((h).2 q0)).1 q1), fun q1 => ((((h).2 q0)).2 q1)⟩⟩
theorem kb_X11_part_57 {d L : Nat} {fz t : Bool} {Q : pm_R → pm_H → Prop} {r : Int32} {fz1 : Bool} {I : Nat → Nat → Int32} {J : Nat → Nat → Int64}
    (h : ((r < (I 85 33) → pm_Ev d 133 [.ref 85, .int (nI 3)] (pm_hp L fz t I J) (K_X11_part_79 d fz t Q r)) ∧ (¬ r < (I 85 33) → ((r ≤ (I 85 34) → t_X11_part_79 d L fz t Q r I J) ∧ (¬ r ≤ (I 85 34) → pm_Ev d 133 [.ref 85, .int (nI 3)] (pm_hp L fz t I J) (K_X11_part_79 d fz t Q r)))))) :
    K_X11_part_57 d fz t Q (.inl (some (.int r))) (pm_hp L fz1 t I J) := b_X11_part_57 h
set_option maxRecDepth 100000 in
theorem b_X11_part_29 {d L : Nat} {fz t : Bool} {Q : pm_R → pm_H → Prop} {I : Nat → Nat → Int32} {J : Nat → Nat → Int64}
    (h : pm_Ev d 139 [.ref 85, .int (nI 1)] (pm_hp L fz t I J) (K_X11_part_34 d fz t Q)) :
    t_X11_part_29 d L fz t Q I J := by
  exact pm_go d [(4, [0]), (29, [0]), (34, [0]), (42, [0]), (57, [0]), (79, [0, 1]), (84, [0, 1]), (89, [0]), (97, [0]), (101, [0]), (108, [])] 400 h
theorem kb_X11_part_29 {d L : Nat} {fz t : Bool} {Q : pm_R → pm_H → Prop} {fz1 : Bool} {I : Nat → Nat → Int32} {J : Nat → Nat → Int64}
    (h : pm_Ev d 139 [.ref 85, .int (nI 1)] (pm_hp L fz t I J) (K_X11_part_34 d fz t Q)) :
    K_X11_part_29 d fz t Q (.inl none) (pm_hp L fz1 t I J) := b_X11_part_29 h
set_option maxRecDepth 100000 in
theorem b_X11_part_101 {d L : Nat} {fz t : Bool} {Q : pm_R → pm_H → Prop} {r : Int32} {I : Nat → Nat → Int32} {J : Nat → Nat → Int64}
    (h : ((r = (nI 0) → t_X11_part_108 d L fz t Q I J) ∧ (¬ r = (nI 0) → pm_Ev d 129 [.ref 85] (pm_hp L fz t I J) (K_X11_part_108 d fz t Q)))) :
    t_X11_part_101 d L fz t Q r I J := by
  exact pm_go d [(4, [0]), (29, [0]), (34, [0]), (42, [0]), (57, [0]), (79, [0, 1]), (84, [0, 1]), (89, [0]), (97, [0]), (101, [0]), (108, [])] 400 ⟨fun q0 => ((h).1 q0), fun q0 => ((h).2 q0)⟩
theorem kb_X11_part_101 {d L : Nat} {fz t : Bool} {Q : pm_R → pm_H → Prop} {r : Int32} {fz1 : Bool} {I : Nat → Nat → Int32} {J : Nat → Nat → Int64}
    (h : ((r = (nI 0) → t_X11_part_108 d L fz t Q I J) ∧ (¬ r = (nI 0) → pm_Ev d 129 [.ref 85] (pm_hp L fz t I J) (K_X11_part_108 d fz t Q)))) :
    K_X11_part_101 d fz t Q (.inl (some (.int r))) (pm_hp L fz1 t I J) := b_X11_part_101 h
set_option maxRecDepth 100000 in
theorem b_X11_part_79 {d L : Nat} {fz t : Bool} {Q : pm_R → pm_H → Prop} {x1 : Int32} {I : Nat → Nat → Int32} {J : Nat → Nat → Int64}
    (h : pm_Ev d 139 [.ref 85, .int (nI 2)] (pm_hp L fz t I J) (K_X11_part_84 d fz t Q x1)) :
    t_X11_part_79 d L fz t Q x1 I J := by
  exact pm_go d [(4, [0]), (29, [0]), (34, [0]), (42, [0]), (57, [0]), (79, [0, 1]), (84, [0, 1]), (89, [0]), (97, [0]), (101, [0]), (108, [])] 400 h
theorem kb_X11_part_79 {d L : Nat} {fz t : Bool} {Q : pm_R → pm_H → Prop} {x1 : Int32} {fz1 : Bool} {I : Nat → Nat → Int32} {J : Nat → Nat → Int64}
    (h : pm_Ev d 139 [.ref 85, .int (nI 2)] (pm_hp L fz t I J) (K_X11_part_84 d fz t Q x1)) :
    K_X11_part_79 d fz t Q x1 (.inl none) (pm_hp L fz1 t I J) := b_X11_part_79 h
set_option maxRecDepth 100000 in
theorem b_X11_part_34 {d L : Nat} {fz t : Bool} {Q : pm_R → pm_H → Prop} {I : Nat → Nat → Int32} {J : Nat → Nat → Int64}
    (h : pm_Ev d 139 [.ref 85, .int (I 85 23)] (pm_hp L fz t I J) (K_X11_part_42 d fz t Q)) :
    t_X11_part_34 d L fz t Q I J := by
  exact pm_go d [(4, [0]), (29, [0]), (34, [0]), (42, [0]), (57, [0]), (79, [0, 1]), (84, [0, 1]), (89, [0]), (97, [0]), (101, [0]), (108, [])] 400 h
theorem kb_X11_part_34 {d L : Nat} {fz t : Bool} {Q : pm_R → pm_H → Prop} {fz1 : Bool} {I : Nat → Nat → Int32} {J : Nat → Nat → Int64}
    (h : pm_Ev d 139 [.ref 85, .int (I 85 23)] (pm_hp L fz t I J) (K_X11_part_42 d fz t Q)) :
    K_X11_part_34 d fz t Q (.inl none) (pm_hp L fz1 t I J) := b_X11_part_34 h
set_option maxRecDepth 100000 in
theorem b_X11_part_108 {d L : Nat} {fz t : Bool} {Q : pm_R → pm_H → Prop} {I : Nat → Nat → Int32} {J : Nat → Nat → Int64}
    (h : Q (.inl none) (pm_hp L fz t I J)) :
    t_X11_part_108 d L fz t Q I J := by
  exact pm_go d [(4, [0]), (29, [0]), (34, [0]), (42, [0]), (57, [0]), (79, [0, 1]), (84, [0, 1]), (89, [0]), (97, [0]), (101, [0]), (108, [])] 400 h
theorem kb_X11_part_108 {d L : Nat} {fz t : Bool} {Q : pm_R → pm_H → Prop} {fz1 : Bool} {I : Nat → Nat → Int32} {J : Nat → Nat → Int64}
    (h : Q (.inl none) (pm_hp L fz t I J)) :
    K_X11_part_108 d fz t Q (.inl none) (pm_hp L fz1 t I J) := b_X11_part_108 h
set_option maxRecDepth 100000 in
theorem b_X11_part_84 {d L : Nat} {fz t : Bool} {Q : pm_R → pm_H → Prop} {x1 : Int32} {I : Nat → Nat → Int32} {J : Nat → Nat → Int64}
    (h : pm_Ev d 139 [.ref 85, .int x1] (pm_hp L fz t I J) (K_X11_part_89 d fz t Q)) :
    t_X11_part_84 d L fz t Q x1 I J := by
  exact pm_go d [(4, [0]), (29, [0]), (34, [0]), (42, [0]), (57, [0]), (79, [0, 1]), (84, [0, 1]), (89, [0]), (97, [0]), (101, [0]), (108, [])] 400 h
theorem kb_X11_part_84 {d L : Nat} {fz t : Bool} {Q : pm_R → pm_H → Prop} {x1 : Int32} {fz1 : Bool} {I : Nat → Nat → Int32} {J : Nat → Nat → Int64}
    (h : pm_Ev d 139 [.ref 85, .int x1] (pm_hp L fz t I J) (K_X11_part_89 d fz t Q)) :
    K_X11_part_84 d fz t Q x1 (.inl none) (pm_hp L fz1 t I J) := b_X11_part_84 h
set_option maxRecDepth 100000 in
theorem b_X11_part_42 {d L : Nat} {fz t : Bool} {Q : pm_R → pm_H → Prop} {I : Nat → Nat → Int32} {J : Nat → Nat → Int64}
    (h : t_X11_part_97 d L fz t Q I J) :
    t_X11_part_42 d L fz t Q I J := by
  exact pm_go d [(4, [0]), (29, [0]), (34, [0]), (42, [0]), (57, [0]), (79, [0, 1]), (84, [0, 1]), (89, [0]), (97, [0]), (101, [0]), (108, [])] 400 h
theorem kb_X11_part_42 {d L : Nat} {fz t : Bool} {Q : pm_R → pm_H → Prop} {fz1 : Bool} {I : Nat → Nat → Int32} {J : Nat → Nat → Int64}
    (h : t_X11_part_97 d L fz t Q I J) :
    K_X11_part_42 d fz t Q (.inl none) (pm_hp L fz1 t I J) := b_X11_part_42 h
set_option maxRecDepth 100000 in
theorem b_X11_part_89 {d L : Nat} {fz t : Bool} {Q : pm_R → pm_H → Prop} {I : Nat → Nat → Int32} {J : Nat → Nat → Int64}
    (h : t_X11_part_97 d L fz t Q I J) :
    t_X11_part_89 d L fz t Q I J := by
  exact pm_go d [(4, [0]), (29, [0]), (34, [0]), (42, [0]), (57, [0]), (79, [0, 1]), (84, [0, 1]), (89, [0]), (97, [0]), (101, [0]), (108, [])] 400 h
theorem kb_X11_part_89 {d L : Nat} {fz t : Bool} {Q : pm_R → pm_H → Prop} {fz1 : Bool} {I : Nat → Nat → Int32} {J : Nat → Nat → Int64}
    (h : t_X11_part_97 d L fz t Q I J) :
    K_X11_part_89 d fz t Q (.inl none) (pm_hp L fz1 t I J) := b_X11_part_89 h
def t_X11_deeper_0 (d L : Nat) (fz t : Bool) (Q : pm_R → pm_H → Prop) (I : Nat → Nat → Int32) (J : Nat → Nat → Int64) : Prop := pm_T (pm_Ev d) 145 Q (0, [(0, .ref 85)], [], pm_hp L fz t I J, 0, 0)
def t_X11_deeper_64 (d L : Nat) (fz t : Bool) (Q : pm_R → pm_H → Prop) (I : Nat → Nat → Int32) (J : Nat → Nat → Int64) : Prop := pm_T (pm_Ev d) 145 Q (64, [], [], pm_hp L fz t I J, 0, 0)
def K_X11_deeper_64 (d : Nat) (fz t : Bool) (Q : pm_R → pm_H → Prop) : pm_R → pm_H → Prop := pm_K d 145 Q 64 [] [] 118 0 fz 0 0
def t_X11_deeper_53 (d L : Nat) (fz t : Bool) (Q : pm_R → pm_H → Prop) (r : Int32) (I : Nat → Nat → Int32) (J : Nat → Nat → Int64) : Prop := pm_T (pm_Ev d) 145 Q (53, [], [.int r, .ref 85], pm_hp L fz t I J, 0, 0)
def K_X11_deeper_53 (d : Nat) (fz t : Bool) (Q : pm_R → pm_H → Prop) : pm_R → pm_H → Prop := pm_K d 145 Q 53 [] [.ref 85] 118 0 fz 0 0
set_option maxRecDepth 100000 in
theorem b_X11_deeper_0 {d L : Nat} {fz t : Bool} {Q : pm_R → pm_H → Prop} {I : Nat → Nat → Int32} {J : Nat → Nat → Int64}
    (h : (((nI 6) ≤ (I 85 36) → (((I 85 20) = (nI 2) → pm_Ev d 133 [.ref 85, .int (nI 2)] (pm_hp L fz t I J) (K_X11_deeper_64 d fz t Q)) ∧ (¬ (I 85 20) = (nI 2) → (((I 85 20) = (nI 1) → pm_Ev d 133 [.ref 85, .int (nI 2)] (pm_hp L fz t I J) (K_X11_deeper_64 d fz t Q)) ∧ (¬ (I 85 20) = (nI 1) → pm_Ev d 135 [.ref 85, .int (nI 40)] (pm_hp L fz t I J) (K_X11_deeper_53 d fz t Q)))))) ∧ (¬ (nI 6) ≤ (I 85 36) → (vp_in ((I 85 36) + (nI 1)) 9 ∧ Q (.inl none) (pm_hp L fz t (pm_u (pm_u I 85 36 ((I 85 36) + (nI 1))) 102 (((I 85 36) + (nI 1))).toNatClampNeg (vp_nar .boolean (nI 0))) J))))) :
    t_X11_deeper_0 d L fz t Q I J := by
  exact pm_go d [(53, []), (64, [])] 400 ⟨fun q0 => ⟨fun q1 => ((((h).1 q0)).1 q1), fun q1 => ⟨fun q2 => ((((((h).1 q0)).2 q1)).1 q2), fun q2 => ((((((h).1 q0)).2 q1)).2 q2)⟩⟩, fun q0 => ⟨(((h).2 q0)).1, (((h).2 q0)).2⟩⟩
theorem e_X11_deeper {d L : Nat} {fz t : Bool} {Q : pm_R → pm_H → Prop} {I : Nat → Nat → Int32} {J : Nat → Nat → Int64}
    (h : (((nI 6) ≤ (I 85 36) → (((I 85 20) = (nI 2) → pm_Ev d 133 [.ref 85, .int (nI 2)] (pm_hp L fz t I J) (K_X11_deeper_64 d fz t Q)) ∧ (¬ (I 85 20) = (nI 2) → (((I 85 20) = (nI 1) → pm_Ev d 133 [.ref 85, .int (nI 2)] (pm_hp L fz t I J) (K_X11_deeper_64 d fz t Q)) ∧ (¬ (I 85 20) = (nI 1) → pm_Ev d 135 [.ref 85, .int (nI 40)] (pm_hp L fz t I J) (K_X11_deeper_53 d fz t Q)))))) ∧ (¬ (nI 6) ≤ (I 85 36) → (vp_in ((I 85 36) + (nI 1)) 9 ∧ Q (.inl none) (pm_hp L fz t (pm_u (pm_u I 85 36 ((I 85 36) + (nI 1))) 102 (((I 85 36) + (nI 1))).toNatClampNeg (vp_nar .boolean (nI 0))) J))))) :
    pm_Ev (d + 1) 145 [.ref 85] (pm_hp L fz t I J) Q := pm_Ev_in rfl (b_X11_deeper_0 h)
set_option maxRecDepth 100000 in
theorem b_X11_deeper_64 {d L : Nat} {fz t : Bool} {Q : pm_R → pm_H → Prop} {I : Nat → Nat → Int32} {J : Nat → Nat → Int64}
    (h : Q (.inl none) (pm_hp L fz t I J)) :
    t_X11_deeper_64 d L fz t Q I J := by
  exact pm_go d [(53, []), (64, [])] 400 h
theorem kb_X11_deeper_64 {d L : Nat} {fz t : Bool} {Q : pm_R → pm_H → Prop} {fz1 : Bool} {I : Nat → Nat → Int32} {J : Nat → Nat → Int64}
    (h : Q (.inl none) (pm_hp L fz t I J)) :
    K_X11_deeper_64 d fz t Q (.inl none) (pm_hp L fz1 t I J) := b_X11_deeper_64 h
set_option maxRecDepth 100000 in
theorem b_X11_deeper_53 {d L : Nat} {fz t : Bool} {Q : pm_R → pm_H → Prop} {r : Int32} {I : Nat → Nat → Int32} {J : Nat → Nat → Int64}
    (h : ((r = (nI 0) → pm_Ev d 133 [.ref 85, .int (nI 1)] (pm_hp L fz t I J) (K_X11_deeper_64 d fz t Q)) ∧ (¬ r = (nI 0) → pm_Ev d 133 [.ref 85, .int (nI 2)] (pm_hp L fz t I J) (K_X11_deeper_64 d fz t Q)))) :
    t_X11_deeper_53 d L fz t Q r I J := by
  exact pm_go d [(53, []), (64, [])] 400 ⟨fun q0 => ((h).1 q0), fun q0 => ((h).2 q0)⟩
theorem kb_X11_deeper_53 {d L : Nat} {fz t : Bool} {Q : pm_R → pm_H → Prop} {r : Int32} {fz1 : Bool} {I : Nat → Nat → Int32} {J : Nat → Nat → Int64}
    (h : ((r = (nI 0) → pm_Ev d 133 [.ref 85, .int (nI 1)] (pm_hp L fz t I J) (K_X11_deeper_64 d fz t Q)) ∧ (¬ r = (nI 0) → pm_Ev d 133 [.ref 85, .int (nI 2)] (pm_hp L fz t I J) (K_X11_deeper_64 d fz t Q)))) :
    K_X11_deeper_53 d fz t Q (.inl (some (.int r))) (pm_hp L fz1 t I J) := b_X11_deeper_53 h
def t_X11_operand_0 (d L : Nat) (fz t : Bool) (Q : pm_R → pm_H → Prop) (x1 : Int32) (I : Nat → Nat → Int32) (J : Nat → Nat → Int64) : Prop := pm_T (pm_Ev d) 146 Q (0, [(0, .ref 85), (1, .int x1)], [], pm_hp L fz t I J, 0, 0)
def t_X11_operand_4 (d L : Nat) (fz t : Bool) (Q : pm_R → pm_H → Prop) (x2 : Int32) (x3 : Int32) (I : Nat → Nat → Int32) (J : Nat → Nat → Int64) : Prop := pm_T (pm_Ev d) 146 Q (4, [(0, .ref 85), (2, .int x2), (3, .int x3)], [], pm_hp L fz t I J, 0, 0)
def t_X11_operand_124 (d L : Nat) (fz t : Bool) (Q : pm_R → pm_H → Prop) (I : Nat → Nat → Int32) (J : Nat → Nat → Int64) : Prop := pm_T (pm_Ev d) 146 Q (124, [], [], pm_hp L fz t I J, 0, 0)
def K_X11_operand_124 (d : Nat) (fz t : Bool) (Q : pm_R → pm_H → Prop) : pm_R → pm_H → Prop := pm_K d 146 Q 124 [] [] 118 0 fz 0 0
def t_X11_operand_12 (d L : Nat) (fz t : Bool) (Q : pm_R → pm_H → Prop) (x2 : Int32) (r : Int32) (I : Nat → Nat → Int32) (J : Nat → Nat → Int64) : Prop := pm_T (pm_Ev d) 146 Q (12, [(0, .ref 85), (2, .int x2)], [.int r], pm_hp L fz t I J, 0, 0)
def K_X11_operand_12 (d : Nat) (fz t : Bool) (Q : pm_R → pm_H → Prop) (x2 : Int32) : pm_R → pm_H → Prop := pm_K d 146 Q 12 [(0, .ref 85), (2, .int x2)] [] 118 0 fz 0 0
def t_X11_operand_18 (d L : Nat) (fz t : Bool) (Q : pm_R → pm_H → Prop) (x2 : Int32) (x4 : Int32) (I : Nat → Nat → Int32) (J : Nat → Nat → Int64) : Prop := pm_T (pm_Ev d) 146 Q (18, [(0, .ref 85), (2, .int x2), (4, .int x4)], [], pm_hp L fz t I J, 0, 0)
def t_X11_operand_22 (d L : Nat) (fz t : Bool) (Q : pm_R → pm_H → Prop) (x2 : Int32) (x4 : Int32) (r : Int32) (I : Nat → Nat → Int32) (J : Nat → Nat → Int64) : Prop := pm_T (pm_Ev d) 146 Q (22, [(0, .ref 85), (2, .int x2), (4, .int x4)], [.int r], pm_hp L fz t I J, 0, 0)
def K_X11_operand_22 (d : Nat) (fz t : Bool) (Q : pm_R → pm_H → Prop) (x2 : Int32) (x4 : Int32) : pm_R → pm_H → Prop := pm_K d 146 Q 22 [(0, .ref 85), (2, .int x2), (4, .int x4)] [] 118 0 fz 0 0
def t_X11_operand_79 (d L : Nat) (fz t : Bool) (Q : pm_R → pm_H → Prop) (x2 : Int32) (r : Int32) (I : Nat → Nat → Int32) (J : Nat → Nat → Int64) : Prop := pm_T (pm_Ev d) 146 Q (79, [(0, .ref 85), (2, .int x2)], [.int r], pm_hp L fz t I J, 0, 0)
def K_X11_operand_79 (d : Nat) (fz t : Bool) (Q : pm_R → pm_H → Prop) (x2 : Int32) : pm_R → pm_H → Prop := pm_K d 146 Q 79 [(0, .ref 85), (2, .int x2)] [] 118 0 fz 0 0
def t_X11_operand_33 (d L : Nat) (fz t : Bool) (Q : pm_R → pm_H → Prop) (x2 : Int32) (x4 : Int32) (r : Int32) (I : Nat → Nat → Int32) (J : Nat → Nat → Int64) : Prop := pm_T (pm_Ev d) 146 Q (33, [(0, .ref 85), (2, .int x2), (4, .int x4)], [.int r], pm_hp L fz t I J, 0, 0)
def K_X11_operand_33 (d : Nat) (fz t : Bool) (Q : pm_R → pm_H → Prop) (x2 : Int32) (x4 : Int32) : pm_R → pm_H → Prop := pm_K d 146 Q 33 [(0, .ref 85), (2, .int x2), (4, .int x4)] [] 118 0 fz 0 0
def t_X11_operand_88 (d L : Nat) (fz t : Bool) (Q : pm_R → pm_H → Prop) (x2 : Int32) (r : Int32) (I : Nat → Nat → Int32) (J : Nat → Nat → Int64) : Prop := pm_T (pm_Ev d) 146 Q (88, [(0, .ref 85), (2, .int x2)], [.int r], pm_hp L fz t I J, 0, 0)
def K_X11_operand_88 (d : Nat) (fz t : Bool) (Q : pm_R → pm_H → Prop) (x2 : Int32) : pm_R → pm_H → Prop := pm_K d 146 Q 88 [(0, .ref 85), (2, .int x2)] [] 118 0 fz 0 0
def t_X11_operand_50 (d L : Nat) (fz t : Bool) (Q : pm_R → pm_H → Prop) (x2 : Int32) (x4 : Int32) (I : Nat → Nat → Int32) (J : Nat → Nat → Int64) : Prop := pm_T (pm_Ev d) 146 Q (50, [(0, .ref 85), (2, .int x2), (4, .int x4)], [], pm_hp L fz t I J, 0, 0)
def K_X11_operand_50 (d : Nat) (fz t : Bool) (Q : pm_R → pm_H → Prop) (x2 : Int32) (x4 : Int32) : pm_R → pm_H → Prop := pm_K d 146 Q 50 [(0, .ref 85), (2, .int x2), (4, .int x4)] [] 118 0 fz 0 0
def t_X11_operand_107 (d L : Nat) (fz t : Bool) (Q : pm_R → pm_H → Prop) (x3 : Int32) (I : Nat → Nat → Int32) (J : Nat → Nat → Int64) : Prop := pm_T (pm_Ev d) 146 Q (107, [(0, .ref 85), (3, .int x3)], [], pm_hp L fz t I J, 0, 0)
def K_X11_operand_107 (d : Nat) (fz t : Bool) (Q : pm_R → pm_H → Prop) (x3 : Int32) : pm_R → pm_H → Prop := pm_K d 146 Q 107 [(0, .ref 85), (3, .int x3)] [] 118 0 fz 0 0
def t_X11_operand_57 (d L : Nat) (fz t : Bool) (Q : pm_R → pm_H → Prop) (x2 : Int32) (x4 : Int32) (r : Int32) (I : Nat → Nat → Int32) (J : Nat → Nat → Int64) : Prop := pm_T (pm_Ev d) 146 Q (57, [(0, .ref 85), (2, .int x2), (4, .int x4)], [.int r], pm_hp L fz t I J, 0, 0)
def K_X11_operand_57 (d : Nat) (fz t : Bool) (Q : pm_R → pm_H → Prop) (x2 : Int32) (x4 : Int32) : pm_R → pm_H → Prop := pm_K d 146 Q 57 [(0, .ref 85), (2, .int x2), (4, .int x4)] [] 118 0 fz 0 0
def t_X11_operand_111 (d L : Nat) (fz t : Bool) (Q : pm_R → pm_H → Prop) (x3 : Int32) (I : Nat → Nat → Int32) (J : Nat → Nat → Int64) : Prop := pm_T (pm_Ev d) 146 Q (111, [(0, .ref 85), (3, .int x3)], [], pm_hp L fz t I J, 0, 0)
def K_X11_operand_111 (d : Nat) (fz t : Bool) (Q : pm_R → pm_H → Prop) (x3 : Int32) : pm_R → pm_H → Prop := pm_K d 146 Q 111 [(0, .ref 85), (3, .int x3)] [] 118 0 fz 0 0
def t_X11_operand_68 (d L : Nat) (fz t : Bool) (Q : pm_R → pm_H → Prop) (x2 : Int32) (x4 : Int32) (I : Nat → Nat → Int32) (J : Nat → Nat → Int64) : Prop := pm_T (pm_Ev d) 146 Q (68, [(0, .ref 85), (2, .int x2), (4, .int x4)], [], pm_hp L fz t I J, 0, 0)
def K_X11_operand_68 (d : Nat) (fz t : Bool) (Q : pm_R → pm_H → Prop) (x2 : Int32) (x4 : Int32) : pm_R → pm_H → Prop := pm_K d 146 Q 68 [(0, .ref 85), (2, .int x2), (4, .int x4)] [] 118 0 fz 0 0
def t_X11_operand_115 (d L : Nat) (fz t : Bool) (Q : pm_R → pm_H → Prop) (x3 : Int32) (I : Nat → Nat → Int32) (J : Nat → Nat → Int64) : Prop := pm_T (pm_Ev d) 146 Q (115, [(0, .ref 85), (3, .int x3)], [], pm_hp L fz t I J, 0, 0)
def K_X11_operand_115 (d : Nat) (fz t : Bool) (Q : pm_R → pm_H → Prop) (x3 : Int32) : pm_R → pm_H → Prop := pm_K d 146 Q 115 [(0, .ref 85), (3, .int x3)] [] 118 0 fz 0 0
def t_X11_operand_72 (d L : Nat) (fz t : Bool) (Q : pm_R → pm_H → Prop) (x2 : Int32) (x4 : Int32) (I : Nat → Nat → Int32) (J : Nat → Nat → Int64) : Prop := pm_T (pm_Ev d) 146 Q (72, [(0, .ref 85), (2, .int x2), (4, .int x4)], [], pm_hp L fz t I J, 0, 0)
def K_X11_operand_72 (d : Nat) (fz t : Bool) (Q : pm_R → pm_H → Prop) (x2 : Int32) (x4 : Int32) : pm_R → pm_H → Prop := pm_K d 146 Q 72 [(0, .ref 85), (2, .int x2), (4, .int x4)] [] 118 0 fz 0 0
set_option maxRecDepth 100000 in
theorem b_X11_operand_0 {d L : Nat} {fz t : Bool} {Q : pm_R → pm_H → Prop} {x1 : Int32} {I : Nat → Nat → Int32} {J : Nat → Nat → Int64}
    (h : t_X11_operand_4 d L fz t Q x1 (nI 1) I J) :
    t_X11_operand_0 d L fz t Q x1 I J := by
  exact pm_go d [(4, [0, 2, 3]), (12, [0, 2]), (18, [0, 2, 4]), (22, [0, 2, 4]), (33, [0, 2, 4]), (50, [0, 2, 4]), (57, [0, 2, 4]), (68, [0, 2, 4]), (72, [0, 2, 4]), (79, [0, 2]), (88, [0, 2]), (107, [0, 3]), (111, [0, 3]), (115, [0, 3]), (124, [])] 400 h
theorem e_X11_operand {d L : Nat} {fz t : Bool} {Q : pm_R → pm_H → Prop} {x1 : Int32} {I : Nat → Nat → Int32} {J : Nat → Nat → Int64}
    (h : t_X11_operand_4 d L fz t Q x1 (nI 1) I J) :
    pm_Ev (d + 1) 146 [.ref 85, .int x1] (pm_hp L fz t I J) Q := pm_Ev_in rfl (b_X11_operand_0 h)
set_option maxRecDepth 100000 in
theorem b_X11_operand_4 {d L : Nat} {fz t : Bool} {Q : pm_R → pm_H → Prop} {x2 : Int32} {x3 : Int32} {I : Nat → Nat → Int32} {J : Nat → Nat → Int64}
    (h : ((x3 = (nI 0) → pm_Ev d 144 [.ref 85] (pm_hp L fz t I J) (K_X11_operand_124 d fz t Q)) ∧ (¬ x3 = (nI 0) → pm_Ev d 134 [.ref 85] (pm_hp L fz t I J) (K_X11_operand_12 d fz t Q x2)))) :
    t_X11_operand_4 d L fz t Q x2 x3 I J := by
  exact pm_go d [(4, [0, 2, 3]), (12, [0, 2]), (18, [0, 2, 4]), (22, [0, 2, 4]), (33, [0, 2, 4]), (50, [0, 2, 4]), (57, [0, 2, 4]), (68, [0, 2, 4]), (72, [0, 2, 4]), (79, [0, 2]), (88, [0, 2]), (107, [0, 3]), (111, [0, 3]), (115, [0, 3]), (124, [])] 400 ⟨fun q0 => ((h).1 q0), fun q0 => ((h).2 q0)⟩
set_option maxRecDepth 100000 in
theorem b_X11_operand_124 {d L : Nat} {fz t : Bool} {Q : pm_R → pm_H → Prop} {I : Nat → Nat → Int32} {J : Nat → Nat → Int64}
    (h : Q (.inl none) (pm_hp L fz t I J)) :
    t_X11_operand_124 d L fz t Q I J := by
  exact pm_go d [(4, [0, 2, 3]), (12, [0, 2]), (18, [0, 2, 4]), (22, [0, 2, 4]), (33, [0, 2, 4]), (50, [0, 2, 4]), (57, [0, 2, 4]), (68, [0, 2, 4]), (72, [0, 2, 4]), (79, [0, 2]), (88, [0, 2]), (107, [0, 3]), (111, [0, 3]), (115, [0, 3]), (124, [])] 400 h
theorem kb_X11_operand_124 {d L : Nat} {fz t : Bool} {Q : pm_R → pm_H → Prop} {fz1 : Bool} {I : Nat → Nat → Int32} {J : Nat → Nat → Int64}
    (h : Q (.inl none) (pm_hp L fz t I J)) :
    K_X11_operand_124 d fz t Q (.inl none) (pm_hp L fz1 t I J) := b_X11_operand_124 h
set_option maxRecDepth 100000 in
theorem b_X11_operand_12 {d L : Nat} {fz t : Bool} {Q : pm_R → pm_H → Prop} {x2 : Int32} {r : Int32} {I : Nat → Nat → Int32} {J : Nat → Nat → Int64}
    (h : ((r = (nI 0) → pm_Ev d 144 [.ref 85] (pm_hp L fz t I J) (K_X11_operand_124 d fz t Q)) ∧ (¬ r = (nI 0) → t_X11_operand_18 d L fz t Q x2 (nI 0) I J))) :
    t_X11_operand_12 d L fz t Q x2 r I J := by
  exact pm_go d [(4, [0, 2, 3]), (12, [0, 2]), (18, [0, 2, 4]), (22, [0, 2, 4]), (33, [0, 2, 4]), (50, [0, 2, 4]), (57, [0, 2, 4]), (68, [0, 2, 4]), (72, [0, 2, 4]), (79, [0, 2]), (88, [0, 2]), (107, [0, 3]), (111, [0, 3]), (115, [0, 3]), (124, [])] 400 ⟨fun q0 => ((h).1 q0), fun q0 => ((h).2 q0)⟩
theorem kb_X11_operand_12 {d L : Nat} {fz t : Bool} {Q : pm_R → pm_H → Prop} {x2 : Int32} {r : Int32} {fz1 : Bool} {I : Nat → Nat → Int32} {J : Nat → Nat → Int64}
    (h : ((r = (nI 0) → pm_Ev d 144 [.ref 85] (pm_hp L fz t I J) (K_X11_operand_124 d fz t Q)) ∧ (¬ r = (nI 0) → t_X11_operand_18 d L fz t Q x2 (nI 0) I J))) :
    K_X11_operand_12 d fz t Q x2 (.inl (some (.int r))) (pm_hp L fz1 t I J) := b_X11_operand_12 h
set_option maxRecDepth 100000 in
theorem b_X11_operand_18 {d L : Nat} {fz t : Bool} {Q : pm_R → pm_H → Prop} {x2 : Int32} {x4 : Int32} {I : Nat → Nat → Int32} {J : Nat → Nat → Int64}
    (h : pm_Ev d 134 [.ref 85] (pm_hp L fz t I J) (K_X11_operand_22 d fz t Q x2 x4)) :
    t_X11_operand_18 d L fz t Q x2 x4 I J := by
  exact pm_go d [(4, [0, 2, 3]), (12, [0, 2]), (18, [0, 2, 4]), (22, [0, 2, 4]), (33, [0, 2, 4]), (50, [0, 2, 4]), (57, [0, 2, 4]), (68, [0, 2, 4]), (72, [0, 2, 4]), (79, [0, 2]), (88, [0, 2]), (107, [0, 3]), (111, [0, 3]), (115, [0, 3]), (124, [])] 400 h
set_option maxRecDepth 100000 in
theorem b_X11_operand_22 {d L : Nat} {fz t : Bool} {Q : pm_R → pm_H → Prop} {x2 : Int32} {x4 : Int32} {r : Int32} {I : Nat → Nat → Int32} {J : Nat → Nat → Int64}
    (h : ((r = (nI 0) → pm_Ev d 134 [.ref 85] (pm_hp L fz t I J) (K_X11_operand_79 d fz t Q x2)) ∧ (¬ r = (nI 0) → ((x2 = (nI 0) → pm_Ev d 134 [.ref 85] (pm_hp L fz t I J) (K_X11_operand_79 d fz t Q x2)) ∧ (¬ x2 = (nI 0) → pm_Ev d 132 [.ref 85] (pm_hp L fz t I J) (K_X11_operand_33 d fz t Q x2 x4)))))) :
    t_X11_operand_22 d L fz t Q x2 x4 r I J := by
  exact pm_go d [(4, [0, 2, 3]), (12, [0, 2]), (18, [0, 2, 4]), (22, [0, 2, 4]), (33, [0, 2, 4]), (50, [0, 2, 4]), (57, [0, 2, 4]), (68, [0, 2, 4]), (72, [0, 2, 4]), (79, [0, 2]), (88, [0, 2]), (107, [0, 3]), (111, [0, 3]), (115, [0, 3]), (124, [])] 400 ⟨fun q0 => ((h).1 q0), fun q0 => ⟨fun q1 => ((((h).2 q0)).1 q1), fun q1 => ((((h).2 q0)).2 q1)⟩⟩
theorem kb_X11_operand_22 {d L : Nat} {fz t : Bool} {Q : pm_R → pm_H → Prop} {x2 : Int32} {x4 : Int32} {r : Int32} {fz1 : Bool} {I : Nat → Nat → Int32} {J : Nat → Nat → Int64}
    (h : ((r = (nI 0) → pm_Ev d 134 [.ref 85] (pm_hp L fz t I J) (K_X11_operand_79 d fz t Q x2)) ∧ (¬ r = (nI 0) → ((x2 = (nI 0) → pm_Ev d 134 [.ref 85] (pm_hp L fz t I J) (K_X11_operand_79 d fz t Q x2)) ∧ (¬ x2 = (nI 0) → pm_Ev d 132 [.ref 85] (pm_hp L fz t I J) (K_X11_operand_33 d fz t Q x2 x4)))))) :
    K_X11_operand_22 d fz t Q x2 x4 (.inl (some (.int r))) (pm_hp L fz1 t I J) := b_X11_operand_22 h
set_option maxRecDepth 100000 in
theorem b_X11_operand_79 {d L : Nat} {fz t : Bool} {Q : pm_R → pm_H → Prop} {x2 : Int32} {r : Int32} {I : Nat → Nat → Int32} {J : Nat → Nat → Int64}
    (h : ((r = (nI 0) → t_X11_operand_4 d L fz t Q x2 (nI 0) I J) ∧ (¬ r = (nI 0) → pm_Ev d 135 [.ref 85, .int (nI 40)] (pm_hp L fz t I J) (K_X11_operand_88 d fz t Q x2)))) :
    t_X11_operand_79 d L fz t Q x2 r I J := by
  exact pm_go d [(4, [0, 2, 3]), (12, [0, 2]), (18, [0, 2, 4]), (22, [0, 2, 4]), (33, [0, 2, 4]), (50, [0, 2, 4]), (57, [0, 2, 4]), (68, [0, 2, 4]), (72, [0, 2, 4]), (79, [0, 2]), (88, [0, 2]), (107, [0, 3]), (111, [0, 3]), (115, [0, 3]), (124, [])] 400 ⟨fun q0 => ⟨fun _ => ((h).1 q0), fun q => absurd (by decide) q⟩, fun q0 => ((h).2 q0)⟩
theorem kb_X11_operand_79 {d L : Nat} {fz t : Bool} {Q : pm_R → pm_H → Prop} {x2 : Int32} {r : Int32} {fz1 : Bool} {I : Nat → Nat → Int32} {J : Nat → Nat → Int64}
    (h : ((r = (nI 0) → t_X11_operand_4 d L fz t Q x2 (nI 0) I J) ∧ (¬ r = (nI 0) → pm_Ev d 135 [.ref 85, .int (nI 40)] (pm_hp L fz t I J) (K_X11_operand_88 d fz t Q x2)))) :
    K_X11_operand_79 d fz t Q x2 (.inl (some (.int r))) (pm_hp L fz1 t I J) := b_X11_operand_79 h
set_option maxRecDepth 100000 in
theorem b_X11_operand_33 {d L : Nat} {fz t : Bool} {Q : pm_R → pm_H → Prop} {x2 : Int32} {x4 : Int32} {r : Int32} {I : Nat → Nat → Int32} {J : Nat → Nat → Int64}
    (h : ((¬ r = (nI 18) → pm_Ev d 134 [.ref 85] (pm_hp L fz t I J) (K_X11_operand_79 d fz t Q x2)) ∧ (r = (nI 18) → ((¬ x4 = (nI 6) → t_X11_operand_50 d L fz t Q x2 x4 I J) ∧ (x4 = (nI 6) → pm_Ev d 133 [.ref 85, .int (nI 2)] (pm_hp L fz t I J) (K_X11_operand_50 d fz t Q x2 x4)))))) :
    t_X11_operand_33 d L fz t Q x2 x4 r I J := by
  exact pm_go d [(4, [0, 2, 3]), (12, [0, 2]), (18, [0, 2, 4]), (22, [0, 2, 4]), (33, [0, 2, 4]), (50, [0, 2, 4]), (57, [0, 2, 4]), (68, [0, 2, 4]), (72, [0, 2, 4]), (79, [0, 2]), (88, [0, 2]), (107, [0, 3]), (111, [0, 3]), (115, [0, 3]), (124, [])] 400 ⟨fun q0 => ((h).1 q0), fun q0 => ⟨fun q1 => ((((h).2 q0)).1 q1), fun q1 => ((((h).2 q0)).2 q1)⟩⟩
theorem kb_X11_operand_33 {d L : Nat} {fz t : Bool} {Q : pm_R → pm_H → Prop} {x2 : Int32} {x4 : Int32} {r : Int32} {fz1 : Bool} {I : Nat → Nat → Int32} {J : Nat → Nat → Int64}
    (h : ((¬ r = (nI 18) → pm_Ev d 134 [.ref 85] (pm_hp L fz t I J) (K_X11_operand_79 d fz t Q x2)) ∧ (r = (nI 18) → ((¬ x4 = (nI 6) → t_X11_operand_50 d L fz t Q x2 x4 I J) ∧ (x4 = (nI 6) → pm_Ev d 133 [.ref 85, .int (nI 2)] (pm_hp L fz t I J) (K_X11_operand_50 d fz t Q x2 x4)))))) :
    K_X11_operand_33 d fz t Q x2 x4 (.inl (some (.int r))) (pm_hp L fz1 t I J) := b_X11_operand_33 h
set_option maxRecDepth 100000 in
theorem b_X11_operand_88 {d L : Nat} {fz t : Bool} {Q : pm_R → pm_H → Prop} {x2 : Int32} {r : Int32} {I : Nat → Nat → Int32} {J : Nat → Nat → Int64}
    (h : ((r = (nI 0) → t_X11_operand_4 d L fz t Q x2 (nI 0) I J) ∧ (¬ r = (nI 0) → pm_Ev d 143 [.ref 85, .int (nI 14)] (pm_hp L fz t I J) (K_X11_operand_107 d fz t Q (nI 1))))) :
    t_X11_operand_88 d L fz t Q x2 r I J := by
  exact pm_go d [(4, [0, 2, 3]), (12, [0, 2]), (18, [0, 2, 4]), (22, [0, 2, 4]), (33, [0, 2, 4]), (50, [0, 2, 4]), (57, [0, 2, 4]), (68, [0, 2, 4]), (72, [0, 2, 4]), (79, [0, 2]), (88, [0, 2]), (107, [0, 3]), (111, [0, 3]), (115, [0, 3]), (124, [])] 400 ⟨fun q0 => ⟨fun _ => ((h).1 q0), fun q => absurd (by decide) q⟩, fun q0 => ⟨fun q => absurd q (by decide), fun _ => ((h).2 q0)⟩⟩
theorem kb_X11_operand_88 {d L : Nat} {fz t : Bool} {Q : pm_R → pm_H → Prop} {x2 : Int32} {r : Int32} {fz1 : Bool} {I : Nat → Nat → Int32} {J : Nat → Nat → Int64}
    (h : ((r = (nI 0) → t_X11_operand_4 d L fz t Q x2 (nI 0) I J) ∧ (¬ r = (nI 0) → pm_Ev d 143 [.ref 85, .int (nI 14)] (pm_hp L fz t I J) (K_X11_operand_107 d fz t Q (nI 1))))) :
    K_X11_operand_88 d fz t Q x2 (.inl (some (.int r))) (pm_hp L fz1 t I J) := b_X11_operand_88 h
set_option maxRecDepth 100000 in
theorem b_X11_operand_50 {d L : Nat} {fz t : Bool} {Q : pm_R → pm_H → Prop} {x2 : Int32} {x4 : Int32} {I : Nat → Nat → Int32} {J : Nat → Nat → Int64}
    (h : pm_Ev d 134 [.ref 85] (pm_hp L fz t I J) (K_X11_operand_57 d fz t Q x2 (x4 + (nI 1)))) :
    t_X11_operand_50 d L fz t Q x2 x4 I J := by
  exact pm_go d [(4, [0, 2, 3]), (12, [0, 2]), (18, [0, 2, 4]), (22, [0, 2, 4]), (33, [0, 2, 4]), (50, [0, 2, 4]), (57, [0, 2, 4]), (68, [0, 2, 4]), (72, [0, 2, 4]), (79, [0, 2]), (88, [0, 2]), (107, [0, 3]), (111, [0, 3]), (115, [0, 3]), (124, [])] 400 h
theorem kb_X11_operand_50 {d L : Nat} {fz t : Bool} {Q : pm_R → pm_H → Prop} {x2 : Int32} {x4 : Int32} {fz1 : Bool} {I : Nat → Nat → Int32} {J : Nat → Nat → Int64}
    (h : pm_Ev d 134 [.ref 85] (pm_hp L fz t I J) (K_X11_operand_57 d fz t Q x2 (x4 + (nI 1)))) :
    K_X11_operand_50 d fz t Q x2 x4 (.inl none) (pm_hp L fz1 t I J) := b_X11_operand_50 h
set_option maxRecDepth 100000 in
theorem b_X11_operand_107 {d L : Nat} {fz t : Bool} {Q : pm_R → pm_H → Prop} {x3 : Int32} {I : Nat → Nat → Int32} {J : Nat → Nat → Int64}
    (h : pm_Ev d 129 [.ref 85] (pm_hp L fz t I J) (K_X11_operand_111 d fz t Q x3)) :
    t_X11_operand_107 d L fz t Q x3 I J := by
  exact pm_go d [(4, [0, 2, 3]), (12, [0, 2]), (18, [0, 2, 4]), (22, [0, 2, 4]), (33, [0, 2, 4]), (50, [0, 2, 4]), (57, [0, 2, 4]), (68, [0, 2, 4]), (72, [0, 2, 4]), (79, [0, 2]), (88, [0, 2]), (107, [0, 3]), (111, [0, 3]), (115, [0, 3]), (124, [])] 400 h
theorem kb_X11_operand_107 {d L : Nat} {fz t : Bool} {Q : pm_R → pm_H → Prop} {x3 : Int32} {fz1 : Bool} {I : Nat → Nat → Int32} {J : Nat → Nat → Int64}
    (h : pm_Ev d 129 [.ref 85] (pm_hp L fz t I J) (K_X11_operand_111 d fz t Q x3)) :
    K_X11_operand_107 d fz t Q x3 (.inl none) (pm_hp L fz1 t I J) := b_X11_operand_107 h
set_option maxRecDepth 100000 in
theorem b_X11_operand_57 {d L : Nat} {fz t : Bool} {Q : pm_R → pm_H → Prop} {x2 : Int32} {x4 : Int32} {r : Int32} {I : Nat → Nat → Int32} {J : Nat → Nat → Int64}
    (h : ((¬ r = (nI 0) → pm_Ev d 143 [.ref 85, .int (nI 3)] (pm_hp L fz t I J) (K_X11_operand_68 d fz t Q x2 x4)) ∧ (r = (nI 0) → t_X11_operand_18 d L fz t Q x2 x4 I J))) :
    t_X11_operand_57 d L fz t Q x2 x4 r I J := by
  exact pm_go d [(4, [0, 2, 3]), (12, [0, 2]), (18, [0, 2, 4]), (22, [0, 2, 4]), (33, [0, 2, 4]), (50, [0, 2, 4]), (57, [0, 2, 4]), (68, [0, 2, 4]), (72, [0, 2, 4]), (79, [0, 2]), (88, [0, 2]), (107, [0, 3]), (111, [0, 3]), (115, [0, 3]), (124, [])] 400 ⟨fun q0 => ((h).1 q0), fun q0 => ((h).2 q0)⟩
theorem kb_X11_operand_57 {d L : Nat} {fz t : Bool} {Q : pm_R → pm_H → Prop} {x2 : Int32} {x4 : Int32} {r : Int32} {fz1 : Bool} {I : Nat → Nat → Int32} {J : Nat → Nat → Int64}
    (h : ((¬ r = (nI 0) → pm_Ev d 143 [.ref 85, .int (nI 3)] (pm_hp L fz t I J) (K_X11_operand_68 d fz t Q x2 x4)) ∧ (r = (nI 0) → t_X11_operand_18 d L fz t Q x2 x4 I J))) :
    K_X11_operand_57 d fz t Q x2 x4 (.inl (some (.int r))) (pm_hp L fz1 t I J) := b_X11_operand_57 h
set_option maxRecDepth 100000 in
theorem b_X11_operand_111 {d L : Nat} {fz t : Bool} {Q : pm_R → pm_H → Prop} {x3 : Int32} {I : Nat → Nat → Int32} {J : Nat → Nat → Int64}
    (h : pm_Ev d 145 [.ref 85] (pm_hp L fz t I J) (K_X11_operand_115 d fz t Q x3)) :
    t_X11_operand_111 d L fz t Q x3 I J := by
  exact pm_go d [(4, [0, 2, 3]), (12, [0, 2]), (18, [0, 2, 4]), (22, [0, 2, 4]), (33, [0, 2, 4]), (50, [0, 2, 4]), (57, [0, 2, 4]), (68, [0, 2, 4]), (72, [0, 2, 4]), (79, [0, 2]), (88, [0, 2]), (107, [0, 3]), (111, [0, 3]), (115, [0, 3]), (124, [])] 400 h
theorem kb_X11_operand_111 {d L : Nat} {fz t : Bool} {Q : pm_R → pm_H → Prop} {x3 : Int32} {fz1 : Bool} {I : Nat → Nat → Int32} {J : Nat → Nat → Int64}
    (h : pm_Ev d 145 [.ref 85] (pm_hp L fz t I J) (K_X11_operand_115 d fz t Q x3)) :
    K_X11_operand_111 d fz t Q x3 (.inl none) (pm_hp L fz1 t I J) := b_X11_operand_111 h
set_option maxRecDepth 100000 in
theorem b_X11_operand_68 {d L : Nat} {fz t : Bool} {Q : pm_R → pm_H → Prop} {x2 : Int32} {x4 : Int32} {I : Nat → Nat → Int32} {J : Nat → Nat → Int64}
    (h : pm_Ev d 129 [.ref 85] (pm_hp L fz t I J) (K_X11_operand_72 d fz t Q x2 x4)) :
    t_X11_operand_68 d L fz t Q x2 x4 I J := by
  exact pm_go d [(4, [0, 2, 3]), (12, [0, 2]), (18, [0, 2, 4]), (22, [0, 2, 4]), (33, [0, 2, 4]), (50, [0, 2, 4]), (57, [0, 2, 4]), (68, [0, 2, 4]), (72, [0, 2, 4]), (79, [0, 2]), (88, [0, 2]), (107, [0, 3]), (111, [0, 3]), (115, [0, 3]), (124, [])] 400 h
theorem kb_X11_operand_68 {d L : Nat} {fz t : Bool} {Q : pm_R → pm_H → Prop} {x2 : Int32} {x4 : Int32} {fz1 : Bool} {I : Nat → Nat → Int32} {J : Nat → Nat → Int64}
    (h : pm_Ev d 129 [.ref 85] (pm_hp L fz t I J) (K_X11_operand_72 d fz t Q x2 x4)) :
    K_X11_operand_68 d fz t Q x2 x4 (.inl none) (pm_hp L fz1 t I J) := b_X11_operand_68 h
set_option maxRecDepth 100000 in
theorem b_X11_operand_115 {d L : Nat} {fz t : Bool} {Q : pm_R → pm_H → Prop} {x3 : Int32} {I : Nat → Nat → Int32} {J : Nat → Nat → Int64}
    (h : t_X11_operand_4 d L fz t Q (nI 1) x3 I J) :
    t_X11_operand_115 d L fz t Q x3 I J := by
  exact pm_go d [(4, [0, 2, 3]), (12, [0, 2]), (18, [0, 2, 4]), (22, [0, 2, 4]), (33, [0, 2, 4]), (50, [0, 2, 4]), (57, [0, 2, 4]), (68, [0, 2, 4]), (72, [0, 2, 4]), (79, [0, 2]), (88, [0, 2]), (107, [0, 3]), (111, [0, 3]), (115, [0, 3]), (124, [])] 400 h
theorem kb_X11_operand_115 {d L : Nat} {fz t : Bool} {Q : pm_R → pm_H → Prop} {x3 : Int32} {fz1 : Bool} {I : Nat → Nat → Int32} {J : Nat → Nat → Int64}
    (h : t_X11_operand_4 d L fz t Q (nI 1) x3 I J) :
    K_X11_operand_115 d fz t Q x3 (.inl none) (pm_hp L fz1 t I J) := b_X11_operand_115 h
set_option maxRecDepth 100000 in
theorem b_X11_operand_72 {d L : Nat} {fz t : Bool} {Q : pm_R → pm_H → Prop} {x2 : Int32} {x4 : Int32} {I : Nat → Nat → Int32} {J : Nat → Nat → Int64}
    (h : t_X11_operand_18 d L fz t Q x2 x4 I J) :
    t_X11_operand_72 d L fz t Q x2 x4 I J := by
  exact pm_go d [(4, [0, 2, 3]), (12, [0, 2]), (18, [0, 2, 4]), (22, [0, 2, 4]), (33, [0, 2, 4]), (50, [0, 2, 4]), (57, [0, 2, 4]), (68, [0, 2, 4]), (72, [0, 2, 4]), (79, [0, 2]), (88, [0, 2]), (107, [0, 3]), (111, [0, 3]), (115, [0, 3]), (124, [])] 400 h
theorem kb_X11_operand_72 {d L : Nat} {fz t : Bool} {Q : pm_R → pm_H → Prop} {x2 : Int32} {x4 : Int32} {fz1 : Bool} {I : Nat → Nat → Int32} {J : Nat → Nat → Int64}
    (h : t_X11_operand_18 d L fz t Q x2 x4 I J) :
    K_X11_operand_72 d fz t Q x2 x4 (.inl none) (pm_hp L fz1 t I J) := b_X11_operand_72 h
def t_X11_isOpened_0 (d L : Nat) (fz t : Bool) (Q : pm_R → pm_H → Prop) (I : Nat → Nat → Int32) (J : Nat → Nat → Int64) : Prop := pm_T (pm_Ev d) 147 Q (0, [(0, .ref 85)], [], pm_hp L fz t I J, 0, 0)
def t_X11_isOpened_7 (d L : Nat) (fz t : Bool) (Q : pm_R → pm_H → Prop) (x1 : Int32) (I : Nat → Nat → Int32) (J : Nat → Nat → Int64) : Prop := pm_T (pm_Ev d) 147 Q (7, [(0, .ref 85), (1, .int x1)], [], pm_hp L fz t I J, 0, 0)
def t_X11_isOpened_20 (d L : Nat) (fz t : Bool) (Q : pm_R → pm_H → Prop) (x1 : Int32) (r : Int32) (I : Nat → Nat → Int32) (J : Nat → Nat → Int64) : Prop := pm_T (pm_Ev d) 147 Q (20, [(0, .ref 85), (1, .int x1)], [.int r], pm_hp L fz t I J, 0, 0)
def K_X11_isOpened_20 (d : Nat) (fz t : Bool) (Q : pm_R → pm_H → Prop) (x1 : Int32) : pm_R → pm_H → Prop := pm_K d 147 Q 20 [(0, .ref 85), (1, .int x1)] [] 118 0 fz 0 0
set_option maxRecDepth 100000 in
theorem b_X11_isOpened_0 {d L : Nat} {fz t : Bool} {Q : pm_R → pm_H → Prop} {I : Nat → Nat → Int32} {J : Nat → Nat → Int64}
    (h : t_X11_isOpened_7 d L fz t Q ((I 85 35) - (nI 1)) I J) :
    t_X11_isOpened_0 d L fz t Q I J := by
  exact pm_go d [(7, [0, 1]), (20, [0, 1])] 400 h
theorem e_X11_isOpened {d L : Nat} {fz t : Bool} {Q : pm_R → pm_H → Prop} {I : Nat → Nat → Int32} {J : Nat → Nat → Int64}
    (h : t_X11_isOpened_7 d L fz t Q ((I 85 35) - (nI 1)) I J) :
    pm_Ev (d + 1) 147 [.ref 85] (pm_hp L fz t I J) Q := pm_Ev_in rfl (b_X11_isOpened_0 h)
set_option maxRecDepth 100000 in
theorem b_X11_isOpened_7 {d L : Nat} {fz t : Bool} {Q : pm_R → pm_H → Prop} {x1 : Int32} {I : Nat → Nat → Int32} {J : Nat → Nat → Int64}
    (h : ((x1 < (nI 0) → Q (.inl (some (.int (nI 0)))) (pm_hp L fz t I J)) ∧ (¬ x1 < (nI 0) → (vp_in x1 950 ∧ pm_Ev d 140 [.int (I 101 (x1).toNatClampNeg)] (pm_hp L fz t I J) (K_X11_isOpened_20 d fz t Q x1))))) :
    t_X11_isOpened_7 d L fz t Q x1 I J := by
  exact pm_go d [(7, [0, 1]), (20, [0, 1])] 400 ⟨fun q0 => ⟨fun _ => ⟨Or.inl rfl, ((h).1 q0)⟩, fun n => absurd q0 n⟩, fun q0 => ⟨(((h).2 q0)).1, (((h).2 q0)).2⟩⟩
set_option maxRecDepth 100000 in
theorem b_X11_isOpened_20 {d L : Nat} {fz t : Bool} {Q : pm_R → pm_H → Prop} {x1 : Int32} {r : Int32} {I : Nat → Nat → Int32} {J : Nat → Nat → Int64}
    (h : ((¬ r = (nI 0) → ((x1 < (nI 0) → Q (.inl (some (.int (nI 0)))) (pm_hp L fz t I J)) ∧ (¬ x1 < (nI 0) → Q (.inl (some (.int (nI 1)))) (pm_hp L fz t I J)))) ∧ (r = (nI 0) → t_X11_isOpened_7 d L fz t Q (x1 + (-1 : Int32)) I J))) :
    t_X11_isOpened_20 d L fz t Q x1 r I J := by
  exact pm_go d [(7, [0, 1]), (20, [0, 1])] 400 ⟨fun q0 => ⟨fun q1 => ⟨Or.inl rfl, ((((h).1 q0)).1 q1)⟩, fun q1 => ⟨Or.inr rfl, ((((h).1 q0)).2 q1)⟩⟩, fun q0 => ((h).2 q0)⟩
theorem kb_X11_isOpened_20 {d L : Nat} {fz t : Bool} {Q : pm_R → pm_H → Prop} {x1 : Int32} {r : Int32} {fz1 : Bool} {I : Nat → Nat → Int32} {J : Nat → Nat → Int64}
    (h : ((¬ r = (nI 0) → ((x1 < (nI 0) → Q (.inl (some (.int (nI 0)))) (pm_hp L fz t I J)) ∧ (¬ x1 < (nI 0) → Q (.inl (some (.int (nI 1)))) (pm_hp L fz t I J)))) ∧ (r = (nI 0) → t_X11_isOpened_7 d L fz t Q (x1 + (-1 : Int32)) I J))) :
    K_X11_isOpened_20 d fz t Q x1 (.inl (some (.int r))) (pm_hp L fz1 t I J) := b_X11_isOpened_20 h
def t_X11_closes_0 (d L : Nat) (fz t : Bool) (Q : pm_R → pm_H → Prop) (I : Nat → Nat → Int32) (J : Nat → Nat → Int64) : Prop := pm_T (pm_Ev d) 148 Q (0, [(0, .ref 85)], [], pm_hp L fz t I J, 0, 0)
def t_X11_closes_5 (d L : Nat) (fz t : Bool) (Q : pm_R → pm_H → Prop) (I : Nat → Nat → Int32) (J : Nat → Nat → Int64) : Prop := pm_T (pm_Ev d) 148 Q (5, [(0, .ref 85)], [], pm_hp L fz t I J, 0, 0)
def K_X11_closes_5 (d : Nat) (fz t : Bool) (Q : pm_R → pm_H → Prop) : pm_R → pm_H → Prop := pm_K d 148 Q 5 [(0, .ref 85)] [] 118 0 fz 0 0
def t_X11_closes_29 (d L : Nat) (fz t : Bool) (Q : pm_R → pm_H → Prop) (I : Nat → Nat → Int32) (J : Nat → Nat → Int64) : Prop := pm_T (pm_Ev d) 148 Q (29, [], [], pm_hp L fz t I J, 0, 0)
def K_X11_closes_29 (d : Nat) (fz t : Bool) (Q : pm_R → pm_H → Prop) : pm_R → pm_H → Prop := pm_K d 148 Q 29 [] [] 118 0 fz 0 0
set_option maxRecDepth 100000 in
theorem b_X11_closes_0 {d L : Nat} {fz t : Bool} {Q : pm_R → pm_H → Prop} {I : Nat → Nat → Int32} {J : Nat → Nat → Int64}
    (h : pm_Ev d 142 [.ref 85, .int (nI 0)] (pm_hp L fz t I J) (K_X11_closes_5 d fz t Q)) :
    t_X11_closes_0 d L fz t Q I J := by
  exact pm_go d [(5, [0]), (29, [])] 400 h
theorem e_X11_closes {d L : Nat} {fz t : Bool} {Q : pm_R → pm_H → Prop} {I : Nat → Nat → Int32} {J : Nat → Nat → Int64}
    (h : pm_Ev d 142 [.ref 85, .int (nI 0)] (pm_hp L fz t I J) (K_X11_closes_5 d fz t Q)) :
    pm_Ev (d + 1) 148 [.ref 85] (pm_hp L fz t I J) Q := pm_Ev_in rfl (b_X11_closes_0 h)
set_option maxRecDepth 100000 in
theorem b_X11_closes_5 {d L : Nat} {fz t : Bool} {Q : pm_R → pm_H → Prop} {I : Nat → Nat → Int32} {J : Nat → Nat → Int64}
    (h : pm_Ev d 129 [.ref 85] (pm_hp L fz t (pm_u (pm_u I 85 35 ((I 85 35) - (nI 1))) 85 36 ((I 85 36) - (nI 1))) J) (K_X11_closes_29 d fz t Q)) :
    t_X11_closes_5 d L fz t Q I J := by
  exact pm_go d [(5, [0]), (29, [])] 400 h
theorem kb_X11_closes_5 {d L : Nat} {fz t : Bool} {Q : pm_R → pm_H → Prop} {fz1 : Bool} {I : Nat → Nat → Int32} {J : Nat → Nat → Int64}
    (h : pm_Ev d 129 [.ref 85] (pm_hp L fz t (pm_u (pm_u I 85 35 ((I 85 35) - (nI 1))) 85 36 ((I 85 36) - (nI 1))) J) (K_X11_closes_29 d fz t Q)) :
    K_X11_closes_5 d fz t Q (.inl none) (pm_hp L fz1 t I J) := b_X11_closes_5 h
set_option maxRecDepth 100000 in
theorem b_X11_closes_29 {d L : Nat} {fz t : Bool} {Q : pm_R → pm_H → Prop} {I : Nat → Nat → Int32} {J : Nat → Nat → Int64}
    (h : Q (.inl none) (pm_hp L fz t I J)) :
    t_X11_closes_29 d L fz t Q I J := by
  exact pm_go d [(5, [0]), (29, [])] 400 h
theorem kb_X11_closes_29 {d L : Nat} {fz t : Bool} {Q : pm_R → pm_H → Prop} {fz1 : Bool} {I : Nat → Nat → Int32} {J : Nat → Nat → Int64}
    (h : Q (.inl none) (pm_hp L fz t I J)) :
    K_X11_closes_29 d fz t Q (.inl none) (pm_hp L fz1 t I J) := b_X11_closes_29 h
def t_X11_expression_0 (d L : Nat) (fz t : Bool) (Q : pm_R → pm_H → Prop) (x1 : Int32) (x2 : Int32) (I : Nat → Nat → Int32) (J : Nat → Nat → Int64) : Prop := pm_T (pm_Ev d) 149 Q (0, [(0, .ref 85), (1, .int x1), (2, .int x2)], [], pm_hp L fz t I J, 0, 0)
def t_X11_expression_4 (d L : Nat) (fz t : Bool) (Q : pm_R → pm_H → Prop) (x1 : Int32) (x2 : Int32) (r : Int32) (I : Nat → Nat → Int32) (J : Nat → Nat → Int64) : Prop := pm_T (pm_Ev d) 149 Q (4, [(0, .ref 85), (1, .int x1), (2, .int x2)], [.int r], pm_hp L fz t I J, 0, 0)
def K_X11_expression_4 (d : Nat) (fz t : Bool) (Q : pm_R → pm_H → Prop) (x1 : Int32) (x2 : Int32) : pm_R → pm_H → Prop := pm_K d 149 Q 4 [(0, .ref 85), (1, .int x1), (2, .int x2)] [] 118 0 fz 0 0
def t_X11_expression_32 (d L : Nat) (fz t : Bool) (Q : pm_R → pm_H → Prop) (I : Nat → Nat → Int32) (J : Nat → Nat → Int64) : Prop := pm_T (pm_Ev d) 149 Q (32, [(0, .ref 85)], [], pm_hp L fz t I J, 0, 0)
def K_X11_expression_32 (d : Nat) (fz t : Bool) (Q : pm_R → pm_H → Prop) : pm_R → pm_H → Prop := pm_K d 149 Q 32 [(0, .ref 85)] [] 118 0 fz 0 0
def t_X11_expression_37 (d L : Nat) (fz t : Bool) (Q : pm_R → pm_H → Prop) (I : Nat → Nat → Int32) (J : Nat → Nat → Int64) : Prop := pm_T (pm_Ev d) 149 Q (37, [(0, .ref 85)], [], pm_hp L fz t I J, 0, 0)
def K_X11_expression_37 (d : Nat) (fz t : Bool) (Q : pm_R → pm_H → Prop) : pm_R → pm_H → Prop := pm_K d 149 Q 37 [(0, .ref 85)] [] 118 0 fz 0 0
def t_X11_expression_39 (d L : Nat) (fz t : Bool) (Q : pm_R → pm_H → Prop) (x3 : Int32) (I : Nat → Nat → Int32) (J : Nat → Nat → Int64) : Prop := pm_T (pm_Ev d) 149 Q (39, [(0, .ref 85), (3, .int x3)], [], pm_hp L fz t I J, 0, 0)
def t_X11_expression_344 (d L : Nat) (fz t : Bool) (Q : pm_R → pm_H → Prop) (r : Int32) (I : Nat → Nat → Int32) (J : Nat → Nat → Int64) : Prop := pm_T (pm_Ev d) 149 Q (344, [(0, .ref 85)], [.int r], pm_hp L fz t I J, 0, 0)
def K_X11_expression_344 (d : Nat) (fz t : Bool) (Q : pm_R → pm_H → Prop) : pm_R → pm_H → Prop := pm_K d 149 Q 344 [(0, .ref 85)] [] 118 0 fz 0 0
def t_X11_expression_47 (d L : Nat) (fz t : Bool) (Q : pm_R → pm_H → Prop) (x3 : Int32) (r : Int32) (I : Nat → Nat → Int32) (J : Nat → Nat → Int64) : Prop := pm_T (pm_Ev d) 149 Q (47, [(0, .ref 85), (3, .int x3)], [.int r], pm_hp L fz t I J, 0, 0)
def K_X11_expression_47 (d : Nat) (fz t : Bool) (Q : pm_R → pm_H → Prop) (x3 : Int32) : pm_R → pm_H → Prop := pm_K d 149 Q 47 [(0, .ref 85), (3, .int x3)] [] 118 0 fz 0 0
def t_X11_expression_360 (d L : Nat) (fz t : Bool) (Q : pm_R → pm_H → Prop) (I : Nat → Nat → Int32) (J : Nat → Nat → Int64) : Prop := pm_T (pm_Ev d) 149 Q (360, [(0, .ref 85)], [], pm_hp L fz t I J, 0, 0)
def K_X11_expression_360 (d : Nat) (fz t : Bool) (Q : pm_R → pm_H → Prop) : pm_R → pm_H → Prop := pm_K d 149 Q 360 [(0, .ref 85)] [] 118 0 fz 0 0
def t_X11_expression_54 (d L : Nat) (fz t : Bool) (Q : pm_R → pm_H → Prop) (x3 : Int32) (r : Int32) (I : Nat → Nat → Int32) (J : Nat → Nat → Int64) : Prop := pm_T (pm_Ev d) 149 Q (54, [(0, .ref 85), (3, .int x3)], [.int r], pm_hp L fz t I J, 0, 0)
def K_X11_expression_54 (d : Nat) (fz t : Bool) (Q : pm_R → pm_H → Prop) (x3 : Int32) : pm_R → pm_H → Prop := pm_K d 149 Q 54 [(0, .ref 85), (3, .int x3)] [] 118 0 fz 0 0
def t_X11_expression_365 (d L : Nat) (fz t : Bool) (Q : pm_R → pm_H → Prop) (I : Nat → Nat → Int32) (J : Nat → Nat → Int64) : Prop := pm_T (pm_Ev d) 149 Q (365, [(0, .ref 85)], [], pm_hp L fz t I J, 0, 0)
def K_X11_expression_365 (d : Nat) (fz t : Bool) (Q : pm_R → pm_H → Prop) : pm_R → pm_H → Prop := pm_K d 149 Q 365 [(0, .ref 85)] [] 118 0 fz 0 0
def t_X11_expression_86 (d L : Nat) (fz t : Bool) (Q : pm_R → pm_H → Prop) (x3 : Int32) (x4 : Int32) (I : Nat → Nat → Int32) (J : Nat → Nat → Int64) : Prop := pm_T (pm_Ev d) 149 Q (86, [(0, .ref 85), (3, .int x3), (4, .int x4)], [], pm_hp L fz t I J, 0, 0)
def K_X11_expression_86 (d : Nat) (fz t : Bool) (Q : pm_R → pm_H → Prop) (x3 : Int32) (x4 : Int32) : pm_R → pm_H → Prop := pm_K d 149 Q 86 [(0, .ref 85), (3, .int x3), (4, .int x4)] [] 118 0 fz 0 0
def t_X11_expression_130 (d L : Nat) (fz t : Bool) (Q : pm_R → pm_H → Prop) (x3 : Int32) (r : Int32) (I : Nat → Nat → Int32) (J : Nat → Nat → Int64) : Prop := pm_T (pm_Ev d) 149 Q (130, [(0, .ref 85), (3, .int x3)], [.int r], pm_hp L fz t I J, 0, 0)
def K_X11_expression_130 (d : Nat) (fz t : Bool) (Q : pm_R → pm_H → Prop) (x3 : Int32) : pm_R → pm_H → Prop := pm_K d 149 Q 130 [(0, .ref 85), (3, .int x3)] [] 118 0 fz 0 0
def t_X11_expression_370 (d L : Nat) (fz t : Bool) (Q : pm_R → pm_H → Prop) (I : Nat → Nat → Int32) (J : Nat → Nat → Int64) : Prop := pm_T (pm_Ev d) 149 Q (370, [], [], pm_hp L fz t I J, 0, 0)
def K_X11_expression_370 (d : Nat) (fz t : Bool) (Q : pm_R → pm_H → Prop) : pm_R → pm_H → Prop := pm_K d 149 Q 370 [] [] 118 0 fz 0 0
def t_X11_expression_102 (d L : Nat) (fz t : Bool) (Q : pm_R → pm_H → Prop) (x3 : Int32) (I : Nat → Nat → Int32) (J : Nat → Nat → Int64) : Prop := pm_T (pm_Ev d) 149 Q (102, [(0, .ref 85), (3, .int x3)], [], pm_hp L fz t I J, 0, 0)
def K_X11_expression_102 (d : Nat) (fz t : Bool) (Q : pm_R → pm_H → Prop) (x3 : Int32) : pm_R → pm_H → Prop := pm_K d 149 Q 102 [(0, .ref 85), (3, .int x3)] [] 118 0 fz 0 0
def t_X11_expression_207 (d L : Nat) (fz t : Bool) (Q : pm_R → pm_H → Prop) (x3 : Int32) (r : Int32) (I : Nat → Nat → Int32) (J : Nat → Nat → Int64) : Prop := pm_T (pm_Ev d) 149 Q (207, [(0, .ref 85), (3, .int x3)], [.int r], pm_hp L fz t I J, 0, 0)
def K_X11_expression_207 (d : Nat) (fz t : Bool) (Q : pm_R → pm_H → Prop) (x3 : Int32) : pm_R → pm_H → Prop := pm_K d 149 Q 207 [(0, .ref 85), (3, .int x3)] [] 118 0 fz 0 0
def t_X11_expression_159 (d L : Nat) (fz t : Bool) (Q : pm_R → pm_H → Prop) (x3 : Int32) (I : Nat → Nat → Int32) (J : Nat → Nat → Int64) : Prop := pm_T (pm_Ev d) 149 Q (159, [(0, .ref 85), (3, .int x3)], [], pm_hp L fz t I J, 0, 0)
def K_X11_expression_159 (d : Nat) (fz t : Bool) (Q : pm_R → pm_H → Prop) (x3 : Int32) : pm_R → pm_H → Prop := pm_K d 149 Q 159 [(0, .ref 85), (3, .int x3)] [] 118 0 fz 0 0
def t_X11_expression_139 (d L : Nat) (fz t : Bool) (Q : pm_R → pm_H → Prop) (x3 : Int32) (r : Int32) (I : Nat → Nat → Int32) (J : Nat → Nat → Int64) : Prop := pm_T (pm_Ev d) 149 Q (139, [(0, .ref 85), (3, .int x3)], [.int r], pm_hp L fz t I J, 0, 0)
def K_X11_expression_139 (d : Nat) (fz t : Bool) (Q : pm_R → pm_H → Prop) (x3 : Int32) : pm_R → pm_H → Prop := pm_K d 149 Q 139 [(0, .ref 85), (3, .int x3)] [] 118 0 fz 0 0
def t_X11_expression_116 (d L : Nat) (fz t : Bool) (Q : pm_R → pm_H → Prop) (x3 : Int32) (I : Nat → Nat → Int32) (J : Nat → Nat → Int64) : Prop := pm_T (pm_Ev d) 149 Q (116, [(0, .ref 85), (3, .int x3)], [], pm_hp L fz t I J, 0, 0)
def K_X11_expression_116 (d : Nat) (fz t : Bool) (Q : pm_R → pm_H → Prop) (x3 : Int32) : pm_R → pm_H → Prop := pm_K d 149 Q 116 [(0, .ref 85), (3, .int x3)] [] 118 0 fz 0 0
def t_X11_expression_224 (d L : Nat) (fz t : Bool) (Q : pm_R → pm_H → Prop) (x3 : Int32) (I : Nat → Nat → Int32) (J : Nat → Nat → Int64) : Prop := pm_T (pm_Ev d) 149 Q (224, [(0, .ref 85), (3, .int x3)], [], pm_hp L fz t I J, 0, 0)
def K_X11_expression_224 (d : Nat) (fz t : Bool) (Q : pm_R → pm_H → Prop) (x3 : Int32) : pm_R → pm_H → Prop := pm_K d 149 Q 224 [(0, .ref 85), (3, .int x3)] [] 118 0 fz 0 0
def t_X11_expression_216 (d L : Nat) (fz t : Bool) (Q : pm_R → pm_H → Prop) (x3 : Int32) (r : Int32) (I : Nat → Nat → Int32) (J : Nat → Nat → Int64) : Prop := pm_T (pm_Ev d) 149 Q (216, [(0, .ref 85), (3, .int x3)], [.int r], pm_hp L fz t I J, 0, 0)
def K_X11_expression_216 (d : Nat) (fz t : Bool) (Q : pm_R → pm_H → Prop) (x3 : Int32) : pm_R → pm_H → Prop := pm_K d 149 Q 216 [(0, .ref 85), (3, .int x3)] [] 118 0 fz 0 0
def t_X11_expression_166 (d L : Nat) (fz t : Bool) (Q : pm_R → pm_H → Prop) (x3 : Int32) (r : Int32) (I : Nat → Nat → Int32) (J : Nat → Nat → Int64) : Prop := pm_T (pm_Ev d) 149 Q (166, [(0, .ref 85), (3, .int x3)], [.int r, .ref 85], pm_hp L fz t I J, 0, 0)
def K_X11_expression_166 (d : Nat) (fz t : Bool) (Q : pm_R → pm_H → Prop) (x3 : Int32) : pm_R → pm_H → Prop := pm_K d 149 Q 166 [(0, .ref 85), (3, .int x3)] [.ref 85] 118 0 fz 0 0
def t_X11_expression_121 (d L : Nat) (fz t : Bool) (Q : pm_R → pm_H → Prop) (x3 : Int32) (I : Nat → Nat → Int32) (J : Nat → Nat → Int64) : Prop := pm_T (pm_Ev d) 149 Q (121, [(0, .ref 85), (3, .int x3)], [], pm_hp L fz t I J, 0, 0)
def K_X11_expression_121 (d : Nat) (fz t : Bool) (Q : pm_R → pm_H → Prop) (x3 : Int32) : pm_R → pm_H → Prop := pm_K d 149 Q 121 [(0, .ref 85), (3, .int x3)] [] 118 0 fz 0 0
def t_X11_expression_231 (d L : Nat) (fz t : Bool) (Q : pm_R → pm_H → Prop) (x3 : Int32) (r : Int32) (I : Nat → Nat → Int32) (J : Nat → Nat → Int64) : Prop := pm_T (pm_Ev d) 149 Q (231, [(0, .ref 85), (3, .int x3)], [.int r, .ref 85], pm_hp L fz t I J, 0, 0)
def K_X11_expression_231 (d : Nat) (fz t : Bool) (Q : pm_R → pm_H → Prop) (x3 : Int32) : pm_R → pm_H → Prop := pm_K d 149 Q 231 [(0, .ref 85), (3, .int x3)] [.ref 85] 118 0 fz 0 0
def t_X11_expression_262 (d L : Nat) (fz t : Bool) (Q : pm_R → pm_H → Prop) (x3 : Int32) (r : Int32) (I : Nat → Nat → Int32) (J : Nat → Nat → Int64) : Prop := pm_T (pm_Ev d) 149 Q (262, [(0, .ref 85), (3, .int x3)], [.int r], pm_hp L fz t I J, 0, 0)
def K_X11_expression_262 (d : Nat) (fz t : Bool) (Q : pm_R → pm_H → Prop) (x3 : Int32) : pm_R → pm_H → Prop := pm_K d 149 Q 262 [(0, .ref 85), (3, .int x3)] [] 118 0 fz 0 0
def t_X11_expression_179 (d L : Nat) (fz t : Bool) (Q : pm_R → pm_H → Prop) (x3 : Int32) (I : Nat → Nat → Int32) (J : Nat → Nat → Int64) : Prop := pm_T (pm_Ev d) 149 Q (179, [(0, .ref 85), (3, .int x3)], [], pm_hp L fz t I J, 0, 0)
def K_X11_expression_179 (d : Nat) (fz t : Bool) (Q : pm_R → pm_H → Prop) (x3 : Int32) : pm_R → pm_H → Prop := pm_K d 149 Q 179 [(0, .ref 85), (3, .int x3)] [] 118 0 fz 0 0
def t_X11_expression_244 (d L : Nat) (fz t : Bool) (Q : pm_R → pm_H → Prop) (x3 : Int32) (I : Nat → Nat → Int32) (J : Nat → Nat → Int64) : Prop := pm_T (pm_Ev d) 149 Q (244, [(0, .ref 85), (3, .int x3)], [], pm_hp L fz t I J, 0, 0)
def K_X11_expression_244 (d : Nat) (fz t : Bool) (Q : pm_R → pm_H → Prop) (x3 : Int32) : pm_R → pm_H → Prop := pm_K d 149 Q 244 [(0, .ref 85), (3, .int x3)] [] 118 0 fz 0 0
def t_X11_expression_280 (d L : Nat) (fz t : Bool) (Q : pm_R → pm_H → Prop) (x3 : Int32) (I : Nat → Nat → Int32) (J : Nat → Nat → Int64) : Prop := pm_T (pm_Ev d) 149 Q (280, [(0, .ref 85), (3, .int x3)], [], pm_hp L fz t I J, 0, 0)
def K_X11_expression_280 (d : Nat) (fz t : Bool) (Q : pm_R → pm_H → Prop) (x3 : Int32) : pm_R → pm_H → Prop := pm_K d 149 Q 280 [(0, .ref 85), (3, .int x3)] [] 118 0 fz 0 0
def t_X11_expression_271 (d L : Nat) (fz t : Bool) (Q : pm_R → pm_H → Prop) (x3 : Int32) (r : Int32) (I : Nat → Nat → Int32) (J : Nat → Nat → Int64) : Prop := pm_T (pm_Ev d) 149 Q (271, [(0, .ref 85), (3, .int x3)], [.int r], pm_hp L fz t I J, 0, 0)
def K_X11_expression_271 (d : Nat) (fz t : Bool) (Q : pm_R → pm_H → Prop) (x3 : Int32) : pm_R → pm_H → Prop := pm_K d 149 Q 271 [(0, .ref 85), (3, .int x3)] [] 118 0 fz 0 0
def t_X11_expression_193 (d L : Nat) (fz t : Bool) (Q : pm_R → pm_H → Prop) (x3 : Int32) (I : Nat → Nat → Int32) (J : Nat → Nat → Int64) : Prop := pm_T (pm_Ev d) 149 Q (193, [(0, .ref 85), (3, .int x3)], [], pm_hp L fz t I J, 0, 0)
def K_X11_expression_193 (d : Nat) (fz t : Bool) (Q : pm_R → pm_H → Prop) (x3 : Int32) : pm_R → pm_H → Prop := pm_K d 149 Q 193 [(0, .ref 85), (3, .int x3)] [] 118 0 fz 0 0
def t_X11_expression_248 (d L : Nat) (fz t : Bool) (Q : pm_R → pm_H → Prop) (x3 : Int32) (I : Nat → Nat → Int32) (J : Nat → Nat → Int64) : Prop := pm_T (pm_Ev d) 149 Q (248, [(0, .ref 85), (3, .int x3)], [], pm_hp L fz t I J, 0, 0)
def K_X11_expression_248 (d : Nat) (fz t : Bool) (Q : pm_R → pm_H → Prop) (x3 : Int32) : pm_R → pm_H → Prop := pm_K d 149 Q 248 [(0, .ref 85), (3, .int x3)] [] 118 0 fz 0 0
def t_X11_expression_287 (d L : Nat) (fz t : Bool) (Q : pm_R → pm_H → Prop) (x3 : Int32) (r : Int32) (I : Nat → Nat → Int32) (J : Nat → Nat → Int64) : Prop := pm_T (pm_Ev d) 149 Q (287, [(0, .ref 85), (3, .int x3)], [.int r, .ref 85], pm_hp L fz t I J, 0, 0)
def K_X11_expression_287 (d : Nat) (fz t : Bool) (Q : pm_R → pm_H → Prop) (x3 : Int32) : pm_R → pm_H → Prop := pm_K d 149 Q 287 [(0, .ref 85), (3, .int x3)] [.ref 85] 118 0 fz 0 0
def t_X11_expression_318 (d L : Nat) (fz t : Bool) (Q : pm_R → pm_H → Prop) (x3 : Int32) (r : Int32) (I : Nat → Nat → Int32) (J : Nat → Nat → Int64) : Prop := pm_T (pm_Ev d) 149 Q (318, [(0, .ref 85), (3, .int x3)], [.int r], pm_hp L fz t I J, 0, 0)
def K_X11_expression_318 (d : Nat) (fz t : Bool) (Q : pm_R → pm_H → Prop) (x3 : Int32) : pm_R → pm_H → Prop := pm_K d 149 Q 318 [(0, .ref 85), (3, .int x3)] [] 118 0 fz 0 0
def t_X11_expression_198 (d L : Nat) (fz t : Bool) (Q : pm_R → pm_H → Prop) (x3 : Int32) (I : Nat → Nat → Int32) (J : Nat → Nat → Int64) : Prop := pm_T (pm_Ev d) 149 Q (198, [(0, .ref 85), (3, .int x3)], [], pm_hp L fz t I J, 0, 0)
def K_X11_expression_198 (d : Nat) (fz t : Bool) (Q : pm_R → pm_H → Prop) (x3 : Int32) : pm_R → pm_H → Prop := pm_K d 149 Q 198 [(0, .ref 85), (3, .int x3)] [] 118 0 fz 0 0
def t_X11_expression_253 (d L : Nat) (fz t : Bool) (Q : pm_R → pm_H → Prop) (x3 : Int32) (I : Nat → Nat → Int32) (J : Nat → Nat → Int64) : Prop := pm_T (pm_Ev d) 149 Q (253, [(0, .ref 85), (3, .int x3)], [], pm_hp L fz t I J, 0, 0)
def K_X11_expression_253 (d : Nat) (fz t : Bool) (Q : pm_R → pm_H → Prop) (x3 : Int32) : pm_R → pm_H → Prop := pm_K d 149 Q 253 [(0, .ref 85), (3, .int x3)] [] 118 0 fz 0 0
def t_X11_expression_300 (d L : Nat) (fz t : Bool) (Q : pm_R → pm_H → Prop) (x3 : Int32) (I : Nat → Nat → Int32) (J : Nat → Nat → Int64) : Prop := pm_T (pm_Ev d) 149 Q (300, [(0, .ref 85), (3, .int x3)], [], pm_hp L fz t I J, 0, 0)
def K_X11_expression_300 (d : Nat) (fz t : Bool) (Q : pm_R → pm_H → Prop) (x3 : Int32) : pm_R → pm_H → Prop := pm_K d 149 Q 300 [(0, .ref 85), (3, .int x3)] [] 118 0 fz 0 0
def t_X11_expression_325 (d L : Nat) (fz t : Bool) (Q : pm_R → pm_H → Prop) (x3 : Int32) (r : Int32) (I : Nat → Nat → Int32) (J : Nat → Nat → Int64) : Prop := pm_T (pm_Ev d) 149 Q (325, [(0, .ref 85), (3, .int x3)], [.int r], pm_hp L fz t I J, 0, 0)
def K_X11_expression_325 (d : Nat) (fz t : Bool) (Q : pm_R → pm_H → Prop) (x3 : Int32) : pm_R → pm_H → Prop := pm_K d 149 Q 325 [(0, .ref 85), (3, .int x3)] [] 118 0 fz 0 0
def t_X11_expression_304 (d L : Nat) (fz t : Bool) (Q : pm_R → pm_H → Prop) (x3 : Int32) (I : Nat → Nat → Int32) (J : Nat → Nat → Int64) : Prop := pm_T (pm_Ev d) 149 Q (304, [(0, .ref 85), (3, .int x3)], [], pm_hp L fz t I J, 0, 0)
def K_X11_expression_304 (d : Nat) (fz t : Bool) (Q : pm_R → pm_H → Prop) (x3 : Int32) : pm_R → pm_H → Prop := pm_K d 149 Q 304 [(0, .ref 85), (3, .int x3)] [] 118 0 fz 0 0
def t_X11_expression_332 (d L : Nat) (fz t : Bool) (Q : pm_R → pm_H → Prop) (x3 : Int32) (I : Nat → Nat → Int32) (J : Nat → Nat → Int64) : Prop := pm_T (pm_Ev d) 149 Q (332, [(0, .ref 85), (3, .int x3)], [], pm_hp L fz t I J, 0, 0)
def K_X11_expression_332 (d : Nat) (fz t : Bool) (Q : pm_R → pm_H → Prop) (x3 : Int32) : pm_R → pm_H → Prop := pm_K d 149 Q 332 [(0, .ref 85), (3, .int x3)] [] 118 0 fz 0 0
def t_X11_expression_309 (d L : Nat) (fz t : Bool) (Q : pm_R → pm_H → Prop) (x3 : Int32) (I : Nat → Nat → Int32) (J : Nat → Nat → Int64) : Prop := pm_T (pm_Ev d) 149 Q (309, [(0, .ref 85), (3, .int x3)], [], pm_hp L fz t I J, 0, 0)
def K_X11_expression_309 (d : Nat) (fz t : Bool) (Q : pm_R → pm_H → Prop) (x3 : Int32) : pm_R → pm_H → Prop := pm_K d 149 Q 309 [(0, .ref 85), (3, .int x3)] [] 118 0 fz 0 0
set_option maxRecDepth 100000 in
theorem b_X11_expression_0 {d L : Nat} {fz t : Bool} {Q : pm_R → pm_H → Prop} {x1 : Int32} {x2 : Int32} {I : Nat → Nat → Int32} {J : Nat → Nat → Int64}
    (h : pm_Ev d 134 [.ref 85] (pm_hp L fz t I J) (K_X11_expression_4 d fz t Q x1 x2)) :
    t_X11_expression_0 d L fz t Q x1 x2 I J := by
  exact pm_go d [(4, [0, 1, 2]), (32, [0]), (37, [0]), (39, [0, 3]), (47, [0, 3]), (54, [0, 3]), (86, [0, 3, 4]), (102, [0, 3]), (116, [0, 3]), (121, [0, 3]), (130, [0, 3]), (139, [0, 3]), (159, [0, 3]), (166, [0, 3]), (179, [0, 3]), (193, [0, 3]), (198, [0, 3]), (207, [0, 3]), (216, [0, 3]), (224, [0, 3]), (231, [0, 3]), (244, [0, 3]), (248, [0, 3]), (253, [0, 3]), (262, [0, 3]), (271, [0, 3]), (280, [0, 3]), (287, [0, 3]), (300, [0, 3]), (304, [0, 3]), (309, [0, 3]), (318, [0, 3]), (325, [0, 3]), (332, [0, 3]), (344, [0]), (360, [0]), (365, [0]), (370, [])] 400 h
theorem e_X11_expression {d L : Nat} {fz t : Bool} {Q : pm_R → pm_H → Prop} {x1 : Int32} {x2 : Int32} {I : Nat → Nat → Int32} {J : Nat → Nat → Int64}
    (h : pm_Ev d 134 [.ref 85] (pm_hp L fz t I J) (K_X11_expression_4 d fz t Q x1 x2)) :
    pm_Ev (d + 1) 149 [.ref 85, .int x1, .int x2] (pm_hp L fz t I J) Q := pm_Ev_in rfl (b_X11_expression_0 h)
set_option maxRecDepth 100000 in
theorem b_X11_expression_4 {d L : Nat} {fz t : Bool} {Q : pm_R → pm_H → Prop} {x1 : Int32} {x2 : Int32} {r : Int32} {I : Nat → Nat → Int32} {J : Nat → Nat → Int64}
    (h : ((¬ r = (nI 0) → pm_Ev d 145 [.ref 85] (pm_hp L fz t (pm_u (pm_u (pm_u (pm_u I 85 33 x1) 85 34 x2) 85 35 (nI 0)) 85 36 (nI 0)) J) (K_X11_expression_32 d fz t Q)) ∧ (r = (nI 0) → Q (.inl none) (pm_hp L fz t I J)))) :
    t_X11_expression_4 d L fz t Q x1 x2 r I J := by
  exact pm_go d [(4, [0, 1, 2]), (32, [0]), (37, [0]), (39, [0, 3]), (47, [0, 3]), (54, [0, 3]), (86, [0, 3, 4]), (102, [0, 3]), (116, [0, 3]), (121, [0, 3]), (130, [0, 3]), (139, [0, 3]), (159, [0, 3]), (166, [0, 3]), (179, [0, 3]), (193, [0, 3]), (198, [0, 3]), (207, [0, 3]), (216, [0, 3]), (224, [0, 3]), (231, [0, 3]), (244, [0, 3]), (248, [0, 3]), (253, [0, 3]), (262, [0, 3]), (271, [0, 3]), (280, [0, 3]), (287, [0, 3]), (300, [0, 3]), (304, [0, 3]), (309, [0, 3]), (318, [0, 3]), (325, [0, 3]), (332, [0, 3]), (344, [0]), (360, [0]), (365, [0]), (370, [])] 400 ⟨fun q0 => ((h).1 q0), fun q0 => ((h).2 q0)⟩
theorem kb_X11_expression_4 {d L : Nat} {fz t : Bool} {Q : pm_R → pm_H → Prop} {x1 : Int32} {x2 : Int32} {r : Int32} {fz1 : Bool} {I : Nat → Nat → Int32} {J : Nat → Nat → Int64}
    (h : ((¬ r = (nI 0) → pm_Ev d 145 [.ref 85] (pm_hp L fz t (pm_u (pm_u (pm_u (pm_u I 85 33 x1) 85 34 x2) 85 35 (nI 0)) 85 36 (nI 0)) J) (K_X11_expression_32 d fz t Q)) ∧ (r = (nI 0) → Q (.inl none) (pm_hp L fz t I J)))) :
    K_X11_expression_4 d fz t Q x1 x2 (.inl (some (.int r))) (pm_hp L fz1 t I J) := b_X11_expression_4 h
set_option maxRecDepth 100000 in
theorem b_X11_expression_32 {d L : Nat} {fz t : Bool} {Q : pm_R → pm_H → Prop} {I : Nat → Nat → Int32} {J : Nat → Nat → Int64}
    (h : pm_Ev d 146 [.ref 85, .int (nI 1)] (pm_hp L fz t I J) (K_X11_expression_37 d fz t Q)) :
    t_X11_expression_32 d L fz t Q I J := by
  exact pm_go d [(4, [0, 1, 2]), (32, [0]), (37, [0]), (39, [0, 3]), (47, [0, 3]), (54, [0, 3]), (86, [0, 3, 4]), (102, [0, 3]), (116, [0, 3]), (121, [0, 3]), (130, [0, 3]), (139, [0, 3]), (159, [0, 3]), (166, [0, 3]), (179, [0, 3]), (193, [0, 3]), (198, [0, 3]), (207, [0, 3]), (216, [0, 3]), (224, [0, 3]), (231, [0, 3]), (244, [0, 3]), (248, [0, 3]), (253, [0, 3]), (262, [0, 3]), (271, [0, 3]), (280, [0, 3]), (287, [0, 3]), (300, [0, 3]), (304, [0, 3]), (309, [0, 3]), (318, [0, 3]), (325, [0, 3]), (332, [0, 3]), (344, [0]), (360, [0]), (365, [0]), (370, [])] 400 h
theorem kb_X11_expression_32 {d L : Nat} {fz t : Bool} {Q : pm_R → pm_H → Prop} {fz1 : Bool} {I : Nat → Nat → Int32} {J : Nat → Nat → Int64}
    (h : pm_Ev d 146 [.ref 85, .int (nI 1)] (pm_hp L fz t I J) (K_X11_expression_37 d fz t Q)) :
    K_X11_expression_32 d fz t Q (.inl none) (pm_hp L fz1 t I J) := b_X11_expression_32 h
set_option maxRecDepth 100000 in
theorem b_X11_expression_37 {d L : Nat} {fz t : Bool} {Q : pm_R → pm_H → Prop} {I : Nat → Nat → Int32} {J : Nat → Nat → Int64}
    (h : t_X11_expression_39 d L fz t Q (nI 1) I J) :
    t_X11_expression_37 d L fz t Q I J := by
  exact pm_go d [(4, [0, 1, 2]), (32, [0]), (37, [0]), (39, [0, 3]), (47, [0, 3]), (54, [0, 3]), (86, [0, 3, 4]), (102, [0, 3]), (116, [0, 3]), (121, [0, 3]), (130, [0, 3]), (139, [0, 3]), (159, [0, 3]), (166, [0, 3]), (179, [0, 3]), (193, [0, 3]), (198, [0, 3]), (207, [0, 3]), (216, [0, 3]), (224, [0, 3]), (231, [0, 3]), (244, [0, 3]), (248, [0, 3]), (253, [0, 3]), (262, [0, 3]), (271, [0, 3]), (280, [0, 3]), (287, [0, 3]), (300, [0, 3]), (304, [0, 3]), (309, [0, 3]), (318, [0, 3]), (325, [0, 3]), (332, [0, 3]), (344, [0]), (360, [0]), (365, [0]), (370, [])] 400 h
theorem kb_X11_expression_37 {d L : Nat} {fz t : Bool} {Q : pm_R → pm_H → Prop} {fz1 : Bool} {I : Nat → Nat → Int32} {J : Nat → Nat → Int64}
    (h : t_X11_expression_39 d L fz t Q (nI 1) I J) :
    K_X11_expression_37 d fz t Q (.inl none) (pm_hp L fz1 t I J) := b_X11_expression_37 h
set_option maxRecDepth 100000 in
theorem b_X11_expression_39 {d L : Nat} {fz t : Bool} {Q : pm_R → pm_H → Prop} {x3 : Int32} {I : Nat → Nat → Int32} {J : Nat → Nat → Int64}
    (h : ((x3 = (nI 0) → pm_Ev d 134 [.ref 85] (pm_hp L fz t I J) (K_X11_expression_344 d fz t Q)) ∧ (¬ x3 = (nI 0) → pm_Ev d 134 [.ref 85] (pm_hp L fz t I J) (K_X11_expression_47 d fz t Q x3)))) :
    t_X11_expression_39 d L fz t Q x3 I J := by
  exact pm_go d [(4, [0, 1, 2]), (32, [0]), (37, [0]), (39, [0, 3]), (47, [0, 3]), (54, [0, 3]), (86, [0, 3, 4]), (102, [0, 3]), (116, [0, 3]), (121, [0, 3]), (130, [0, 3]), (139, [0, 3]), (159, [0, 3]), (166, [0, 3]), (179, [0, 3]), (193, [0, 3]), (198, [0, 3]), (207, [0, 3]), (216, [0, 3]), (224, [0, 3]), (231, [0, 3]), (244, [0, 3]), (248, [0, 3]), (253, [0, 3]), (262, [0, 3]), (271, [0, 3]), (280, [0, 3]), (287, [0, 3]), (300, [0, 3]), (304, [0, 3]), (309, [0, 3]), (318, [0, 3]), (325, [0, 3]), (332, [0, 3]), (344, [0]), (360, [0]), (365, [0]), (370, [])] 400 ⟨fun q0 => ((h).1 q0), fun q0 => ((h).2 q0)⟩
set_option maxRecDepth 100000 in
theorem b_X11_expression_344 {d L : Nat} {fz t : Bool} {Q : pm_R → pm_H → Prop} {r : Int32} {I : Nat → Nat → Int32} {J : Nat → Nat → Int64}
    (h : ((r = (nI 0) → t_X11_expression_360 d L fz t Q I J) ∧ (¬ r = (nI 0) → (((I 85 36) ≤ (nI 1) → t_X11_expression_360 d L fz t Q I J) ∧ (¬ (I 85 36) ≤ (nI 1) → pm_Ev d 133 [.ref 85, .int (nI 1)] (pm_hp L fz t I J) (K_X11_expression_360 d fz t Q)))))) :
    t_X11_expression_344 d L fz t Q r I J := by
  exact pm_go d [(4, [0, 1, 2]), (32, [0]), (37, [0]), (39, [0, 3]), (47, [0, 3]), (54, [0, 3]), (86, [0, 3, 4]), (102, [0, 3]), (116, [0, 3]), (121, [0, 3]), (130, [0, 3]), (139, [0, 3]), (159, [0, 3]), (166, [0, 3]), (179, [0, 3]), (193, [0, 3]), (198, [0, 3]), (207, [0, 3]), (216, [0, 3]), (224, [0, 3]), (231, [0, 3]), (244, [0, 3]), (248, [0, 3]), (253, [0, 3]), (262, [0, 3]), (271, [0, 3]), (280, [0, 3]), (287, [0, 3]), (300, [0, 3]), (304, [0, 3]), (309, [0, 3]), (318, [0, 3]), (325, [0, 3]), (332, [0, 3]), (344, [0]), (360, [0]), (365, [0]), (370, [])] 400 ⟨fun q0 => ((h).1 q0), fun q0 => ⟨fun q1 => ((((h).2 q0)).1 q1), fun q1 => ((((h).2 q0)).2 q1)⟩⟩
theorem kb_X11_expression_344 {d L : Nat} {fz t : Bool} {Q : pm_R → pm_H → Prop} {r : Int32} {fz1 : Bool} {I : Nat → Nat → Int32} {J : Nat → Nat → Int64}
    (h : ((r = (nI 0) → t_X11_expression_360 d L fz t Q I J) ∧ (¬ r = (nI 0) → (((I 85 36) ≤ (nI 1) → t_X11_expression_360 d L fz t Q I J) ∧ (¬ (I 85 36) ≤ (nI 1) → pm_Ev d 133 [.ref 85, .int (nI 1)] (pm_hp L fz t I J) (K_X11_expression_360 d fz t Q)))))) :
    K_X11_expression_344 d fz t Q (.inl (some (.int r))) (pm_hp L fz1 t I J) := b_X11_expression_344 h
set_option maxRecDepth 100000 in
theorem b_X11_expression_47 {d L : Nat} {fz t : Bool} {Q : pm_R → pm_H → Prop} {x3 : Int32} {r : Int32} {I : Nat → Nat → Int32} {J : Nat → Nat → Int64}
    (h : ((r = (nI 0) → pm_Ev d 134 [.ref 85] (pm_hp L fz t I J) (K_X11_expression_344 d fz t Q)) ∧ (¬ r = (nI 0) → pm_Ev d 132 [.ref 85] (pm_hp L fz t I J) (K_X11_expression_54 d fz t Q x3)))) :
    t_X11_expression_47 d L fz t Q x3 r I J := by
  exact pm_go d [(4, [0, 1, 2]), (32, [0]), (37, [0]), (39, [0, 3]), (47, [0, 3]), (54, [0, 3]), (86, [0, 3, 4]), (102, [0, 3]), (116, [0, 3]), (121, [0, 3]), (130, [0, 3]), (139, [0, 3]), (159, [0, 3]), (166, [0, 3]), (179, [0, 3]), (193, [0, 3]), (198, [0, 3]), (207, [0, 3]), (216, [0, 3]), (224, [0, 3]), (231, [0, 3]), (244, [0, 3]), (248, [0, 3]), (253, [0, 3]), (262, [0, 3]), (271, [0, 3]), (280, [0, 3]), (287, [0, 3]), (300, [0, 3]), (304, [0, 3]), (309, [0, 3]), (318, [0, 3]), (325, [0, 3]), (332, [0, 3]), (344, [0]), (360, [0]), (365, [0]), (370, [])] 400 ⟨fun q0 => ((h).1 q0), fun q0 => ((h).2 q0)⟩
theorem kb_X11_expression_47 {d L : Nat} {fz t : Bool} {Q : pm_R → pm_H → Prop} {x3 : Int32} {r : Int32} {fz1 : Bool} {I : Nat → Nat → Int32} {J : Nat → Nat → Int64}
    (h : ((r = (nI 0) → pm_Ev d 134 [.ref 85] (pm_hp L fz t I J) (K_X11_expression_344 d fz t Q)) ∧ (¬ r = (nI 0) → pm_Ev d 132 [.ref 85] (pm_hp L fz t I J) (K_X11_expression_54 d fz t Q x3)))) :
    K_X11_expression_47 d fz t Q x3 (.inl (some (.int r))) (pm_hp L fz1 t I J) := b_X11_expression_47 h
set_option maxRecDepth 100000 in
theorem b_X11_expression_360 {d L : Nat} {fz t : Bool} {Q : pm_R → pm_H → Prop} {I : Nat → Nat → Int32} {J : Nat → Nat → Int64}
    (h : pm_Ev d 142 [.ref 85, .int (nI 0)] (pm_hp L fz t I J) (K_X11_expression_365 d fz t Q)) :
    t_X11_expression_360 d L fz t Q I J := by
  exact pm_go d [(4, [0, 1, 2]), (32, [0]), (37, [0]), (39, [0, 3]), (47, [0, 3]), (54, [0, 3]), (86, [0, 3, 4]), (102, [0, 3]), (116, [0, 3]), (121, [0, 3]), (130, [0, 3]), (139, [0, 3]), (159, [0, 3]), (166, [0, 3]), (179, [0, 3]), (193, [0, 3]), (198, [0, 3]), (207, [0, 3]), (216, [0, 3]), (224, [0, 3]), (231, [0, 3]), (244, [0, 3]), (248, [0, 3]), (253, [0, 3]), (262, [0, 3]), (271, [0, 3]), (280, [0, 3]), (287, [0, 3]), (300, [0, 3]), (304, [0, 3]), (309, [0, 3]), (318, [0, 3]), (325, [0, 3]), (332, [0, 3]), (344, [0]), (360, [0]), (365, [0]), (370, [])] 400 h
theorem kb_X11_expression_360 {d L : Nat} {fz t : Bool} {Q : pm_R → pm_H → Prop} {fz1 : Bool} {I : Nat → Nat → Int32} {J : Nat → Nat → Int64}
    (h : pm_Ev d 142 [.ref 85, .int (nI 0)] (pm_hp L fz t I J) (K_X11_expression_365 d fz t Q)) :
    K_X11_expression_360 d fz t Q (.inl none) (pm_hp L fz1 t I J) := b_X11_expression_360 h
set_option maxRecDepth 100000 in
theorem b_X11_expression_54 {d L : Nat} {fz t : Bool} {Q : pm_R → pm_H → Prop} {x3 : Int32} {r : Int32} {I : Nat → Nat → Int32} {J : Nat → Nat → Int64}
    (h : ((r = (nI 16) → pm_Ev d 142 [.ref 85, .int (nI 2)] (pm_hp L fz t I J) (K_X11_expression_86 d fz t Q x3 r)) ∧ (¬ r = (nI 16) → ((¬ r = (nI 17) → pm_Ev d 135 [.ref 85, .int (nI 60)] (pm_hp L fz t I J) (K_X11_expression_130 d fz t Q x3)) ∧ (r = (nI 17) → pm_Ev d 142 [.ref 85, .int (nI 1)] (pm_hp L fz t I J) (K_X11_expression_86 d fz t Q x3 r)))))) :
    t_X11_expression_54 d L fz t Q x3 r I J := by
  exact pm_go d [(4, [0, 1, 2]), (32, [0]), (37, [0]), (39, [0, 3]), (47, [0, 3]), (54, [0, 3]), (86, [0, 3, 4]), (102, [0, 3]), (116, [0, 3]), (121, [0, 3]), (130, [0, 3]), (139, [0, 3]), (159, [0, 3]), (166, [0, 3]), (179, [0, 3]), (193, [0, 3]), (198, [0, 3]), (207, [0, 3]), (216, [0, 3]), (224, [0, 3]), (231, [0, 3]), (244, [0, 3]), (248, [0, 3]), (253, [0, 3]), (262, [0, 3]), (271, [0, 3]), (280, [0, 3]), (287, [0, 3]), (300, [0, 3]), (304, [0, 3]), (309, [0, 3]), (318, [0, 3]), (325, [0, 3]), (332, [0, 3]), (344, [0]), (360, [0]), (365, [0]), (370, [])] 400 ⟨fun q0 => ⟨fun n => absurd q0 n, fun _ => ((h).1 q0)⟩, fun q0 => ⟨fun q1 => ((((h).2 q0)).1 q1), fun q1 => ⟨fun _ => ((((h).2 q0)).2 q1), fun n => absurd n q0⟩⟩⟩
theorem kb_X11_expression_54 {d L : Nat} {fz t : Bool} {Q : pm_R → pm_H → Prop} {x3 : Int32} {r : Int32} {fz1 : Bool} {I : Nat → Nat → Int32} {J : Nat → Nat → Int64}
    (h : ((r = (nI 16) → pm_Ev d 142 [.ref 85, .int (nI 2)] (pm_hp L fz t I J) (K_X11_expression_86 d fz t Q x3 r)) ∧ (¬ r = (nI 16) → ((¬ r = (nI 17) → pm_Ev d 135 [.ref 85, .int (nI 60)] (pm_hp L fz t I J) (K_X11_expression_130 d fz t Q x3)) ∧ (r = (nI 17) → pm_Ev d 142 [.ref 85, .int (nI 1)] (pm_hp L fz t I J) (K_X11_expression_86 d fz t Q x3 r)))))) :
    K_X11_expression_54 d fz t Q x3 (.inl (some (.int r))) (pm_hp L fz1 t I J) := b_X11_expression_54 h
set_option maxRecDepth 100000 in
theorem b_X11_expression_365 {d L : Nat} {fz t : Bool} {Q : pm_R → pm_H → Prop} {I : Nat → Nat → Int32} {J : Nat → Nat → Int64}
    (h : pm_Ev d 139 [.ref 85, .int (nI 0)] (pm_hp L fz t I J) (K_X11_expression_370 d fz t Q)) :
    t_X11_expression_365 d L fz t Q I J := by
  exact pm_go d [(4, [0, 1, 2]), (32, [0]), (37, [0]), (39, [0, 3]), (47, [0, 3]), (54, [0, 3]), (86, [0, 3, 4]), (102, [0, 3]), (116, [0, 3]), (121, [0, 3]), (130, [0, 3]), (139, [0, 3]), (159, [0, 3]), (166, [0, 3]), (179, [0, 3]), (193, [0, 3]), (198, [0, 3]), (207, [0, 3]), (216, [0, 3]), (224, [0, 3]), (231, [0, 3]), (244, [0, 3]), (248, [0, 3]), (253, [0, 3]), (262, [0, 3]), (271, [0, 3]), (280, [0, 3]), (287, [0, 3]), (300, [0, 3]), (304, [0, 3]), (309, [0, 3]), (318, [0, 3]), (325, [0, 3]), (332, [0, 3]), (344, [0]), (360, [0]), (365, [0]), (370, [])] 400 h
theorem kb_X11_expression_365 {d L : Nat} {fz t : Bool} {Q : pm_R → pm_H → Prop} {fz1 : Bool} {I : Nat → Nat → Int32} {J : Nat → Nat → Int64}
    (h : pm_Ev d 139 [.ref 85, .int (nI 0)] (pm_hp L fz t I J) (K_X11_expression_370 d fz t Q)) :
    K_X11_expression_365 d fz t Q (.inl none) (pm_hp L fz1 t I J) := b_X11_expression_365 h
set_option maxRecDepth 100000 in
theorem b_X11_expression_86 {d L : Nat} {fz t : Bool} {Q : pm_R → pm_H → Prop} {x3 : Int32} {x4 : Int32} {I : Nat → Nat → Int32} {J : Nat → Nat → Int64}
    (h : ((¬ x4 = (nI 16) → pm_Ev d 143 [.ref 85, .int (nI 5)] (pm_hp L fz t I J) (K_X11_expression_102 d fz t Q x3)) ∧ (x4 = (nI 16) → pm_Ev d 143 [.ref 85, .int (nI 4)] (pm_hp L fz t I J) (K_X11_expression_102 d fz t Q x3)))) :
    t_X11_expression_86 d L fz t Q x3 x4 I J := by
  exact pm_go d [(4, [0, 1, 2]), (32, [0]), (37, [0]), (39, [0, 3]), (47, [0, 3]), (54, [0, 3]), (86, [0, 3, 4]), (102, [0, 3]), (116, [0, 3]), (121, [0, 3]), (130, [0, 3]), (139, [0, 3]), (159, [0, 3]), (166, [0, 3]), (179, [0, 3]), (193, [0, 3]), (198, [0, 3]), (207, [0, 3]), (216, [0, 3]), (224, [0, 3]), (231, [0, 3]), (244, [0, 3]), (248, [0, 3]), (253, [0, 3]), (262, [0, 3]), (271, [0, 3]), (280, [0, 3]), (287, [0, 3]), (300, [0, 3]), (304, [0, 3]), (309, [0, 3]), (318, [0, 3]), (325, [0, 3]), (332, [0, 3]), (344, [0]), (360, [0]), (365, [0]), (370, [])] 400 ⟨fun q0 => ((h).1 q0), fun q0 => ((h).2 q0)⟩
theorem kb_X11_expression_86 {d L : Nat} {fz t : Bool} {Q : pm_R → pm_H → Prop} {x3 : Int32} {x4 : Int32} {fz1 : Bool} {I : Nat → Nat → Int32} {J : Nat → Nat → Int64}
    (h : ((¬ x4 = (nI 16) → pm_Ev d 143 [.ref 85, .int (nI 5)] (pm_hp L fz t I J) (K_X11_expression_102 d fz t Q x3)) ∧ (x4 = (nI 16) → pm_Ev d 143 [.ref 85, .int (nI 4)] (pm_hp L fz t I J) (K_X11_expression_102 d fz t Q x3)))) :
    K_X11_expression_86 d fz t Q x3 x4 (.inl none) (pm_hp L fz1 t I J) := b_X11_expression_86 h
set_option maxRecDepth 100000 in
theorem b_X11_expression_130 {d L : Nat} {fz t : Bool} {Q : pm_R → pm_H → Prop} {x3 : Int32} {r : Int32} {I : Nat → Nat → Int32} {J : Nat → Nat → Int64}
    (h : ((¬ r = (nI 0) → (vp_in (I 85 36) 9 ∧ ((¬ (I 102 ((I 85 36)).toNatClampNeg) = (nI 0) → pm_Ev d 135 [.ref 85, .int (nI 43)] (pm_hp L fz t I J) (K_X11_expression_207 d fz t Q x3)) ∧ ((I 102 ((I 85 36)).toNatClampNeg) = (nI 0) → pm_Ev d 142 [.ref 85, .int (nI 4)] (pm_hp L fz t I J) (K_X11_expression_159 d fz t Q x3))))) ∧ (r = (nI 0) → pm_Ev d 135 [.ref 85, .int (nI 61)] (pm_hp L fz t I J) (K_X11_expression_139 d fz t Q x3)))) :
    t_X11_expression_130 d L fz t Q x3 r I J := by
  exact pm_go d [(4, [0, 1, 2]), (32, [0]), (37, [0]), (39, [0, 3]), (47, [0, 3]), (54, [0, 3]), (86, [0, 3, 4]), (102, [0, 3]), (116, [0, 3]), (121, [0, 3]), (130, [0, 3]), (139, [0, 3]), (159, [0, 3]), (166, [0, 3]), (179, [0, 3]), (193, [0, 3]), (198, [0, 3]), (207, [0, 3]), (216, [0, 3]), (224, [0, 3]), (231, [0, 3]), (244, [0, 3]), (248, [0, 3]), (253, [0, 3]), (262, [0, 3]), (271, [0, 3]), (280, [0, 3]), (287, [0, 3]), (300, [0, 3]), (304, [0, 3]), (309, [0, 3]), (318, [0, 3]), (325, [0, 3]), (332, [0, 3]), (344, [0]), (360, [0]), (365, [0]), (370, [])] 400 ⟨fun q0 => ⟨(((h).1 q0)).1, ⟨fun q1 => (((((h).1 q0)).2).1 q1), fun q1 => (((((h).1 q0)).2).2 q1)⟩⟩, fun q0 => ((h).2 q0)⟩
theorem kb_X11_expression_130 {d L : Nat} {fz t : Bool} {Q : pm_R → pm_H → Prop} {x3 : Int32} {r : Int32} {fz1 : Bool} {I : Nat → Nat → Int32} {J : Nat → Nat → Int64}
    (h : ((¬ r = (nI 0) → (vp_in (I 85 36) 9 ∧ ((¬ (I 102 ((I 85 36)).toNatClampNeg) = (nI 0) → pm_Ev d 135 [.ref 85, .int (nI 43)] (pm_hp L fz t I J) (K_X11_expression_207 d fz t Q x3)) ∧ ((I 102 ((I 85 36)).toNatClampNeg) = (nI 0) → pm_Ev d 142 [.ref 85, .int (nI 4)] (pm_hp L fz t I J) (K_X11_expression_159 d fz t Q x3))))) ∧ (r = (nI 0) → pm_Ev d 135 [.ref 85, .int (nI 61)] (pm_hp L fz t I J) (K_X11_expression_139 d fz t Q x3)))) :
    K_X11_expression_130 d fz t Q x3 (.inl (some (.int r))) (pm_hp L fz1 t I J) := b_X11_expression_130 h
set_option maxRecDepth 100000 in
theorem b_X11_expression_370 {d L : Nat} {fz t : Bool} {Q : pm_R → pm_H → Prop} {I : Nat → Nat → Int32} {J : Nat → Nat → Int64}
    (h : Q (.inl none) (pm_hp L fz t I J)) :
    t_X11_expression_370 d L fz t Q I J := by
  exact pm_go d [(4, [0, 1, 2]), (32, [0]), (37, [0]), (39, [0, 3]), (47, [0, 3]), (54, [0, 3]), (86, [0, 3, 4]), (102, [0, 3]), (116, [0, 3]), (121, [0, 3]), (130, [0, 3]), (139, [0, 3]), (159, [0, 3]), (166, [0, 3]), (179, [0, 3]), (193, [0, 3]), (198, [0, 3]), (207, [0, 3]), (216, [0, 3]), (224, [0, 3]), (231, [0, 3]), (244, [0, 3]), (248, [0, 3]), (253, [0, 3]), (262, [0, 3]), (271, [0, 3]), (280, [0, 3]), (287, [0, 3]), (300, [0, 3]), (304, [0, 3]), (309, [0, 3]), (318, [0, 3]), (325, [0, 3]), (332, [0, 3]), (344, [0]), (360, [0]), (365, [0]), (370, [])] 400 h
theorem kb_X11_expression_370 {d L : Nat} {fz t : Bool} {Q : pm_R → pm_H → Prop} {fz1 : Bool} {I : Nat → Nat → Int32} {J : Nat → Nat → Int64}
    (h : Q (.inl none) (pm_hp L fz t I J)) :
    K_X11_expression_370 d fz t Q (.inl none) (pm_hp L fz1 t I J) := b_X11_expression_370 h
set_option maxRecDepth 100000 in
theorem b_X11_expression_102 {d L : Nat} {fz t : Bool} {Q : pm_R → pm_H → Prop} {x3 : Int32} {I : Nat → Nat → Int32} {J : Nat → Nat → Int64}
    (h : (vp_in (I 85 36) 9 ∧ pm_Ev d 129 [.ref 85] (pm_hp L fz t (pm_u I 102 ((I 85 36)).toNatClampNeg (vp_nar .boolean (nI 0))) J) (K_X11_expression_116 d fz t Q x3))) :
    t_X11_expression_102 d L fz t Q x3 I J := by
  exact pm_go d [(4, [0, 1, 2]), (32, [0]), (37, [0]), (39, [0, 3]), (47, [0, 3]), (54, [0, 3]), (86, [0, 3, 4]), (102, [0, 3]), (116, [0, 3]), (121, [0, 3]), (130, [0, 3]), (139, [0, 3]), (159, [0, 3]), (166, [0, 3]), (179, [0, 3]), (193, [0, 3]), (198, [0, 3]), (207, [0, 3]), (216, [0, 3]), (224, [0, 3]), (231, [0, 3]), (244, [0, 3]), (248, [0, 3]), (253, [0, 3]), (262, [0, 3]), (271, [0, 3]), (280, [0, 3]), (287, [0, 3]), (300, [0, 3]), (304, [0, 3]), (309, [0, 3]), (318, [0, 3]), (325, [0, 3]), (332, [0, 3]), (344, [0]), (360, [0]), (365, [0]), (370, [])] 400 ⟨(h).1, (h).2⟩
theorem kb_X11_expression_102 {d L : Nat} {fz t : Bool} {Q : pm_R → pm_H → Prop} {x3 : Int32} {fz1 : Bool} {I : Nat → Nat → Int32} {J : Nat → Nat → Int64}
    (h : (vp_in (I 85 36) 9 ∧ pm_Ev d 129 [.ref 85] (pm_hp L fz t (pm_u I 102 ((I 85 36)).toNatClampNeg (vp_nar .boolean (nI 0))) J) (K_X11_expression_116 d fz t Q x3))) :
    K_X11_expression_102 d fz t Q x3 (.inl none) (pm_hp L fz1 t I J) := b_X11_expression_102 h
set_option maxRecDepth 100000 in
theorem b_X11_expression_207 {d L : Nat} {fz t : Bool} {Q : pm_R → pm_H → Prop} {x3 : Int32} {r : Int32} {I : Nat → Nat → Int32} {J : Nat → Nat → Int64}
    (h : ((¬ r = (nI 0) → pm_Ev d 142 [.ref 85, .int (nI 5)] (pm_hp L fz t I J) (K_X11_expression_224 d fz t Q x3)) ∧ (r = (nI 0) → pm_Ev d 135 [.ref 85, .int (nI 45)] (pm_hp L fz t I J) (K_X11_expression_216 d fz t Q x3)))) :
    t_X11_expression_207 d L fz t Q x3 r I J := by
  exact pm_go d [(4, [0, 1, 2]), (32, [0]), (37, [0]), (39, [0, 3]), (47, [0, 3]), (54, [0, 3]), (86, [0, 3, 4]), (102, [0, 3]), (116, [0, 3]), (121, [0, 3]), (130, [0, 3]), (139, [0, 3]), (159, [0, 3]), (166, [0, 3]), (179, [0, 3]), (193, [0, 3]), (198, [0, 3]), (207, [0, 3]), (216, [0, 3]), (224, [0, 3]), (231, [0, 3]), (244, [0, 3]), (248, [0, 3]), (253, [0, 3]), (262, [0, 3]), (271, [0, 3]), (280, [0, 3]), (287, [0, 3]), (300, [0, 3]), (304, [0, 3]), (309, [0, 3]), (318, [0, 3]), (325, [0, 3]), (332, [0, 3]), (344, [0]), (360, [0]), (365, [0]), (370, [])] 400 ⟨fun q0 => ((h).1 q0), fun q0 => ((h).2 q0)⟩
theorem kb_X11_expression_207 {d L : Nat} {fz t : Bool} {Q : pm_R → pm_H → Prop} {x3 : Int32} {r : Int32} {fz1 : Bool} {I : Nat → Nat → Int32} {J : Nat → Nat → Int64}
    (h : ((¬ r = (nI 0) → pm_Ev d 142 [.ref 85, .int (nI 5)] (pm_hp L fz t I J) (K_X11_expression_224 d fz t Q x3)) ∧ (r = (nI 0) → pm_Ev d 135 [.ref 85, .int (nI 45)] (pm_hp L fz t I J) (K_X11_expression_216 d fz t Q x3)))) :
    K_X11_expression_207 d fz t Q x3 (.inl (some (.int r))) (pm_hp L fz1 t I J) := b_X11_expression_207 h
set_option maxRecDepth 100000 in
theorem b_X11_expression_159 {d L : Nat} {fz t : Bool} {Q : pm_R → pm_H → Prop} {x3 : Int32} {I : Nat → Nat → Int32} {J : Nat → Nat → Int64}
    (h : pm_Ev d 135 [.ref 85, .int (nI 60)] (pm_hp L fz t I J) (K_X11_expression_166 d fz t Q x3)) :
    t_X11_expression_159 d L fz t Q x3 I J := by
  exact pm_go d [(4, [0, 1, 2]), (32, [0]), (37, [0]), (39, [0, 3]), (47, [0, 3]), (54, [0, 3]), (86, [0, 3, 4]), (102, [0, 3]), (116, [0, 3]), (121, [0, 3]), (130, [0, 3]), (139, [0, 3]), (159, [0, 3]), (166, [0, 3]), (179, [0, 3]), (193, [0, 3]), (198, [0, 3]), (207, [0, 3]), (216, [0, 3]), (224, [0, 3]), (231, [0, 3]), (244, [0, 3]), (248, [0, 3]), (253, [0, 3]), (262, [0, 3]), (271, [0, 3]), (280, [0, 3]), (287, [0, 3]), (300, [0, 3]), (304, [0, 3]), (309, [0, 3]), (318, [0, 3]), (325, [0, 3]), (332, [0, 3]), (344, [0]), (360, [0]), (365, [0]), (370, [])] 400 h
theorem kb_X11_expression_159 {d L : Nat} {fz t : Bool} {Q : pm_R → pm_H → Prop} {x3 : Int32} {fz1 : Bool} {I : Nat → Nat → Int32} {J : Nat → Nat → Int64}
    (h : pm_Ev d 135 [.ref 85, .int (nI 60)] (pm_hp L fz t I J) (K_X11_expression_166 d fz t Q x3)) :
    K_X11_expression_159 d fz t Q x3 (.inl none) (pm_hp L fz1 t I J) := b_X11_expression_159 h
set_option maxRecDepth 100000 in
theorem b_X11_expression_139 {d L : Nat} {fz t : Bool} {Q : pm_R → pm_H → Prop} {x3 : Int32} {r : Int32} {I : Nat → Nat → Int32} {J : Nat → Nat → Int64}
    (h : ((r = (nI 0) → pm_Ev d 135 [.ref 85, .int (nI 43)] (pm_hp L fz t I J) (K_X11_expression_207 d fz t Q x3)) ∧ (¬ r = (nI 0) → (vp_in (I 85 36) 9 ∧ ((¬ (I 102 ((I 85 36)).toNatClampNeg) = (nI 0) → pm_Ev d 135 [.ref 85, .int (nI 43)] (pm_hp L fz t I J) (K_X11_expression_207 d fz t Q x3)) ∧ ((I 102 ((I 85 36)).toNatClampNeg) = (nI 0) → pm_Ev d 142 [.ref 85, .int (nI 4)] (pm_hp L fz t I J) (K_X11_expression_159 d fz t Q x3))))))) :
    t_X11_expression_139 d L fz t Q x3 r I J := by
  exact pm_go d [(4, [0, 1, 2]), (32, [0]), (37, [0]), (39, [0, 3]), (47, [0, 3]), (54, [0, 3]), (86, [0, 3, 4]), (102, [0, 3]), (116, [0, 3]), (121, [0, 3]), (130, [0, 3]), (139, [0, 3]), (159, [0, 3]), (166, [0, 3]), (179, [0, 3]), (193, [0, 3]), (198, [0, 3]), (207, [0, 3]), (216, [0, 3]), (224, [0, 3]), (231, [0, 3]), (244, [0, 3]), (248, [0, 3]), (253, [0, 3]), (262, [0, 3]), (271, [0, 3]), (280, [0, 3]), (287, [0, 3]), (300, [0, 3]), (304, [0, 3]), (309, [0, 3]), (318, [0, 3]), (325, [0, 3]), (332, [0, 3]), (344, [0]), (360, [0]), (365, [0]), (370, [])] 400 ⟨fun q0 => ((h).1 q0), fun q0 => ⟨(((h).2 q0)).1, ⟨fun q1 => (((((h).2 q0)).2).1 q1), fun q1 => (((((h).2 q0)).2).2 q1)⟩⟩⟩
theorem kb_X11_expression_139 {d L : Nat} {fz t : Bool} {Q : pm_R → pm_H → Prop} {x3 : Int32} {r : Int32} {fz1 : Bool} {I : Nat → Nat → Int32} {J : Nat → Nat → Int64}
    (h : ((r = (nI 0) → pm_Ev d 135 [.ref 85, .int (nI 43)] (pm_hp L fz t I J) (K_X11_expression_207 d fz t Q x3)) ∧ (¬ r = (nI 0) → (vp_in (I 85 36) 9 ∧ ((¬ (I 102 ((I 85 36)).toNatClampNeg) = (nI 0) → pm_Ev d 135 [.ref 85, .int (nI 43)] (pm_hp L fz t I J) (K_X11_expression_207 d fz t Q x3)) ∧ ((I 102 ((I 85 36)).toNatClampNeg) = (nI 0) → pm_Ev d 142 [.ref 85, .int (nI 4)] (pm_hp L fz t I J) (K_X11_expression_159 d fz t Q x3))))))) :
    K_X11_expression_139 d fz t Q x3 (.inl (some (.int r))) (pm_hp L fz1 t I J) := b_X11_expression_139 h
set_option maxRecDepth 100000 in
theorem b_X11_expression_116 {d L : Nat} {fz t : Bool} {Q : pm_R → pm_H → Prop} {x3 : Int32} {I : Nat → Nat → Int32} {J : Nat → Nat → Int64}
    (h : pm_Ev d 146 [.ref 85, .int (nI 1)] (pm_hp L fz t I J) (K_X11_expression_121 d fz t Q x3)) :
    t_X11_expression_116 d L fz t Q x3 I J := by
  exact pm_go d [(4, [0, 1, 2]), (32, [0]), (37, [0]), (39, [0, 3]), (47, [0, 3]), (54, [0, 3]), (86, [0, 3, 4]), (102, [0, 3]), (116, [0, 3]), (121, [0, 3]), (130, [0, 3]), (139, [0, 3]), (159, [0, 3]), (166, [0, 3]), (179, [0, 3]), (193, [0, 3]), (198, [0, 3]), (207, [0, 3]), (216, [0, 3]), (224, [0, 3]), (231, [0, 3]), (244, [0, 3]), (248, [0, 3]), (253, [0, 3]), (262, [0, 3]), (271, [0, 3]), (280, [0, 3]), (287, [0, 3]), (300, [0, 3]), (304, [0, 3]), (309, [0, 3]), (318, [0, 3]), (325, [0, 3]), (332, [0, 3]), (344, [0]), (360, [0]), (365, [0]), (370, [])] 400 h
theorem kb_X11_expression_116 {d L : Nat} {fz t : Bool} {Q : pm_R → pm_H → Prop} {x3 : Int32} {fz1 : Bool} {I : Nat → Nat → Int32} {J : Nat → Nat → Int64}
    (h : pm_Ev d 146 [.ref 85, .int (nI 1)] (pm_hp L fz t I J) (K_X11_expression_121 d fz t Q x3)) :
    K_X11_expression_116 d fz t Q x3 (.inl none) (pm_hp L fz1 t I J) := b_X11_expression_116 h
set_option maxRecDepth 100000 in
theorem b_X11_expression_224 {d L : Nat} {fz t : Bool} {Q : pm_R → pm_H → Prop} {x3 : Int32} {I : Nat → Nat → Int32} {J : Nat → Nat → Int64}
    (h : pm_Ev d 135 [.ref 85, .int (nI 43)] (pm_hp L fz t I J) (K_X11_expression_231 d fz t Q x3)) :
    t_X11_expression_224 d L fz t Q x3 I J := by
  exact pm_go d [(4, [0, 1, 2]), (32, [0]), (37, [0]), (39, [0, 3]), (47, [0, 3]), (54, [0, 3]), (86, [0, 3, 4]), (102, [0, 3]), (116, [0, 3]), (121, [0, 3]), (130, [0, 3]), (139, [0, 3]), (159, [0, 3]), (166, [0, 3]), (179, [0, 3]), (193, [0, 3]), (198, [0, 3]), (207, [0, 3]), (216, [0, 3]), (224, [0, 3]), (231, [0, 3]), (244, [0, 3]), (248, [0, 3]), (253, [0, 3]), (262, [0, 3]), (271, [0, 3]), (280, [0, 3]), (287, [0, 3]), (300, [0, 3]), (304, [0, 3]), (309, [0, 3]), (318, [0, 3]), (325, [0, 3]), (332, [0, 3]), (344, [0]), (360, [0]), (365, [0]), (370, [])] 400 h
theorem kb_X11_expression_224 {d L : Nat} {fz t : Bool} {Q : pm_R → pm_H → Prop} {x3 : Int32} {fz1 : Bool} {I : Nat → Nat → Int32} {J : Nat → Nat → Int64}
    (h : pm_Ev d 135 [.ref 85, .int (nI 43)] (pm_hp L fz t I J) (K_X11_expression_231 d fz t Q x3)) :
    K_X11_expression_224 d fz t Q x3 (.inl none) (pm_hp L fz1 t I J) := b_X11_expression_224 h
set_option maxRecDepth 100000 in
theorem b_X11_expression_216 {d L : Nat} {fz t : Bool} {Q : pm_R → pm_H → Prop} {x3 : Int32} {r : Int32} {I : Nat → Nat → Int32} {J : Nat → Nat → Int64}
    (h : ((r = (nI 0) → pm_Ev d 135 [.ref 85, .int (nI 42)] (pm_hp L fz t I J) (K_X11_expression_262 d fz t Q x3)) ∧ (¬ r = (nI 0) → pm_Ev d 142 [.ref 85, .int (nI 5)] (pm_hp L fz t I J) (K_X11_expression_224 d fz t Q x3)))) :
    t_X11_expression_216 d L fz t Q x3 r I J := by
  exact pm_go d [(4, [0, 1, 2]), (32, [0]), (37, [0]), (39, [0, 3]), (47, [0, 3]), (54, [0, 3]), (86, [0, 3, 4]), (102, [0, 3]), (116, [0, 3]), (121, [0, 3]), (130, [0, 3]), (139, [0, 3]), (159, [0, 3]), (166, [0, 3]), (179, [0, 3]), (193, [0, 3]), (198, [0, 3]), (207, [0, 3]), (216, [0, 3]), (224, [0, 3]), (231, [0, 3]), (244, [0, 3]), (248, [0, 3]), (253, [0, 3]), (262, [0, 3]), (271, [0, 3]), (280, [0, 3]), (287, [0, 3]), (300, [0, 3]), (304, [0, 3]), (309, [0, 3]), (318, [0, 3]), (325, [0, 3]), (332, [0, 3]), (344, [0]), (360, [0]), (365, [0]), (370, [])] 400 ⟨fun q0 => ((h).1 q0), fun q0 => ((h).2 q0)⟩
theorem kb_X11_expression_216 {d L : Nat} {fz t : Bool} {Q : pm_R → pm_H → Prop} {x3 : Int32} {r : Int32} {fz1 : Bool} {I : Nat → Nat → Int32} {J : Nat → Nat → Int64}
    (h : ((r = (nI 0) → pm_Ev d 135 [.ref 85, .int (nI 42)] (pm_hp L fz t I J) (K_X11_expression_262 d fz t Q x3)) ∧ (¬ r = (nI 0) → pm_Ev d 142 [.ref 85, .int (nI 5)] (pm_hp L fz t I J) (K_X11_expression_224 d fz t Q x3)))) :
    K_X11_expression_216 d fz t Q x3 (.inl (some (.int r))) (pm_hp L fz1 t I J) := b_X11_expression_216 h
set_option maxRecDepth 100000 in
theorem b_X11_expression_166 {d L : Nat} {fz t : Bool} {Q : pm_R → pm_H → Prop} {x3 : Int32} {r : Int32} {I : Nat → Nat → Int32} {J : Nat → Nat → Int64}
    (h : ((r = (nI 0) → pm_Ev d 143 [.ref 85, .int (nI 7)] (pm_hp L fz t I J) (K_X11_expression_179 d fz t Q x3)) ∧ (¬ r = (nI 0) → pm_Ev d 143 [.ref 85, .int (nI 6)] (pm_hp L fz t I J) (K_X11_expression_179 d fz t Q x3)))) :
    t_X11_expression_166 d L fz t Q x3 r I J := by
  exact pm_go d [(4, [0, 1, 2]), (32, [0]), (37, [0]), (39, [0, 3]), (47, [0, 3]), (54, [0, 3]), (86, [0, 3, 4]), (102, [0, 3]), (116, [0, 3]), (121, [0, 3]), (130, [0, 3]), (139, [0, 3]), (159, [0, 3]), (166, [0, 3]), (179, [0, 3]), (193, [0, 3]), (198, [0, 3]), (207, [0, 3]), (216, [0, 3]), (224, [0, 3]), (231, [0, 3]), (244, [0, 3]), (248, [0, 3]), (253, [0, 3]), (262, [0, 3]), (271, [0, 3]), (280, [0, 3]), (287, [0, 3]), (300, [0, 3]), (304, [0, 3]), (309, [0, 3]), (318, [0, 3]), (325, [0, 3]), (332, [0, 3]), (344, [0]), (360, [0]), (365, [0]), (370, [])] 400 ⟨fun q0 => ((h).1 q0), fun q0 => ((h).2 q0)⟩
theorem kb_X11_expression_166 {d L : Nat} {fz t : Bool} {Q : pm_R → pm_H → Prop} {x3 : Int32} {r : Int32} {fz1 : Bool} {I : Nat → Nat → Int32} {J : Nat → Nat → Int64}
    (h : ((r = (nI 0) → pm_Ev d 143 [.ref 85, .int (nI 7)] (pm_hp L fz t I J) (K_X11_expression_179 d fz t Q x3)) ∧ (¬ r = (nI 0) → pm_Ev d 143 [.ref 85, .int (nI 6)] (pm_hp L fz t I J) (K_X11_expression_179 d fz t Q x3)))) :
    K_X11_expression_166 d fz t Q x3 (.inl (some (.int r))) (pm_hp L fz1 t I J) := b_X11_expression_166 h
set_option maxRecDepth 100000 in
theorem b_X11_expression_121 {d L : Nat} {fz t : Bool} {Q : pm_R → pm_H → Prop} {x3 : Int32} {I : Nat → Nat → Int32} {J : Nat → Nat → Int64}
    (h : t_X11_expression_39 d L fz t Q x3 I J) :
    t_X11_expression_121 d L fz t Q x3 I J := by
  exact pm_go d [(4, [0, 1, 2]), (32, [0]), (37, [0]), (39, [0, 3]), (47, [0, 3]), (54, [0, 3]), (86, [0, 3, 4]), (102, [0, 3]), (116, [0, 3]), (121, [0, 3]), (130, [0, 3]), (139, [0, 3]), (159, [0, 3]), (166, [0, 3]), (179, [0, 3]), (193, [0, 3]), (198, [0, 3]), (207, [0, 3]), (216, [0, 3]), (224, [0, 3]), (231, [0, 3]), (244, [0, 3]), (248, [0, 3]), (253, [0, 3]), (262, [0, 3]), (271, [0, 3]), (280, [0, 3]), (287, [0, 3]), (300, [0, 3]), (304, [0, 3]), (309, [0, 3]), (318, [0, 3]), (325, [0, 3]), (332, [0, 3]), (344, [0]), (360, [0]), (365, [0]), (370, [])] 400 h
theorem kb_X11_expression_121 {d L : Nat} {fz t : Bool} {Q : pm_R → pm_H → Prop} {x3 : Int32} {fz1 : Bool} {I : Nat → Nat → Int32} {J : Nat → Nat → Int64}
    (h : t_X11_expression_39 d L fz t Q x3 I J) :
    K_X11_expression_121 d fz t Q x3 (.inl none) (pm_hp L fz1 t I J) := b_X11_expression_121 h
set_option maxRecDepth 100000 in
theorem b_X11_expression_231 {d L : Nat} {fz t : Bool} {Q : pm_R → pm_H → Prop} {x3 : Int32} {r : Int32} {I : Nat → Nat → Int32} {J : Nat → Nat → Int64}
    (h : ((r = (nI 0) → pm_Ev d 143 [.ref 85, .int (nI 9)] (pm_hp L fz t I J) (K_X11_expression_244 d fz t Q x3)) ∧ (¬ r = (nI 0) → pm_Ev d 143 [.ref 85, .int (nI 8)] (pm_hp L fz t I J) (K_X11_expression_244 d fz t Q x3)))) :
    t_X11_expression_231 d L fz t Q x3 r I J := by
  exact pm_go d [(4, [0, 1, 2]), (32, [0]), (37, [0]), (39, [0, 3]), (47, [0, 3]), (54, [0, 3]), (86, [0, 3, 4]), (102, [0, 3]), (116, [0, 3]), (121, [0, 3]), (130, [0, 3]), (139, [0, 3]), (159, [0, 3]), (166, [0, 3]), (179, [0, 3]), (193, [0, 3]), (198, [0, 3]), (207, [0, 3]), (216, [0, 3]), (224, [0, 3]), (231, [0, 3]), (244, [0, 3]), (248, [0, 3]), (253, [0, 3]), (262, [0, 3]), (271, [0, 3]), (280, [0, 3]), (287, [0, 3]), (300, [0, 3]), (304, [0, 3]), (309, [0, 3]), (318, [0, 3]), (325, [0, 3]), (332, [0, 3]), (344, [0]), (360, [0]), (365, [0]), (370, [])] 400 ⟨fun q0 => ((h).1 q0), fun q0 => ((h).2 q0)⟩
theorem kb_X11_expression_231 {d L : Nat} {fz t : Bool} {Q : pm_R → pm_H → Prop} {x3 : Int32} {r : Int32} {fz1 : Bool} {I : Nat → Nat → Int32} {J : Nat → Nat → Int64}
    (h : ((r = (nI 0) → pm_Ev d 143 [.ref 85, .int (nI 9)] (pm_hp L fz t I J) (K_X11_expression_244 d fz t Q x3)) ∧ (¬ r = (nI 0) → pm_Ev d 143 [.ref 85, .int (nI 8)] (pm_hp L fz t I J) (K_X11_expression_244 d fz t Q x3)))) :
    K_X11_expression_231 d fz t Q x3 (.inl (some (.int r))) (pm_hp L fz1 t I J) := b_X11_expression_231 h
set_option maxRecDepth 100000 in
theorem b_X11_expression_262 {d L : Nat} {fz t : Bool} {Q : pm_R → pm_H → Prop} {x3 : Int32} {r : Int32} {I : Nat → Nat → Int32} {J : Nat → Nat → Int64}
    (h : ((¬ r = (nI 0) → pm_Ev d 142 [.ref 85, .int (nI 6)] (pm_hp L fz t I J) (K_X11_expression_280 d fz t Q x3)) ∧ (r = (nI 0) → pm_Ev d 135 [.ref 85, .int (nI 47)] (pm_hp L fz t I J) (K_X11_expression_271 d fz t Q x3)))) :
    t_X11_expression_262 d L fz t Q x3 r I J := by
  exact pm_go d [(4, [0, 1, 2]), (32, [0]), (37, [0]), (39, [0, 3]), (47, [0, 3]), (54, [0, 3]), (86, [0, 3, 4]), (102, [0, 3]), (116, [0, 3]), (121, [0, 3]), (130, [0, 3]), (139, [0, 3]), (159, [0, 3]), (166, [0, 3]), (179, [0, 3]), (193, [0, 3]), (198, [0, 3]), (207, [0, 3]), (216, [0, 3]), (224, [0, 3]), (231, [0, 3]), (244, [0, 3]), (248, [0, 3]), (253, [0, 3]), (262, [0, 3]), (271, [0, 3]), (280, [0, 3]), (287, [0, 3]), (300, [0, 3]), (304, [0, 3]), (309, [0, 3]), (318, [0, 3]), (325, [0, 3]), (332, [0, 3]), (344, [0]), (360, [0]), (365, [0]), (370, [])] 400 ⟨fun q0 => ((h).1 q0), fun q0 => ((h).2 q0)⟩
theorem kb_X11_expression_262 {d L : Nat} {fz t : Bool} {Q : pm_R → pm_H → Prop} {x3 : Int32} {r : Int32} {fz1 : Bool} {I : Nat → Nat → Int32} {J : Nat → Nat → Int64}
    (h : ((¬ r = (nI 0) → pm_Ev d 142 [.ref 85, .int (nI 6)] (pm_hp L fz t I J) (K_X11_expression_280 d fz t Q x3)) ∧ (r = (nI 0) → pm_Ev d 135 [.ref 85, .int (nI 47)] (pm_hp L fz t I J) (K_X11_expression_271 d fz t Q x3)))) :
    K_X11_expression_262 d fz t Q x3 (.inl (some (.int r))) (pm_hp L fz1 t I J) := b_X11_expression_262 h
set_option maxRecDepth 100000 in
theorem b_X11_expression_179 {d L : Nat} {fz t : Bool} {Q : pm_R → pm_H → Prop} {x3 : Int32} {I : Nat → Nat → Int32} {J : Nat → Nat → Int64}
    (h : (vp_in (I 85 36) 9 ∧ pm_Ev d 129 [.ref 85] (pm_hp L fz t (pm_u I 102 ((I 85 36)).toNatClampNeg (vp_nar .boolean (nI 1))) J) (K_X11_expression_193 d fz t Q x3))) :
    t_X11_expression_179 d L fz t Q x3 I J := by
  exact pm_go d [(4, [0, 1, 2]), (32, [0]), (37, [0]), (39, [0, 3]), (47, [0, 3]), (54, [0, 3]), (86, [0, 3, 4]), (102, [0, 3]), (116, [0, 3]), (121, [0, 3]), (130, [0, 3]), (139, [0, 3]), (159, [0, 3]), (166, [0, 3]), (179, [0, 3]), (193, [0, 3]), (198, [0, 3]), (207, [0, 3]), (216, [0, 3]), (224, [0, 3]), (231, [0, 3]), (244, [0, 3]), (248, [0, 3]), (253, [0, 3]), (262, [0, 3]), (271, [0, 3]), (280, [0, 3]), (287, [0, 3]), (300, [0, 3]), (304, [0, 3]), (309, [0, 3]), (318, [0, 3]), (325, [0, 3]), (332, [0, 3]), (344, [0]), (360, [0]), (365, [0]), (370, [])] 400 ⟨(h).1, (h).2⟩
theorem kb_X11_expression_179 {d L : Nat} {fz t : Bool} {Q : pm_R → pm_H → Prop} {x3 : Int32} {fz1 : Bool} {I : Nat → Nat → Int32} {J : Nat → Nat → Int64}
    (h : (vp_in (I 85 36) 9 ∧ pm_Ev d 129 [.ref 85] (pm_hp L fz t (pm_u I 102 ((I 85 36)).toNatClampNeg (vp_nar .boolean (nI 1))) J) (K_X11_expression_193 d fz t Q x3))) :
    K_X11_expression_179 d fz t Q x3 (.inl none) (pm_hp L fz1 t I J) := b_X11_expression_179 h
set_option maxRecDepth 100000 in
theorem b_X11_expression_244 {d L : Nat} {fz t : Bool} {Q : pm_R → pm_H → Prop} {x3 : Int32} {I : Nat → Nat → Int32} {J : Nat → Nat → Int64}
    (h : pm_Ev d 129 [.ref 85] (pm_hp L fz t I J) (K_X11_expression_248 d fz t Q x3)) :
    t_X11_expression_244 d L fz t Q x3 I J := by
  exact pm_go d [(4, [0, 1, 2]), (32, [0]), (37, [0]), (39, [0, 3]), (47, [0, 3]), (54, [0, 3]), (86, [0, 3, 4]), (102, [0, 3]), (116, [0, 3]), (121, [0, 3]), (130, [0, 3]), (139, [0, 3]), (159, [0, 3]), (166, [0, 3]), (179, [0, 3]), (193, [0, 3]), (198, [0, 3]), (207, [0, 3]), (216, [0, 3]), (224, [0, 3]), (231, [0, 3]), (244, [0, 3]), (248, [0, 3]), (253, [0, 3]), (262, [0, 3]), (271, [0, 3]), (280, [0, 3]), (287, [0, 3]), (300, [0, 3]), (304, [0, 3]), (309, [0, 3]), (318, [0, 3]), (325, [0, 3]), (332, [0, 3]), (344, [0]), (360, [0]), (365, [0]), (370, [])] 400 h
theorem kb_X11_expression_244 {d L : Nat} {fz t : Bool} {Q : pm_R → pm_H → Prop} {x3 : Int32} {fz1 : Bool} {I : Nat → Nat → Int32} {J : Nat → Nat → Int64}
    (h : pm_Ev d 129 [.ref 85] (pm_hp L fz t I J) (K_X11_expression_248 d fz t Q x3)) :
    K_X11_expression_244 d fz t Q x3 (.inl none) (pm_hp L fz1 t I J) := b_X11_expression_244 h
set_option maxRecDepth 100000 in
theorem b_X11_expression_280 {d L : Nat} {fz t : Bool} {Q : pm_R → pm_H → Prop} {x3 : Int32} {I : Nat → Nat → Int32} {J : Nat → Nat → Int64}
    (h : pm_Ev d 135 [.ref 85, .int (nI 42)] (pm_hp L fz t I J) (K_X11_expression_287 d fz t Q x3)) :
    t_X11_expression_280 d L fz t Q x3 I J := by
  exact pm_go d [(4, [0, 1, 2]), (32, [0]), (37, [0]), (39, [0, 3]), (47, [0, 3]), (54, [0, 3]), (86, [0, 3, 4]), (102, [0, 3]), (116, [0, 3]), (121, [0, 3]), (130, [0, 3]), (139, [0, 3]), (159, [0, 3]), (166, [0, 3]), (179, [0, 3]), (193, [0, 3]), (198, [0, 3]), (207, [0, 3]), (216, [0, 3]), (224, [0, 3]), (231, [0, 3]), (244, [0, 3]), (248, [0, 3]), (253, [0, 3]), (262, [0, 3]), (271, [0, 3]), (280, [0, 3]), (287, [0, 3]), (300, [0, 3]), (304, [0, 3]), (309, [0, 3]), (318, [0, 3]), (325, [0, 3]), (332, [0, 3]), (344, [0]), (360, [0]), (365, [0]), (370, [])] 400 h
theorem kb_X11_expression_280 {d L : Nat} {fz t : Bool} {Q : pm_R → pm_H → Prop} {x3 : Int32} {fz1 : Bool} {I : Nat → Nat → Int32} {J : Nat → Nat → Int64}
    (h : pm_Ev d 135 [.ref 85, .int (nI 42)] (pm_hp L fz t I J) (K_X11_expression_287 d fz t Q x3)) :
    K_X11_expression_280 d fz t Q x3 (.inl none) (pm_hp L fz1 t I J) := b_X11_expression_280 h
set_option maxRecDepth 100000 in
theorem b_X11_expression_271 {d L : Nat} {fz t : Bool} {Q : pm_R → pm_H → Prop} {x3 : Int32} {r : Int32} {I : Nat → Nat → Int32} {J : Nat → Nat → Int64}
    (h : ((r = (nI 0) → pm_Ev d 135 [.ref 85, .int (nI 41)] (pm_hp L fz t I J) (K_X11_expression_318 d fz t Q x3)) ∧ (¬ r = (nI 0) → pm_Ev d 142 [.ref 85, .int (nI 6)] (pm_hp L fz t I J) (K_X11_expression_280 d fz t Q x3)))) :
    t_X11_expression_271 d L fz t Q x3 r I J := by
  exact pm_go d [(4, [0, 1, 2]), (32, [0]), (37, [0]), (39, [0, 3]), (47, [0, 3]), (54, [0, 3]), (86, [0, 3, 4]), (102, [0, 3]), (116, [0, 3]), (121, [0, 3]), (130, [0, 3]), (139, [0, 3]), (159, [0, 3]), (166, [0, 3]), (179, [0, 3]), (193, [0, 3]), (198, [0, 3]), (207, [0, 3]), (216, [0, 3]), (224, [0, 3]), (231, [0, 3]), (244, [0, 3]), (248, [0, 3]), (253, [0, 3]), (262, [0, 3]), (271, [0, 3]), (280, [0, 3]), (287, [0, 3]), (300, [0, 3]), (304, [0, 3]), (309, [0, 3]), (318, [0, 3]), (325, [0, 3]), (332, [0, 3]), (344, [0]), (360, [0]), (365, [0]), (370, [])] 400 ⟨fun q0 => ((h).1 q0), fun q0 => ((h).2 q0)⟩
theorem kb_X11_expression_271 {d L : Nat} {fz t : Bool} {Q : pm_R → pm_H → Prop} {x3 : Int32} {r : Int32} {fz1 : Bool} {I : Nat → Nat → Int32} {J : Nat → Nat → Int64}
    (h : ((r = (nI 0) → pm_Ev d 135 [.ref 85, .int (nI 41)] (pm_hp L fz t I J) (K_X11_expression_318 d fz t Q x3)) ∧ (¬ r = (nI 0) → pm_Ev d 142 [.ref 85, .int (nI 6)] (pm_hp L fz t I J) (K_X11_expression_280 d fz t Q x3)))) :
    K_X11_expression_271 d fz t Q x3 (.inl (some (.int r))) (pm_hp L fz1 t I J) := b_X11_expression_271 h
set_option maxRecDepth 100000 in
theorem b_X11_expression_193 {d L : Nat} {fz t : Bool} {Q : pm_R → pm_H → Prop} {x3 : Int32} {I : Nat → Nat → Int32} {J : Nat → Nat → Int64}
    (h : pm_Ev d 146 [.ref 85, .int (nI 0)] (pm_hp L fz t I J) (K_X11_expression_198 d fz t Q x3)) :
    t_X11_expression_193 d L fz t Q x3 I J := by
  exact pm_go d [(4, [0, 1, 2]), (32, [0]), (37, [0]), (39, [0, 3]), (47, [0, 3]), (54, [0, 3]), (86, [0, 3, 4]), (102, [0, 3]), (116, [0, 3]), (121, [0, 3]), (130, [0, 3]), (139, [0, 3]), (159, [0, 3]), (166, [0, 3]), (179, [0, 3]), (193, [0, 3]), (198, [0, 3]), (207, [0, 3]), (216, [0, 3]), (224, [0, 3]), (231, [0, 3]), (244, [0, 3]), (248, [0, 3]), (253, [0, 3]), (262, [0, 3]), (271, [0, 3]), (280, [0, 3]), (287, [0, 3]), (300, [0, 3]), (304, [0, 3]), (309, [0, 3]), (318, [0, 3]), (325, [0, 3]), (332, [0, 3]), (344, [0]), (360, [0]), (365, [0]), (370, [])] 400 h
theorem kb_X11_expression_193 {d L : Nat} {fz t : Bool} {Q : pm_R → pm_H → Prop} {x3 : Int32} {fz1 : Bool} {I : Nat → Nat → Int32} {J : Nat → Nat → Int64}
    (h : pm_Ev d 146 [.ref 85, .int (nI 0)] (pm_hp L fz t I J) (K_X11_expression_198 d fz t Q x3)) :
    K_X11_expression_193 d fz t Q x3 (.inl none) (pm_hp L fz1 t I J) := b_X11_expression_193 h
set_option maxRecDepth 100000 in
theorem b_X11_expression_248 {d L : Nat} {fz t : Bool} {Q : pm_R → pm_H → Prop} {x3 : Int32} {I : Nat → Nat → Int32} {J : Nat → Nat → Int64}
    (h : pm_Ev d 146 [.ref 85, .int (nI 0)] (pm_hp L fz t I J) (K_X11_expression_253 d fz t Q x3)) :
    t_X11_expression_248 d L fz t Q x3 I J := by
  exact pm_go d [(4, [0, 1, 2]), (32, [0]), (37, [0]), (39, [0, 3]), (47, [0, 3]), (54, [0, 3]), (86, [0, 3, 4]), (102, [0, 3]), (116, [0, 3]), (121, [0, 3]), (130, [0, 3]), (139, [0, 3]), (159, [0, 3]), (166, [0, 3]), (179, [0, 3]), (193, [0, 3]), (198, [0, 3]), (207, [0, 3]), (216, [0, 3]), (224, [0, 3]), (231, [0, 3]), (244, [0, 3]), (248, [0, 3]), (253, [0, 3]), (262, [0, 3]), (271, [0, 3]), (280, [0, 3]), (287, [0, 3]), (300, [0, 3]), (304, [0, 3]), (309, [0, 3]), (318, [0, 3]), (325, [0, 3]), (332, [0, 3]), (344, [0]), (360, [0]), (365, [0]), (370, [])] 400 h
theorem kb_X11_expression_248 {d L : Nat} {fz t : Bool} {Q : pm_R → pm_H → Prop} {x3 : Int32} {fz1 : Bool} {I : Nat → Nat → Int32} {J : Nat → Nat → Int64}
    (h : pm_Ev d 146 [.ref 85, .int (nI 0)] (pm_hp L fz t I J) (K_X11_expression_253 d fz t Q x3)) :
    K_X11_expression_248 d fz t Q x3 (.inl none) (pm_hp L fz1 t I J) := b_X11_expression_248 h
set_option maxRecDepth 100000 in
theorem b_X11_expression_287 {d L : Nat} {fz t : Bool} {Q : pm_R → pm_H → Prop} {x3 : Int32} {r : Int32} {I : Nat → Nat → Int32} {J : Nat → Nat → Int64}
    (h : ((r = (nI 0) → pm_Ev d 143 [.ref 85, .int (nI 11)] (pm_hp L fz t I J) (K_X11_expression_300 d fz t Q x3)) ∧ (¬ r = (nI 0) → pm_Ev d 143 [.ref 85, .int (nI 10)] (pm_hp L fz t I J) (K_X11_expression_300 d fz t Q x3)))) :
    t_X11_expression_287 d L fz t Q x3 r I J := by
  exact pm_go d [(4, [0, 1, 2]), (32, [0]), (37, [0]), (39, [0, 3]), (47, [0, 3]), (54, [0, 3]), (86, [0, 3, 4]), (102, [0, 3]), (116, [0, 3]), (121, [0, 3]), (130, [0, 3]), (139, [0, 3]), (159, [0, 3]), (166, [0, 3]), (179, [0, 3]), (193, [0, 3]), (198, [0, 3]), (207, [0, 3]), (216, [0, 3]), (224, [0, 3]), (231, [0, 3]), (244, [0, 3]), (248, [0, 3]), (253, [0, 3]), (262, [0, 3]), (271, [0, 3]), (280, [0, 3]), (287, [0, 3]), (300, [0, 3]), (304, [0, 3]), (309, [0, 3]), (318, [0, 3]), (325, [0, 3]), (332, [0, 3]), (344, [0]), (360, [0]), (365, [0]), (370, [])] 400 ⟨fun q0 => ((h).1 q0), fun q0 => ((h).2 q0)⟩
theorem kb_X11_expression_287 {d L : Nat} {fz t : Bool} {Q : pm_R → pm_H → Prop} {x3 : Int32} {r : Int32} {fz1 : Bool} {I : Nat → Nat → Int32} {J : Nat → Nat → Int64}
    (h : ((r = (nI 0) → pm_Ev d 143 [.ref 85, .int (nI 11)] (pm_hp L fz t I J) (K_X11_expression_300 d fz t Q x3)) ∧ (¬ r = (nI 0) → pm_Ev d 143 [.ref 85, .int (nI 10)] (pm_hp L fz t I J) (K_X11_expression_300 d fz t Q x3)))) :
    K_X11_expression_287 d fz t Q x3 (.inl (some (.int r))) (pm_hp L fz1 t I J) := b_X11_expression_287 h
set_option maxRecDepth 100000 in
theorem b_X11_expression_318 {d L : Nat} {fz t : Bool} {Q : pm_R → pm_H → Prop} {x3 : Int32} {r : Int32} {I : Nat → Nat → Int32} {J : Nat → Nat → Int64}
    (h : ((r = (nI 0) → t_X11_expression_39 d L fz t Q (nI 0) I J) ∧ (¬ r = (nI 0) → pm_Ev d 147 [.ref 85] (pm_hp L fz t I J) (K_X11_expression_325 d fz t Q x3)))) :
    t_X11_expression_318 d L fz t Q x3 r I J := by
  exact pm_go d [(4, [0, 1, 2]), (32, [0]), (37, [0]), (39, [0, 3]), (47, [0, 3]), (54, [0, 3]), (86, [0, 3, 4]), (102, [0, 3]), (116, [0, 3]), (121, [0, 3]), (130, [0, 3]), (139, [0, 3]), (159, [0, 3]), (166, [0, 3]), (179, [0, 3]), (193, [0, 3]), (198, [0, 3]), (207, [0, 3]), (216, [0, 3]), (224, [0, 3]), (231, [0, 3]), (244, [0, 3]), (248, [0, 3]), (253, [0, 3]), (262, [0, 3]), (271, [0, 3]), (280, [0, 3]), (287, [0, 3]), (300, [0, 3]), (304, [0, 3]), (309, [0, 3]), (318, [0, 3]), (325, [0, 3]), (332, [0, 3]), (344, [0]), (360, [0]), (365, [0]), (370, [])] 400 ⟨fun q0 => ((h).1 q0), fun q0 => ((h).2 q0)⟩
theorem kb_X11_expression_318 {d L : Nat} {fz t : Bool} {Q : pm_R → pm_H → Prop} {x3 : Int32} {r : Int32} {fz1 : Bool} {I : Nat → Nat → Int32} {J : Nat → Nat → Int64}
    (h : ((r = (nI 0) → t_X11_expression_39 d L fz t Q (nI 0) I J) ∧ (¬ r = (nI 0) → pm_Ev d 147 [.ref 85] (pm_hp L fz t I J) (K_X11_expression_325 d fz t Q x3)))) :
    K_X11_expression_318 d fz t Q x3 (.inl (some (.int r))) (pm_hp L fz1 t I J) := b_X11_expression_318 h
set_option maxRecDepth 100000 in
theorem b_X11_expression_198 {d L : Nat} {fz t : Bool} {Q : pm_R → pm_H → Prop} {x3 : Int32} {I : Nat → Nat → Int32} {J : Nat → Nat → Int64}
    (h : t_X11_expression_39 d L fz t Q x3 I J) :
    t_X11_expression_198 d L fz t Q x3 I J := by
  exact pm_go d [(4, [0, 1, 2]), (32, [0]), (37, [0]), (39, [0, 3]), (47, [0, 3]), (54, [0, 3]), (86, [0, 3, 4]), (102, [0, 3]), (116, [0, 3]), (121, [0, 3]), (130, [0, 3]), (139, [0, 3]), (159, [0, 3]), (166, [0, 3]), (179, [0, 3]), (193, [0, 3]), (198, [0, 3]), (207, [0, 3]), (216, [0, 3]), (224, [0, 3]), (231, [0, 3]), (244, [0, 3]), (248, [0, 3]), (253, [0, 3]), (262, [0, 3]), (271, [0, 3]), (280, [0, 3]), (287, [0, 3]), (300, [0, 3]), (304, [0, 3]), (309, [0, 3]), (318, [0, 3]), (325, [0, 3]), (332, [0, 3]), (344, [0]), (360, [0]), (365, [0]), (370, [])] 400 h
theorem kb_X11_expression_198 {d L : Nat} {fz t : Bool} {Q : pm_R → pm_H → Prop} {x3 : Int32} {fz1 : Bool} {I : Nat → Nat → Int32} {J : Nat → Nat → Int64}
    (h : t_X11_expression_39 d L fz t Q x3 I J) :
    K_X11_expression_198 d fz t Q x3 (.inl none) (pm_hp L fz1 t I J) := b_X11_expression_198 h
set_option maxRecDepth 100000 in
theorem b_X11_expression_253 {d L : Nat} {fz t : Bool} {Q : pm_R → pm_H → Prop} {x3 : Int32} {I : Nat → Nat → Int32} {J : Nat → Nat → Int64}
    (h : t_X11_expression_39 d L fz t Q x3 I J) :
    t_X11_expression_253 d L fz t Q x3 I J := by
  exact pm_go d [(4, [0, 1, 2]), (32, [0]), (37, [0]), (39, [0, 3]), (47, [0, 3]), (54, [0, 3]), (86, [0, 3, 4]), (102, [0, 3]), (116, [0, 3]), (121, [0, 3]), (130, [0, 3]), (139, [0, 3]), (159, [0, 3]), (166, [0, 3]), (179, [0, 3]), (193, [0, 3]), (198, [0, 3]), (207, [0, 3]), (216, [0, 3]), (224, [0, 3]), (231, [0, 3]), (244, [0, 3]), (248, [0, 3]), (253, [0, 3]), (262, [0, 3]), (271, [0, 3]), (280, [0, 3]), (287, [0, 3]), (300, [0, 3]), (304, [0, 3]), (309, [0, 3]), (318, [0, 3]), (325, [0, 3]), (332, [0, 3]), (344, [0]), (360, [0]), (365, [0]), (370, [])] 400 h
theorem kb_X11_expression_253 {d L : Nat} {fz t : Bool} {Q : pm_R → pm_H → Prop} {x3 : Int32} {fz1 : Bool} {I : Nat → Nat → Int32} {J : Nat → Nat → Int64}
    (h : t_X11_expression_39 d L fz t Q x3 I J) :
    K_X11_expression_253 d fz t Q x3 (.inl none) (pm_hp L fz1 t I J) := b_X11_expression_253 h
set_option maxRecDepth 100000 in
theorem b_X11_expression_300 {d L : Nat} {fz t : Bool} {Q : pm_R → pm_H → Prop} {x3 : Int32} {I : Nat → Nat → Int32} {J : Nat → Nat → Int64}
    (h : pm_Ev d 129 [.ref 85] (pm_hp L fz t I J) (K_X11_expression_304 d fz t Q x3)) :
    t_X11_expression_300 d L fz t Q x3 I J := by
  exact pm_go d [(4, [0, 1, 2]), (32, [0]), (37, [0]), (39, [0, 3]), (47, [0, 3]), (54, [0, 3]), (86, [0, 3, 4]), (102, [0, 3]), (116, [0, 3]), (121, [0, 3]), (130, [0, 3]), (139, [0, 3]), (159, [0, 3]), (166, [0, 3]), (179, [0, 3]), (193, [0, 3]), (198, [0, 3]), (207, [0, 3]), (216, [0, 3]), (224, [0, 3]), (231, [0, 3]), (244, [0, 3]), (248, [0, 3]), (253, [0, 3]), (262, [0, 3]), (271, [0, 3]), (280, [0, 3]), (287, [0, 3]), (300, [0, 3]), (304, [0, 3]), (309, [0, 3]), (318, [0, 3]), (325, [0, 3]), (332, [0, 3]), (344, [0]), (360, [0]), (365, [0]), (370, [])] 400 h
theorem kb_X11_expression_300 {d L : Nat} {fz t : Bool} {Q : pm_R → pm_H → Prop} {x3 : Int32} {fz1 : Bool} {I : Nat → Nat → Int32} {J : Nat → Nat → Int64}
    (h : pm_Ev d 129 [.ref 85] (pm_hp L fz t I J) (K_X11_expression_304 d fz t Q x3)) :
    K_X11_expression_300 d fz t Q x3 (.inl none) (pm_hp L fz1 t I J) := b_X11_expression_300 h
set_option maxRecDepth 100000 in
theorem b_X11_expression_325 {d L : Nat} {fz t : Bool} {Q : pm_R → pm_H → Prop} {x3 : Int32} {r : Int32} {I : Nat → Nat → Int32} {J : Nat → Nat → Int64}
    (h : ((r = (nI 0) → t_X11_expression_39 d L fz t Q (nI 0) I J) ∧ (¬ r = (nI 0) → pm_Ev d 148 [.ref 85] (pm_hp L fz t I J) (K_X11_expression_332 d fz t Q x3)))) :
    t_X11_expression_325 d L fz t Q x3 r I J := by
  exact pm_go d [(4, [0, 1, 2]), (32, [0]), (37, [0]), (39, [0, 3]), (47, [0, 3]), (54, [0, 3]), (86, [0, 3, 4]), (102, [0, 3]), (116, [0, 3]), (121, [0, 3]), (130, [0, 3]), (139, [0, 3]), (159, [0, 3]), (166, [0, 3]), (179, [0, 3]), (193, [0, 3]), (198, [0, 3]), (207, [0, 3]), (216, [0, 3]), (224, [0, 3]), (231, [0, 3]), (244, [0, 3]), (248, [0, 3]), (253, [0, 3]), (262, [0, 3]), (271, [0, 3]), (280, [0, 3]), (287, [0, 3]), (300, [0, 3]), (304, [0, 3]), (309, [0, 3]), (318, [0, 3]), (325, [0, 3]), (332, [0, 3]), (344, [0]), (360, [0]), (365, [0]), (370, [])] 400 ⟨fun q0 => ((h).1 q0), fun q0 => ((h).2 q0)⟩
theorem kb_X11_expression_325 {d L : Nat} {fz t : Bool} {Q : pm_R → pm_H → Prop} {x3 : Int32} {r : Int32} {fz1 : Bool} {I : Nat → Nat → Int32} {J : Nat → Nat → Int64}
    (h : ((r = (nI 0) → t_X11_expression_39 d L fz t Q (nI 0) I J) ∧ (¬ r = (nI 0) → pm_Ev d 148 [.ref 85] (pm_hp L fz t I J) (K_X11_expression_332 d fz t Q x3)))) :
    K_X11_expression_325 d fz t Q x3 (.inl (some (.int r))) (pm_hp L fz1 t I J) := b_X11_expression_325 h
set_option maxRecDepth 100000 in
theorem b_X11_expression_304 {d L : Nat} {fz t : Bool} {Q : pm_R → pm_H → Prop} {x3 : Int32} {I : Nat → Nat → Int32} {J : Nat → Nat → Int64}
    (h : pm_Ev d 146 [.ref 85, .int (nI 0)] (pm_hp L fz t I J) (K_X11_expression_309 d fz t Q x3)) :
    t_X11_expression_304 d L fz t Q x3 I J := by
  exact pm_go d [(4, [0, 1, 2]), (32, [0]), (37, [0]), (39, [0, 3]), (47, [0, 3]), (54, [0, 3]), (86, [0, 3, 4]), (102, [0, 3]), (116, [0, 3]), (121, [0, 3]), (130, [0, 3]), (139, [0, 3]), (159, [0, 3]), (166, [0, 3]), (179, [0, 3]), (193, [0, 3]), (198, [0, 3]), (207, [0, 3]), (216, [0, 3]), (224, [0, 3]), (231, [0, 3]), (244, [0, 3]), (248, [0, 3]), (253, [0, 3]), (262, [0, 3]), (271, [0, 3]), (280, [0, 3]), (287, [0, 3]), (300, [0, 3]), (304, [0, 3]), (309, [0, 3]), (318, [0, 3]), (325, [0, 3]), (332, [0, 3]), (344, [0]), (360, [0]), (365, [0]), (370, [])] 400 h
theorem kb_X11_expression_304 {d L : Nat} {fz t : Bool} {Q : pm_R → pm_H → Prop} {x3 : Int32} {fz1 : Bool} {I : Nat → Nat → Int32} {J : Nat → Nat → Int64}
    (h : pm_Ev d 146 [.ref 85, .int (nI 0)] (pm_hp L fz t I J) (K_X11_expression_309 d fz t Q x3)) :
    K_X11_expression_304 d fz t Q x3 (.inl none) (pm_hp L fz1 t I J) := b_X11_expression_304 h
set_option maxRecDepth 100000 in
theorem b_X11_expression_332 {d L : Nat} {fz t : Bool} {Q : pm_R → pm_H → Prop} {x3 : Int32} {I : Nat → Nat → Int32} {J : Nat → Nat → Int64}
    (h : t_X11_expression_39 d L fz t Q x3 I J) :
    t_X11_expression_332 d L fz t Q x3 I J := by
  exact pm_go d [(4, [0, 1, 2]), (32, [0]), (37, [0]), (39, [0, 3]), (47, [0, 3]), (54, [0, 3]), (86, [0, 3, 4]), (102, [0, 3]), (116, [0, 3]), (121, [0, 3]), (130, [0, 3]), (139, [0, 3]), (159, [0, 3]), (166, [0, 3]), (179, [0, 3]), (193, [0, 3]), (198, [0, 3]), (207, [0, 3]), (216, [0, 3]), (224, [0, 3]), (231, [0, 3]), (244, [0, 3]), (248, [0, 3]), (253, [0, 3]), (262, [0, 3]), (271, [0, 3]), (280, [0, 3]), (287, [0, 3]), (300, [0, 3]), (304, [0, 3]), (309, [0, 3]), (318, [0, 3]), (325, [0, 3]), (332, [0, 3]), (344, [0]), (360, [0]), (365, [0]), (370, [])] 400 h
theorem kb_X11_expression_332 {d L : Nat} {fz t : Bool} {Q : pm_R → pm_H → Prop} {x3 : Int32} {fz1 : Bool} {I : Nat → Nat → Int32} {J : Nat → Nat → Int64}
    (h : t_X11_expression_39 d L fz t Q x3 I J) :
    K_X11_expression_332 d fz t Q x3 (.inl none) (pm_hp L fz1 t I J) := b_X11_expression_332 h
set_option maxRecDepth 100000 in
theorem b_X11_expression_309 {d L : Nat} {fz t : Bool} {Q : pm_R → pm_H → Prop} {x3 : Int32} {I : Nat → Nat → Int32} {J : Nat → Nat → Int64}
    (h : t_X11_expression_39 d L fz t Q x3 I J) :
    t_X11_expression_309 d L fz t Q x3 I J := by
  exact pm_go d [(4, [0, 1, 2]), (32, [0]), (37, [0]), (39, [0, 3]), (47, [0, 3]), (54, [0, 3]), (86, [0, 3, 4]), (102, [0, 3]), (116, [0, 3]), (121, [0, 3]), (130, [0, 3]), (139, [0, 3]), (159, [0, 3]), (166, [0, 3]), (179, [0, 3]), (193, [0, 3]), (198, [0, 3]), (207, [0, 3]), (216, [0, 3]), (224, [0, 3]), (231, [0, 3]), (244, [0, 3]), (248, [0, 3]), (253, [0, 3]), (262, [0, 3]), (271, [0, 3]), (280, [0, 3]), (287, [0, 3]), (300, [0, 3]), (304, [0, 3]), (309, [0, 3]), (318, [0, 3]), (325, [0, 3]), (332, [0, 3]), (344, [0]), (360, [0]), (365, [0]), (370, [])] 400 h
theorem kb_X11_expression_309 {d L : Nat} {fz t : Bool} {Q : pm_R → pm_H → Prop} {x3 : Int32} {fz1 : Bool} {I : Nat → Nat → Int32} {J : Nat → Nat → Int64}
    (h : t_X11_expression_39 d L fz t Q x3 I J) :
    K_X11_expression_309 d fz t Q x3 (.inl none) (pm_hp L fz1 t I J) := b_X11_expression_309 h
def t_X11_readsCard_0 (d L : Nat) (fz t : Bool) (Q : pm_R → pm_H → Prop) (I : Nat → Nat → Int32) (J : Nat → Nat → Int64) : Prop := pm_T (pm_Ev d) 150 Q (0, [(0, .ref 85)], [], pm_hp L fz t I J, 0, 0)
def t_X11_readsCard_14 (d L : Nat) (fz t : Bool) (Q : pm_R → pm_H → Prop) (I : Nat → Nat → Int32) (J : Nat → Nat → Int64) : Prop := pm_T (pm_Ev d) 150 Q (14, [(0, .ref 85)], [], pm_hp L fz t I J, 0, 0)
def K_X11_readsCard_14 (d : Nat) (fz t : Bool) (Q : pm_R → pm_H → Prop) : pm_R → pm_H → Prop := pm_K d 150 Q 14 [(0, .ref 85)] [] 118 0 fz 0 0
def t_X11_readsCard_18 (d L : Nat) (fz t : Bool) (Q : pm_R → pm_H → Prop) (r : Int32) (I : Nat → Nat → Int32) (J : Nat → Nat → Int64) : Prop := pm_T (pm_Ev d) 150 Q (18, [(0, .ref 85)], [.int r], pm_hp L fz t I J, 0, 0)
def K_X11_readsCard_18 (d : Nat) (fz t : Bool) (Q : pm_R → pm_H → Prop) : pm_R → pm_H → Prop := pm_K d 150 Q 18 [(0, .ref 85)] [] 118 0 fz 0 0
def t_X11_readsCard_26 (d L : Nat) (fz t : Bool) (Q : pm_R → pm_H → Prop) (I : Nat → Nat → Int32) (J : Nat → Nat → Int64) : Prop := pm_T (pm_Ev d) 150 Q (26, [(0, .ref 85)], [], pm_hp L fz t I J, 0, 0)
def K_X11_readsCard_26 (d : Nat) (fz t : Bool) (Q : pm_R → pm_H → Prop) : pm_R → pm_H → Prop := pm_K d 150 Q 26 [(0, .ref 85)] [] 118 0 fz 0 0
def t_X11_readsCard_44 (d L : Nat) (fz t : Bool) (Q : pm_R → pm_H → Prop) (s1 : Int32) (r : Int32) (I : Nat → Nat → Int32) (J : Nat → Nat → Int64) : Prop := pm_T (pm_Ev d) 150 Q (44, [(0, .ref 85)], [.int r, .int s1, .ref 99], pm_hp L fz t I J, 0, 0)
def K_X11_readsCard_44 (d : Nat) (fz t : Bool) (Q : pm_R → pm_H → Prop) (s1 : Int32) : pm_R → pm_H → Prop := pm_K d 150 Q 44 [(0, .ref 85)] [.int s1, .ref 99] 118 0 fz 0 0
def t_X11_readsCard_60 (d L : Nat) (fz t : Bool) (Q : pm_R → pm_H → Prop) (s1 : Int32) (r : Int32) (I : Nat → Nat → Int32) (J : Nat → Nat → Int64) : Prop := pm_T (pm_Ev d) 150 Q (60, [(0, .ref 85)], [.int r, .int s1, .ref 94], pm_hp L fz t I J, 0, 0)
def K_X11_readsCard_60 (d : Nat) (fz t : Bool) (Q : pm_R → pm_H → Prop) (s1 : Int32) : pm_R → pm_H → Prop := pm_K d 150 Q 60 [(0, .ref 85)] [.int s1, .ref 94] 118 0 fz 0 0
def t_X11_readsCard_79 (d L : Nat) (fz t : Bool) (Q : pm_R → pm_H → Prop) (s1 : Int32) (r : Int32) (I : Nat → Nat → Int32) (J : Nat → Nat → Int64) : Prop := pm_T (pm_Ev d) 150 Q (79, [(0, .ref 85)], [.int r, .int s1, .ref 99], pm_hp L fz t I J, 0, 0)
def K_X11_readsCard_79 (d : Nat) (fz t : Bool) (Q : pm_R → pm_H → Prop) (s1 : Int32) : pm_R → pm_H → Prop := pm_K d 150 Q 79 [(0, .ref 85)] [.int s1, .ref 99] 118 0 fz 0 0
def t_X11_readsCard_84 (d L : Nat) (fz t : Bool) (Q : pm_R → pm_H → Prop) (r : Int32) (I : Nat → Nat → Int32) (J : Nat → Nat → Int64) : Prop := pm_T (pm_Ev d) 150 Q (84, [(0, .ref 85)], [.int r], pm_hp L fz t I J, 0, 0)
def K_X11_readsCard_84 (d : Nat) (fz t : Bool) (Q : pm_R → pm_H → Prop) : pm_R → pm_H → Prop := pm_K d 150 Q 84 [(0, .ref 85)] [] 118 0 fz 0 0
set_option maxRecDepth 100000 in
theorem b_X11_readsCard_0 {d L : Nat} {fz t : Bool} {Q : pm_R → pm_H → Prop} {I : Nat → Nat → Int32} {J : Nat → Nat → Int64}
    (h : ((¬ (I 85 27) = (nI 10) → t_X11_readsCard_14 d L fz t Q I J) ∧ ((I 85 27) = (nI 10) → pm_Ev d 133 [.ref 85, .int (nI 2)] (pm_hp L fz t I J) (K_X11_readsCard_14 d fz t Q)))) :
    t_X11_readsCard_0 d L fz t Q I J := by
  exact pm_go d [(14, [0]), (18, [0]), (26, [0]), (44, [0]), (60, [0]), (79, [0]), (84, [0])] 400 ⟨fun q0 => ((h).1 q0), fun q0 => ((h).2 q0)⟩
theorem e_X11_readsCard {d L : Nat} {fz t : Bool} {Q : pm_R → pm_H → Prop} {I : Nat → Nat → Int32} {J : Nat → Nat → Int64}
    (h : ((¬ (I 85 27) = (nI 10) → t_X11_readsCard_14 d L fz t Q I J) ∧ ((I 85 27) = (nI 10) → pm_Ev d 133 [.ref 85, .int (nI 2)] (pm_hp L fz t I J) (K_X11_readsCard_14 d fz t Q)))) :
    pm_Ev (d + 1) 150 [.ref 85] (pm_hp L fz t I J) Q := pm_Ev_in rfl (b_X11_readsCard_0 h)
set_option maxRecDepth 100000 in
theorem b_X11_readsCard_14 {d L : Nat} {fz t : Bool} {Q : pm_R → pm_H → Prop} {I : Nat → Nat → Int32} {J : Nat → Nat → Int64}
    (h : pm_Ev d 134 [.ref 85] (pm_hp L fz t I J) (K_X11_readsCard_18 d fz t Q)) :
    t_X11_readsCard_14 d L fz t Q I J := by
  exact pm_go d [(14, [0]), (18, [0]), (26, [0]), (44, [0]), (60, [0]), (79, [0]), (84, [0])] 400 h
theorem kb_X11_readsCard_14 {d L : Nat} {fz t : Bool} {Q : pm_R → pm_H → Prop} {fz1 : Bool} {I : Nat → Nat → Int32} {J : Nat → Nat → Int64}
    (h : pm_Ev d 134 [.ref 85] (pm_hp L fz t I J) (K_X11_readsCard_18 d fz t Q)) :
    K_X11_readsCard_14 d fz t Q (.inl none) (pm_hp L fz1 t I J) := b_X11_readsCard_14 h
set_option maxRecDepth 100000 in
theorem b_X11_readsCard_18 {d L : Nat} {fz t : Bool} {Q : pm_R → pm_H → Prop} {r : Int32} {I : Nat → Nat → Int32} {J : Nat → Nat → Int64}
    (h : ((¬ r = (nI 0) → pm_Ev d 129 [.ref 85] (pm_hp L fz t I J) (K_X11_readsCard_26 d fz t Q)) ∧ (r = (nI 0) → Q (.inl none) (pm_hp L fz t I J)))) :
    t_X11_readsCard_18 d L fz t Q r I J := by
  exact pm_go d [(14, [0]), (18, [0]), (26, [0]), (44, [0]), (60, [0]), (79, [0]), (84, [0])] 400 ⟨fun q0 => ((h).1 q0), fun q0 => ((h).2 q0)⟩
theorem kb_X11_readsCard_18 {d L : Nat} {fz t : Bool} {Q : pm_R → pm_H → Prop} {r : Int32} {fz1 : Bool} {I : Nat → Nat → Int32} {J : Nat → Nat → Int64}
    (h : ((¬ r = (nI 0) → pm_Ev d 129 [.ref 85] (pm_hp L fz t I J) (K_X11_readsCard_26 d fz t Q)) ∧ (r = (nI 0) → Q (.inl none) (pm_hp L fz t I J)))) :
    K_X11_readsCard_18 d fz t Q (.inl (some (.int r))) (pm_hp L fz1 t I J) := b_X11_readsCard_18 h
set_option maxRecDepth 100000 in
theorem b_X11_readsCard_26 {d L : Nat} {fz t : Bool} {Q : pm_R → pm_H → Prop} {I : Nat → Nat → Int32} {J : Nat → Nat → Int64}
    (h : pm_Ev d 137 [.ref 85, .int (nI 0), .int (nI 4095)] (pm_hp L fz t I J) (K_X11_readsCard_44 d fz t Q ((nI 2) + (I 85 27)))) :
    t_X11_readsCard_26 d L fz t Q I J := by
  exact pm_go d [(14, [0]), (18, [0]), (26, [0]), (44, [0]), (60, [0]), (79, [0]), (84, [0])] 400 h
theorem kb_X11_readsCard_26 {d L : Nat} {fz t : Bool} {Q : pm_R → pm_H → Prop} {fz1 : Bool} {I : Nat → Nat → Int32} {J : Nat → Nat → Int64}
    (h : pm_Ev d 137 [.ref 85, .int (nI 0), .int (nI 4095)] (pm_hp L fz t I J) (K_X11_readsCard_44 d fz t Q ((nI 2) + (I 85 27)))) :
    K_X11_readsCard_26 d fz t Q (.inl none) (pm_hp L fz1 t I J) := b_X11_readsCard_26 h
set_option maxRecDepth 100000 in
theorem b_X11_readsCard_44 {d L : Nat} {fz t : Bool} {Q : pm_R → pm_H → Prop} {s1 : Int32} {r : Int32} {I : Nat → Nat → Int32} {J : Nat → Nat → Int64}
    (h : (vp_in s1 34 ∧ pm_Ev d 137 [.ref 85, .int (nI 0), .int (nI 9)] (pm_hp L fz t (pm_u I 99 (s1).toNatClampNeg r) J) (K_X11_readsCard_60 d fz t Q (I 85 27)))) :
    t_X11_readsCard_44 d L fz t Q s1 r I J := by
  exact pm_go d [(14, [0]), (18, [0]), (26, [0]), (44, [0]), (60, [0]), (79, [0]), (84, [0])] 400 ⟨(h).1, (h).2⟩
theorem kb_X11_readsCard_44 {d L : Nat} {fz t : Bool} {Q : pm_R → pm_H → Prop} {s1 : Int32} {r : Int32} {fz1 : Bool} {I : Nat → Nat → Int32} {J : Nat → Nat → Int64}
    (h : (vp_in s1 34 ∧ pm_Ev d 137 [.ref 85, .int (nI 0), .int (nI 9)] (pm_hp L fz t (pm_u I 99 (s1).toNatClampNeg r) J) (K_X11_readsCard_60 d fz t Q (I 85 27)))) :
    K_X11_readsCard_44 d fz t Q s1 (.inl (some (.int r))) (pm_hp L fz1 t I J) := b_X11_readsCard_44 h
set_option maxRecDepth 100000 in
theorem b_X11_readsCard_60 {d L : Nat} {fz t : Bool} {Q : pm_R → pm_H → Prop} {s1 : Int32} {r : Int32} {I : Nat → Nat → Int32} {J : Nat → Nat → Int64}
    (h : (vp_in s1 10 ∧ pm_Ev d 137 [.ref 85, .int (nI 0), .int (nI 9)] (pm_hp L fz t (pm_u I 94 (s1).toNatClampNeg r) J) (K_X11_readsCard_79 d fz t Q ((nI 12) + (I 85 27))))) :
    t_X11_readsCard_60 d L fz t Q s1 r I J := by
  exact pm_go d [(14, [0]), (18, [0]), (26, [0]), (44, [0]), (60, [0]), (79, [0]), (84, [0])] 400 ⟨(h).1, (h).2⟩
theorem kb_X11_readsCard_60 {d L : Nat} {fz t : Bool} {Q : pm_R → pm_H → Prop} {s1 : Int32} {r : Int32} {fz1 : Bool} {I : Nat → Nat → Int32} {J : Nat → Nat → Int64}
    (h : (vp_in s1 10 ∧ pm_Ev d 137 [.ref 85, .int (nI 0), .int (nI 9)] (pm_hp L fz t (pm_u I 94 (s1).toNatClampNeg r) J) (K_X11_readsCard_79 d fz t Q ((nI 12) + (I 85 27))))) :
    K_X11_readsCard_60 d fz t Q s1 (.inl (some (.int r))) (pm_hp L fz1 t I J) := b_X11_readsCard_60 h
set_option maxRecDepth 100000 in
theorem b_X11_readsCard_79 {d L : Nat} {fz t : Bool} {Q : pm_R → pm_H → Prop} {s1 : Int32} {r : Int32} {I : Nat → Nat → Int32} {J : Nat → Nat → Int64}
    (h : (vp_in s1 34 ∧ pm_Ev d 134 [.ref 85] (pm_hp L fz t (pm_u I 99 (s1).toNatClampNeg r) J) (K_X11_readsCard_84 d fz t Q))) :
    t_X11_readsCard_79 d L fz t Q s1 r I J := by
  exact pm_go d [(14, [0]), (18, [0]), (26, [0]), (44, [0]), (60, [0]), (79, [0]), (84, [0])] 400 ⟨(h).1, (h).2⟩
theorem kb_X11_readsCard_79 {d L : Nat} {fz t : Bool} {Q : pm_R → pm_H → Prop} {s1 : Int32} {r : Int32} {fz1 : Bool} {I : Nat → Nat → Int32} {J : Nat → Nat → Int64}
    (h : (vp_in s1 34 ∧ pm_Ev d 134 [.ref 85] (pm_hp L fz t (pm_u I 99 (s1).toNatClampNeg r) J) (K_X11_readsCard_84 d fz t Q))) :
    K_X11_readsCard_79 d fz t Q s1 (.inl (some (.int r))) (pm_hp L fz1 t I J) := b_X11_readsCard_79 h
set_option maxRecDepth 100000 in
theorem b_X11_readsCard_84 {d L : Nat} {fz t : Bool} {Q : pm_R → pm_H → Prop} {r : Int32} {I : Nat → Nat → Int32} {J : Nat → Nat → Int64}
    (h : ((r = (nI 0) → Q (.inl none) (pm_hp L fz t I J)) ∧ (¬ r = (nI 0) → Q (.inl none) (pm_hp L fz t (pm_u I 85 27 ((I 85 27) + (nI 1))) J)))) :
    t_X11_readsCard_84 d L fz t Q r I J := by
  exact pm_go d [(14, [0]), (18, [0]), (26, [0]), (44, [0]), (60, [0]), (79, [0]), (84, [0])] 400 ⟨fun q0 => ((h).1 q0), fun q0 => ((h).2 q0)⟩
theorem kb_X11_readsCard_84 {d L : Nat} {fz t : Bool} {Q : pm_R → pm_H → Prop} {r : Int32} {fz1 : Bool} {I : Nat → Nat → Int32} {J : Nat → Nat → Int64}
    (h : ((r = (nI 0) → Q (.inl none) (pm_hp L fz t I J)) ∧ (¬ r = (nI 0) → Q (.inl none) (pm_hp L fz t (pm_u I 85 27 ((I 85 27) + (nI 1))) J)))) :
    K_X11_readsCard_84 d fz t Q (.inl (some (.int r))) (pm_hp L fz1 t I J) := b_X11_readsCard_84 h
def t_X11_readsLace_0 (d L : Nat) (fz t : Bool) (Q : pm_R → pm_H → Prop) (I : Nat → Nat → Int32) (J : Nat → Nat → Int64) : Prop := pm_T (pm_Ev d) 151 Q (0, [(0, .ref 85)], [], pm_hp L fz t I J, 0, 0)
def t_X11_readsLace_12 (d L : Nat) (fz t : Bool) (Q : pm_R → pm_H → Prop) (I : Nat → Nat → Int32) (J : Nat → Nat → Int64) : Prop := pm_T (pm_Ev d) 151 Q (12, [(0, .ref 85)], [], pm_hp L fz t I J, 0, 0)
def K_X11_readsLace_12 (d : Nat) (fz t : Bool) (Q : pm_R → pm_H → Prop) : pm_R → pm_H → Prop := pm_K d 151 Q 12 [(0, .ref 85)] [] 118 0 fz 0 0
def t_X11_readsLace_16 (d L : Nat) (fz t : Bool) (Q : pm_R → pm_H → Prop) (r : Int32) (I : Nat → Nat → Int32) (J : Nat → Nat → Int64) : Prop := pm_T (pm_Ev d) 151 Q (16, [(0, .ref 85)], [.int r], pm_hp L fz t I J, 0, 0)
def K_X11_readsLace_16 (d : Nat) (fz t : Bool) (Q : pm_R → pm_H → Prop) : pm_R → pm_H → Prop := pm_K d 151 Q 16 [(0, .ref 85)] [] 118 0 fz 0 0
def t_X11_readsLace_24 (d L : Nat) (fz t : Bool) (Q : pm_R → pm_H → Prop) (I : Nat → Nat → Int32) (J : Nat → Nat → Int64) : Prop := pm_T (pm_Ev d) 151 Q (24, [(0, .ref 85)], [], pm_hp L fz t I J, 0, 0)
def K_X11_readsLace_24 (d : Nat) (fz t : Bool) (Q : pm_R → pm_H → Prop) : pm_R → pm_H → Prop := pm_K d 151 Q 24 [(0, .ref 85)] [] 118 0 fz 0 0
def t_X11_readsLace_26 (d L : Nat) (fz t : Bool) (Q : pm_R → pm_H → Prop) (x1 : Int32) (I : Nat → Nat → Int32) (J : Nat → Nat → Int64) : Prop := pm_T (pm_Ev d) 151 Q (26, [(0, .ref 85), (1, .int x1)], [], pm_hp L fz t I J, 0, 0)
def t_X11_readsLace_34 (d L : Nat) (fz t : Bool) (Q : pm_R → pm_H → Prop) (r : Int32) (I : Nat → Nat → Int32) (J : Nat → Nat → Int64) : Prop := pm_T (pm_Ev d) 151 Q (34, [(0, .ref 85)], [.int r], pm_hp L fz t I J, 0, 0)
def K_X11_readsLace_34 (d : Nat) (fz t : Bool) (Q : pm_R → pm_H → Prop) : pm_R → pm_H → Prop := pm_K d 151 Q 34 [(0, .ref 85)] [] 118 0 fz 0 0
def t_X11_readsLace_59 (d L : Nat) (fz t : Bool) (Q : pm_R → pm_H → Prop) (I : Nat → Nat → Int32) (J : Nat → Nat → Int64) : Prop := pm_T (pm_Ev d) 151 Q (59, [(0, .ref 85)], [], pm_hp L fz t I J, 0, 0)
def K_X11_readsLace_59 (d : Nat) (fz t : Bool) (Q : pm_R → pm_H → Prop) : pm_R → pm_H → Prop := pm_K d 151 Q 59 [(0, .ref 85)] [] 118 0 fz 0 0
def t_X11_readsLace_67 (d L : Nat) (fz t : Bool) (Q : pm_R → pm_H → Prop) (r : Int32) (I : Nat → Nat → Int32) (J : Nat → Nat → Int64) : Prop := pm_T (pm_Ev d) 151 Q (67, [(0, .ref 85)], [.int r], pm_hp L fz t I J, 0, 0)
def K_X11_readsLace_67 (d : Nat) (fz t : Bool) (Q : pm_R → pm_H → Prop) : pm_R → pm_H → Prop := pm_K d 151 Q 67 [(0, .ref 85)] [] 118 0 fz 0 0
def t_X11_readsLace_72 (d L : Nat) (fz t : Bool) (Q : pm_R → pm_H → Prop) (x2 : Int32) (r : Int32) (I : Nat → Nat → Int32) (J : Nat → Nat → Int64) : Prop := pm_T (pm_Ev d) 151 Q (72, [(0, .ref 85), (2, .int x2)], [.int r], pm_hp L fz t I J, 0, 0)
def K_X11_readsLace_72 (d : Nat) (fz t : Bool) (Q : pm_R → pm_H → Prop) (x2 : Int32) : pm_R → pm_H → Prop := pm_K d 151 Q 72 [(0, .ref 85), (2, .int x2)] [] 118 0 fz 0 0
set_option maxRecDepth 100000 in
theorem b_X11_readsLace_0 {d L : Nat} {fz t : Bool} {Q : pm_R → pm_H → Prop} {I : Nat → Nat → Int32} {J : Nat → Nat → Int64}
    (h : (((I 85 28) ≤ (nI 0) → t_X11_readsLace_12 d L fz t Q I J) ∧ (¬ (I 85 28) ≤ (nI 0) → pm_Ev d 133 [.ref 85, .int (nI 5)] (pm_hp L fz t I J) (K_X11_readsLace_12 d fz t Q)))) :
    t_X11_readsLace_0 d L fz t Q I J := by
  exact pm_go d [(12, [0]), (16, [0]), (24, [0]), (26, [0, 1]), (34, [0]), (59, [0]), (67, [0]), (72, [0, 2])] 400 ⟨fun q0 => ((h).1 q0), fun q0 => ((h).2 q0)⟩
theorem e_X11_readsLace {d L : Nat} {fz t : Bool} {Q : pm_R → pm_H → Prop} {I : Nat → Nat → Int32} {J : Nat → Nat → Int64}
    (h : (((I 85 28) ≤ (nI 0) → t_X11_readsLace_12 d L fz t Q I J) ∧ (¬ (I 85 28) ≤ (nI 0) → pm_Ev d 133 [.ref 85, .int (nI 5)] (pm_hp L fz t I J) (K_X11_readsLace_12 d fz t Q)))) :
    pm_Ev (d + 1) 151 [.ref 85] (pm_hp L fz t I J) Q := pm_Ev_in rfl (b_X11_readsLace_0 h)
set_option maxRecDepth 100000 in
theorem b_X11_readsLace_12 {d L : Nat} {fz t : Bool} {Q : pm_R → pm_H → Prop} {I : Nat → Nat → Int32} {J : Nat → Nat → Int64}
    (h : pm_Ev d 134 [.ref 85] (pm_hp L fz t I J) (K_X11_readsLace_16 d fz t Q)) :
    t_X11_readsLace_12 d L fz t Q I J := by
  exact pm_go d [(12, [0]), (16, [0]), (24, [0]), (26, [0, 1]), (34, [0]), (59, [0]), (67, [0]), (72, [0, 2])] 400 h
theorem kb_X11_readsLace_12 {d L : Nat} {fz t : Bool} {Q : pm_R → pm_H → Prop} {fz1 : Bool} {I : Nat → Nat → Int32} {J : Nat → Nat → Int64}
    (h : pm_Ev d 134 [.ref 85] (pm_hp L fz t I J) (K_X11_readsLace_16 d fz t Q)) :
    K_X11_readsLace_12 d fz t Q (.inl none) (pm_hp L fz1 t I J) := b_X11_readsLace_12 h
set_option maxRecDepth 100000 in
theorem b_X11_readsLace_16 {d L : Nat} {fz t : Bool} {Q : pm_R → pm_H → Prop} {r : Int32} {I : Nat → Nat → Int32} {J : Nat → Nat → Int64}
    (h : ((¬ r = (nI 0) → pm_Ev d 129 [.ref 85] (pm_hp L fz t I J) (K_X11_readsLace_24 d fz t Q)) ∧ (r = (nI 0) → Q (.inl none) (pm_hp L fz t I J)))) :
    t_X11_readsLace_16 d L fz t Q r I J := by
  exact pm_go d [(12, [0]), (16, [0]), (24, [0]), (26, [0, 1]), (34, [0]), (59, [0]), (67, [0]), (72, [0, 2])] 400 ⟨fun q0 => ((h).1 q0), fun q0 => ((h).2 q0)⟩
theorem kb_X11_readsLace_16 {d L : Nat} {fz t : Bool} {Q : pm_R → pm_H → Prop} {r : Int32} {fz1 : Bool} {I : Nat → Nat → Int32} {J : Nat → Nat → Int64}
    (h : ((¬ r = (nI 0) → pm_Ev d 129 [.ref 85] (pm_hp L fz t I J) (K_X11_readsLace_24 d fz t Q)) ∧ (r = (nI 0) → Q (.inl none) (pm_hp L fz t I J)))) :
    K_X11_readsLace_16 d fz t Q (.inl (some (.int r))) (pm_hp L fz1 t I J) := b_X11_readsLace_16 h
set_option maxRecDepth 100000 in
theorem b_X11_readsLace_24 {d L : Nat} {fz t : Bool} {Q : pm_R → pm_H → Prop} {I : Nat → Nat → Int32} {J : Nat → Nat → Int64}
    (h : t_X11_readsLace_26 d L fz t Q (nI 1) I J) :
    t_X11_readsLace_24 d L fz t Q I J := by
  exact pm_go d [(12, [0]), (16, [0]), (24, [0]), (26, [0, 1]), (34, [0]), (59, [0]), (67, [0]), (72, [0, 2])] 400 h
theorem kb_X11_readsLace_24 {d L : Nat} {fz t : Bool} {Q : pm_R → pm_H → Prop} {fz1 : Bool} {I : Nat → Nat → Int32} {J : Nat → Nat → Int64}
    (h : t_X11_readsLace_26 d L fz t Q (nI 1) I J) :
    K_X11_readsLace_24 d fz t Q (.inl none) (pm_hp L fz1 t I J) := b_X11_readsLace_24 h
set_option maxRecDepth 100000 in
theorem b_X11_readsLace_26 {d L : Nat} {fz t : Bool} {Q : pm_R → pm_H → Prop} {x1 : Int32} {I : Nat → Nat → Int32} {J : Nat → Nat → Int64}
    (h : ((x1 = (nI 0) → Q (.inl none) (pm_hp L fz t I J)) ∧ (¬ x1 = (nI 0) → pm_Ev d 134 [.ref 85] (pm_hp L fz t I J) (K_X11_readsLace_34 d fz t Q)))) :
    t_X11_readsLace_26 d L fz t Q x1 I J := by
  exact pm_go d [(12, [0]), (16, [0]), (24, [0]), (26, [0, 1]), (34, [0]), (59, [0]), (67, [0]), (72, [0, 2])] 400 ⟨fun q0 => ((h).1 q0), fun q0 => ((h).2 q0)⟩
set_option maxRecDepth 100000 in
theorem b_X11_readsLace_34 {d L : Nat} {fz t : Bool} {Q : pm_R → pm_H → Prop} {r : Int32} {I : Nat → Nat → Int32} {J : Nat → Nat → Int64}
    (h : ((r = (nI 0) → Q (.inl none) (pm_hp L fz t I J)) ∧ (¬ r = (nI 0) → ((¬ (I 85 28) = (nI 12) → t_X11_readsLace_59 d L fz t Q I J) ∧ ((I 85 28) = (nI 12) → ((¬ (I 85 20) = (nI 2) → t_X11_readsLace_59 d L fz t Q I J) ∧ ((I 85 20) = (nI 2) → pm_Ev d 133 [.ref 85, .int (nI 2)] (pm_hp L fz t I J) (K_X11_readsLace_59 d fz t Q)))))))) :
    t_X11_readsLace_34 d L fz t Q r I J := by
  exact pm_go d [(12, [0]), (16, [0]), (24, [0]), (26, [0, 1]), (34, [0]), (59, [0]), (67, [0]), (72, [0, 2])] 400 ⟨fun q0 => ((h).1 q0), fun q0 => ⟨fun q1 => ((((h).2 q0)).1 q1), fun q1 => ⟨fun q2 => ((((((h).2 q0)).2 q1)).1 q2), fun q2 => ((((((h).2 q0)).2 q1)).2 q2)⟩⟩⟩
theorem kb_X11_readsLace_34 {d L : Nat} {fz t : Bool} {Q : pm_R → pm_H → Prop} {r : Int32} {fz1 : Bool} {I : Nat → Nat → Int32} {J : Nat → Nat → Int64}
    (h : ((r = (nI 0) → Q (.inl none) (pm_hp L fz t I J)) ∧ (¬ r = (nI 0) → ((¬ (I 85 28) = (nI 12) → t_X11_readsLace_59 d L fz t Q I J) ∧ ((I 85 28) = (nI 12) → ((¬ (I 85 20) = (nI 2) → t_X11_readsLace_59 d L fz t Q I J) ∧ ((I 85 20) = (nI 2) → pm_Ev d 133 [.ref 85, .int (nI 2)] (pm_hp L fz t I J) (K_X11_readsLace_59 d fz t Q)))))))) :
    K_X11_readsLace_34 d fz t Q (.inl (some (.int r))) (pm_hp L fz1 t I J) := b_X11_readsLace_34 h
set_option maxRecDepth 100000 in
theorem b_X11_readsLace_59 {d L : Nat} {fz t : Bool} {Q : pm_R → pm_H → Prop} {I : Nat → Nat → Int32} {J : Nat → Nat → Int64}
    (h : pm_Ev d 138 [.ref 85, .int (I 85 27)] (pm_hp L fz t I J) (K_X11_readsLace_67 d fz t Q)) :
    t_X11_readsLace_59 d L fz t Q I J := by
  exact pm_go d [(12, [0]), (16, [0]), (24, [0]), (26, [0, 1]), (34, [0]), (59, [0]), (67, [0]), (72, [0, 2])] 400 h
theorem kb_X11_readsLace_59 {d L : Nat} {fz t : Bool} {Q : pm_R → pm_H → Prop} {fz1 : Bool} {I : Nat → Nat → Int32} {J : Nat → Nat → Int64}
    (h : pm_Ev d 138 [.ref 85, .int (I 85 27)] (pm_hp L fz t I J) (K_X11_readsLace_67 d fz t Q)) :
    K_X11_readsLace_59 d fz t Q (.inl none) (pm_hp L fz1 t I J) := b_X11_readsLace_59 h
set_option maxRecDepth 100000 in
theorem b_X11_readsLace_67 {d L : Nat} {fz t : Bool} {Q : pm_R → pm_H → Prop} {r : Int32} {I : Nat → Nat → Int32} {J : Nat → Nat → Int64}
    (h : pm_Ev d 134 [.ref 85] (pm_hp L fz t I J) (K_X11_readsLace_72 d fz t Q r)) :
    t_X11_readsLace_67 d L fz t Q r I J := by
  exact pm_go d [(12, [0]), (16, [0]), (24, [0]), (26, [0, 1]), (34, [0]), (59, [0]), (67, [0]), (72, [0, 2])] 400 h
theorem kb_X11_readsLace_67 {d L : Nat} {fz t : Bool} {Q : pm_R → pm_H → Prop} {r : Int32} {fz1 : Bool} {I : Nat → Nat → Int32} {J : Nat → Nat → Int64}
    (h : pm_Ev d 134 [.ref 85] (pm_hp L fz t I J) (K_X11_readsLace_72 d fz t Q r)) :
    K_X11_readsLace_67 d fz t Q (.inl (some (.int r))) (pm_hp L fz1 t I J) := b_X11_readsLace_67 h
set_option maxRecDepth 100000 in
theorem b_X11_readsLace_72 {d L : Nat} {fz t : Bool} {Q : pm_R → pm_H → Prop} {x2 : Int32} {r : Int32} {I : Nat → Nat → Int32} {J : Nat → Nat → Int64}
    (h : ((¬ r = (nI 0) → (vp_in ((nI 22) + (I 85 28)) 34 ∧ ((¬ (I 85 20) = (nI 2) → t_X11_readsLace_26 d L fz t Q (nI 0) (pm_u (pm_u I 99 (((nI 22) + (I 85 28))).toNatClampNeg x2) 85 28 ((I 85 28) + (nI 1))) J) ∧ ((I 85 20) = (nI 2) → t_X11_readsLace_26 d L fz t Q (nI 1) (pm_u (pm_u I 99 (((nI 22) + (I 85 28))).toNatClampNeg x2) 85 28 ((I 85 28) + (nI 1))) J)))) ∧ (r = (nI 0) → Q (.inl none) (pm_hp L fz t I J)))) :
    t_X11_readsLace_72 d L fz t Q x2 r I J := by
  exact pm_go d [(12, [0]), (16, [0]), (24, [0]), (26, [0, 1]), (34, [0]), (59, [0]), (67, [0]), (72, [0, 2])] 400 ⟨fun q0 => ⟨(((h).1 q0)).1, ⟨fun q1 => (((((h).1 q0)).2).1 q1), fun q1 => (((((h).1 q0)).2).2 q1)⟩⟩, fun q0 => ((h).2 q0)⟩
theorem kb_X11_readsLace_72 {d L : Nat} {fz t : Bool} {Q : pm_R → pm_H → Prop} {x2 : Int32} {r : Int32} {fz1 : Bool} {I : Nat → Nat → Int32} {J : Nat → Nat → Int64}
    (h : ((¬ r = (nI 0) → (vp_in ((nI 22) + (I 85 28)) 34 ∧ ((¬ (I 85 20) = (nI 2) → t_X11_readsLace_26 d L fz t Q (nI 0) (pm_u (pm_u I 99 (((nI 22) + (I 85 28))).toNatClampNeg x2) 85 28 ((I 85 28) + (nI 1))) J) ∧ ((I 85 20) = (nI 2) → t_X11_readsLace_26 d L fz t Q (nI 1) (pm_u (pm_u I 99 (((nI 22) + (I 85 28))).toNatClampNeg x2) 85 28 ((I 85 28) + (nI 1))) J)))) ∧ (r = (nI 0) → Q (.inl none) (pm_hp L fz t I J)))) :
    K_X11_readsLace_72 d fz t Q x2 (.inl (some (.int r))) (pm_hp L fz1 t I J) := b_X11_readsLace_72 h
def t_X11_readsFigure_0 (d L : Nat) (fz t : Bool) (Q : pm_R → pm_H → Prop) (I : Nat → Nat → Int32) (J : Nat → Nat → Int64) : Prop := pm_T (pm_Ev d) 152 Q (0, [(0, .ref 85)], [], pm_hp L fz t I J, 0, 0)
def t_X11_readsFigure_13 (d L : Nat) (fz t : Bool) (Q : pm_R → pm_H → Prop) (I : Nat → Nat → Int32) (J : Nat → Nat → Int64) : Prop := pm_T (pm_Ev d) 152 Q (13, [(0, .ref 85)], [], pm_hp L fz t I J, 0, 0)
def K_X11_readsFigure_13 (d : Nat) (fz t : Bool) (Q : pm_R → pm_H → Prop) : pm_R → pm_H → Prop := pm_K d 152 Q 13 [(0, .ref 85)] [] 118 0 fz 0 0
def t_X11_readsFigure_17 (d L : Nat) (fz t : Bool) (Q : pm_R → pm_H → Prop) (r : Int32) (I : Nat → Nat → Int32) (J : Nat → Nat → Int64) : Prop := pm_T (pm_Ev d) 152 Q (17, [(0, .ref 85)], [.int r], pm_hp L fz t I J, 0, 0)
def K_X11_readsFigure_17 (d : Nat) (fz t : Bool) (Q : pm_R → pm_H → Prop) : pm_R → pm_H → Prop := pm_K d 152 Q 17 [(0, .ref 85)] [] 118 0 fz 0 0
def t_X11_readsFigure_25 (d L : Nat) (fz t : Bool) (Q : pm_R → pm_H → Prop) (I : Nat → Nat → Int32) (J : Nat → Nat → Int64) : Prop := pm_T (pm_Ev d) 152 Q (25, [(0, .ref 85)], [], pm_hp L fz t I J, 0, 0)
def K_X11_readsFigure_25 (d : Nat) (fz t : Bool) (Q : pm_R → pm_H → Prop) : pm_R → pm_H → Prop := pm_K d 152 Q 25 [(0, .ref 85)] [] 118 0 fz 0 0
def t_X11_readsFigure_42 (d L : Nat) (fz t : Bool) (Q : pm_R → pm_H → Prop) (x1 : Int32) (s1 : Int32) (r : Int32) (I : Nat → Nat → Int32) (J : Nat → Nat → Int64) : Prop := pm_T (pm_Ev d) 152 Q (42, [(0, .ref 85), (1, .int x1)], [.int r, .int s1, .ref 95], pm_hp L fz t I J, 0, 0)
def K_X11_readsFigure_42 (d : Nat) (fz t : Bool) (Q : pm_R → pm_H → Prop) (x1 : Int32) (s1 : Int32) : pm_R → pm_H → Prop := pm_K d 152 Q 42 [(0, .ref 85), (1, .int x1)] [.int s1, .ref 95] 118 0 fz 0 0
def t_X11_readsFigure_54 (d L : Nat) (fz t : Bool) (Q : pm_R → pm_H → Prop) (x1 : Int32) (s1 : Int32) (r : Int32) (I : Nat → Nat → Int32) (J : Nat → Nat → Int64) : Prop := pm_T (pm_Ev d) 152 Q (54, [(0, .ref 85), (1, .int x1)], [.int r, .int s1, .ref 96], pm_hp L fz t I J, 0, 0)
def K_X11_readsFigure_54 (d : Nat) (fz t : Bool) (Q : pm_R → pm_H → Prop) (x1 : Int32) (s1 : Int32) : pm_R → pm_H → Prop := pm_K d 152 Q 54 [(0, .ref 85), (1, .int x1)] [.int s1, .ref 96] 118 0 fz 0 0
def t_X11_readsFigure_59 (d L : Nat) (fz t : Bool) (Q : pm_R → pm_H → Prop) (x1 : Int32) (x2 : Int32) (x3 : Int32) (I : Nat → Nat → Int32) (J : Nat → Nat → Int64) : Prop := pm_T (pm_Ev d) 152 Q (59, [(0, .ref 85), (1, .int x1), (2, .int x2), (3, .int x3)], [], pm_hp L fz t I J, 0, 0)
def t_X11_readsFigure_127 (d L : Nat) (fz t : Bool) (Q : pm_R → pm_H → Prop) (x1 : Int32) (x2 : Int32) (x4 : Int32) (I : Nat → Nat → Int32) (J : Nat → Nat → Int64) : Prop := pm_T (pm_Ev d) 152 Q (127, [(0, .ref 85), (1, .int x1), (2, .int x2), (4, .int x4)], [], pm_hp L fz t I J, 0, 0)
def t_X11_readsFigure_67 (d L : Nat) (fz t : Bool) (Q : pm_R → pm_H → Prop) (x1 : Int32) (x2 : Int32) (r : Int32) (I : Nat → Nat → Int32) (J : Nat → Nat → Int64) : Prop := pm_T (pm_Ev d) 152 Q (67, [(0, .ref 85), (1, .int x1), (2, .int x2)], [.int r], pm_hp L fz t I J, 0, 0)
def K_X11_readsFigure_67 (d : Nat) (fz t : Bool) (Q : pm_R → pm_H → Prop) (x1 : Int32) (x2 : Int32) : pm_R → pm_H → Prop := pm_K d 152 Q 67 [(0, .ref 85), (1, .int x1), (2, .int x2)] [] 118 0 fz 0 0
def t_X11_readsFigure_162 (d L : Nat) (fz t : Bool) (Q : pm_R → pm_H → Prop) (r : Int32) (I : Nat → Nat → Int32) (J : Nat → Nat → Int64) : Prop := pm_T (pm_Ev d) 152 Q (162, [(0, .ref 85)], [.int r], pm_hp L fz t I J, 0, 0)
def K_X11_readsFigure_162 (d : Nat) (fz t : Bool) (Q : pm_R → pm_H → Prop) : pm_R → pm_H → Prop := pm_K d 152 Q 162 [(0, .ref 85)] [] 118 0 fz 0 0
def t_X11_readsFigure_85 (d L : Nat) (fz t : Bool) (Q : pm_R → pm_H → Prop) (x1 : Int32) (x2 : Int32) (r : Int32) (I : Nat → Nat → Int32) (J : Nat → Nat → Int64) : Prop := pm_T (pm_Ev d) 152 Q (85, [(0, .ref 85), (1, .int x1), (2, .int x2)], [.int r], pm_hp L fz t I J, 0, 0)
def K_X11_readsFigure_85 (d : Nat) (fz t : Bool) (Q : pm_R → pm_H → Prop) (x1 : Int32) (x2 : Int32) : pm_R → pm_H → Prop := pm_K d 152 Q 85 [(0, .ref 85), (1, .int x1), (2, .int x2)] [] 118 0 fz 0 0
set_option maxRecDepth 100000 in
theorem b_X11_readsFigure_0 {d L : Nat} {fz t : Bool} {Q : pm_R → pm_H → Prop} {I : Nat → Nat → Int32} {J : Nat → Nat → Int64}
    (h : ((¬ (I 85 29) = (nI 5) → t_X11_readsFigure_13 d L fz t Q I J) ∧ ((I 85 29) = (nI 5) → pm_Ev d 133 [.ref 85, .int (nI 2)] (pm_hp L fz t I J) (K_X11_readsFigure_13 d fz t Q)))) :
    t_X11_readsFigure_0 d L fz t Q I J := by
  exact pm_go d [(13, [0]), (17, [0]), (25, [0]), (42, [0, 1]), (54, [0, 1]), (59, [0, 1, 2, 3]), (67, [0, 1, 2]), (85, [0, 1, 2]), (127, [0, 1, 2, 4]), (162, [0])] 400 ⟨fun q0 => ((h).1 q0), fun q0 => ((h).2 q0)⟩
theorem e_X11_readsFigure {d L : Nat} {fz t : Bool} {Q : pm_R → pm_H → Prop} {I : Nat → Nat → Int32} {J : Nat → Nat → Int64}
    (h : ((¬ (I 85 29) = (nI 5) → t_X11_readsFigure_13 d L fz t Q I J) ∧ ((I 85 29) = (nI 5) → pm_Ev d 133 [.ref 85, .int (nI 2)] (pm_hp L fz t I J) (K_X11_readsFigure_13 d fz t Q)))) :
    pm_Ev (d + 1) 152 [.ref 85] (pm_hp L fz t I J) Q := pm_Ev_in rfl (b_X11_readsFigure_0 h)
set_option maxRecDepth 100000 in
theorem b_X11_readsFigure_13 {d L : Nat} {fz t : Bool} {Q : pm_R → pm_H → Prop} {I : Nat → Nat → Int32} {J : Nat → Nat → Int64}
    (h : pm_Ev d 134 [.ref 85] (pm_hp L fz t I J) (K_X11_readsFigure_17 d fz t Q)) :
    t_X11_readsFigure_13 d L fz t Q I J := by
  exact pm_go d [(13, [0]), (17, [0]), (25, [0]), (42, [0, 1]), (54, [0, 1]), (59, [0, 1, 2, 3]), (67, [0, 1, 2]), (85, [0, 1, 2]), (127, [0, 1, 2, 4]), (162, [0])] 400 h
theorem kb_X11_readsFigure_13 {d L : Nat} {fz t : Bool} {Q : pm_R → pm_H → Prop} {fz1 : Bool} {I : Nat → Nat → Int32} {J : Nat → Nat → Int64}
    (h : pm_Ev d 134 [.ref 85] (pm_hp L fz t I J) (K_X11_readsFigure_17 d fz t Q)) :
    K_X11_readsFigure_13 d fz t Q (.inl none) (pm_hp L fz1 t I J) := b_X11_readsFigure_13 h
set_option maxRecDepth 100000 in
theorem b_X11_readsFigure_17 {d L : Nat} {fz t : Bool} {Q : pm_R → pm_H → Prop} {r : Int32} {I : Nat → Nat → Int32} {J : Nat → Nat → Int64}
    (h : ((¬ r = (nI 0) → pm_Ev d 129 [.ref 85] (pm_hp L fz t I J) (K_X11_readsFigure_25 d fz t Q)) ∧ (r = (nI 0) → Q (.inl none) (pm_hp L fz t I J)))) :
    t_X11_readsFigure_17 d L fz t Q r I J := by
  exact pm_go d [(13, [0]), (17, [0]), (25, [0]), (42, [0, 1]), (54, [0, 1]), (59, [0, 1, 2, 3]), (67, [0, 1, 2]), (85, [0, 1, 2]), (127, [0, 1, 2, 4]), (162, [0])] 400 ⟨fun q0 => ((h).1 q0), fun q0 => ((h).2 q0)⟩
theorem kb_X11_readsFigure_17 {d L : Nat} {fz t : Bool} {Q : pm_R → pm_H → Prop} {r : Int32} {fz1 : Bool} {I : Nat → Nat → Int32} {J : Nat → Nat → Int64}
    (h : ((¬ r = (nI 0) → pm_Ev d 129 [.ref 85] (pm_hp L fz t I J) (K_X11_readsFigure_25 d fz t Q)) ∧ (r = (nI 0) → Q (.inl none) (pm_hp L fz t I J)))) :
    K_X11_readsFigure_17 d fz t Q (.inl (some (.int r))) (pm_hp L fz1 t I J) := b_X11_readsFigure_17 h
set_option maxRecDepth 100000 in
theorem b_X11_readsFigure_25 {d L : Nat} {fz t : Bool} {Q : pm_R → pm_H → Prop} {I : Nat → Nat → Int32} {J : Nat → Nat → Int64}
    (h : pm_Ev d 137 [.ref 85, .int (nI 0), .int (nI 9)] (pm_hp L fz t I J) (K_X11_readsFigure_42 d fz t Q (I 85 29) (I 85 29))) :
    t_X11_readsFigure_25 d L fz t Q I J := by
  exact pm_go d [(13, [0]), (17, [0]), (25, [0]), (42, [0, 1]), (54, [0, 1]), (59, [0, 1, 2, 3]), (67, [0, 1, 2]), (85, [0, 1, 2]), (127, [0, 1, 2, 4]), (162, [0])] 400 h
theorem kb_X11_readsFigure_25 {d L : Nat} {fz t : Bool} {Q : pm_R → pm_H → Prop} {fz1 : Bool} {I : Nat → Nat → Int32} {J : Nat → Nat → Int64}
    (h : pm_Ev d 137 [.ref 85, .int (nI 0), .int (nI 9)] (pm_hp L fz t I J) (K_X11_readsFigure_42 d fz t Q (I 85 29) (I 85 29))) :
    K_X11_readsFigure_25 d fz t Q (.inl none) (pm_hp L fz1 t I J) := b_X11_readsFigure_25 h
set_option maxRecDepth 100000 in
theorem b_X11_readsFigure_42 {d L : Nat} {fz t : Bool} {Q : pm_R → pm_H → Prop} {x1 : Int32} {s1 : Int32} {r : Int32} {I : Nat → Nat → Int32} {J : Nat → Nat → Int64}
    (h : (vp_in s1 5 ∧ pm_Ev d 137 [.ref 85, .int (nI 1), .int (nI 4)] (pm_hp L fz t (pm_u I 95 (s1).toNatClampNeg r) J) (K_X11_readsFigure_54 d fz t Q x1 x1))) :
    t_X11_readsFigure_42 d L fz t Q x1 s1 r I J := by
  exact pm_go d [(13, [0]), (17, [0]), (25, [0]), (42, [0, 1]), (54, [0, 1]), (59, [0, 1, 2, 3]), (67, [0, 1, 2]), (85, [0, 1, 2]), (127, [0, 1, 2, 4]), (162, [0])] 400 ⟨(h).1, (h).2⟩
theorem kb_X11_readsFigure_42 {d L : Nat} {fz t : Bool} {Q : pm_R → pm_H → Prop} {x1 : Int32} {s1 : Int32} {r : Int32} {fz1 : Bool} {I : Nat → Nat → Int32} {J : Nat → Nat → Int64}
    (h : (vp_in s1 5 ∧ pm_Ev d 137 [.ref 85, .int (nI 1), .int (nI 4)] (pm_hp L fz t (pm_u I 95 (s1).toNatClampNeg r) J) (K_X11_readsFigure_54 d fz t Q x1 x1))) :
    K_X11_readsFigure_42 d fz t Q x1 s1 (.inl (some (.int r))) (pm_hp L fz1 t I J) := b_X11_readsFigure_42 h
set_option maxRecDepth 100000 in
theorem b_X11_readsFigure_54 {d L : Nat} {fz t : Bool} {Q : pm_R → pm_H → Prop} {x1 : Int32} {s1 : Int32} {r : Int32} {I : Nat → Nat → Int32} {J : Nat → Nat → Int64}
    (h : (vp_in s1 5 ∧ t_X11_readsFigure_59 d L fz t Q x1 (nI 0) (nI 1) (pm_u I 96 (s1).toNatClampNeg r) J)) :
    t_X11_readsFigure_54 d L fz t Q x1 s1 r I J := by
  exact pm_go d [(13, [0]), (17, [0]), (25, [0]), (42, [0, 1]), (54, [0, 1]), (59, [0, 1, 2, 3]), (67, [0, 1, 2]), (85, [0, 1, 2]), (127, [0, 1, 2, 4]), (162, [0])] 400 ⟨(h).1, (h).2⟩
theorem kb_X11_readsFigure_54 {d L : Nat} {fz t : Bool} {Q : pm_R → pm_H → Prop} {x1 : Int32} {s1 : Int32} {r : Int32} {fz1 : Bool} {I : Nat → Nat → Int32} {J : Nat → Nat → Int64}
    (h : (vp_in s1 5 ∧ t_X11_readsFigure_59 d L fz t Q x1 (nI 0) (nI 1) (pm_u I 96 (s1).toNatClampNeg r) J)) :
    K_X11_readsFigure_54 d fz t Q x1 s1 (.inl (some (.int r))) (pm_hp L fz1 t I J) := b_X11_readsFigure_54 h
set_option maxRecDepth 100000 in
theorem b_X11_readsFigure_59 {d L : Nat} {fz t : Bool} {Q : pm_R → pm_H → Prop} {x1 : Int32} {x2 : Int32} {x3 : Int32} {I : Nat → Nat → Int32} {J : Nat → Nat → Int64}
    (h : ((x3 = (nI 0) → t_X11_readsFigure_127 d L fz t Q x1 x2 x2 I J) ∧ (¬ x3 = (nI 0) → pm_Ev d 134 [.ref 85] (pm_hp L fz t I J) (K_X11_readsFigure_67 d fz t Q x1 x2)))) :
    t_X11_readsFigure_59 d L fz t Q x1 x2 x3 I J := by
  exact pm_go d [(13, [0]), (17, [0]), (25, [0]), (42, [0, 1]), (54, [0, 1]), (59, [0, 1, 2, 3]), (67, [0, 1, 2]), (85, [0, 1, 2]), (127, [0, 1, 2, 4]), (162, [0])] 400 ⟨fun q0 => ((h).1 q0), fun q0 => ((h).2 q0)⟩
set_option maxRecDepth 100000 in
theorem b_X11_readsFigure_127 {d L : Nat} {fz t : Bool} {Q : pm_R → pm_H → Prop} {x1 : Int32} {x2 : Int32} {x4 : Int32} {I : Nat → Nat → Int32} {J : Nat → Nat → Int64}
    (h : (((nI 3) ≤ x4 → (vp_in x1 5 ∧ pm_Ev d 134 [.ref 85] (pm_hp L fz t (pm_u I 97 (x1).toNatClampNeg x2) J) (K_X11_readsFigure_162 d fz t Q))) ∧ (¬ (nI 3) ≤ x4 → (vp_in (((nI 3) * x1) + x4) 15 ∧ t_X11_readsFigure_127 d L fz t Q x1 x2 (x4 + (nI 1)) (pm_u I 98 ((((nI 3) * x1) + x4)).toNatClampNeg (nI 0)) J)))) :
    t_X11_readsFigure_127 d L fz t Q x1 x2 x4 I J := by
  exact pm_go d [(13, [0]), (17, [0]), (25, [0]), (42, [0, 1]), (54, [0, 1]), (59, [0, 1, 2, 3]), (67, [0, 1, 2]), (85, [0, 1, 2]), (127, [0, 1, 2, 4]), (162, [0])] 400 ⟨fun q0 => ⟨(((h).1 q0)).1, (((h).1 q0)).2⟩, fun q0 => ⟨(((h).2 q0)).1, (((h).2 q0)).2⟩⟩
set_option maxRecDepth 100000 in
theorem b_X11_readsFigure_67 {d L : Nat} {fz t : Bool} {Q : pm_R → pm_H → Prop} {x1 : Int32} {x2 : Int32} {r : Int32} {I : Nat → Nat → Int32} {J : Nat → Nat → Int64}
    (h : ((r = (nI 0) → t_X11_readsFigure_127 d L fz t Q x1 x2 x2 I J) ∧ (¬ r = (nI 0) → (vp_in x1 5 ∧ pm_Ev d 137 [.ref 85, .int (nI 0), .int (((nI 1) <<< ((I 96 (x1).toNatClampNeg) &&& 31)) - (nI 1))] (pm_hp L fz t I J) (K_X11_readsFigure_85 d fz t Q x1 x2))))) :
    t_X11_readsFigure_67 d L fz t Q x1 x2 r I J := by
  exact pm_go d [(13, [0]), (17, [0]), (25, [0]), (42, [0, 1]), (54, [0, 1]), (59, [0, 1, 2, 3]), (67, [0, 1, 2]), (85, [0, 1, 2]), (127, [0, 1, 2, 4]), (162, [0])] 400 ⟨fun q0 => ((h).1 q0), fun q0 => ⟨(((h).2 q0)).1, (((h).2 q0)).2⟩⟩
theorem kb_X11_readsFigure_67 {d L : Nat} {fz t : Bool} {Q : pm_R → pm_H → Prop} {x1 : Int32} {x2 : Int32} {r : Int32} {fz1 : Bool} {I : Nat → Nat → Int32} {J : Nat → Nat → Int64}
    (h : ((r = (nI 0) → t_X11_readsFigure_127 d L fz t Q x1 x2 x2 I J) ∧ (¬ r = (nI 0) → (vp_in x1 5 ∧ pm_Ev d 137 [.ref 85, .int (nI 0), .int (((nI 1) <<< ((I 96 (x1).toNatClampNeg) &&& 31)) - (nI 1))] (pm_hp L fz t I J) (K_X11_readsFigure_85 d fz t Q x1 x2))))) :
    K_X11_readsFigure_67 d fz t Q x1 x2 (.inl (some (.int r))) (pm_hp L fz1 t I J) := b_X11_readsFigure_67 h
set_option maxRecDepth 100000 in
theorem b_X11_readsFigure_162 {d L : Nat} {fz t : Bool} {Q : pm_R → pm_H → Prop} {r : Int32} {I : Nat → Nat → Int32} {J : Nat → Nat → Int64}
    (h : ((r = (nI 0) → Q (.inl none) (pm_hp L fz t I J)) ∧ (¬ r = (nI 0) → Q (.inl none) (pm_hp L fz t (pm_u I 85 29 ((I 85 29) + (nI 1))) J)))) :
    t_X11_readsFigure_162 d L fz t Q r I J := by
  exact pm_go d [(13, [0]), (17, [0]), (25, [0]), (42, [0, 1]), (54, [0, 1]), (59, [0, 1, 2, 3]), (67, [0, 1, 2]), (85, [0, 1, 2]), (127, [0, 1, 2, 4]), (162, [0])] 400 ⟨fun q0 => ((h).1 q0), fun q0 => ((h).2 q0)⟩
theorem kb_X11_readsFigure_162 {d L : Nat} {fz t : Bool} {Q : pm_R → pm_H → Prop} {r : Int32} {fz1 : Bool} {I : Nat → Nat → Int32} {J : Nat → Nat → Int64}
    (h : ((r = (nI 0) → Q (.inl none) (pm_hp L fz t I J)) ∧ (¬ r = (nI 0) → Q (.inl none) (pm_hp L fz t (pm_u I 85 29 ((I 85 29) + (nI 1))) J)))) :
    K_X11_readsFigure_162 d fz t Q (.inl (some (.int r))) (pm_hp L fz1 t I J) := b_X11_readsFigure_162 h
set_option maxRecDepth 100000 in
theorem b_X11_readsFigure_85 {d L : Nat} {fz t : Bool} {Q : pm_R → pm_H → Prop} {x1 : Int32} {x2 : Int32} {r : Int32} {I : Nat → Nat → Int32} {J : Nat → Nat → Int64}
    (h : (vp_in (((nI 3) * x1) + x2) 15 ∧ (((nI 3) ≤ (x2 + (nI 1)) → t_X11_readsFigure_59 d L fz t Q x1 (x2 + (nI 1)) (nI 0) (pm_u I 98 ((((nI 3) * x1) + x2)).toNatClampNeg r) J) ∧ (¬ (nI 3) ≤ (x2 + (nI 1)) → ((¬ (I 85 20) = (nI 2) → t_X11_readsFigure_59 d L fz t Q x1 (x2 + (nI 1)) (nI 0) (pm_u I 98 ((((nI 3) * x1) + x2)).toNatClampNeg r) J) ∧ ((I 85 20) = (nI 2) → t_X11_readsFigure_59 d L fz t Q x1 (x2 + (nI 1)) (nI 1) (pm_u I 98 ((((nI 3) * x1) + x2)).toNatClampNeg r) J)))))) :
    t_X11_readsFigure_85 d L fz t Q x1 x2 r I J := by
  exact pm_go d [(13, [0]), (17, [0]), (25, [0]), (42, [0, 1]), (54, [0, 1]), (59, [0, 1, 2, 3]), (67, [0, 1, 2]), (85, [0, 1, 2]), (127, [0, 1, 2, 4]), (162, [0])] 400 ⟨(h).1, ⟨fun q0 => (((h).2).1 q0), fun q0 => ⟨fun q1 => (((((h).2).2 q0)).1 q1), fun q1 => (((((h).2).2 q0)).2 q1)⟩⟩⟩
theorem kb_X11_readsFigure_85 {d L : Nat} {fz t : Bool} {Q : pm_R → pm_H → Prop} {x1 : Int32} {x2 : Int32} {r : Int32} {fz1 : Bool} {I : Nat → Nat → Int32} {J : Nat → Nat → Int64}
    (h : (vp_in (((nI 3) * x1) + x2) 15 ∧ (((nI 3) ≤ (x2 + (nI 1)) → t_X11_readsFigure_59 d L fz t Q x1 (x2 + (nI 1)) (nI 0) (pm_u I 98 ((((nI 3) * x1) + x2)).toNatClampNeg r) J) ∧ (¬ (nI 3) ≤ (x2 + (nI 1)) → ((¬ (I 85 20) = (nI 2) → t_X11_readsFigure_59 d L fz t Q x1 (x2 + (nI 1)) (nI 0) (pm_u I 98 ((((nI 3) * x1) + x2)).toNatClampNeg r) J) ∧ ((I 85 20) = (nI 2) → t_X11_readsFigure_59 d L fz t Q x1 (x2 + (nI 1)) (nI 1) (pm_u I 98 ((((nI 3) * x1) + x2)).toNatClampNeg r) J)))))) :
    K_X11_readsFigure_85 d fz t Q x1 x2 (.inl (some (.int r))) (pm_hp L fz1 t I J) := b_X11_readsFigure_85 h
def t_X11_begins_0 (d L : Nat) (fz t : Bool) (Q : pm_R → pm_H → Prop) (x1 : Int32) (I : Nat → Nat → Int32) (J : Nat → Nat → Int64) : Prop := pm_T (pm_Ev d) 153 Q (0, [(0, .ref 85), (1, .int x1)], [], pm_hp L fz t I J, 0, 0)
def t_X11_begins_9 (d L : Nat) (fz t : Bool) (Q : pm_R → pm_H → Prop) (I : Nat → Nat → Int32) (J : Nat → Nat → Int64) : Prop := pm_T (pm_Ev d) 153 Q (9, [(0, .ref 85)], [], pm_hp L fz t I J, 0, 0)
def K_X11_begins_9 (d : Nat) (fz t : Bool) (Q : pm_R → pm_H → Prop) : pm_R → pm_H → Prop := pm_K d 153 Q 9 [(0, .ref 85)] [] 118 0 fz 0 0
def t_X11_begins_13 (d L : Nat) (fz t : Bool) (Q : pm_R → pm_H → Prop) (r : Int32) (I : Nat → Nat → Int32) (J : Nat → Nat → Int64) : Prop := pm_T (pm_Ev d) 153 Q (13, [(0, .ref 85)], [.int r], pm_hp L fz t I J, 0, 0)
def K_X11_begins_13 (d : Nat) (fz t : Bool) (Q : pm_R → pm_H → Prop) : pm_R → pm_H → Prop := pm_K d 153 Q 13 [(0, .ref 85)] [] 118 0 fz 0 0
def t_X11_begins_22 (d L : Nat) (fz t : Bool) (Q : pm_R → pm_H → Prop) (I : Nat → Nat → Int32) (J : Nat → Nat → Int64) : Prop := pm_T (pm_Ev d) 153 Q (22, [], [], pm_hp L fz t I J, 0, 0)
def K_X11_begins_22 (d : Nat) (fz t : Bool) (Q : pm_R → pm_H → Prop) : pm_R → pm_H → Prop := pm_K d 153 Q 22 [] [] 118 0 fz 0 0
set_option maxRecDepth 100000 in
theorem b_X11_begins_0 {d L : Nat} {fz t : Bool} {Q : pm_R → pm_H → Prop} {x1 : Int32} {I : Nat → Nat → Int32} {J : Nat → Nat → Int64}
    (h : ((x1 = (nI 0) → t_X11_begins_9 d L fz t Q I J) ∧ (¬ x1 = (nI 0) → pm_Ev d 133 [.ref 85, .int (nI 5)] (pm_hp L fz t I J) (K_X11_begins_9 d fz t Q)))) :
    t_X11_begins_0 d L fz t Q x1 I J := by
  exact pm_go d [(9, [0]), (13, [0]), (22, [])] 400 ⟨fun q0 => ((h).1 q0), fun q0 => ((h).2 q0)⟩
theorem e_X11_begins {d L : Nat} {fz t : Bool} {Q : pm_R → pm_H → Prop} {x1 : Int32} {I : Nat → Nat → Int32} {J : Nat → Nat → Int64}
    (h : ((x1 = (nI 0) → t_X11_begins_9 d L fz t Q I J) ∧ (¬ x1 = (nI 0) → pm_Ev d 133 [.ref 85, .int (nI 5)] (pm_hp L fz t I J) (K_X11_begins_9 d fz t Q)))) :
    pm_Ev (d + 1) 153 [.ref 85, .int x1] (pm_hp L fz t I J) Q := pm_Ev_in rfl (b_X11_begins_0 h)
set_option maxRecDepth 100000 in
theorem b_X11_begins_9 {d L : Nat} {fz t : Bool} {Q : pm_R → pm_H → Prop} {I : Nat → Nat → Int32} {J : Nat → Nat → Int64}
    (h : pm_Ev d 134 [.ref 85] (pm_hp L fz t I J) (K_X11_begins_13 d fz t Q)) :
    t_X11_begins_9 d L fz t Q I J := by
  exact pm_go d [(9, [0]), (13, [0]), (22, [])] 400 h
theorem kb_X11_begins_9 {d L : Nat} {fz t : Bool} {Q : pm_R → pm_H → Prop} {fz1 : Bool} {I : Nat → Nat → Int32} {J : Nat → Nat → Int64}
    (h : pm_Ev d 134 [.ref 85] (pm_hp L fz t I J) (K_X11_begins_13 d fz t Q)) :
    K_X11_begins_9 d fz t Q (.inl none) (pm_hp L fz1 t I J) := b_X11_begins_9 h
set_option maxRecDepth 100000 in
theorem b_X11_begins_13 {d L : Nat} {fz t : Bool} {Q : pm_R → pm_H → Prop} {r : Int32} {I : Nat → Nat → Int32} {J : Nat → Nat → Int64}
    (h : ((¬ r = (nI 0) → pm_Ev d 129 [.ref 85] (pm_hp L fz t I J) (K_X11_begins_22 d fz t Q)) ∧ (r = (nI 0) → Q (.inl (some (.int (nI 0)))) (pm_hp L fz t I J)))) :
    t_X11_begins_13 d L fz t Q r I J := by
  exact pm_go d [(9, [0]), (13, [0]), (22, [])] 400 ⟨fun q0 => ((h).1 q0), fun q0 => ⟨Or.inl rfl, ((h).2 q0)⟩⟩
theorem kb_X11_begins_13 {d L : Nat} {fz t : Bool} {Q : pm_R → pm_H → Prop} {r : Int32} {fz1 : Bool} {I : Nat → Nat → Int32} {J : Nat → Nat → Int64}
    (h : ((¬ r = (nI 0) → pm_Ev d 129 [.ref 85] (pm_hp L fz t I J) (K_X11_begins_22 d fz t Q)) ∧ (r = (nI 0) → Q (.inl (some (.int (nI 0)))) (pm_hp L fz t I J)))) :
    K_X11_begins_13 d fz t Q (.inl (some (.int r))) (pm_hp L fz1 t I J) := b_X11_begins_13 h
set_option maxRecDepth 100000 in
theorem b_X11_begins_22 {d L : Nat} {fz t : Bool} {Q : pm_R → pm_H → Prop} {I : Nat → Nat → Int32} {J : Nat → Nat → Int64}
    (h : Q (.inl (some (.int (nI 1)))) (pm_hp L fz t I J)) :
    t_X11_begins_22 d L fz t Q I J := by
  exact pm_go d [(9, [0]), (13, [0]), (22, [])] 400 ⟨Or.inr rfl, h⟩
theorem kb_X11_begins_22 {d L : Nat} {fz t : Bool} {Q : pm_R → pm_H → Prop} {fz1 : Bool} {I : Nat → Nat → Int32} {J : Nat → Nat → Int64}
    (h : Q (.inl (some (.int (nI 1)))) (pm_hp L fz t I J)) :
    K_X11_begins_22 d fz t Q (.inl none) (pm_hp L fz1 t I J) := b_X11_begins_22 h
def t_X11_line_0 (d L : Nat) (fz t : Bool) (Q : pm_R → pm_H → Prop) (I : Nat → Nat → Int32) (J : Nat → Nat → Int64) : Prop := pm_T (pm_Ev d) 154 Q (0, [(0, .ref 85)], [], pm_hp L fz t I J, 0, 0)
def t_X11_line_4 (d L : Nat) (fz t : Bool) (Q : pm_R → pm_H → Prop) (r : Int32) (I : Nat → Nat → Int32) (J : Nat → Nat → Int64) : Prop := pm_T (pm_Ev d) 154 Q (4, [(0, .ref 85)], [.int r], pm_hp L fz t I J, 0, 0)
def K_X11_line_4 (d : Nat) (fz t : Bool) (Q : pm_R → pm_H → Prop) : pm_R → pm_H → Prop := pm_K d 154 Q 4 [(0, .ref 85)] [] 118 0 fz 0 0
def t_X11_line_177 (d L : Nat) (fz t : Bool) (Q : pm_R → pm_H → Prop) (I : Nat → Nat → Int32) (J : Nat → Nat → Int64) : Prop := pm_T (pm_Ev d) 154 Q (177, [(0, .ref 85)], [], pm_hp L fz t I J, 0, 0)
def K_X11_line_177 (d : Nat) (fz t : Bool) (Q : pm_R → pm_H → Prop) : pm_R → pm_H → Prop := pm_K d 154 Q 177 [(0, .ref 85)] [] 118 0 fz 0 0
def t_X11_line_150 (d L : Nat) (fz t : Bool) (Q : pm_R → pm_H → Prop) (r : Int32) (I : Nat → Nat → Int32) (J : Nat → Nat → Int64) : Prop := pm_T (pm_Ev d) 154 Q (150, [(0, .ref 85)], [.int r], pm_hp L fz t I J, 0, 0)
def K_X11_line_150 (d : Nat) (fz t : Bool) (Q : pm_R → pm_H → Prop) : pm_R → pm_H → Prop := pm_K d 154 Q 150 [(0, .ref 85)] [] 118 0 fz 0 0
def t_X11_line_107 (d L : Nat) (fz t : Bool) (Q : pm_R → pm_H → Prop) (r : Int32) (I : Nat → Nat → Int32) (J : Nat → Nat → Int64) : Prop := pm_T (pm_Ev d) 154 Q (107, [(0, .ref 85)], [.int r], pm_hp L fz t I J, 0, 0)
def K_X11_line_107 (d : Nat) (fz t : Bool) (Q : pm_R → pm_H → Prop) : pm_R → pm_H → Prop := pm_K d 154 Q 107 [(0, .ref 85)] [] 118 0 fz 0 0
def t_X11_line_81 (d L : Nat) (fz t : Bool) (Q : pm_R → pm_H → Prop) (I : Nat → Nat → Int32) (J : Nat → Nat → Int64) : Prop := pm_T (pm_Ev d) 154 Q (81, [(0, .ref 85)], [], pm_hp L fz t I J, 0, 0)
def K_X11_line_81 (d : Nat) (fz t : Bool) (Q : pm_R → pm_H → Prop) : pm_R → pm_H → Prop := pm_K d 154 Q 81 [(0, .ref 85)] [] 118 0 fz 0 0
def t_X11_line_68 (d L : Nat) (fz t : Bool) (Q : pm_R → pm_H → Prop) (I : Nat → Nat → Int32) (J : Nat → Nat → Int64) : Prop := pm_T (pm_Ev d) 154 Q (68, [(0, .ref 85)], [], pm_hp L fz t I J, 0, 0)
def K_X11_line_68 (d : Nat) (fz t : Bool) (Q : pm_R → pm_H → Prop) : pm_R → pm_H → Prop := pm_K d 154 Q 68 [(0, .ref 85)] [] 118 0 fz 0 0
def t_X11_line_55 (d L : Nat) (fz t : Bool) (Q : pm_R → pm_H → Prop) (I : Nat → Nat → Int32) (J : Nat → Nat → Int64) : Prop := pm_T (pm_Ev d) 154 Q (55, [(0, .ref 85)], [], pm_hp L fz t I J, 0, 0)
def K_X11_line_55 (d : Nat) (fz t : Bool) (Q : pm_R → pm_H → Prop) : pm_R → pm_H → Prop := pm_K d 154 Q 55 [(0, .ref 85)] [] 118 0 fz 0 0
def t_X11_line_28 (d L : Nat) (fz t : Bool) (Q : pm_R → pm_H → Prop) (r : Int32) (I : Nat → Nat → Int32) (J : Nat → Nat → Int64) : Prop := pm_T (pm_Ev d) 154 Q (28, [(0, .ref 85)], [.int r], pm_hp L fz t I J, 0, 0)
def K_X11_line_28 (d : Nat) (fz t : Bool) (Q : pm_R → pm_H → Prop) : pm_R → pm_H → Prop := pm_K d 154 Q 28 [(0, .ref 85)] [] 118 0 fz 0 0
def t_X11_line_184 (d L : Nat) (fz t : Bool) (Q : pm_R → pm_H → Prop) (r : Int32) (I : Nat → Nat → Int32) (J : Nat → Nat → Int64) : Prop := pm_T (pm_Ev d) 154 Q (184, [], [.int r, .ref 85], pm_hp L fz t I J, 0, 0)
def K_X11_line_184 (d : Nat) (fz t : Bool) (Q : pm_R → pm_H → Prop) : pm_R → pm_H → Prop := pm_K d 154 Q 184 [] [.ref 85] 118 0 fz 0 0
def t_X11_line_169 (d L : Nat) (fz t : Bool) (Q : pm_R → pm_H → Prop) (I : Nat → Nat → Int32) (J : Nat → Nat → Int64) : Prop := pm_T (pm_Ev d) 154 Q (169, [(0, .ref 85)], [], pm_hp L fz t I J, 0, 0)
def K_X11_line_169 (d : Nat) (fz t : Bool) (Q : pm_R → pm_H → Prop) : pm_R → pm_H → Prop := pm_K d 154 Q 169 [(0, .ref 85)] [] 118 0 fz 0 0
def t_X11_line_124 (d L : Nat) (fz t : Bool) (Q : pm_R → pm_H → Prop) (I : Nat → Nat → Int32) (J : Nat → Nat → Int64) : Prop := pm_T (pm_Ev d) 154 Q (124, [(0, .ref 85)], [], pm_hp L fz t I J, 0, 0)
def K_X11_line_124 (d : Nat) (fz t : Bool) (Q : pm_R → pm_H → Prop) : pm_R → pm_H → Prop := pm_K d 154 Q 124 [(0, .ref 85)] [] 118 0 fz 0 0
def t_X11_line_39 (d L : Nat) (fz t : Bool) (Q : pm_R → pm_H → Prop) (r : Int32) (I : Nat → Nat → Int32) (J : Nat → Nat → Int64) : Prop := pm_T (pm_Ev d) 154 Q (39, [(0, .ref 85)], [.int r, .ref 85], pm_hp L fz t I J, 0, 0)
def K_X11_line_39 (d : Nat) (fz t : Bool) (Q : pm_R → pm_H → Prop) : pm_R → pm_H → Prop := pm_K d 154 Q 39 [(0, .ref 85)] [.ref 85] 118 0 fz 0 0
def t_X11_line_187 (d L : Nat) (fz t : Bool) (Q : pm_R → pm_H → Prop) (I : Nat → Nat → Int32) (J : Nat → Nat → Int64) : Prop := pm_T (pm_Ev d) 154 Q (187, [], [], pm_hp L fz t I J, 0, 0)
def K_X11_line_187 (d : Nat) (fz t : Bool) (Q : pm_R → pm_H → Prop) : pm_R → pm_H → Prop := pm_K d 154 Q 187 [] [] 118 0 fz 0 0
set_option maxRecDepth 100000 in
theorem b_X11_line_0 {d L : Nat} {fz t : Bool} {Q : pm_R → pm_H → Prop} {I : Nat → Nat → Int32} {J : Nat → Nat → Int64}
    (h : pm_Ev d 132 [.ref 85] (pm_hp L fz t I J) (K_X11_line_4 d fz t Q)) :
    t_X11_line_0 d L fz t Q I J := by
  exact pm_go d [(4, [0]), (28, [0]), (39, [0]), (55, [0]), (68, [0]), (81, [0]), (107, [0]), (124, [0]), (150, [0]), (169, [0]), (177, [0]), (184, []), (187, [])] 400 h
theorem e_X11_line {d L : Nat} {fz t : Bool} {Q : pm_R → pm_H → Prop} {I : Nat → Nat → Int32} {J : Nat → Nat → Int64}
    (h : pm_Ev d 132 [.ref 85] (pm_hp L fz t I J) (K_X11_line_4 d fz t Q)) :
    pm_Ev (d + 1) 154 [.ref 85] (pm_hp L fz t I J) Q := pm_Ev_in rfl (b_X11_line_0 h)
set_option maxRecDepth 100000 in
theorem b_X11_line_4 {d L : Nat} {fz t : Bool} {Q : pm_R → pm_H → Prop} {r : Int32} {I : Nat → Nat → Int32} {J : Nat → Nat → Int64}
    (h : ((¬ r = (nI 10) → ((¬ r = (nI 11) → ((¬ r = (nI 12) → ((¬ r = (nI 13) → ((¬ r = (nI 14) → ((¬ r = (nI 15) → pm_Ev d 133 [.ref 85, .int (nI 1)] (pm_hp L fz t I J) (K_X11_line_177 d fz t Q)) ∧ (r = (nI 15) → (((I 85 31) = (-1 : Int32) → pm_Ev d 153 [.ref 85, .int (nI 0)] (pm_hp L fz t I J) (K_X11_line_150 d fz t Q)) ∧ (¬ (I 85 31) = (-1 : Int32) → pm_Ev d 153 [.ref 85, .int (nI 1)] (pm_hp L fz t I J) (K_X11_line_150 d fz t Q)))))) ∧ (r = (nI 14) → (((I 85 30) = (-1 : Int32) → pm_Ev d 153 [.ref 85, .int (nI 0)] (pm_hp L fz t I J) (K_X11_line_107 d fz t Q)) ∧ (¬ (I 85 30) = (-1 : Int32) → pm_Ev d 153 [.ref 85, .int (nI 1)] (pm_hp L fz t I J) (K_X11_line_107 d fz t Q)))))) ∧ (r = (nI 13) → pm_Ev d 152 [.ref 85] (pm_hp L fz t I J) (K_X11_line_81 d fz t Q)))) ∧ (r = (nI 12) → pm_Ev d 151 [.ref 85] (pm_hp L fz t I J) (K_X11_line_68 d fz t Q)))) ∧ (r = (nI 11) → pm_Ev d 150 [.ref 85] (pm_hp L fz t I J) (K_X11_line_55 d fz t Q)))) ∧ (r = (nI 10) → (((I 85 26) = (-1 : Int32) → pm_Ev d 153 [.ref 85, .int (nI 0)] (pm_hp L fz t I J) (K_X11_line_28 d fz t Q)) ∧ (¬ (I 85 26) = (-1 : Int32) → pm_Ev d 153 [.ref 85, .int (nI 1)] (pm_hp L fz t I J) (K_X11_line_28 d fz t Q)))))) :
    t_X11_line_4 d L fz t Q r I J := by
  exact pm_go d [(4, [0]), (28, [0]), (39, [0]), (55, [0]), (68, [0]), (81, [0]), (107, [0]), (124, [0]), (150, [0]), (169, [0]), (177, [0]), (184, []), (187, [])] 400 ⟨fun q0 => ⟨fun q1 => ⟨fun q2 => ⟨fun q3 => ⟨fun q4 => ⟨fun q5 => ((((((((((((h).1 q0)).1 q1)).1 q2)).1 q3)).1 q4)).1 q5), fun q5 => ⟨fun q6 => ((((((((((((((h).1 q0)).1 q1)).1 q2)).1 q3)).1 q4)).2 q5)).1 q6), fun q6 => ((((((((((((((h).1 q0)).1 q1)).1 q2)).1 q3)).1 q4)).2 q5)).2 q6)⟩⟩, fun q4 => ⟨fun q5 => ((((((((((((h).1 q0)).1 q1)).1 q2)).1 q3)).2 q4)).1 q5), fun q5 => ((((((((((((h).1 q0)).1 q1)).1 q2)).1 q3)).2 q4)).2 q5)⟩⟩, fun q3 => ((((((((h).1 q0)).1 q1)).1 q2)).2 q3)⟩, fun q2 => ((((((h).1 q0)).1 q1)).2 q2)⟩, fun q1 => ((((h).1 q0)).2 q1)⟩, fun q0 => ⟨fun q1 => ((((h).2 q0)).1 q1), fun q1 => ((((h).2 q0)).2 q1)⟩⟩
theorem kb_X11_line_4 {d L : Nat} {fz t : Bool} {Q : pm_R → pm_H → Prop} {r : Int32} {fz1 : Bool} {I : Nat → Nat → Int32} {J : Nat → Nat → Int64}
    (h : ((¬ r = (nI 10) → ((¬ r = (nI 11) → ((¬ r = (nI 12) → ((¬ r = (nI 13) → ((¬ r = (nI 14) → ((¬ r = (nI 15) → pm_Ev d 133 [.ref 85, .int (nI 1)] (pm_hp L fz t I J) (K_X11_line_177 d fz t Q)) ∧ (r = (nI 15) → (((I 85 31) = (-1 : Int32) → pm_Ev d 153 [.ref 85, .int (nI 0)] (pm_hp L fz t I J) (K_X11_line_150 d fz t Q)) ∧ (¬ (I 85 31) = (-1 : Int32) → pm_Ev d 153 [.ref 85, .int (nI 1)] (pm_hp L fz t I J) (K_X11_line_150 d fz t Q)))))) ∧ (r = (nI 14) → (((I 85 30) = (-1 : Int32) → pm_Ev d 153 [.ref 85, .int (nI 0)] (pm_hp L fz t I J) (K_X11_line_107 d fz t Q)) ∧ (¬ (I 85 30) = (-1 : Int32) → pm_Ev d 153 [.ref 85, .int (nI 1)] (pm_hp L fz t I J) (K_X11_line_107 d fz t Q)))))) ∧ (r = (nI 13) → pm_Ev d 152 [.ref 85] (pm_hp L fz t I J) (K_X11_line_81 d fz t Q)))) ∧ (r = (nI 12) → pm_Ev d 151 [.ref 85] (pm_hp L fz t I J) (K_X11_line_68 d fz t Q)))) ∧ (r = (nI 11) → pm_Ev d 150 [.ref 85] (pm_hp L fz t I J) (K_X11_line_55 d fz t Q)))) ∧ (r = (nI 10) → (((I 85 26) = (-1 : Int32) → pm_Ev d 153 [.ref 85, .int (nI 0)] (pm_hp L fz t I J) (K_X11_line_28 d fz t Q)) ∧ (¬ (I 85 26) = (-1 : Int32) → pm_Ev d 153 [.ref 85, .int (nI 1)] (pm_hp L fz t I J) (K_X11_line_28 d fz t Q)))))) :
    K_X11_line_4 d fz t Q (.inl (some (.int r))) (pm_hp L fz1 t I J) := b_X11_line_4 h
set_option maxRecDepth 100000 in
theorem b_X11_line_177 {d L : Nat} {fz t : Bool} {Q : pm_R → pm_H → Prop} {I : Nat → Nat → Int32} {J : Nat → Nat → Int64}
    (h : pm_Ev d 135 [.ref 85, .int (nI 59)] (pm_hp L fz t I J) (K_X11_line_184 d fz t Q)) :
    t_X11_line_177 d L fz t Q I J := by
  exact pm_go d [(4, [0]), (28, [0]), (39, [0]), (55, [0]), (68, [0]), (81, [0]), (107, [0]), (124, [0]), (150, [0]), (169, [0]), (177, [0]), (184, []), (187, [])] 400 h
theorem kb_X11_line_177 {d L : Nat} {fz t : Bool} {Q : pm_R → pm_H → Prop} {fz1 : Bool} {I : Nat → Nat → Int32} {J : Nat → Nat → Int64}
    (h : pm_Ev d 135 [.ref 85, .int (nI 59)] (pm_hp L fz t I J) (K_X11_line_184 d fz t Q)) :
    K_X11_line_177 d fz t Q (.inl none) (pm_hp L fz1 t I J) := b_X11_line_177 h
set_option maxRecDepth 100000 in
theorem b_X11_line_150 {d L : Nat} {fz t : Bool} {Q : pm_R → pm_H → Prop} {r : Int32} {I : Nat → Nat → Int32} {J : Nat → Nat → Int64}
    (h : ((r = (nI 0) → t_X11_line_177 d L fz t Q I J) ∧ (¬ r = (nI 0) → pm_Ev d 149 [.ref 85, .int (nI 6), .int (nI 9)] (pm_hp L fz t (pm_u I 85 31 (I 85 32)) J) (K_X11_line_169 d fz t Q)))) :
    t_X11_line_150 d L fz t Q r I J := by
  exact pm_go d [(4, [0]), (28, [0]), (39, [0]), (55, [0]), (68, [0]), (81, [0]), (107, [0]), (124, [0]), (150, [0]), (169, [0]), (177, [0]), (184, []), (187, [])] 400 ⟨fun q0 => ((h).1 q0), fun q0 => ((h).2 q0)⟩
theorem kb_X11_line_150 {d L : Nat} {fz t : Bool} {Q : pm_R → pm_H → Prop} {r : Int32} {fz1 : Bool} {I : Nat → Nat → Int32} {J : Nat → Nat → Int64}
    (h : ((r = (nI 0) → t_X11_line_177 d L fz t Q I J) ∧ (¬ r = (nI 0) → pm_Ev d 149 [.ref 85, .int (nI 6), .int (nI 9)] (pm_hp L fz t (pm_u I 85 31 (I 85 32)) J) (K_X11_line_169 d fz t Q)))) :
    K_X11_line_150 d fz t Q (.inl (some (.int r))) (pm_hp L fz1 t I J) := b_X11_line_150 h
set_option maxRecDepth 100000 in
theorem b_X11_line_107 {d L : Nat} {fz t : Bool} {Q : pm_R → pm_H → Prop} {r : Int32} {I : Nat → Nat → Int32} {J : Nat → Nat → Int64}
    (h : ((r = (nI 0) → t_X11_line_177 d L fz t Q I J) ∧ (¬ r = (nI 0) → pm_Ev d 149 [.ref 85, .int (nI 0), .int (nI 5)] (pm_hp L fz t (pm_u I 85 30 (I 85 32)) J) (K_X11_line_124 d fz t Q)))) :
    t_X11_line_107 d L fz t Q r I J := by
  exact pm_go d [(4, [0]), (28, [0]), (39, [0]), (55, [0]), (68, [0]), (81, [0]), (107, [0]), (124, [0]), (150, [0]), (169, [0]), (177, [0]), (184, []), (187, [])] 400 ⟨fun q0 => ((h).1 q0), fun q0 => ((h).2 q0)⟩
theorem kb_X11_line_107 {d L : Nat} {fz t : Bool} {Q : pm_R → pm_H → Prop} {r : Int32} {fz1 : Bool} {I : Nat → Nat → Int32} {J : Nat → Nat → Int64}
    (h : ((r = (nI 0) → t_X11_line_177 d L fz t Q I J) ∧ (¬ r = (nI 0) → pm_Ev d 149 [.ref 85, .int (nI 0), .int (nI 5)] (pm_hp L fz t (pm_u I 85 30 (I 85 32)) J) (K_X11_line_124 d fz t Q)))) :
    K_X11_line_107 d fz t Q (.inl (some (.int r))) (pm_hp L fz1 t I J) := b_X11_line_107 h
set_option maxRecDepth 100000 in
theorem b_X11_line_81 {d L : Nat} {fz t : Bool} {Q : pm_R → pm_H → Prop} {I : Nat → Nat → Int32} {J : Nat → Nat → Int64}
    (h : t_X11_line_177 d L fz t Q I J) :
    t_X11_line_81 d L fz t Q I J := by
  exact pm_go d [(4, [0]), (28, [0]), (39, [0]), (55, [0]), (68, [0]), (81, [0]), (107, [0]), (124, [0]), (150, [0]), (169, [0]), (177, [0]), (184, []), (187, [])] 400 h
theorem kb_X11_line_81 {d L : Nat} {fz t : Bool} {Q : pm_R → pm_H → Prop} {fz1 : Bool} {I : Nat → Nat → Int32} {J : Nat → Nat → Int64}
    (h : t_X11_line_177 d L fz t Q I J) :
    K_X11_line_81 d fz t Q (.inl none) (pm_hp L fz1 t I J) := b_X11_line_81 h
set_option maxRecDepth 100000 in
theorem b_X11_line_68 {d L : Nat} {fz t : Bool} {Q : pm_R → pm_H → Prop} {I : Nat → Nat → Int32} {J : Nat → Nat → Int64}
    (h : t_X11_line_177 d L fz t Q I J) :
    t_X11_line_68 d L fz t Q I J := by
  exact pm_go d [(4, [0]), (28, [0]), (39, [0]), (55, [0]), (68, [0]), (81, [0]), (107, [0]), (124, [0]), (150, [0]), (169, [0]), (177, [0]), (184, []), (187, [])] 400 h
theorem kb_X11_line_68 {d L : Nat} {fz t : Bool} {Q : pm_R → pm_H → Prop} {fz1 : Bool} {I : Nat → Nat → Int32} {J : Nat → Nat → Int64}
    (h : t_X11_line_177 d L fz t Q I J) :
    K_X11_line_68 d fz t Q (.inl none) (pm_hp L fz1 t I J) := b_X11_line_68 h
set_option maxRecDepth 100000 in
theorem b_X11_line_55 {d L : Nat} {fz t : Bool} {Q : pm_R → pm_H → Prop} {I : Nat → Nat → Int32} {J : Nat → Nat → Int64}
    (h : t_X11_line_177 d L fz t Q I J) :
    t_X11_line_55 d L fz t Q I J := by
  exact pm_go d [(4, [0]), (28, [0]), (39, [0]), (55, [0]), (68, [0]), (81, [0]), (107, [0]), (124, [0]), (150, [0]), (169, [0]), (177, [0]), (184, []), (187, [])] 400 h
theorem kb_X11_line_55 {d L : Nat} {fz t : Bool} {Q : pm_R → pm_H → Prop} {fz1 : Bool} {I : Nat → Nat → Int32} {J : Nat → Nat → Int64}
    (h : t_X11_line_177 d L fz t Q I J) :
    K_X11_line_55 d fz t Q (.inl none) (pm_hp L fz1 t I J) := b_X11_line_55 h
set_option maxRecDepth 100000 in
theorem b_X11_line_28 {d L : Nat} {fz t : Bool} {Q : pm_R → pm_H → Prop} {r : Int32} {I : Nat → Nat → Int32} {J : Nat → Nat → Int64}
    (h : ((r = (nI 0) → t_X11_line_177 d L fz t Q I J) ∧ (¬ r = (nI 0) → pm_Ev d 137 [.ref 85, .int (nI 2), .int (nI 12)] (pm_hp L fz t I J) (K_X11_line_39 d fz t Q)))) :
    t_X11_line_28 d L fz t Q r I J := by
  exact pm_go d [(4, [0]), (28, [0]), (39, [0]), (55, [0]), (68, [0]), (81, [0]), (107, [0]), (124, [0]), (150, [0]), (169, [0]), (177, [0]), (184, []), (187, [])] 400 ⟨fun q0 => ((h).1 q0), fun q0 => ((h).2 q0)⟩
theorem kb_X11_line_28 {d L : Nat} {fz t : Bool} {Q : pm_R → pm_H → Prop} {r : Int32} {fz1 : Bool} {I : Nat → Nat → Int32} {J : Nat → Nat → Int64}
    (h : ((r = (nI 0) → t_X11_line_177 d L fz t Q I J) ∧ (¬ r = (nI 0) → pm_Ev d 137 [.ref 85, .int (nI 2), .int (nI 12)] (pm_hp L fz t I J) (K_X11_line_39 d fz t Q)))) :
    K_X11_line_28 d fz t Q (.inl (some (.int r))) (pm_hp L fz1 t I J) := b_X11_line_28 h
set_option maxRecDepth 100000 in
theorem b_X11_line_184 {d L : Nat} {fz t : Bool} {Q : pm_R → pm_H → Prop} {r : Int32} {I : Nat → Nat → Int32} {J : Nat → Nat → Int64}
    (h : pm_Ev d 136 [.ref 85, .int r] (pm_hp L fz t I J) (K_X11_line_187 d fz t Q)) :
    t_X11_line_184 d L fz t Q r I J := by
  exact pm_go d [(4, [0]), (28, [0]), (39, [0]), (55, [0]), (68, [0]), (81, [0]), (107, [0]), (124, [0]), (150, [0]), (169, [0]), (177, [0]), (184, []), (187, [])] 400 h
theorem kb_X11_line_184 {d L : Nat} {fz t : Bool} {Q : pm_R → pm_H → Prop} {r : Int32} {fz1 : Bool} {I : Nat → Nat → Int32} {J : Nat → Nat → Int64}
    (h : pm_Ev d 136 [.ref 85, .int r] (pm_hp L fz t I J) (K_X11_line_187 d fz t Q)) :
    K_X11_line_184 d fz t Q (.inl (some (.int r))) (pm_hp L fz1 t I J) := b_X11_line_184 h
set_option maxRecDepth 100000 in
theorem b_X11_line_169 {d L : Nat} {fz t : Bool} {Q : pm_R → pm_H → Prop} {I : Nat → Nat → Int32} {J : Nat → Nat → Int64}
    (h : t_X11_line_177 d L fz t Q I J) :
    t_X11_line_169 d L fz t Q I J := by
  exact pm_go d [(4, [0]), (28, [0]), (39, [0]), (55, [0]), (68, [0]), (81, [0]), (107, [0]), (124, [0]), (150, [0]), (169, [0]), (177, [0]), (184, []), (187, [])] 400 h
theorem kb_X11_line_169 {d L : Nat} {fz t : Bool} {Q : pm_R → pm_H → Prop} {fz1 : Bool} {I : Nat → Nat → Int32} {J : Nat → Nat → Int64}
    (h : t_X11_line_177 d L fz t Q I J) :
    K_X11_line_169 d fz t Q (.inl none) (pm_hp L fz1 t I J) := b_X11_line_169 h
set_option maxRecDepth 100000 in
theorem b_X11_line_124 {d L : Nat} {fz t : Bool} {Q : pm_R → pm_H → Prop} {I : Nat → Nat → Int32} {J : Nat → Nat → Int64}
    (h : t_X11_line_177 d L fz t Q I J) :
    t_X11_line_124 d L fz t Q I J := by
  exact pm_go d [(4, [0]), (28, [0]), (39, [0]), (55, [0]), (68, [0]), (81, [0]), (107, [0]), (124, [0]), (150, [0]), (169, [0]), (177, [0]), (184, []), (187, [])] 400 h
theorem kb_X11_line_124 {d L : Nat} {fz t : Bool} {Q : pm_R → pm_H → Prop} {fz1 : Bool} {I : Nat → Nat → Int32} {J : Nat → Nat → Int64}
    (h : t_X11_line_177 d L fz t Q I J) :
    K_X11_line_124 d fz t Q (.inl none) (pm_hp L fz1 t I J) := b_X11_line_124 h
set_option maxRecDepth 100000 in
theorem b_X11_line_39 {d L : Nat} {fz t : Bool} {Q : pm_R → pm_H → Prop} {r : Int32} {I : Nat → Nat → Int32} {J : Nat → Nat → Int64}
    (h : t_X11_line_177 d L fz t Q (pm_u I 85 26 r) J) :
    t_X11_line_39 d L fz t Q r I J := by
  exact pm_go d [(4, [0]), (28, [0]), (39, [0]), (55, [0]), (68, [0]), (81, [0]), (107, [0]), (124, [0]), (150, [0]), (169, [0]), (177, [0]), (184, []), (187, [])] 400 h
theorem kb_X11_line_39 {d L : Nat} {fz t : Bool} {Q : pm_R → pm_H → Prop} {r : Int32} {fz1 : Bool} {I : Nat → Nat → Int32} {J : Nat → Nat → Int64}
    (h : t_X11_line_177 d L fz t Q (pm_u I 85 26 r) J) :
    K_X11_line_39 d fz t Q (.inl (some (.int r))) (pm_hp L fz1 t I J) := b_X11_line_39 h
set_option maxRecDepth 100000 in
theorem b_X11_line_187 {d L : Nat} {fz t : Bool} {Q : pm_R → pm_H → Prop} {I : Nat → Nat → Int32} {J : Nat → Nat → Int64}
    (h : Q (.inl none) (pm_hp L fz t I J)) :
    t_X11_line_187 d L fz t Q I J := by
  exact pm_go d [(4, [0]), (28, [0]), (39, [0]), (55, [0]), (68, [0]), (81, [0]), (107, [0]), (124, [0]), (150, [0]), (169, [0]), (177, [0]), (184, []), (187, [])] 400 h
theorem kb_X11_line_187 {d L : Nat} {fz t : Bool} {Q : pm_R → pm_H → Prop} {fz1 : Bool} {I : Nat → Nat → Int32} {J : Nat → Nat → Int64}
    (h : Q (.inl none) (pm_hp L fz t I J)) :
    K_X11_line_187 d fz t Q (.inl none) (pm_hp L fz1 t I J) := b_X11_line_187 h
def t_X11_chapel_0 (d L : Nat) (fz t : Bool) (Q : pm_R → pm_H → Prop) (x1 : Int32) (I : Nat → Nat → Int32) (J : Nat → Nat → Int64) : Prop := pm_T (pm_Ev d) 155 Q (0, [(0, .ref 85), (1, .int x1)], [], pm_hp L fz t I J, 0, 0)
def t_X11_chapel_27 (d L : Nat) (fz t : Bool) (Q : pm_R → pm_H → Prop) (x1 : Int32) (r : Int32) (I : Nat → Nat → Int32) (J : Nat → Nat → Int64) : Prop := pm_T (pm_Ev d) 155 Q (27, [(0, .ref 85), (1, .int x1)], [.int r], pm_hp L fz t I J, 0, 0)
def K_X11_chapel_27 (d : Nat) (fz t : Bool) (Q : pm_R → pm_H → Prop) (x1 : Int32) : pm_R → pm_H → Prop := pm_K d 155 Q 27 [(0, .ref 85), (1, .int x1)] [] 118 0 fz 0 0
def t_X11_chapel_110 (d L : Nat) (fz t : Bool) (Q : pm_R → pm_H → Prop) (I : Nat → Nat → Int32) (J : Nat → Nat → Int64) : Prop := pm_T (pm_Ev d) 155 Q (110, [(0, .ref 85)], [], pm_hp L fz t I J, 0, 0)
def K_X11_chapel_110 (d : Nat) (fz t : Bool) (Q : pm_R → pm_H → Prop) : pm_R → pm_H → Prop := pm_K d 155 Q 110 [(0, .ref 85)] [] 118 0 fz 0 0
def t_X11_chapel_114 (d L : Nat) (fz t : Bool) (Q : pm_R → pm_H → Prop) (r : Int32) (I : Nat → Nat → Int32) (J : Nat → Nat → Int64) : Prop := pm_T (pm_Ev d) 155 Q (114, [(0, .ref 85)], [.int r], pm_hp L fz t I J, 0, 0)
def K_X11_chapel_114 (d : Nat) (fz t : Bool) (Q : pm_R → pm_H → Prop) : pm_R → pm_H → Prop := pm_K d 155 Q 114 [(0, .ref 85)] [] 118 0 fz 0 0
def t_X11_chapel_135 (d L : Nat) (fz t : Bool) (Q : pm_R → pm_H → Prop) (r : Int32) (I : Nat → Nat → Int32) (J : Nat → Nat → Int64) : Prop := pm_T (pm_Ev d) 155 Q (135, [(0, .ref 85)], [.int r], pm_hp L fz t I J, 0, 0)
def K_X11_chapel_135 (d : Nat) (fz t : Bool) (Q : pm_R → pm_H → Prop) : pm_R → pm_H → Prop := pm_K d 155 Q 135 [(0, .ref 85)] [] 118 0 fz 0 0
def t_X11_chapel_128 (d L : Nat) (fz t : Bool) (Q : pm_R → pm_H → Prop) (I : Nat → Nat → Int32) (J : Nat → Nat → Int64) : Prop := pm_T (pm_Ev d) 155 Q (128, [(0, .ref 85)], [], pm_hp L fz t I J, 0, 0)
def K_X11_chapel_128 (d : Nat) (fz t : Bool) (Q : pm_R → pm_H → Prop) : pm_R → pm_H → Prop := pm_K d 155 Q 128 [(0, .ref 85)] [] 118 0 fz 0 0
def t_X11_chapel_226 (d L : Nat) (fz t : Bool) (Q : pm_R → pm_H → Prop) (I : Nat → Nat → Int32) (J : Nat → Nat → Int64) : Prop := pm_T (pm_Ev d) 155 Q (226, [(0, .ref 85)], [], pm_hp L fz t I J, 0, 0)
def K_X11_chapel_226 (d : Nat) (fz t : Bool) (Q : pm_R → pm_H → Prop) : pm_R → pm_H → Prop := pm_K d 155 Q 226 [(0, .ref 85)] [] 118 0 fz 0 0
def t_X11_chapel_238 (d L : Nat) (fz t : Bool) (Q : pm_R → pm_H → Prop) (I : Nat → Nat → Int32) (J : Nat → Nat → Int64) : Prop := pm_T (pm_Ev d) 155 Q (238, [(0, .ref 85)], [], pm_hp L fz t I J, 0, 0)
def K_X11_chapel_238 (d : Nat) (fz t : Bool) (Q : pm_R → pm_H → Prop) : pm_R → pm_H → Prop := pm_K d 155 Q 238 [(0, .ref 85)] [] 118 0 fz 0 0
def t_X11_chapel_250 (d L : Nat) (fz t : Bool) (Q : pm_R → pm_H → Prop) (I : Nat → Nat → Int32) (J : Nat → Nat → Int64) : Prop := pm_T (pm_Ev d) 155 Q (250, [(0, .ref 85)], [], pm_hp L fz t I J, 0, 0)
def K_X11_chapel_250 (d : Nat) (fz t : Bool) (Q : pm_R → pm_H → Prop) : pm_R → pm_H → Prop := pm_K d 155 Q 250 [(0, .ref 85)] [] 118 0 fz 0 0
def t_X11_chapel_262 (d L : Nat) (fz t : Bool) (Q : pm_R → pm_H → Prop) (I : Nat → Nat → Int32) (J : Nat → Nat → Int64) : Prop := pm_T (pm_Ev d) 155 Q (262, [(0, .ref 85)], [], pm_hp L fz t I J, 0, 0)
def K_X11_chapel_262 (d : Nat) (fz t : Bool) (Q : pm_R → pm_H → Prop) : pm_R → pm_H → Prop := pm_K d 155 Q 262 [(0, .ref 85)] [] 118 0 fz 0 0
def t_X11_chapel_274 (d L : Nat) (fz t : Bool) (Q : pm_R → pm_H → Prop) (I : Nat → Nat → Int32) (J : Nat → Nat → Int64) : Prop := pm_T (pm_Ev d) 155 Q (274, [(0, .ref 85)], [], pm_hp L fz t I J, 0, 0)
def K_X11_chapel_274 (d : Nat) (fz t : Bool) (Q : pm_R → pm_H → Prop) : pm_R → pm_H → Prop := pm_K d 155 Q 274 [(0, .ref 85)] [] 118 0 fz 0 0
def t_X11_chapel_286 (d L : Nat) (fz t : Bool) (Q : pm_R → pm_H → Prop) (I : Nat → Nat → Int32) (J : Nat → Nat → Int64) : Prop := pm_T (pm_Ev d) 155 Q (286, [(0, .ref 85)], [], pm_hp L fz t I J, 0, 0)
def K_X11_chapel_286 (d : Nat) (fz t : Bool) (Q : pm_R → pm_H → Prop) : pm_R → pm_H → Prop := pm_K d 155 Q 286 [(0, .ref 85)] [] 118 0 fz 0 0
def t_X11_chapel_288 (d L : Nat) (fz t : Bool) (Q : pm_R → pm_H → Prop) (x2 : Int32) (I : Nat → Nat → Int32) (J : Nat → Nat → Int64) : Prop := pm_T (pm_Ev d) 155 Q (288, [(0, .ref 85), (2, .int x2)], [], pm_hp L fz t I J, 0, 0)
def t_X11_chapel_314 (d L : Nat) (fz t : Bool) (Q : pm_R → pm_H → Prop) (x2 : Int32) (I : Nat → Nat → Int32) (J : Nat → Nat → Int64) : Prop := pm_T (pm_Ev d) 155 Q (314, [(0, .ref 85), (2, .int x2)], [], pm_hp L fz t I J, 0, 0)
def t_X11_chapel_341 (d L : Nat) (fz t : Bool) (Q : pm_R → pm_H → Prop) (x2 : Int32) (s1 : Int32) (s2 : Int32) (r : Int32) (I : Nat → Nat → Int32) (J : Nat → Nat → Int64) : Prop := pm_T (pm_Ev d) 155 Q (341, [(0, .ref 85), (2, .int x2)], [.int r, .int s2, .int s1, .ref 103], pm_hp L fz t I J, 0, 0)
def K_X11_chapel_341 (d : Nat) (fz t : Bool) (Q : pm_R → pm_H → Prop) (x2 : Int32) (s1 : Int32) (s2 : Int32) : pm_R → pm_H → Prop := pm_K d 155 Q 341 [(0, .ref 85), (2, .int x2)] [.int s2, .int s1, .ref 103] 118 0 fz 0 0
set_option maxRecDepth 100000 in
theorem b_X11_chapel_0 {d L : Nat} {fz t : Bool} {Q : pm_R → pm_H → Prop} {x1 : Int32} {I : Nat → Nat → Int32} {J : Nat → Nat → Int64}
    (h : ((x1 < (nI 0) → pm_Ev d 118 [.ref 85, .int (nI 0), .int (nI 1)] (pm_hp L fz t (pm_u I 85 0 (nI 0)) J) (K_X11_chapel_27 d fz t Q x1)) ∧ (¬ x1 < (nI 0) → (((I 85 14) < x1 → pm_Ev d 118 [.ref 85, .int (nI 0), .int (nI 1)] (pm_hp L fz t (pm_u I 85 0 (nI 0)) J) (K_X11_chapel_27 d fz t Q x1)) ∧ (¬ (I 85 14) < x1 → pm_Ev d 118 [.ref 85, .int (nI 1), .int (nI 1)] (pm_hp L fz t (pm_u I 85 0 (nI 0)) J) (K_X11_chapel_27 d fz t Q x1)))))) :
    t_X11_chapel_0 d L fz t Q x1 I J := by
  exact pm_go d [(27, [0, 1]), (110, [0]), (114, [0]), (128, [0]), (135, [0]), (226, [0]), (238, [0]), (250, [0]), (262, [0]), (274, [0]), (286, [0]), (288, [0, 2]), (314, [0, 2]), (341, [0, 2])] 400 ⟨fun q0 => ((h).1 q0), fun q0 => ⟨fun q1 => ((((h).2 q0)).1 q1), fun q1 => ((((h).2 q0)).2 q1)⟩⟩
theorem e_X11_chapel {d L : Nat} {fz t : Bool} {Q : pm_R → pm_H → Prop} {x1 : Int32} {I : Nat → Nat → Int32} {J : Nat → Nat → Int64}
    (h : ((x1 < (nI 0) → pm_Ev d 118 [.ref 85, .int (nI 0), .int (nI 1)] (pm_hp L fz t (pm_u I 85 0 (nI 0)) J) (K_X11_chapel_27 d fz t Q x1)) ∧ (¬ x1 < (nI 0) → (((I 85 14) < x1 → pm_Ev d 118 [.ref 85, .int (nI 0), .int (nI 1)] (pm_hp L fz t (pm_u I 85 0 (nI 0)) J) (K_X11_chapel_27 d fz t Q x1)) ∧ (¬ (I 85 14) < x1 → pm_Ev d 118 [.ref 85, .int (nI 1), .int (nI 1)] (pm_hp L fz t (pm_u I 85 0 (nI 0)) J) (K_X11_chapel_27 d fz t Q x1)))))) :
    pm_Ev (d + 1) 155 [.ref 85, .int x1] (pm_hp L fz t I J) Q := pm_Ev_in rfl (b_X11_chapel_0 h)
set_option maxRecDepth 100000 in
theorem b_X11_chapel_27 {d L : Nat} {fz t : Bool} {Q : pm_R → pm_H → Prop} {x1 : Int32} {r : Int32} {I : Nat → Nat → Int32} {J : Nat → Nat → Int64}
    (h : ((¬ r = (nI 0) → pm_Ev d 129 [.ref 85] (pm_hp L fz t (pm_u (pm_u (pm_u (pm_u (pm_u (pm_u (pm_u (pm_u (pm_u (pm_u (pm_u (pm_u (pm_u (pm_u I 85 14 (nI 0)) 85 16 (-1 : Int32)) 85 15 (nI 0)) 85 18 x1) 85 19 (nI 0)) 85 26 (-1 : Int32)) 85 27 (nI 0)) 85 28 (nI 0)) 85 29 (nI 0)) 85 30 (-1 : Int32)) 85 31 (-1 : Int32)) 99 0 (nI 0)) 99 1 (nI 0)) 85 32 (nI 0)) J) (K_X11_chapel_110 d fz t Q)) ∧ (r = (nI 0) → Q (.inl (some (.int (nI 0)))) (pm_hp L fz t I J)))) :
    t_X11_chapel_27 d L fz t Q x1 r I J := by
  exact pm_go d [(27, [0, 1]), (110, [0]), (114, [0]), (128, [0]), (135, [0]), (226, [0]), (238, [0]), (250, [0]), (262, [0]), (274, [0]), (286, [0]), (288, [0, 2]), (314, [0, 2]), (341, [0, 2])] 400 ⟨fun q0 => ⟨(vp_in_nI (by decide : 0 < 34) (by decide) : vp_in (nI 0) 34), ⟨(vp_in_nI (by decide : 1 < 34) (by decide) : vp_in (nI 1) 34), ((h).1 q0)⟩⟩, fun q0 => ((h).2 q0)⟩
theorem kb_X11_chapel_27 {d L : Nat} {fz t : Bool} {Q : pm_R → pm_H → Prop} {x1 : Int32} {r : Int32} {fz1 : Bool} {I : Nat → Nat → Int32} {J : Nat → Nat → Int64}
    (h : ((¬ r = (nI 0) → pm_Ev d 129 [.ref 85] (pm_hp L fz t (pm_u (pm_u (pm_u (pm_u (pm_u (pm_u (pm_u (pm_u (pm_u (pm_u (pm_u (pm_u (pm_u (pm_u I 85 14 (nI 0)) 85 16 (-1 : Int32)) 85 15 (nI 0)) 85 18 x1) 85 19 (nI 0)) 85 26 (-1 : Int32)) 85 27 (nI 0)) 85 28 (nI 0)) 85 29 (nI 0)) 85 30 (-1 : Int32)) 85 31 (-1 : Int32)) 99 0 (nI 0)) 99 1 (nI 0)) 85 32 (nI 0)) J) (K_X11_chapel_110 d fz t Q)) ∧ (r = (nI 0) → Q (.inl (some (.int (nI 0)))) (pm_hp L fz t I J)))) :
    K_X11_chapel_27 d fz t Q x1 (.inl (some (.int r))) (pm_hp L fz1 t I J) := b_X11_chapel_27 h
set_option maxRecDepth 100000 in
theorem b_X11_chapel_110 {d L : Nat} {fz t : Bool} {Q : pm_R → pm_H → Prop} {I : Nat → Nat → Int32} {J : Nat → Nat → Int64}
    (h : pm_Ev d 134 [.ref 85] (pm_hp L fz t I J) (K_X11_chapel_114 d fz t Q)) :
    t_X11_chapel_110 d L fz t Q I J := by
  exact pm_go d [(27, [0, 1]), (110, [0]), (114, [0]), (128, [0]), (135, [0]), (226, [0]), (238, [0]), (250, [0]), (262, [0]), (274, [0]), (286, [0]), (288, [0, 2]), (314, [0, 2]), (341, [0, 2])] 400 h
theorem kb_X11_chapel_110 {d L : Nat} {fz t : Bool} {Q : pm_R → pm_H → Prop} {fz1 : Bool} {I : Nat → Nat → Int32} {J : Nat → Nat → Int64}
    (h : pm_Ev d 134 [.ref 85] (pm_hp L fz t I J) (K_X11_chapel_114 d fz t Q)) :
    K_X11_chapel_110 d fz t Q (.inl none) (pm_hp L fz1 t I J) := b_X11_chapel_110 h
set_option maxRecDepth 100000 in
theorem b_X11_chapel_114 {d L : Nat} {fz t : Bool} {Q : pm_R → pm_H → Prop} {r : Int32} {I : Nat → Nat → Int32} {J : Nat → Nat → Int64}
    (h : ((r = (nI 0) → pm_Ev d 134 [.ref 85] (pm_hp L fz t I J) (K_X11_chapel_135 d fz t Q)) ∧ (¬ r = (nI 0) → (((I 85 20) = (nI 0) → pm_Ev d 134 [.ref 85] (pm_hp L fz t I J) (K_X11_chapel_135 d fz t Q)) ∧ (¬ (I 85 20) = (nI 0) → pm_Ev d 154 [.ref 85] (pm_hp L fz t I J) (K_X11_chapel_128 d fz t Q)))))) :
    t_X11_chapel_114 d L fz t Q r I J := by
  exact pm_go d [(27, [0, 1]), (110, [0]), (114, [0]), (128, [0]), (135, [0]), (226, [0]), (238, [0]), (250, [0]), (262, [0]), (274, [0]), (286, [0]), (288, [0, 2]), (314, [0, 2]), (341, [0, 2])] 400 ⟨fun q0 => ((h).1 q0), fun q0 => ⟨fun q1 => ((((h).2 q0)).1 q1), fun q1 => ((((h).2 q0)).2 q1)⟩⟩
theorem kb_X11_chapel_114 {d L : Nat} {fz t : Bool} {Q : pm_R → pm_H → Prop} {r : Int32} {fz1 : Bool} {I : Nat → Nat → Int32} {J : Nat → Nat → Int64}
    (h : ((r = (nI 0) → pm_Ev d 134 [.ref 85] (pm_hp L fz t I J) (K_X11_chapel_135 d fz t Q)) ∧ (¬ r = (nI 0) → (((I 85 20) = (nI 0) → pm_Ev d 134 [.ref 85] (pm_hp L fz t I J) (K_X11_chapel_135 d fz t Q)) ∧ (¬ (I 85 20) = (nI 0) → pm_Ev d 154 [.ref 85] (pm_hp L fz t I J) (K_X11_chapel_128 d fz t Q)))))) :
    K_X11_chapel_114 d fz t Q (.inl (some (.int r))) (pm_hp L fz1 t I J) := b_X11_chapel_114 h
set_option maxRecDepth 100000 in
theorem b_X11_chapel_135 {d L : Nat} {fz t : Bool} {Q : pm_R → pm_H → Prop} {r : Int32} {I : Nat → Nat → Int32} {J : Nat → Nat → Int64}
    (h : ((¬ r = (nI 0) → ((¬ (I 85 26) = (-1 : Int32) → pm_Ev d 122 [.ref 85, .ref 94, .ref 86] (pm_hp L fz t (pm_u (pm_u (pm_u (pm_u (pm_u (pm_u I 85 1 (I 85 26)) 85 2 (I 85 27)) 85 3 (I 85 28)) 85 4 (I 85 29)) 85 5 (I 85 30)) 85 6 (I 85 31)) J) (K_X11_chapel_226 d fz t Q)) ∧ ((I 85 26) = (-1 : Int32) → pm_Ev d 122 [.ref 85, .ref 94, .ref 86] (pm_hp L fz t (pm_u (pm_u (pm_u (pm_u (pm_u (pm_u I 85 1 (nI 8)) 85 2 (I 85 27)) 85 3 (I 85 28)) 85 4 (I 85 29)) 85 5 (I 85 30)) 85 6 (I 85 31)) J) (K_X11_chapel_226 d fz t Q)))) ∧ (r = (nI 0) → Q (.inl (some (.int (I 85 15)))) (pm_hp L fz t (pm_u I 93 0 ((I 93 0) + (nI 1))) J)))) :
    t_X11_chapel_135 d L fz t Q r I J := by
  exact pm_go d [(27, [0, 1]), (110, [0]), (114, [0]), (128, [0]), (135, [0]), (226, [0]), (238, [0]), (250, [0]), (262, [0]), (274, [0]), (286, [0]), (288, [0, 2]), (314, [0, 2]), (341, [0, 2])] 400 ⟨fun q0 => ⟨fun q1 => ((((h).1 q0)).1 q1), fun q1 => ((((h).1 q0)).2 q1)⟩, fun q0 => ⟨(vp_in_nI (by decide : 0 < 3) (by decide) : vp_in (nI 0) 3), ⟨(vp_in_nI (by decide : 0 < 3) (by decide) : vp_in (nI 0) 3), ((h).2 q0)⟩⟩⟩
theorem kb_X11_chapel_135 {d L : Nat} {fz t : Bool} {Q : pm_R → pm_H → Prop} {r : Int32} {fz1 : Bool} {I : Nat → Nat → Int32} {J : Nat → Nat → Int64}
    (h : ((¬ r = (nI 0) → ((¬ (I 85 26) = (-1 : Int32) → pm_Ev d 122 [.ref 85, .ref 94, .ref 86] (pm_hp L fz t (pm_u (pm_u (pm_u (pm_u (pm_u (pm_u I 85 1 (I 85 26)) 85 2 (I 85 27)) 85 3 (I 85 28)) 85 4 (I 85 29)) 85 5 (I 85 30)) 85 6 (I 85 31)) J) (K_X11_chapel_226 d fz t Q)) ∧ ((I 85 26) = (-1 : Int32) → pm_Ev d 122 [.ref 85, .ref 94, .ref 86] (pm_hp L fz t (pm_u (pm_u (pm_u (pm_u (pm_u (pm_u I 85 1 (nI 8)) 85 2 (I 85 27)) 85 3 (I 85 28)) 85 4 (I 85 29)) 85 5 (I 85 30)) 85 6 (I 85 31)) J) (K_X11_chapel_226 d fz t Q)))) ∧ (r = (nI 0) → Q (.inl (some (.int (I 85 15)))) (pm_hp L fz t (pm_u I 93 0 ((I 93 0) + (nI 1))) J)))) :
    K_X11_chapel_135 d fz t Q (.inl (some (.int r))) (pm_hp L fz1 t I J) := b_X11_chapel_135 h
set_option maxRecDepth 100000 in
theorem b_X11_chapel_128 {d L : Nat} {fz t : Bool} {Q : pm_R → pm_H → Prop} {I : Nat → Nat → Int32} {J : Nat → Nat → Int64}
    (h : t_X11_chapel_110 d L fz t Q I J) :
    t_X11_chapel_128 d L fz t Q I J := by
  exact pm_go d [(27, [0, 1]), (110, [0]), (114, [0]), (128, [0]), (135, [0]), (226, [0]), (238, [0]), (250, [0]), (262, [0]), (274, [0]), (286, [0]), (288, [0, 2]), (314, [0, 2]), (341, [0, 2])] 400 h
theorem kb_X11_chapel_128 {d L : Nat} {fz t : Bool} {Q : pm_R → pm_H → Prop} {fz1 : Bool} {I : Nat → Nat → Int32} {J : Nat → Nat → Int64}
    (h : t_X11_chapel_110 d L fz t Q I J) :
    K_X11_chapel_128 d fz t Q (.inl none) (pm_hp L fz1 t I J) := b_X11_chapel_128 h
set_option maxRecDepth 100000 in
theorem b_X11_chapel_226 {d L : Nat} {fz t : Bool} {Q : pm_R → pm_H → Prop} {I : Nat → Nat → Int32} {J : Nat → Nat → Int64}
    (h : pm_Ev d 122 [.ref 85, .ref 95, .ref 87] (pm_hp L fz t I J) (K_X11_chapel_238 d fz t Q)) :
    t_X11_chapel_226 d L fz t Q I J := by
  exact pm_go d [(27, [0, 1]), (110, [0]), (114, [0]), (128, [0]), (135, [0]), (226, [0]), (238, [0]), (250, [0]), (262, [0]), (274, [0]), (286, [0]), (288, [0, 2]), (314, [0, 2]), (341, [0, 2])] 400 h
theorem kb_X11_chapel_226 {d L : Nat} {fz t : Bool} {Q : pm_R → pm_H → Prop} {fz1 : Bool} {I : Nat → Nat → Int32} {J : Nat → Nat → Int64}
    (h : pm_Ev d 122 [.ref 85, .ref 95, .ref 87] (pm_hp L fz t I J) (K_X11_chapel_238 d fz t Q)) :
    K_X11_chapel_226 d fz t Q (.inl none) (pm_hp L fz1 t I J) := b_X11_chapel_226 h
set_option maxRecDepth 100000 in
theorem b_X11_chapel_238 {d L : Nat} {fz t : Bool} {Q : pm_R → pm_H → Prop} {I : Nat → Nat → Int32} {J : Nat → Nat → Int64}
    (h : pm_Ev d 122 [.ref 85, .ref 96, .ref 88] (pm_hp L fz t I J) (K_X11_chapel_250 d fz t Q)) :
    t_X11_chapel_238 d L fz t Q I J := by
  exact pm_go d [(27, [0, 1]), (110, [0]), (114, [0]), (128, [0]), (135, [0]), (226, [0]), (238, [0]), (250, [0]), (262, [0]), (274, [0]), (286, [0]), (288, [0, 2]), (314, [0, 2]), (341, [0, 2])] 400 h
theorem kb_X11_chapel_238 {d L : Nat} {fz t : Bool} {Q : pm_R → pm_H → Prop} {fz1 : Bool} {I : Nat → Nat → Int32} {J : Nat → Nat → Int64}
    (h : pm_Ev d 122 [.ref 85, .ref 96, .ref 88] (pm_hp L fz t I J) (K_X11_chapel_250 d fz t Q)) :
    K_X11_chapel_238 d fz t Q (.inl none) (pm_hp L fz1 t I J) := b_X11_chapel_238 h
set_option maxRecDepth 100000 in
theorem b_X11_chapel_250 {d L : Nat} {fz t : Bool} {Q : pm_R → pm_H → Prop} {I : Nat → Nat → Int32} {J : Nat → Nat → Int64}
    (h : pm_Ev d 122 [.ref 85, .ref 97, .ref 89] (pm_hp L fz t I J) (K_X11_chapel_262 d fz t Q)) :
    t_X11_chapel_250 d L fz t Q I J := by
  exact pm_go d [(27, [0, 1]), (110, [0]), (114, [0]), (128, [0]), (135, [0]), (226, [0]), (238, [0]), (250, [0]), (262, [0]), (274, [0]), (286, [0]), (288, [0, 2]), (314, [0, 2]), (341, [0, 2])] 400 h
theorem kb_X11_chapel_250 {d L : Nat} {fz t : Bool} {Q : pm_R → pm_H → Prop} {fz1 : Bool} {I : Nat → Nat → Int32} {J : Nat → Nat → Int64}
    (h : pm_Ev d 122 [.ref 85, .ref 97, .ref 89] (pm_hp L fz t I J) (K_X11_chapel_262 d fz t Q)) :
    K_X11_chapel_250 d fz t Q (.inl none) (pm_hp L fz1 t I J) := b_X11_chapel_250 h
set_option maxRecDepth 100000 in
theorem b_X11_chapel_262 {d L : Nat} {fz t : Bool} {Q : pm_R → pm_H → Prop} {I : Nat → Nat → Int32} {J : Nat → Nat → Int64}
    (h : pm_Ev d 122 [.ref 85, .ref 98, .ref 90] (pm_hp L fz t I J) (K_X11_chapel_274 d fz t Q)) :
    t_X11_chapel_262 d L fz t Q I J := by
  exact pm_go d [(27, [0, 1]), (110, [0]), (114, [0]), (128, [0]), (135, [0]), (226, [0]), (238, [0]), (250, [0]), (262, [0]), (274, [0]), (286, [0]), (288, [0, 2]), (314, [0, 2]), (341, [0, 2])] 400 h
theorem kb_X11_chapel_262 {d L : Nat} {fz t : Bool} {Q : pm_R → pm_H → Prop} {fz1 : Bool} {I : Nat → Nat → Int32} {J : Nat → Nat → Int64}
    (h : pm_Ev d 122 [.ref 85, .ref 98, .ref 90] (pm_hp L fz t I J) (K_X11_chapel_274 d fz t Q)) :
    K_X11_chapel_262 d fz t Q (.inl none) (pm_hp L fz1 t I J) := b_X11_chapel_262 h
set_option maxRecDepth 100000 in
theorem b_X11_chapel_274 {d L : Nat} {fz t : Bool} {Q : pm_R → pm_H → Prop} {I : Nat → Nat → Int32} {J : Nat → Nat → Int64}
    (h : pm_Ev d 122 [.ref 85, .ref 100, .ref 91] (pm_hp L fz t I J) (K_X11_chapel_286 d fz t Q)) :
    t_X11_chapel_274 d L fz t Q I J := by
  exact pm_go d [(27, [0, 1]), (110, [0]), (114, [0]), (128, [0]), (135, [0]), (226, [0]), (238, [0]), (250, [0]), (262, [0]), (274, [0]), (286, [0]), (288, [0, 2]), (314, [0, 2]), (341, [0, 2])] 400 h
theorem kb_X11_chapel_274 {d L : Nat} {fz t : Bool} {Q : pm_R → pm_H → Prop} {fz1 : Bool} {I : Nat → Nat → Int32} {J : Nat → Nat → Int64}
    (h : pm_Ev d 122 [.ref 85, .ref 100, .ref 91] (pm_hp L fz t I J) (K_X11_chapel_286 d fz t Q)) :
    K_X11_chapel_274 d fz t Q (.inl none) (pm_hp L fz1 t I J) := b_X11_chapel_274 h
set_option maxRecDepth 100000 in
theorem b_X11_chapel_286 {d L : Nat} {fz t : Bool} {Q : pm_R → pm_H → Prop} {I : Nat → Nat → Int32} {J : Nat → Nat → Int64}
    (h : t_X11_chapel_288 d L fz t Q (nI 0) I J) :
    t_X11_chapel_286 d L fz t Q I J := by
  exact pm_go d [(27, [0, 1]), (110, [0]), (114, [0]), (128, [0]), (135, [0]), (226, [0]), (238, [0]), (250, [0]), (262, [0]), (274, [0]), (286, [0]), (288, [0, 2]), (314, [0, 2]), (341, [0, 2])] 400 h
theorem kb_X11_chapel_286 {d L : Nat} {fz t : Bool} {Q : pm_R → pm_H → Prop} {fz1 : Bool} {I : Nat → Nat → Int32} {J : Nat → Nat → Int64}
    (h : t_X11_chapel_288 d L fz t Q (nI 0) I J) :
    K_X11_chapel_286 d fz t Q (.inl none) (pm_hp L fz1 t I J) := b_X11_chapel_286 h
set_option maxRecDepth 100000 in
theorem b_X11_chapel_288 {d L : Nat} {fz t : Bool} {Q : pm_R → pm_H → Prop} {x2 : Int32} {I : Nat → Nat → Int32} {J : Nat → Nat → Int64}
    (h : (((nI 34) ≤ x2 → t_X11_chapel_314 d L fz t Q (nI 0) I J) ∧ (¬ (nI 34) ≤ x2 → (vp_in x2 34 ∧ (vp_in x2 68 ∧ t_X11_chapel_288 d L fz t Q (x2 + (nI 1)) (pm_u I 103 (x2).toNatClampNeg (I 99 (x2).toNatClampNeg)) J))))) :
    t_X11_chapel_288 d L fz t Q x2 I J := by
  exact pm_go d [(27, [0, 1]), (110, [0]), (114, [0]), (128, [0]), (135, [0]), (226, [0]), (238, [0]), (250, [0]), (262, [0]), (274, [0]), (286, [0]), (288, [0, 2]), (314, [0, 2]), (341, [0, 2])] 400 ⟨fun q0 => ((h).1 q0), fun q0 => ⟨(((h).2 q0)).1, ⟨((((h).2 q0)).2).1, ((((h).2 q0)).2).2⟩⟩⟩
set_option maxRecDepth 100000 in
theorem b_X11_chapel_314 {d L : Nat} {fz t : Bool} {Q : pm_R → pm_H → Prop} {x2 : Int32} {I : Nat → Nat → Int32} {J : Nat → Nat → Int64}
    (h : (((I 85 2) ≤ x2 → Q (.inl (some (.int (nI 0)))) (pm_hp L fz t (pm_u (pm_u (pm_u I 85 48 (nI 0)) 85 55 (nI 0)) 85 61 (nI 0)) J)) ∧ (¬ (I 85 2) ≤ x2 → (vp_in ((nI 2) + x2) 68 ∧ pm_Ev d 161 [.ref 85] (pm_hp L fz t I J) (K_X11_chapel_341 d fz t Q x2 ((nI 2) + x2) (I 103 (((nI 2) + x2)).toNatClampNeg)))))) :
    t_X11_chapel_314 d L fz t Q x2 I J := by
  exact pm_go d [(27, [0, 1]), (110, [0]), (114, [0]), (128, [0]), (135, [0]), (226, [0]), (238, [0]), (250, [0]), (262, [0]), (274, [0]), (286, [0]), (288, [0, 2]), (314, [0, 2]), (341, [0, 2])] 400 ⟨fun q0 => ⟨Or.inl rfl, ((h).1 q0)⟩, fun q0 => ⟨(((h).2 q0)).1, (((h).2 q0)).2⟩⟩
set_option maxRecDepth 100000 in
theorem b_X11_chapel_341 {d L : Nat} {fz t : Bool} {Q : pm_R → pm_H → Prop} {x2 : Int32} {s1 : Int32} {s2 : Int32} {r : Int32} {I : Nat → Nat → Int32} {J : Nat → Nat → Int64}
    (h : (vp_in s1 68 ∧ t_X11_chapel_314 d L fz t Q (x2 + (nI 1)) (pm_u I 103 (s1).toNatClampNeg (s2 &&& r)) J)) :
    t_X11_chapel_341 d L fz t Q x2 s1 s2 r I J := by
  exact pm_go d [(27, [0, 1]), (110, [0]), (114, [0]), (128, [0]), (135, [0]), (226, [0]), (238, [0]), (250, [0]), (262, [0]), (274, [0]), (286, [0]), (288, [0, 2]), (314, [0, 2]), (341, [0, 2])] 400 ⟨(h).1, (h).2⟩
theorem kb_X11_chapel_341 {d L : Nat} {fz t : Bool} {Q : pm_R → pm_H → Prop} {x2 : Int32} {s1 : Int32} {s2 : Int32} {r : Int32} {fz1 : Bool} {I : Nat → Nat → Int32} {J : Nat → Nat → Int64}
    (h : (vp_in s1 68 ∧ t_X11_chapel_314 d L fz t Q (x2 + (nI 1)) (pm_u I 103 (s1).toNatClampNeg (s2 &&& r)) J)) :
    K_X11_chapel_341 d fz t Q x2 s1 s2 (.inl (some (.int r))) (pm_hp L fz1 t I J) := b_X11_chapel_341 h
def t_X11_fault_0 (d L : Nat) (fz t : Bool) (Q : pm_R → pm_H → Prop) (I : Nat → Nat → Int32) (J : Nat → Nat → Int64) : Prop := pm_T (pm_Ev d) 156 Q (0, [(0, .ref 85)], [], pm_hp L fz t I J, 0, 0)
set_option maxRecDepth 100000 in
theorem b_X11_fault_0 {d L : Nat} {fz t : Bool} {Q : pm_R → pm_H → Prop} {I : Nat → Nat → Int32} {J : Nat → Nat → Int64}
    (h : Q (.inl (some (.int (I 85 16)))) (pm_hp L fz t (pm_u I 85 0 (nI 0)) J)) :
    t_X11_fault_0 d L fz t Q I J := by
  exact pm_go d [] 400 h
theorem e_X11_fault {d L : Nat} {fz t : Bool} {Q : pm_R → pm_H → Prop} {I : Nat → Nat → Int32} {J : Nat → Nat → Int64}
    (h : Q (.inl (some (.int (I 85 16)))) (pm_hp L fz t (pm_u I 85 0 (nI 0)) J)) :
    pm_Ev (d + 1) 156 [.ref 85] (pm_hp L fz t I J) Q := pm_Ev_in rfl (b_X11_fault_0 h)
def t_X11_keeps_0 (d L : Nat) (fz t : Bool) (Q : pm_R → pm_H → Prop) (I : Nat → Nat → Int32) (J : Nat → Nat → Int64) : Prop := pm_T (pm_Ev d) 157 Q (0, [(0, .ref 85)], [], pm_hp L fz t I J, 0, 0)
def t_X11_keeps_52 (d L : Nat) (fz t : Bool) (Q : pm_R → pm_H → Prop) (x1 : Int32) (I : Nat → Nat → Int32) (J : Nat → Nat → Int64) : Prop := pm_T (pm_Ev d) 157 Q (52, [(0, .ref 85), (1, .int x1)], [], pm_hp L fz t I J, 0, 0)
def t_X11_keeps_12 (d L : Nat) (fz t : Bool) (Q : pm_R → pm_H → Prop) (x1 : Int32) (I : Nat → Nat → Int32) (J : Nat → Nat → Int64) : Prop := pm_T (pm_Ev d) 157 Q (12, [(0, .ref 85), (1, .int x1)], [], pm_hp L fz t I J, 0, 0)
set_option maxRecDepth 100000 in
theorem b_X11_keeps_0 {d L : Nat} {fz t : Bool} {Q : pm_R → pm_H → Prop} {I : Nat → Nat → Int32} {J : Nat → Nat → Int64}
    (h : ((¬ (I 85 48) = (nI 40) → t_X11_keeps_52 d L fz t Q (nI 0) I J) ∧ ((I 85 48) = (nI 40) → t_X11_keeps_12 d L fz t Q (nI 34) I J))) :
    t_X11_keeps_0 d L fz t Q I J := by
  exact pm_go d [(12, [0, 1]), (52, [0, 1])] 400 ⟨fun q0 => ((h).1 q0), fun q0 => ((h).2 q0)⟩
theorem e_X11_keeps {d L : Nat} {fz t : Bool} {Q : pm_R → pm_H → Prop} {I : Nat → Nat → Int32} {J : Nat → Nat → Int64}
    (h : ((¬ (I 85 48) = (nI 40) → t_X11_keeps_52 d L fz t Q (nI 0) I J) ∧ ((I 85 48) = (nI 40) → t_X11_keeps_12 d L fz t Q (nI 34) I J))) :
    pm_Ev (d + 1) 157 [.ref 85] (pm_hp L fz t I J) Q := pm_Ev_in rfl (b_X11_keeps_0 h)
set_option maxRecDepth 100000 in
theorem b_X11_keeps_52 {d L : Nat} {fz t : Bool} {Q : pm_R → pm_H → Prop} {x1 : Int32} {I : Nat → Nat → Int32} {J : Nat → Nat → Int64}
    (h : (((nI 34) ≤ x1 → Q (.inl none) (pm_hp L fz t (pm_u I 85 48 ((I 85 48) + (nI 1))) J)) ∧ (¬ (nI 34) ≤ x1 → (vp_in x1 68 ∧ (vp_in (((nI 34) * (I 85 48)) + x1) 1360 ∧ t_X11_keeps_52 d L fz t Q (x1 + (nI 1)) (pm_u I 104 ((((nI 34) * (I 85 48)) + x1)).toNatClampNeg (I 103 (x1).toNatClampNeg)) J))))) :
    t_X11_keeps_52 d L fz t Q x1 I J := by
  exact pm_go d [(12, [0, 1]), (52, [0, 1])] 400 ⟨fun q0 => ((h).1 q0), fun q0 => ⟨(((h).2 q0)).1, ⟨((((h).2 q0)).2).1, ((((h).2 q0)).2).2⟩⟩⟩
set_option maxRecDepth 100000 in
theorem b_X11_keeps_12 {d L : Nat} {fz t : Bool} {Q : pm_R → pm_H → Prop} {x1 : Int32} {I : Nat → Nat → Int32} {J : Nat → Nat → Int64}
    (h : (((nI 1360) ≤ x1 → t_X11_keeps_52 d L fz t Q (nI 0) (pm_u I 85 48 ((I 85 48) - (nI 1))) J) ∧ (¬ (nI 1360) ≤ x1 → (vp_in x1 1360 ∧ (vp_in (x1 - (nI 34)) 1360 ∧ t_X11_keeps_12 d L fz t Q (x1 + (nI 1)) (pm_u I 104 ((x1 - (nI 34))).toNatClampNeg (I 104 (x1).toNatClampNeg)) J))))) :
    t_X11_keeps_12 d L fz t Q x1 I J := by
  exact pm_go d [(12, [0, 1]), (52, [0, 1])] 400 ⟨fun q0 => ((h).1 q0), fun q0 => ⟨(((h).2 q0)).1, ⟨((((h).2 q0)).2).1, ((((h).2 q0)).2).2⟩⟩⟩
def t_X11_refuses_0 (d L : Nat) (fz t : Bool) (Q : pm_R → pm_H → Prop) (x1 : Int32) (I : Nat → Nat → Int32) (J : Nat → Nat → Int64) : Prop := pm_T (pm_Ev d) 158 Q (0, [(0, .ref 85), (1, .int x1)], [], pm_hp L fz t I J, 0, 0)
set_option maxRecDepth 100000 in
theorem b_X11_refuses_0 {d L : Nat} {fz t : Bool} {Q : pm_R → pm_H → Prop} {x1 : Int32} {I : Nat → Nat → Int32} {J : Nat → Nat → Int64}
    (h : (vp_in x1 3 ∧ (vp_in x1 3 ∧ Q (.inl (some (.int (-1 : Int32)))) (pm_hp L fz t (pm_u I 93 (x1).toNatClampNeg ((I 93 (x1).toNatClampNeg) + (nI 1))) J)))) :
    t_X11_refuses_0 d L fz t Q x1 I J := by
  exact pm_go d [] 400 ⟨(h).1, ⟨((h).2).1, ((h).2).2⟩⟩
theorem e_X11_refuses {d L : Nat} {fz t : Bool} {Q : pm_R → pm_H → Prop} {x1 : Int32} {I : Nat → Nat → Int32} {J : Nat → Nat → Int64}
    (h : (vp_in x1 3 ∧ (vp_in x1 3 ∧ Q (.inl (some (.int (-1 : Int32)))) (pm_hp L fz t (pm_u I 93 (x1).toNatClampNeg ((I 93 (x1).toNatClampNeg) + (nI 1))) J)))) :
    pm_Ev (d + 1) 158 [.ref 85, .int x1] (pm_hp L fz t I J) Q := pm_Ev_in rfl (b_X11_refuses_0 h)
def t_X11_undo_0 (d L : Nat) (fz t : Bool) (Q : pm_R → pm_H → Prop) (I : Nat → Nat → Int32) (J : Nat → Nat → Int64) : Prop := pm_T (pm_Ev d) 159 Q (0, [(0, .ref 85)], [], pm_hp L fz t I J, 0, 0)
def t_X11_undo_26 (d L : Nat) (fz t : Bool) (Q : pm_R → pm_H → Prop) (x1 : Int32) (I : Nat → Nat → Int32) (J : Nat → Nat → Int64) : Prop := pm_T (pm_Ev d) 159 Q (26, [(0, .ref 85), (1, .int x1)], [], pm_hp L fz t I J, 0, 0)
set_option maxRecDepth 100000 in
theorem b_X11_undo_0 {d L : Nat} {fz t : Bool} {Q : pm_R → pm_H → Prop} {I : Nat → Nat → Int32} {J : Nat → Nat → Int64}
    (h : ((¬ (I 85 48) = (nI 0) → t_X11_undo_26 d L fz t Q (nI 0) (pm_u (pm_u I 85 0 (nI 0)) 85 48 ((I 85 48) - (nI 1))) J) ∧ ((I 85 48) = (nI 0) → Q (.inl (some (.int (-1 : Int32)))) (pm_hp L fz t (pm_u I 85 0 (nI 0)) J)))) :
    t_X11_undo_0 d L fz t Q I J := by
  exact pm_go d [(26, [0, 1])] 400 ⟨fun q0 => ((h).1 q0), fun q0 => ((h).2 q0)⟩
theorem e_X11_undo {d L : Nat} {fz t : Bool} {Q : pm_R → pm_H → Prop} {I : Nat → Nat → Int32} {J : Nat → Nat → Int64}
    (h : ((¬ (I 85 48) = (nI 0) → t_X11_undo_26 d L fz t Q (nI 0) (pm_u (pm_u I 85 0 (nI 0)) 85 48 ((I 85 48) - (nI 1))) J) ∧ ((I 85 48) = (nI 0) → Q (.inl (some (.int (-1 : Int32)))) (pm_hp L fz t (pm_u I 85 0 (nI 0)) J)))) :
    pm_Ev (d + 1) 159 [.ref 85] (pm_hp L fz t I J) Q := pm_Ev_in rfl (b_X11_undo_0 h)
set_option maxRecDepth 100000 in
theorem b_X11_undo_26 {d L : Nat} {fz t : Bool} {Q : pm_R → pm_H → Prop} {x1 : Int32} {I : Nat → Nat → Int32} {J : Nat → Nat → Int64}
    (h : (((nI 34) ≤ x1 → Q (.inl (some (.int (I 85 48)))) (pm_hp L fz t I J)) ∧ (¬ (nI 34) ≤ x1 → (vp_in (((nI 34) * (I 85 48)) + x1) 1360 ∧ (vp_in x1 68 ∧ t_X11_undo_26 d L fz t Q (x1 + (nI 1)) (pm_u I 103 (x1).toNatClampNeg (I 104 ((((nI 34) * (I 85 48)) + x1)).toNatClampNeg)) J))))) :
    t_X11_undo_26 d L fz t Q x1 I J := by
  exact pm_go d [(26, [0, 1])] 400 ⟨fun q0 => ((h).1 q0), fun q0 => ⟨(((h).2 q0)).1, ⟨((((h).2 q0)).2).1, ((((h).2 q0)).2).2⟩⟩⟩
def t_X11_tries_0 (d L : Nat) (fz t : Bool) (Q : pm_R → pm_H → Prop) (I : Nat → Nat → Int32) (J : Nat → Nat → Int64) : Prop := pm_T (pm_Ev d) 160 Q (0, [(0, .ref 85)], [], pm_hp L fz t I J, 0, 0)
def t_X11_tries_2 (d L : Nat) (fz t : Bool) (Q : pm_R → pm_H → Prop) (x1 : Int32) (I : Nat → Nat → Int32) (J : Nat → Nat → Int64) : Prop := pm_T (pm_Ev d) 160 Q (2, [(0, .ref 85), (1, .int x1)], [], pm_hp L fz t I J, 0, 0)
set_option maxRecDepth 100000 in
theorem b_X11_tries_0 {d L : Nat} {fz t : Bool} {Q : pm_R → pm_H → Prop} {I : Nat → Nat → Int32} {J : Nat → Nat → Int64}
    (h : t_X11_tries_2 d L fz t Q (nI 0) I J) :
    t_X11_tries_0 d L fz t Q I J := by
  exact pm_go d [(2, [0, 1])] 400 h
theorem e_X11_tries {d L : Nat} {fz t : Bool} {Q : pm_R → pm_H → Prop} {I : Nat → Nat → Int32} {J : Nat → Nat → Int64}
    (h : t_X11_tries_2 d L fz t Q (nI 0) I J) :
    pm_Ev (d + 1) 160 [.ref 85] (pm_hp L fz t I J) Q := pm_Ev_in rfl (b_X11_tries_0 h)
set_option maxRecDepth 100000 in
theorem b_X11_tries_2 {d L : Nat} {fz t : Bool} {Q : pm_R → pm_H → Prop} {x1 : Int32} {I : Nat → Nat → Int32} {J : Nat → Nat → Int64}
    (h : (((nI 34) ≤ x1 → Q (.inl none) (pm_hp L fz t I J)) ∧ (¬ (nI 34) ≤ x1 → (vp_in x1 68 ∧ (vp_in ((nI 34) + x1) 68 ∧ t_X11_tries_2 d L fz t Q (x1 + (nI 1)) (pm_u I 103 (((nI 34) + x1)).toNatClampNeg (I 103 (x1).toNatClampNeg)) J))))) :
    t_X11_tries_2 d L fz t Q x1 I J := by
  exact pm_go d [(2, [0, 1])] 400 ⟨fun q0 => ((h).1 q0), fun q0 => ⟨(((h).2 q0)).1, ⟨((((h).2 q0)).2).1, ((((h).2 q0)).2).2⟩⟩⟩
def t_X11_all_0 (d L : Nat) (fz t : Bool) (Q : pm_R → pm_H → Prop) (I : Nat → Nat → Int32) (J : Nat → Nat → Int64) : Prop := pm_T (pm_Ev d) 161 Q (0, [(0, .ref 85)], [], pm_hp L fz t I J, 0, 0)
set_option maxRecDepth 100000 in
theorem b_X11_all_0 {d L : Nat} {fz t : Bool} {Q : pm_R → pm_H → Prop} {I : Nat → Nat → Int32} {J : Nat → Nat → Int64}
    (h : Q (.inl (some (.int (((nI 1) <<< ((I 85 1) &&& 31)) - (nI 1))))) (pm_hp L fz t I J)) :
    t_X11_all_0 d L fz t Q I J := by
  exact pm_go d [] 400 h
theorem e_X11_all {d L : Nat} {fz t : Bool} {Q : pm_R → pm_H → Prop} {I : Nat → Nat → Int32} {J : Nat → Nat → Int64}
    (h : Q (.inl (some (.int (((nI 1) <<< ((I 85 1) &&& 31)) - (nI 1))))) (pm_hp L fz t I J)) :
    pm_Ev (d + 1) 161 [.ref 85] (pm_hp L fz t I J) Q := pm_Ev_in rfl (b_X11_all_0 h)
def t_X11_works_0 (d L : Nat) (fz t : Bool) (Q : pm_R → pm_H → Prop) (x0 : Int32) (x1 : Int32) (x2 : Int32) (I : Nat → Nat → Int32) (J : Nat → Nat → Int64) : Prop := pm_T (pm_Ev d) 162 Q (0, [(0, .int x0), (1, .int x1), (2, .int x2)], [], pm_hp L fz t I J, 0, 0)
set_option maxRecDepth 100000 in
theorem b_X11_works_0 {d L : Nat} {fz t : Bool} {Q : pm_R → pm_H → Prop} {x0 : Int32} {x1 : Int32} {x2 : Int32} {I : Nat → Nat → Int32} {J : Nat → Nat → Int64}
    (h : (((x0).toInt < 4 ∨ 10 < (x0).toInt → ((¬ x2 = (nI 0) → (¬ x2 = nI 0 ∧ Q (.inl (some (.int (x1 / x2)))) (pm_hp L fz t I J))) ∧ (x2 = (nI 0) → Q (.inl (some (.int (nI 0)))) (pm_hp L fz t I J)))) ∧ ((x0).toInt = 4 → ((x1 = (nI 0) → Q (.inl (some (.int (nI 0)))) (pm_hp L fz t I J)) ∧ (¬ x1 = (nI 0) → ((x2 = (nI 0) → Q (.inl (some (.int (nI 0)))) (pm_hp L fz t I J)) ∧ (¬ x2 = (nI 0) → Q (.inl (some (.int (nI 1)))) (pm_hp L fz t I J)))))) ∧ ((x0).toInt = 5 → ((¬ x1 = (nI 0) → Q (.inl (some (.int (nI 1)))) (pm_hp L fz t I J)) ∧ (x1 = (nI 0) → ((x2 = (nI 0) → Q (.inl (some (.int (nI 0)))) (pm_hp L fz t I J)) ∧ (¬ x2 = (nI 0) → Q (.inl (some (.int (nI 1)))) (pm_hp L fz t I J)))))) ∧ ((x0).toInt = 6 → ((x2 ≤ x1 → Q (.inl (some (.int (nI 0)))) (pm_hp L fz t I J)) ∧ (¬ x2 ≤ x1 → Q (.inl (some (.int (nI 1)))) (pm_hp L fz t I J)))) ∧ ((x0).toInt = 7 → ((¬ x1 = x2 → Q (.inl (some (.int (nI 0)))) (pm_hp L fz t I J)) ∧ (x1 = x2 → Q (.inl (some (.int (nI 1)))) (pm_hp L fz t I J)))) ∧ ((x0).toInt = 8 → Q (.inl (some (.int (x1 + x2)))) (pm_hp L fz t I J)) ∧ ((x0).toInt = 9 → Q (.inl (some (.int (x1 - x2)))) (pm_hp L fz t I J)) ∧ ((x0).toInt = 10 → Q (.inl (some (.int (x1 * x2)))) (pm_hp L fz t I J)))) :
    t_X11_works_0 d L fz t Q x0 x1 x2 I J := by
  exact pm_go d [] 400 ⟨fun q0 => ⟨fun q1 => ⟨(((((h).1 q0)).1 q1)).1, (((((h).1 q0)).1 q1)).2⟩, fun q1 => ((((h).1 q0)).2 q1)⟩, fun q0 => ⟨fun q1 => (((((h).2).1 q0)).1 q1), fun q1 => ⟨fun q2 => (((((((h).2).1 q0)).2 q1)).1 q2), fun q2 => (((((((h).2).1 q0)).2 q1)).2 q2)⟩⟩, fun q0 => ⟨fun q1 => ((((((h).2).2).1 q0)).1 q1), fun q1 => ⟨fun q2 => ((((((((h).2).2).1 q0)).2 q1)).1 q2), fun q2 => ((((((((h).2).2).1 q0)).2 q1)).2 q2)⟩⟩, fun q0 => ⟨fun q1 => (((((((h).2).2).2).1 q0)).1 q1), fun q1 => (((((((h).2).2).2).1 q0)).2 q1)⟩, fun q0 => ⟨fun q1 => ((((((((h).2).2).2).2).1 q0)).1 q1), fun q1 => ((((((((h).2).2).2).2).1 q0)).2 q1)⟩, fun q0 => (((((((h).2).2).2).2).2).1 q0), fun q0 => ((((((((h).2).2).2).2).2).2).1 q0), fun q0 => ((((((((h).2).2).2).2).2).2).2 q0), trivial⟩
theorem e_X11_works {d L : Nat} {fz t : Bool} {Q : pm_R → pm_H → Prop} {x0 : Int32} {x1 : Int32} {x2 : Int32} {I : Nat → Nat → Int32} {J : Nat → Nat → Int64}
    (h : (((x0).toInt < 4 ∨ 10 < (x0).toInt → ((¬ x2 = (nI 0) → (¬ x2 = nI 0 ∧ Q (.inl (some (.int (x1 / x2)))) (pm_hp L fz t I J))) ∧ (x2 = (nI 0) → Q (.inl (some (.int (nI 0)))) (pm_hp L fz t I J)))) ∧ ((x0).toInt = 4 → ((x1 = (nI 0) → Q (.inl (some (.int (nI 0)))) (pm_hp L fz t I J)) ∧ (¬ x1 = (nI 0) → ((x2 = (nI 0) → Q (.inl (some (.int (nI 0)))) (pm_hp L fz t I J)) ∧ (¬ x2 = (nI 0) → Q (.inl (some (.int (nI 1)))) (pm_hp L fz t I J)))))) ∧ ((x0).toInt = 5 → ((¬ x1 = (nI 0) → Q (.inl (some (.int (nI 1)))) (pm_hp L fz t I J)) ∧ (x1 = (nI 0) → ((x2 = (nI 0) → Q (.inl (some (.int (nI 0)))) (pm_hp L fz t I J)) ∧ (¬ x2 = (nI 0) → Q (.inl (some (.int (nI 1)))) (pm_hp L fz t I J)))))) ∧ ((x0).toInt = 6 → ((x2 ≤ x1 → Q (.inl (some (.int (nI 0)))) (pm_hp L fz t I J)) ∧ (¬ x2 ≤ x1 → Q (.inl (some (.int (nI 1)))) (pm_hp L fz t I J)))) ∧ ((x0).toInt = 7 → ((¬ x1 = x2 → Q (.inl (some (.int (nI 0)))) (pm_hp L fz t I J)) ∧ (x1 = x2 → Q (.inl (some (.int (nI 1)))) (pm_hp L fz t I J)))) ∧ ((x0).toInt = 8 → Q (.inl (some (.int (x1 + x2)))) (pm_hp L fz t I J)) ∧ ((x0).toInt = 9 → Q (.inl (some (.int (x1 - x2)))) (pm_hp L fz t I J)) ∧ ((x0).toInt = 10 → Q (.inl (some (.int (x1 * x2)))) (pm_hp L fz t I J)))) :
    pm_Ev (d + 1) 162 [.int x0, .int x1, .int x2] (pm_hp L fz t I J) Q := pm_Ev_in rfl (b_X11_works_0 h)
def t_X11_reckons_0 (d L : Nat) (fz t : Bool) (Q : pm_R → pm_H → Prop) (x1 : Int32) (I : Nat → Nat → Int32) (J : Nat → Nat → Int64) : Prop := pm_T (pm_Ev d) 163 Q (0, [(0, .ref 85), (1, .int x1)], [], pm_hp L fz t I J, 0, 0)
def t_X11_reckons_4 (d L : Nat) (fz t : Bool) (Q : pm_R → pm_H → Prop) (x2 : Int32) (x3 : Int32) (I : Nat → Nat → Int32) (J : Nat → Nat → Int64) : Prop := pm_T (pm_Ev d) 163 Q (4, [(0, .ref 85), (2, .int x2), (3, .int x3)], [], pm_hp L fz t I J, 0, 0)
def t_X11_reckons_139 (d L : Nat) (fz t : Bool) (Q : pm_R → pm_H → Prop) (x2 : Int32) (x3 : Int32) (s1 : Int32) (r : Int32) (I : Nat → Nat → Int32) (J : Nat → Nat → Int64) : Prop := pm_T (pm_Ev d) 163 Q (139, [(0, .ref 85), (2, .int x2), (3, .int x3)], [.int r, .int s1, .ref 106], pm_hp L fz t I J, 0, 0)
def K_X11_reckons_139 (d : Nat) (fz t : Bool) (Q : pm_R → pm_H → Prop) (x2 : Int32) (x3 : Int32) (s1 : Int32) : pm_R → pm_H → Prop := pm_K d 163 Q 139 [(0, .ref 85), (2, .int x2), (3, .int x3)] [.int s1, .ref 106] 118 0 fz 0 0
set_option maxRecDepth 100000 in
theorem b_X11_reckons_0 {d L : Nat} {fz t : Bool} {Q : pm_R → pm_H → Prop} {x1 : Int32} {I : Nat → Nat → Int32} {J : Nat → Nat → Int64}
    (h : t_X11_reckons_4 d L fz t Q (nI 0) x1 I J) :
    t_X11_reckons_0 d L fz t Q x1 I J := by
  exact pm_go d [(4, [0, 2, 3]), (139, [0, 2, 3])] 400 h
theorem e_X11_reckons {d L : Nat} {fz t : Bool} {Q : pm_R → pm_H → Prop} {x1 : Int32} {I : Nat → Nat → Int32} {J : Nat → Nat → Int64}
    (h : t_X11_reckons_4 d L fz t Q (nI 0) x1 I J) :
    pm_Ev (d + 1) 163 [.ref 85, .int x1] (pm_hp L fz t I J) Q := pm_Ev_in rfl (b_X11_reckons_0 h)
set_option maxRecDepth 100000 in
theorem b_X11_reckons_4 {d L : Nat} {fz t : Bool} {Q : pm_R → pm_H → Prop} {x2 : Int32} {x3 : Int32} {I : Nat → Nat → Int32} {J : Nat → Nat → Int64}
    (h : (vp_in x3 1400 ∧ (((I 91 (x3).toNatClampNeg) = (nI 0) → Q (.inl (some (.int (I 106 0)))) (pm_hp L fz t I J)) ∧ (¬ (I 91 (x3).toNatClampNeg) = (nI 0) → (vp_in x3 1400 ∧ (((I 91 (x3).toNatClampNeg) = (nI 1) → (vp_in (x3 + (nI 1)) 1400 ∧ (vp_in x2 950 ∧ t_X11_reckons_4 d L fz t Q (x2 + (nI 1)) ((x3 + (nI 1)) + (nI 1)) (pm_u I 106 (x2).toNatClampNeg (I 91 ((x3 + (nI 1))).toNatClampNeg)) J))) ∧ (¬ (I 91 (x3).toNatClampNeg) = (nI 1) → ((¬ (I 91 (x3).toNatClampNeg) = (nI 2) → ((¬ (I 91 (x3).toNatClampNeg) = (nI 3) → (vp_in ((x2 + (-1 : Int32)) - (nI 1)) 950 ∧ (vp_in (x2 + (-1 : Int32)) 950 ∧ pm_Ev d 162 [.int (I 91 (x3).toNatClampNeg), .int (I 106 (((x2 + (-1 : Int32)) - (nI 1))).toNatClampNeg), .int (I 106 ((x2 + (-1 : Int32))).toNatClampNeg)] (pm_hp L fz t I J) (K_X11_reckons_139 d fz t Q (x2 + (-1 : Int32)) (x3 + (nI 1)) ((x2 + (-1 : Int32)) - (nI 1)))))) ∧ ((I 91 (x3).toNatClampNeg) = (nI 3) → (vp_in (x2 - (nI 1)) 950 ∧ ((¬ (I 106 ((x2 - (nI 1))).toNatClampNeg) = (nI 0) → (vp_in (x2 - (nI 1)) 950 ∧ t_X11_reckons_4 d L fz t Q x2 (x3 + (nI 1)) (pm_u I 106 ((x2 - (nI 1))).toNatClampNeg (nI 0)) J)) ∧ ((I 106 ((x2 - (nI 1))).toNatClampNeg) = (nI 0) → (vp_in (x2 - (nI 1)) 950 ∧ t_X11_reckons_4 d L fz t Q x2 (x3 + (nI 1)) (pm_u I 106 ((x2 - (nI 1))).toNatClampNeg (nI 1)) J))))))) ∧ ((I 91 (x3).toNatClampNeg) = (nI 2) → (vp_in (x3 + (nI 1)) 1400 ∧ (vp_in (I 91 ((x3 + (nI 1))).toNatClampNeg) 10 ∧ (vp_in x2 950 ∧ t_X11_reckons_4 d L fz t Q (x2 + (nI 1)) ((x3 + (nI 1)) + (nI 1)) (pm_u I 106 (x2).toNatClampNeg (I 105 ((I 91 ((x3 + (nI 1))).toNatClampNeg)).toNatClampNeg)) J)))))))))))) :
    t_X11_reckons_4 d L fz t Q x2 x3 I J := by
  exact pm_go d [(4, [0, 2, 3]), (139, [0, 2, 3])] 400 ⟨(h).1, ⟨fun q0 => ⟨(vp_in_nI (by decide : 0 < 950) (by decide) : vp_in (nI 0) 950), (((h).2).1 q0)⟩, fun q0 => ⟨((((h).2).2 q0)).1, ⟨fun q1 => ⟨fun n => absurd q1 n, fun _ => ⟨(((((((h).2).2 q0)).2).1 q1)).1, ⟨((((((((h).2).2 q0)).2).1 q1)).2).1, ((((((((h).2).2 q0)).2).1 q1)).2).2⟩⟩⟩, fun q1 => ⟨fun q2 => ⟨fun q3 => ⟨(((((((((((h).2).2 q0)).2).2 q1)).1 q2)).1 q3)).1, ⟨((((((((((((h).2).2 q0)).2).2 q1)).1 q2)).1 q3)).2).1, ((((((((((((h).2).2 q0)).2).2 q1)).1 q2)).1 q3)).2).2⟩⟩, fun q3 => ⟨(((((((((((h).2).2 q0)).2).2 q1)).1 q2)).2 q3)).1, ⟨fun q4 => ⟨((((((((((((((h).2).2 q0)).2).2 q1)).1 q2)).2 q3)).2).1 q4)).1, ((((((((((((((h).2).2 q0)).2).2 q1)).1 q2)).2 q3)).2).1 q4)).2⟩, fun q4 => ⟨((((((((((((((h).2).2 q0)).2).2 q1)).1 q2)).2 q3)).2).2 q4)).1, ((((((((((((((h).2).2 q0)).2).2 q1)).1 q2)).2 q3)).2).2 q4)).2⟩⟩⟩⟩, fun q2 => ⟨fun _ => ⟨(((((((((h).2).2 q0)).2).2 q1)).2 q2)).1, ⟨((((((((((h).2).2 q0)).2).2 q1)).2 q2)).2).1, ⟨(((((((((((h).2).2 q0)).2).2 q1)).2 q2)).2).2).1, (((((((((((h).2).2 q0)).2).2 q1)).2 q2)).2).2).2⟩⟩⟩, fun n => absurd n q1⟩⟩⟩⟩⟩⟩
set_option maxRecDepth 100000 in
theorem b_X11_reckons_139 {d L : Nat} {fz t : Bool} {Q : pm_R → pm_H → Prop} {x2 : Int32} {x3 : Int32} {s1 : Int32} {r : Int32} {I : Nat → Nat → Int32} {J : Nat → Nat → Int64}
    (h : (vp_in s1 950 ∧ t_X11_reckons_4 d L fz t Q x2 x3 (pm_u I 106 (s1).toNatClampNeg r) J)) :
    t_X11_reckons_139 d L fz t Q x2 x3 s1 r I J := by
  exact pm_go d [(4, [0, 2, 3]), (139, [0, 2, 3])] 400 ⟨(h).1, (h).2⟩
theorem kb_X11_reckons_139 {d L : Nat} {fz t : Bool} {Q : pm_R → pm_H → Prop} {x2 : Int32} {x3 : Int32} {s1 : Int32} {r : Int32} {fz1 : Bool} {I : Nat → Nat → Int32} {J : Nat → Nat → Int64}
    (h : (vp_in s1 950 ∧ t_X11_reckons_4 d L fz t Q x2 x3 (pm_u I 106 (s1).toNatClampNeg r) J)) :
    K_X11_reckons_139 d fz t Q x2 x3 s1 (.inl (some (.int r))) (pm_hp L fz1 t I J) := b_X11_reckons_139 h
def t_X11_holesOf_0 (d L : Nat) (fz t : Bool) (Q : pm_R → pm_H → Prop) (x1 : Int32) (x2 : Int32) (I : Nat → Nat → Int32) (J : Nat → Nat → Int64) : Prop := pm_T (pm_Ev d) 164 Q (0, [(0, .ref 85), (1, .int x1), (2, .int x2)], [], pm_hp L fz t I J, 0, 0)
def t_X11_holesOf_20 (d L : Nat) (fz t : Bool) (Q : pm_R → pm_H → Prop) (r : Int32) (I : Nat → Nat → Int32) (J : Nat → Nat → Int64) : Prop := pm_T (pm_Ev d) 164 Q (20, [], [.int r], pm_hp L fz t I J, 0, 0)
def K_X11_holesOf_20 (d : Nat) (fz t : Bool) (Q : pm_R → pm_H → Prop) : pm_R → pm_H → Prop := pm_K d 164 Q 20 [] [] 118 0 fz 0 0
set_option maxRecDepth 100000 in
theorem b_X11_holesOf_0 {d L : Nat} {fz t : Bool} {Q : pm_R → pm_H → Prop} {x1 : Int32} {x2 : Int32} {I : Nat → Nat → Int32} {J : Nat → Nat → Int64}
    (h : (vp_in ((x1 + (nI 12)) + x2) 68 ∧ ((¬ (I 103 (((x1 + (nI 12)) + x2)).toNatClampNeg) = (nI 9) → (vp_in ((x1 + (nI 2)) + x2) 68 ∧ Q (.inl (some (.int (I 103 (((x1 + (nI 2)) + x2)).toNatClampNeg)))) (pm_hp L fz t I J))) ∧ ((I 103 (((x1 + (nI 12)) + x2)).toNatClampNeg) = (nI 9) → pm_Ev d 161 [.ref 85] (pm_hp L fz t I J) (K_X11_holesOf_20 d fz t Q))))) :
    t_X11_holesOf_0 d L fz t Q x1 x2 I J := by
  exact pm_go d [(20, [])] 400 ⟨(h).1, ⟨fun q0 => ⟨((((h).2).1 q0)).1, ((((h).2).1 q0)).2⟩, fun q0 => (((h).2).2 q0)⟩⟩
theorem e_X11_holesOf {d L : Nat} {fz t : Bool} {Q : pm_R → pm_H → Prop} {x1 : Int32} {x2 : Int32} {I : Nat → Nat → Int32} {J : Nat → Nat → Int64}
    (h : (vp_in ((x1 + (nI 12)) + x2) 68 ∧ ((¬ (I 103 (((x1 + (nI 12)) + x2)).toNatClampNeg) = (nI 9) → (vp_in ((x1 + (nI 2)) + x2) 68 ∧ Q (.inl (some (.int (I 103 (((x1 + (nI 2)) + x2)).toNatClampNeg)))) (pm_hp L fz t I J))) ∧ ((I 103 (((x1 + (nI 12)) + x2)).toNatClampNeg) = (nI 9) → pm_Ev d 161 [.ref 85] (pm_hp L fz t I J) (K_X11_holesOf_20 d fz t Q))))) :
    pm_Ev (d + 1) 164 [.ref 85, .int x1, .int x2] (pm_hp L fz t I J) Q := pm_Ev_in rfl (b_X11_holesOf_0 h)
set_option maxRecDepth 100000 in
theorem b_X11_holesOf_20 {d L : Nat} {fz t : Bool} {Q : pm_R → pm_H → Prop} {r : Int32} {I : Nat → Nat → Int32} {J : Nat → Nat → Int64}
    (h : Q (.inl (some (.int r))) (pm_hp L fz t I J)) :
    t_X11_holesOf_20 d L fz t Q r I J := by
  exact pm_go d [(20, [])] 400 h
theorem kb_X11_holesOf_20 {d L : Nat} {fz t : Bool} {Q : pm_R → pm_H → Prop} {r : Int32} {fz1 : Bool} {I : Nat → Nat → Int32} {J : Nat → Nat → Int64}
    (h : Q (.inl (some (.int r))) (pm_hp L fz t I J)) :
    K_X11_holesOf_20 d fz t Q (.inl (some (.int r))) (pm_hp L fz1 t I J) := b_X11_holesOf_20 h
def t_X11_snarlWith_0 (d L : Nat) (fz t : Bool) (Q : pm_R → pm_H → Prop) (x1 : Int32) (x2 : Int32) (x3 : Int32) (x4 : Int32) (I : Nat → Nat → Int32) (J : Nat → Nat → Int64) : Prop := pm_T (pm_Ev d) 165 Q (0, [(0, .ref 85), (1, .int x1), (2, .int x2), (3, .int x3), (4, .int x4)], [], pm_hp L fz t I J, 0, 0)
def t_X11_snarlWith_7 (d L : Nat) (fz t : Bool) (Q : pm_R → pm_H → Prop) (x1 : Int32) (x2 : Int32) (r : Int32) (I : Nat → Nat → Int32) (J : Nat → Nat → Int64) : Prop := pm_T (pm_Ev d) 165 Q (7, [(0, .ref 85), (1, .int x1), (2, .int x2)], [.int r], pm_hp L fz t I J, 0, 0)
def K_X11_snarlWith_7 (d : Nat) (fz t : Bool) (Q : pm_R → pm_H → Prop) (x1 : Int32) (x2 : Int32) : pm_R → pm_H → Prop := pm_K d 165 Q 7 [(0, .ref 85), (1, .int x1), (2, .int x2)] [] 118 0 fz 0 0
def t_X11_snarlWith_103 (d L : Nat) (fz t : Bool) (Q : pm_R → pm_H → Prop) (r : Int32) (I : Nat → Nat → Int32) (J : Nat → Nat → Int64) : Prop := pm_T (pm_Ev d) 165 Q (103, [], [.int r], pm_hp L fz t I J, 0, 0)
def K_X11_snarlWith_103 (d : Nat) (fz t : Bool) (Q : pm_R → pm_H → Prop) : pm_R → pm_H → Prop := pm_K d 165 Q 103 [] [] 118 0 fz 0 0
def t_X11_snarlWith_50 (d L : Nat) (fz t : Bool) (Q : pm_R → pm_H → Prop) (r : Int32) (I : Nat → Nat → Int32) (J : Nat → Nat → Int64) : Prop := pm_T (pm_Ev d) 165 Q (50, [], [.int r], pm_hp L fz t I J, 0, 0)
def K_X11_snarlWith_50 (d : Nat) (fz t : Bool) (Q : pm_R → pm_H → Prop) : pm_R → pm_H → Prop := pm_K d 165 Q 50 [] [] 118 0 fz 0 0
def t_X11_snarlWith_109 (d L : Nat) (fz t : Bool) (Q : pm_R → pm_H → Prop) (r : Int32) (I : Nat → Nat → Int32) (J : Nat → Nat → Int64) : Prop := pm_T (pm_Ev d) 165 Q (109, [], [.int r], pm_hp L fz t I J, 0, 0)
def K_X11_snarlWith_109 (d : Nat) (fz t : Bool) (Q : pm_R → pm_H → Prop) : pm_R → pm_H → Prop := pm_K d 165 Q 109 [] [] 118 0 fz 0 0
set_option maxRecDepth 100000 in
theorem b_X11_snarlWith_0 {d L : Nat} {fz t : Bool} {Q : pm_R → pm_H → Prop} {x1 : Int32} {x2 : Int32} {x3 : Int32} {x4 : Int32} {I : Nat → Nat → Int32} {J : Nat → Nat → Int64}
    (h : pm_Ev d 123 [.int (x3 &&& x4)] (pm_hp L fz t I J) (K_X11_snarlWith_7 d fz t Q x1 x2)) :
    t_X11_snarlWith_0 d L fz t Q x1 x2 x3 x4 I J := by
  exact pm_go d [(7, [0, 1, 2]), (50, []), (103, []), (109, [])] 400 h
theorem e_X11_snarlWith {d L : Nat} {fz t : Bool} {Q : pm_R → pm_H → Prop} {x1 : Int32} {x2 : Int32} {x3 : Int32} {x4 : Int32} {I : Nat → Nat → Int32} {J : Nat → Nat → Int64}
    (h : pm_Ev d 123 [.int (x3 &&& x4)] (pm_hp L fz t I J) (K_X11_snarlWith_7 d fz t Q x1 x2)) :
    pm_Ev (d + 1) 165 [.ref 85, .int x1, .int x2, .int x3, .int x4] (pm_hp L fz t I J) Q := pm_Ev_in rfl (b_X11_snarlWith_0 h)
set_option maxRecDepth 100000 in
theorem b_X11_snarlWith_7 {d L : Nat} {fz t : Bool} {Q : pm_R → pm_H → Prop} {x1 : Int32} {x2 : Int32} {r : Int32} {I : Nat → Nat → Int32} {J : Nat → Nat → Int64}
    (h : (vp_in x1 10 ∧ (vp_in x2 10 ∧ ((¬ (I 86 (x1).toNatClampNeg) = (I 86 (x2).toNatClampNeg) → ((¬ (I 85 6) = (-1 : Int32) → (vp_in x1 10 ∧ (vp_in x2 10 ∧ pm_Ev d 163 [.ref 85, .int (I 85 6)] (pm_hp L fz t (pm_u (pm_u (pm_u (pm_u I 105 6 r) 105 7 (nI 0)) 105 8 (I 86 (x1).toNatClampNeg)) 105 9 (I 86 (x2).toNatClampNeg)) J) (K_X11_snarlWith_103 d fz t Q)))) ∧ ((I 85 6) = (-1 : Int32) → pm_Ev d 120 [.int (r * (nI 0)), .int (nI 0), .int (nI 99)] (pm_hp L fz t I J) (K_X11_snarlWith_50 d fz t Q)))) ∧ ((I 86 (x1).toNatClampNeg) = (I 86 (x2).toNatClampNeg) → ((¬ (I 85 6) = (-1 : Int32) → (vp_in x1 10 ∧ (vp_in x2 10 ∧ pm_Ev d 163 [.ref 85, .int (I 85 6)] (pm_hp L fz t (pm_u (pm_u (pm_u (pm_u I 105 6 r) 105 7 (nI 1)) 105 8 (I 86 (x1).toNatClampNeg)) 105 9 (I 86 (x2).toNatClampNeg)) J) (K_X11_snarlWith_103 d fz t Q)))) ∧ ((I 85 6) = (-1 : Int32) → pm_Ev d 120 [.int (r * (nI 1)), .int (nI 0), .int (nI 99)] (pm_hp L fz t I J) (K_X11_snarlWith_50 d fz t Q)))))))) :
    t_X11_snarlWith_7 d L fz t Q x1 x2 r I J := by
  exact pm_go d [(7, [0, 1, 2]), (50, []), (103, []), (109, [])] 400 ⟨(h).1, ⟨((h).2).1, ⟨fun q0 => ⟨fun q1 => ⟨(vp_in_nI (by decide : 6 < 10) (by decide) : vp_in (nI 6) 10), ⟨(vp_in_nI (by decide : 7 < 10) (by decide) : vp_in (nI 7) 10), ⟨(((((((h).2).2).1 q0)).1 q1)).1, ⟨(vp_in_nI (by decide : 8 < 10) (by decide) : vp_in (nI 8) 10), ⟨((((((((h).2).2).1 q0)).1 q1)).2).1, ⟨(vp_in_nI (by decide : 9 < 10) (by decide) : vp_in (nI 9) 10), ((((((((h).2).2).1 q0)).1 q1)).2).2⟩⟩⟩⟩⟩⟩, fun q1 => ((((((h).2).2).1 q0)).2 q1)⟩, fun q0 => ⟨fun q1 => ⟨(vp_in_nI (by decide : 6 < 10) (by decide) : vp_in (nI 6) 10), ⟨(vp_in_nI (by decide : 7 < 10) (by decide) : vp_in (nI 7) 10), ⟨(((((((h).2).2).2 q0)).1 q1)).1, ⟨(vp_in_nI (by decide : 8 < 10) (by decide) : vp_in (nI 8) 10), ⟨((((((((h).2).2).2 q0)).1 q1)).2).1, ⟨(vp_in_nI (by decide : 9 < 10) (by decide) : vp_in (nI 9) 10), ((((((((h).2).2).2 q0)).1 q1)).2).2⟩⟩⟩⟩⟩⟩, fun q1 => ((((((h).2).2).2 q0)).2 q1)⟩⟩⟩⟩
theorem kb_X11_snarlWith_7 {d L : Nat} {fz t : Bool} {Q : pm_R → pm_H → Prop} {x1 : Int32} {x2 : Int32} {r : Int32} {fz1 : Bool} {I : Nat → Nat → Int32} {J : Nat → Nat → Int64}
    (h : (vp_in x1 10 ∧ (vp_in x2 10 ∧ ((¬ (I 86 (x1).toNatClampNeg) = (I 86 (x2).toNatClampNeg) → ((¬ (I 85 6) = (-1 : Int32) → (vp_in x1 10 ∧ (vp_in x2 10 ∧ pm_Ev d 163 [.ref 85, .int (I 85 6)] (pm_hp L fz t (pm_u (pm_u (pm_u (pm_u I 105 6 r) 105 7 (nI 0)) 105 8 (I 86 (x1).toNatClampNeg)) 105 9 (I 86 (x2).toNatClampNeg)) J) (K_X11_snarlWith_103 d fz t Q)))) ∧ ((I 85 6) = (-1 : Int32) → pm_Ev d 120 [.int (r * (nI 0)), .int (nI 0), .int (nI 99)] (pm_hp L fz t I J) (K_X11_snarlWith_50 d fz t Q)))) ∧ ((I 86 (x1).toNatClampNeg) = (I 86 (x2).toNatClampNeg) → ((¬ (I 85 6) = (-1 : Int32) → (vp_in x1 10 ∧ (vp_in x2 10 ∧ pm_Ev d 163 [.ref 85, .int (I 85 6)] (pm_hp L fz t (pm_u (pm_u (pm_u (pm_u I 105 6 r) 105 7 (nI 1)) 105 8 (I 86 (x1).toNatClampNeg)) 105 9 (I 86 (x2).toNatClampNeg)) J) (K_X11_snarlWith_103 d fz t Q)))) ∧ ((I 85 6) = (-1 : Int32) → pm_Ev d 120 [.int (r * (nI 1)), .int (nI 0), .int (nI 99)] (pm_hp L fz t I J) (K_X11_snarlWith_50 d fz t Q)))))))) :
    K_X11_snarlWith_7 d fz t Q x1 x2 (.inl (some (.int r))) (pm_hp L fz1 t I J) := b_X11_snarlWith_7 h
set_option maxRecDepth 100000 in
theorem b_X11_snarlWith_103 {d L : Nat} {fz t : Bool} {Q : pm_R → pm_H → Prop} {r : Int32} {I : Nat → Nat → Int32} {J : Nat → Nat → Int64}
    (h : pm_Ev d 120 [.int r, .int (nI 0), .int (nI 99)] (pm_hp L fz t I J) (K_X11_snarlWith_109 d fz t Q)) :
    t_X11_snarlWith_103 d L fz t Q r I J := by
  exact pm_go d [(7, [0, 1, 2]), (50, []), (103, []), (109, [])] 400 h
theorem kb_X11_snarlWith_103 {d L : Nat} {fz t : Bool} {Q : pm_R → pm_H → Prop} {r : Int32} {fz1 : Bool} {I : Nat → Nat → Int32} {J : Nat → Nat → Int64}
    (h : pm_Ev d 120 [.int r, .int (nI 0), .int (nI 99)] (pm_hp L fz t I J) (K_X11_snarlWith_109 d fz t Q)) :
    K_X11_snarlWith_103 d fz t Q (.inl (some (.int r))) (pm_hp L fz1 t I J) := b_X11_snarlWith_103 h
set_option maxRecDepth 100000 in
theorem b_X11_snarlWith_50 {d L : Nat} {fz t : Bool} {Q : pm_R → pm_H → Prop} {r : Int32} {I : Nat → Nat → Int32} {J : Nat → Nat → Int64}
    (h : Q (.inl (some (.int r))) (pm_hp L fz t I J)) :
    t_X11_snarlWith_50 d L fz t Q r I J := by
  exact pm_go d [(7, [0, 1, 2]), (50, []), (103, []), (109, [])] 400 h
theorem kb_X11_snarlWith_50 {d L : Nat} {fz t : Bool} {Q : pm_R → pm_H → Prop} {r : Int32} {fz1 : Bool} {I : Nat → Nat → Int32} {J : Nat → Nat → Int64}
    (h : Q (.inl (some (.int r))) (pm_hp L fz t I J)) :
    K_X11_snarlWith_50 d fz t Q (.inl (some (.int r))) (pm_hp L fz1 t I J) := b_X11_snarlWith_50 h
set_option maxRecDepth 100000 in
theorem b_X11_snarlWith_109 {d L : Nat} {fz t : Bool} {Q : pm_R → pm_H → Prop} {r : Int32} {I : Nat → Nat → Int32} {J : Nat → Nat → Int64}
    (h : Q (.inl (some (.int r))) (pm_hp L fz t I J)) :
    t_X11_snarlWith_109 d L fz t Q r I J := by
  exact pm_go d [(7, [0, 1, 2]), (50, []), (103, []), (109, [])] 400 h
theorem kb_X11_snarlWith_109 {d L : Nat} {fz t : Bool} {Q : pm_R → pm_H → Prop} {r : Int32} {fz1 : Bool} {I : Nat → Nat → Int32} {J : Nat → Nat → Int64}
    (h : Q (.inl (some (.int r))) (pm_hp L fz t I J)) :
    K_X11_snarlWith_109 d fz t Q (.inl (some (.int r))) (pm_hp L fz1 t I J) := b_X11_snarlWith_109 h
def t_X11_snarlOf_0 (d L : Nat) (fz t : Bool) (Q : pm_R → pm_H → Prop) (x1 : Int32) (x2 : Int32) (I : Nat → Nat → Int32) (J : Nat → Nat → Int64) : Prop := pm_T (pm_Ev d) 166 Q (0, [(0, .ref 85), (1, .int x1), (2, .int x2)], [], pm_hp L fz t I J, 0, 0)
def t_X11_snarlOf_9 (d L : Nat) (fz t : Bool) (Q : pm_R → pm_H → Prop) (x2 : Int32) (s1 : Int32) (s2 : Int32) (r : Int32) (I : Nat → Nat → Int32) (J : Nat → Nat → Int64) : Prop := pm_T (pm_Ev d) 166 Q (9, [(0, .ref 85), (2, .int x2)], [.int r, .int s2, .int s1, .ref 85], pm_hp L fz t I J, 0, 0)
def K_X11_snarlOf_9 (d : Nat) (fz t : Bool) (Q : pm_R → pm_H → Prop) (x2 : Int32) (s1 : Int32) (s2 : Int32) : pm_R → pm_H → Prop := pm_K d 166 Q 9 [(0, .ref 85), (2, .int x2)] [.int s2, .int s1, .ref 85] 118 0 fz 0 0
def t_X11_snarlOf_15 (d L : Nat) (fz t : Bool) (Q : pm_R → pm_H → Prop) (s1 : Int32) (s2 : Int32) (s3 : Int32) (r : Int32) (I : Nat → Nat → Int32) (J : Nat → Nat → Int64) : Prop := pm_T (pm_Ev d) 166 Q (15, [], [.int r, .int s3, .int s2, .int s1, .ref 85], pm_hp L fz t I J, 0, 0)
def K_X11_snarlOf_15 (d : Nat) (fz t : Bool) (Q : pm_R → pm_H → Prop) (s1 : Int32) (s2 : Int32) (s3 : Int32) : pm_R → pm_H → Prop := pm_K d 166 Q 15 [] [.int s3, .int s2, .int s1, .ref 85] 118 0 fz 0 0
def t_X11_snarlOf_18 (d L : Nat) (fz t : Bool) (Q : pm_R → pm_H → Prop) (r : Int32) (I : Nat → Nat → Int32) (J : Nat → Nat → Int64) : Prop := pm_T (pm_Ev d) 166 Q (18, [], [.int r], pm_hp L fz t I J, 0, 0)
def K_X11_snarlOf_18 (d : Nat) (fz t : Bool) (Q : pm_R → pm_H → Prop) : pm_R → pm_H → Prop := pm_K d 166 Q 18 [] [] 118 0 fz 0 0
set_option maxRecDepth 100000 in
theorem b_X11_snarlOf_0 {d L : Nat} {fz t : Bool} {Q : pm_R → pm_H → Prop} {x1 : Int32} {x2 : Int32} {I : Nat → Nat → Int32} {J : Nat → Nat → Int64}
    (h : pm_Ev d 164 [.ref 85, .int (nI 0), .int x1] (pm_hp L fz t I J) (K_X11_snarlOf_9 d fz t Q x2 x1 x2)) :
    t_X11_snarlOf_0 d L fz t Q x1 x2 I J := by
  exact pm_go d [(9, [0, 2]), (15, []), (18, [])] 400 h
theorem e_X11_snarlOf {d L : Nat} {fz t : Bool} {Q : pm_R → pm_H → Prop} {x1 : Int32} {x2 : Int32} {I : Nat → Nat → Int32} {J : Nat → Nat → Int64}
    (h : pm_Ev d 164 [.ref 85, .int (nI 0), .int x1] (pm_hp L fz t I J) (K_X11_snarlOf_9 d fz t Q x2 x1 x2)) :
    pm_Ev (d + 1) 166 [.ref 85, .int x1, .int x2] (pm_hp L fz t I J) Q := pm_Ev_in rfl (b_X11_snarlOf_0 h)
set_option maxRecDepth 100000 in
theorem b_X11_snarlOf_9 {d L : Nat} {fz t : Bool} {Q : pm_R → pm_H → Prop} {x2 : Int32} {s1 : Int32} {s2 : Int32} {r : Int32} {I : Nat → Nat → Int32} {J : Nat → Nat → Int64}
    (h : pm_Ev d 164 [.ref 85, .int (nI 0), .int x2] (pm_hp L fz t I J) (K_X11_snarlOf_15 d fz t Q s1 s2 r)) :
    t_X11_snarlOf_9 d L fz t Q x2 s1 s2 r I J := by
  exact pm_go d [(9, [0, 2]), (15, []), (18, [])] 400 h
theorem kb_X11_snarlOf_9 {d L : Nat} {fz t : Bool} {Q : pm_R → pm_H → Prop} {x2 : Int32} {s1 : Int32} {s2 : Int32} {r : Int32} {fz1 : Bool} {I : Nat → Nat → Int32} {J : Nat → Nat → Int64}
    (h : pm_Ev d 164 [.ref 85, .int (nI 0), .int x2] (pm_hp L fz t I J) (K_X11_snarlOf_15 d fz t Q s1 s2 r)) :
    K_X11_snarlOf_9 d fz t Q x2 s1 s2 (.inl (some (.int r))) (pm_hp L fz1 t I J) := b_X11_snarlOf_9 h
set_option maxRecDepth 100000 in
theorem b_X11_snarlOf_15 {d L : Nat} {fz t : Bool} {Q : pm_R → pm_H → Prop} {s1 : Int32} {s2 : Int32} {s3 : Int32} {r : Int32} {I : Nat → Nat → Int32} {J : Nat → Nat → Int64}
    (h : pm_Ev d 165 [.ref 85, .int s1, .int s2, .int s3, .int r] (pm_hp L fz t I J) (K_X11_snarlOf_18 d fz t Q)) :
    t_X11_snarlOf_15 d L fz t Q s1 s2 s3 r I J := by
  exact pm_go d [(9, [0, 2]), (15, []), (18, [])] 400 h
theorem kb_X11_snarlOf_15 {d L : Nat} {fz t : Bool} {Q : pm_R → pm_H → Prop} {s1 : Int32} {s2 : Int32} {s3 : Int32} {r : Int32} {fz1 : Bool} {I : Nat → Nat → Int32} {J : Nat → Nat → Int64}
    (h : pm_Ev d 165 [.ref 85, .int s1, .int s2, .int s3, .int r] (pm_hp L fz t I J) (K_X11_snarlOf_18 d fz t Q)) :
    K_X11_snarlOf_15 d fz t Q s1 s2 s3 (.inl (some (.int r))) (pm_hp L fz1 t I J) := b_X11_snarlOf_15 h
set_option maxRecDepth 100000 in
theorem b_X11_snarlOf_18 {d L : Nat} {fz t : Bool} {Q : pm_R → pm_H → Prop} {r : Int32} {I : Nat → Nat → Int32} {J : Nat → Nat → Int64}
    (h : Q (.inl (some (.int r))) (pm_hp L fz t I J)) :
    t_X11_snarlOf_18 d L fz t Q r I J := by
  exact pm_go d [(9, [0, 2]), (15, []), (18, [])] 400 h
theorem kb_X11_snarlOf_18 {d L : Nat} {fz t : Bool} {Q : pm_R → pm_H → Prop} {r : Int32} {fz1 : Bool} {I : Nat → Nat → Int32} {J : Nat → Nat → Int64}
    (h : Q (.inl (some (.int r))) (pm_hp L fz t I J)) :
    K_X11_snarlOf_18 d fz t Q (.inl (some (.int r))) (pm_hp L fz1 t I J) := b_X11_snarlOf_18 h
def t_X11_upsOf_0 (d L : Nat) (fz t : Bool) (Q : pm_R → pm_H → Prop) (x1 : Int32) (x2 : Int32) (x3 : Int32) (x4 : Int32) (I : Nat → Nat → Int32) (J : Nat → Nat → Int64) : Prop := pm_T (pm_Ev d) 167 Q (0, [(0, .ref 85), (1, .int x1), (2, .int x2), (3, .int x3), (4, .int x4)], [], pm_hp L fz t I J, 0, 0)
def t_X11_upsOf_6 (d L : Nat) (fz t : Bool) (Q : pm_R → pm_H → Prop) (x1 : Int32) (x2 : Int32) (x3 : Int32) (x4 : Int32) (r : Int32) (I : Nat → Nat → Int32) (J : Nat → Nat → Int64) : Prop := pm_T (pm_Ev d) 167 Q (6, [(0, .ref 85), (1, .int x1), (2, .int x2), (3, .int x3), (4, .int x4)], [.int r], pm_hp L fz t I J, 0, 0)
def K_X11_upsOf_6 (d : Nat) (fz t : Bool) (Q : pm_R → pm_H → Prop) (x1 : Int32) (x2 : Int32) (x3 : Int32) (x4 : Int32) : pm_R → pm_H → Prop := pm_K d 167 Q 6 [(0, .ref 85), (1, .int x1), (2, .int x2), (3, .int x3), (4, .int x4)] [] 118 0 fz 0 0
def t_X11_upsOf_49 (d L : Nat) (fz t : Bool) (Q : pm_R → pm_H → Prop) (x4 : Int32) (x5 : Int32) (x6 : Int32) (x7 : Int32) (I : Nat → Nat → Int32) (J : Nat → Nat → Int64) : Prop := pm_T (pm_Ev d) 167 Q (49, [(0, .ref 85), (4, .int x4), (5, .int x5), (6, .int x6), (7, .int x7)], [], pm_hp L fz t I J, 0, 0)
def t_X11_upsOf_151 (d L : Nat) (fz t : Bool) (Q : pm_R → pm_H → Prop) (x4 : Int32) (x5 : Int32) (x7 : Int32) (s0 : Int32) (r : Int32) (I : Nat → Nat → Int32) (J : Nat → Nat → Int64) : Prop := pm_T (pm_Ev d) 167 Q (151, [(0, .ref 85), (4, .int x4), (5, .int x5), (7, .int x7)], [.int r, .int s0], pm_hp L fz t I J, 0, 0)
def K_X11_upsOf_151 (d : Nat) (fz t : Bool) (Q : pm_R → pm_H → Prop) (x4 : Int32) (x5 : Int32) (x7 : Int32) (s0 : Int32) : pm_R → pm_H → Prop := pm_K d 167 Q 151 [(0, .ref 85), (4, .int x4), (5, .int x5), (7, .int x7)] [.int s0] 118 0 fz 0 0
set_option maxRecDepth 100000 in
theorem b_X11_upsOf_0 {d L : Nat} {fz t : Bool} {Q : pm_R → pm_H → Prop} {x1 : Int32} {x2 : Int32} {x3 : Int32} {x4 : Int32} {I : Nat → Nat → Int32} {J : Nat → Nat → Int64}
    (h : pm_Ev d 164 [.ref 85, .int x1, .int x2] (pm_hp L fz t I J) (K_X11_upsOf_6 d fz t Q x1 x2 x3 x4)) :
    t_X11_upsOf_0 d L fz t Q x1 x2 x3 x4 I J := by
  exact pm_go d [(6, [0, 1, 2, 3, 4]), (49, [0, 4, 5, 6, 7]), (151, [0, 4, 5, 7])] 400 h
theorem e_X11_upsOf {d L : Nat} {fz t : Bool} {Q : pm_R → pm_H → Prop} {x1 : Int32} {x2 : Int32} {x3 : Int32} {x4 : Int32} {I : Nat → Nat → Int32} {J : Nat → Nat → Int64}
    (h : pm_Ev d 164 [.ref 85, .int x1, .int x2] (pm_hp L fz t I J) (K_X11_upsOf_6 d fz t Q x1 x2 x3 x4)) :
    pm_Ev (d + 1) 167 [.ref 85, .int x1, .int x2, .int x3, .int x4] (pm_hp L fz t I J) Q := pm_Ev_in rfl (b_X11_upsOf_0 h)
set_option maxRecDepth 100000 in
theorem b_X11_upsOf_6 {d L : Nat} {fz t : Bool} {Q : pm_R → pm_H → Prop} {x1 : Int32} {x2 : Int32} {x3 : Int32} {x4 : Int32} {r : Int32} {I : Nat → Nat → Int32} {J : Nat → Nat → Int64}
    (h : ((¬ (I 85 5) = (-1 : Int32) → (vp_in ((x1 + (nI 12)) + x2) 68 ∧ t_X11_upsOf_49 d L fz t Q x4 r (nI 0) (nI 0) (pm_u (pm_u I 105 3 x3) 105 5 (I 103 (((x1 + (nI 12)) + x2)).toNatClampNeg)) J)) ∧ ((I 85 5) = (-1 : Int32) → Q (.inl (some (.int r))) (pm_hp L fz t I J)))) :
    t_X11_upsOf_6 d L fz t Q x1 x2 x3 x4 r I J := by
  exact pm_go d [(6, [0, 1, 2, 3, 4]), (49, [0, 4, 5, 6, 7]), (151, [0, 4, 5, 7])] 400 ⟨fun q0 => ⟨(vp_in_nI (by decide : 3 < 10) (by decide) : vp_in (nI 3) 10), ⟨(((h).1 q0)).1, ⟨(vp_in_nI (by decide : 5 < 10) (by decide) : vp_in (nI 5) 10), (((h).1 q0)).2⟩⟩⟩, fun q0 => ((h).2 q0)⟩
theorem kb_X11_upsOf_6 {d L : Nat} {fz t : Bool} {Q : pm_R → pm_H → Prop} {x1 : Int32} {x2 : Int32} {x3 : Int32} {x4 : Int32} {r : Int32} {fz1 : Bool} {I : Nat → Nat → Int32} {J : Nat → Nat → Int64}
    (h : ((¬ (I 85 5) = (-1 : Int32) → (vp_in ((x1 + (nI 12)) + x2) 68 ∧ t_X11_upsOf_49 d L fz t Q x4 r (nI 0) (nI 0) (pm_u (pm_u I 105 3 x3) 105 5 (I 103 (((x1 + (nI 12)) + x2)).toNatClampNeg)) J)) ∧ ((I 85 5) = (-1 : Int32) → Q (.inl (some (.int r))) (pm_hp L fz t I J)))) :
    K_X11_upsOf_6 d fz t Q x1 x2 x3 x4 (.inl (some (.int r))) (pm_hp L fz1 t I J) := b_X11_upsOf_6 h
set_option maxRecDepth 100000 in
theorem b_X11_upsOf_49 {d L : Nat} {fz t : Bool} {Q : pm_R → pm_H → Prop} {x4 : Int32} {x5 : Int32} {x6 : Int32} {x7 : Int32} {I : Nat → Nat → Int32} {J : Nat → Nat → Int64}
    (h : (((I 85 1) ≤ x7 → Q (.inl (some (.int x6))) (pm_hp L fz t I J)) ∧ (¬ (I 85 1) ≤ x7 → ((x7 ≤ (nI 0) → (((I 85 1) ≤ (x7 + (nI 1)) → pm_Ev d 163 [.ref 85, .int (I 85 5)] (pm_hp L fz t (pm_u (pm_u (pm_u (pm_u I 105 0 ((x5 >>> (x7 &&& 31)) &&& (nI 1))) 105 1 ((nI 0) + (nI 0))) 105 2 ((x4 >>> (x7 &&& 31)) &&& (nI 1))) 105 4 x7) J) (K_X11_upsOf_151 d fz t Q x4 x5 x7 x6)) ∧ (¬ (I 85 1) ≤ (x7 + (nI 1)) → pm_Ev d 163 [.ref 85, .int (I 85 5)] (pm_hp L fz t (pm_u (pm_u (pm_u (pm_u I 105 0 ((x5 >>> (x7 &&& 31)) &&& (nI 1))) 105 1 ((nI 0) + ((x5 >>> ((x7 + (nI 1)) &&& 31)) &&& (nI 1)))) 105 2 ((x4 >>> (x7 &&& 31)) &&& (nI 1))) 105 4 x7) J) (K_X11_upsOf_151 d fz t Q x4 x5 x7 x6)))) ∧ (¬ x7 ≤ (nI 0) → (((I 85 1) ≤ (x7 + (nI 1)) → pm_Ev d 163 [.ref 85, .int (I 85 5)] (pm_hp L fz t (pm_u (pm_u (pm_u (pm_u I 105 0 ((x5 >>> (x7 &&& 31)) &&& (nI 1))) 105 1 (((x5 >>> ((x7 - (nI 1)) &&& 31)) &&& (nI 1)) + (nI 0))) 105 2 ((x4 >>> (x7 &&& 31)) &&& (nI 1))) 105 4 x7) J) (K_X11_upsOf_151 d fz t Q x4 x5 x7 x6)) ∧ (¬ (I 85 1) ≤ (x7 + (nI 1)) → pm_Ev d 163 [.ref 85, .int (I 85 5)] (pm_hp L fz t (pm_u (pm_u (pm_u (pm_u I 105 0 ((x5 >>> (x7 &&& 31)) &&& (nI 1))) 105 1 (((x5 >>> ((x7 - (nI 1)) &&& 31)) &&& (nI 1)) + ((x5 >>> ((x7 + (nI 1)) &&& 31)) &&& (nI 1)))) 105 2 ((x4 >>> (x7 &&& 31)) &&& (nI 1))) 105 4 x7) J) (K_X11_upsOf_151 d fz t Q x4 x5 x7 x6)))))))) :
    t_X11_upsOf_49 d L fz t Q x4 x5 x6 x7 I J := by
  exact pm_go d [(6, [0, 1, 2, 3, 4]), (49, [0, 4, 5, 6, 7]), (151, [0, 4, 5, 7])] 400 ⟨fun q0 => ((h).1 q0), fun q0 => ⟨(vp_in_nI (by decide : 0 < 10) (by decide) : vp_in (nI 0) 10), ⟨fun q1 => ⟨fun q2 => ⟨(vp_in_nI (by decide : 1 < 10) (by decide) : vp_in (nI 1) 10), ⟨(vp_in_nI (by decide : 2 < 10) (by decide) : vp_in (nI 2) 10), ⟨(vp_in_nI (by decide : 4 < 10) (by decide) : vp_in (nI 4) 10), ((((((h).2 q0)).1 q1)).1 q2)⟩⟩⟩, fun q2 => ⟨(vp_in_nI (by decide : 1 < 10) (by decide) : vp_in (nI 1) 10), ⟨(vp_in_nI (by decide : 2 < 10) (by decide) : vp_in (nI 2) 10), ⟨(vp_in_nI (by decide : 4 < 10) (by decide) : vp_in (nI 4) 10), ((((((h).2 q0)).1 q1)).2 q2)⟩⟩⟩⟩, fun q1 => ⟨fun q2 => ⟨(vp_in_nI (by decide : 1 < 10) (by decide) : vp_in (nI 1) 10), ⟨(vp_in_nI (by decide : 2 < 10) (by decide) : vp_in (nI 2) 10), ⟨(vp_in_nI (by decide : 4 < 10) (by decide) : vp_in (nI 4) 10), ((((((h).2 q0)).2 q1)).1 q2)⟩⟩⟩, fun q2 => ⟨(vp_in_nI (by decide : 1 < 10) (by decide) : vp_in (nI 1) 10), ⟨(vp_in_nI (by decide : 2 < 10) (by decide) : vp_in (nI 2) 10), ⟨(vp_in_nI (by decide : 4 < 10) (by decide) : vp_in (nI 4) 10), ((((((h).2 q0)).2 q1)).2 q2)⟩⟩⟩⟩⟩⟩⟩
set_option maxRecDepth 100000 in
theorem b_X11_upsOf_151 {d L : Nat} {fz t : Bool} {Q : pm_R → pm_H → Prop} {x4 : Int32} {x5 : Int32} {x7 : Int32} {s0 : Int32} {r : Int32} {I : Nat → Nat → Int32} {J : Nat → Nat → Int64}
    (h : ((r = (nI 0) → t_X11_upsOf_49 d L fz t Q x4 x5 (s0 ||| (nI 0)) (x7 + (nI 1)) I J) ∧ (¬ r = (nI 0) → t_X11_upsOf_49 d L fz t Q x4 x5 (s0 ||| ((nI 1) <<< (x7 &&& 31))) (x7 + (nI 1)) I J))) :
    t_X11_upsOf_151 d L fz t Q x4 x5 x7 s0 r I J := by
  exact pm_go d [(6, [0, 1, 2, 3, 4]), (49, [0, 4, 5, 6, 7]), (151, [0, 4, 5, 7])] 400 ⟨fun q0 => ((h).1 q0), fun q0 => ((h).2 q0)⟩
theorem kb_X11_upsOf_151 {d L : Nat} {fz t : Bool} {Q : pm_R → pm_H → Prop} {x4 : Int32} {x5 : Int32} {x7 : Int32} {s0 : Int32} {r : Int32} {fz1 : Bool} {I : Nat → Nat → Int32} {J : Nat → Nat → Int64}
    (h : ((r = (nI 0) → t_X11_upsOf_49 d L fz t Q x4 x5 (s0 ||| (nI 0)) (x7 + (nI 1)) I J) ∧ (¬ r = (nI 0) → t_X11_upsOf_49 d L fz t Q x4 x5 (s0 ||| ((nI 1) <<< (x7 &&& 31))) (x7 + (nI 1)) I J))) :
    K_X11_upsOf_151 d fz t Q x4 x5 x7 s0 (.inl (some (.int r))) (pm_hp L fz1 t I J) := b_X11_upsOf_151 h
def t_X11_weavesBut_0 (d L : Nat) (fz t : Bool) (Q : pm_R → pm_H → Prop) (x1 : Int32) (x2 : Int32) (I : Nat → Nat → Int32) (J : Nat → Nat → Int64) : Prop := pm_T (pm_Ev d) 168 Q (0, [(0, .ref 85), (1, .int x1), (2, .int x2)], [], pm_hp L fz t I J, 0, 0)
def t_X11_weavesBut_10 (d L : Nat) (fz t : Bool) (Q : pm_R → pm_H → Prop) (x1 : Int32) (x2 : Int32) (x3 : Int32) (x4 : Int32) (I : Nat → Nat → Int32) (J : Nat → Nat → Int64) : Prop := pm_T (pm_Ev d) 168 Q (10, [(0, .ref 85), (1, .int x1), (2, .int x2), (3, .int x3), (4, .int x4)], [], pm_hp L fz t I J, 0, 0)
def t_X11_weavesBut_50 (d L : Nat) (fz t : Bool) (Q : pm_R → pm_H → Prop) (x1 : Int32) (x2 : Int32) (x4 : Int32) (r : Int32) (I : Nat → Nat → Int32) (J : Nat → Nat → Int64) : Prop := pm_T (pm_Ev d) 168 Q (50, [(0, .ref 85), (1, .int x1), (2, .int x2), (4, .int x4)], [.int r], pm_hp L fz t I J, 0, 0)
def K_X11_weavesBut_50 (d : Nat) (fz t : Bool) (Q : pm_R → pm_H → Prop) (x1 : Int32) (x2 : Int32) (x4 : Int32) : pm_R → pm_H → Prop := pm_K d 168 Q 50 [(0, .ref 85), (1, .int x1), (2, .int x2), (4, .int x4)] [] 118 0 fz 0 0
set_option maxRecDepth 100000 in
theorem b_X11_weavesBut_0 {d L : Nat} {fz t : Bool} {Q : pm_R → pm_H → Prop} {x1 : Int32} {x2 : Int32} {I : Nat → Nat → Int32} {J : Nat → Nat → Int64}
    (h : t_X11_weavesBut_10 d L fz t Q x1 x2 (nI 0) (nI 0) (pm_u I 85 52 (nI 0)) J) :
    t_X11_weavesBut_0 d L fz t Q x1 x2 I J := by
  exact pm_go d [(10, [0, 1, 2, 3, 4]), (50, [0, 1, 2, 4])] 400 h
theorem e_X11_weavesBut {d L : Nat} {fz t : Bool} {Q : pm_R → pm_H → Prop} {x1 : Int32} {x2 : Int32} {I : Nat → Nat → Int32} {J : Nat → Nat → Int64}
    (h : t_X11_weavesBut_10 d L fz t Q x1 x2 (nI 0) (nI 0) (pm_u I 85 52 (nI 0)) J) :
    pm_Ev (d + 1) 168 [.ref 85, .int x1, .int x2] (pm_hp L fz t I J) Q := pm_Ev_in rfl (b_X11_weavesBut_0 h)
set_option maxRecDepth 100000 in
theorem b_X11_weavesBut_10 {d L : Nat} {fz t : Bool} {Q : pm_R → pm_H → Prop} {x1 : Int32} {x2 : Int32} {x3 : Int32} {x4 : Int32} {I : Nat → Nat → Int32} {J : Nat → Nat → Int64}
    (h : (((I 85 3) ≤ x4 → Q (.inl none) (pm_hp L fz t I J)) ∧ (¬ (I 85 3) ≤ x4 → ((¬ x4 = x2 → (vp_in ((x1 + (nI 22)) + x4) 68 ∧ pm_Ev d 167 [.ref 85, .int x1, .int (I 103 (((x1 + (nI 22)) + x4)).toNatClampNeg), .int (I 85 52), .int x3] (pm_hp L fz t I J) (K_X11_weavesBut_50 d fz t Q x1 x2 x4))) ∧ (x4 = x2 → t_X11_weavesBut_10 d L fz t Q x1 x2 x3 (x4 + (nI 1)) I J))))) :
    t_X11_weavesBut_10 d L fz t Q x1 x2 x3 x4 I J := by
  exact pm_go d [(10, [0, 1, 2, 3, 4]), (50, [0, 1, 2, 4])] 400 ⟨fun q0 => ((h).1 q0), fun q0 => ⟨fun q1 => ⟨(((((h).2 q0)).1 q1)).1, (((((h).2 q0)).1 q1)).2⟩, fun q1 => ((((h).2 q0)).2 q1)⟩⟩
set_option maxRecDepth 100000 in
theorem b_X11_weavesBut_50 {d L : Nat} {fz t : Bool} {Q : pm_R → pm_H → Prop} {x1 : Int32} {x2 : Int32} {x4 : Int32} {r : Int32} {I : Nat → Nat → Int32} {J : Nat → Nat → Int64}
    (h : (vp_in (I 85 52) 12 ∧ t_X11_weavesBut_10 d L fz t Q x1 x2 r (x4 + (nI 1)) (pm_u (pm_u I 107 ((I 85 52)).toNatClampNeg r) 85 52 ((I 85 52) + (nI 1))) J)) :
    t_X11_weavesBut_50 d L fz t Q x1 x2 x4 r I J := by
  exact pm_go d [(10, [0, 1, 2, 3, 4]), (50, [0, 1, 2, 4])] 400 ⟨(h).1, (h).2⟩
theorem kb_X11_weavesBut_50 {d L : Nat} {fz t : Bool} {Q : pm_R → pm_H → Prop} {x1 : Int32} {x2 : Int32} {x4 : Int32} {r : Int32} {fz1 : Bool} {I : Nat → Nat → Int32} {J : Nat → Nat → Int64}
    (h : (vp_in (I 85 52) 12 ∧ t_X11_weavesBut_10 d L fz t Q x1 x2 r (x4 + (nI 1)) (pm_u (pm_u I 107 ((I 85 52)).toNatClampNeg r) 85 52 ((I 85 52) + (nI 1))) J)) :
    K_X11_weavesBut_50 d fz t Q x1 x2 x4 (.inl (some (.int r))) (pm_hp L fz1 t I J) := b_X11_weavesBut_50 h
def t_X11_weaves_0 (d L : Nat) (fz t : Bool) (Q : pm_R → pm_H → Prop) (x1 : Int32) (I : Nat → Nat → Int32) (J : Nat → Nat → Int64) : Prop := pm_T (pm_Ev d) 169 Q (0, [(0, .ref 85), (1, .int x1)], [], pm_hp L fz t I J, 0, 0)
def t_X11_weaves_6 (d L : Nat) (fz t : Bool) (Q : pm_R → pm_H → Prop) (I : Nat → Nat → Int32) (J : Nat → Nat → Int64) : Prop := pm_T (pm_Ev d) 169 Q (6, [], [], pm_hp L fz t I J, 0, 0)
def K_X11_weaves_6 (d : Nat) (fz t : Bool) (Q : pm_R → pm_H → Prop) : pm_R → pm_H → Prop := pm_K d 169 Q 6 [] [] 118 0 fz 0 0
set_option maxRecDepth 100000 in
theorem b_X11_weaves_0 {d L : Nat} {fz t : Bool} {Q : pm_R → pm_H → Prop} {x1 : Int32} {I : Nat → Nat → Int32} {J : Nat → Nat → Int64}
    (h : pm_Ev d 168 [.ref 85, .int x1, .int (-1 : Int32)] (pm_hp L fz t I J) (K_X11_weaves_6 d fz t Q)) :
    t_X11_weaves_0 d L fz t Q x1 I J := by
  exact pm_go d [(6, [])] 400 h
theorem e_X11_weaves {d L : Nat} {fz t : Bool} {Q : pm_R → pm_H → Prop} {x1 : Int32} {I : Nat → Nat → Int32} {J : Nat → Nat → Int64}
    (h : pm_Ev d 168 [.ref 85, .int x1, .int (-1 : Int32)] (pm_hp L fz t I J) (K_X11_weaves_6 d fz t Q)) :
    pm_Ev (d + 1) 169 [.ref 85, .int x1] (pm_hp L fz t I J) Q := pm_Ev_in rfl (b_X11_weaves_0 h)
set_option maxRecDepth 100000 in
theorem b_X11_weaves_6 {d L : Nat} {fz t : Bool} {Q : pm_R → pm_H → Prop} {I : Nat → Nat → Int32} {J : Nat → Nat → Int64}
    (h : Q (.inl none) (pm_hp L fz t I J)) :
    t_X11_weaves_6 d L fz t Q I J := by
  exact pm_go d [(6, [])] 400 h
theorem kb_X11_weaves_6 {d L : Nat} {fz t : Bool} {Q : pm_R → pm_H → Prop} {fz1 : Bool} {I : Nat → Nat → Int32} {J : Nat → Nat → Int64}
    (h : Q (.inl none) (pm_hp L fz t I J)) :
    K_X11_weaves_6 d fz t Q (.inl none) (pm_hp L fz1 t I J) := b_X11_weaves_6 h
def t_X11_standsAt_0 (d L : Nat) (fz t : Bool) (Q : pm_R → pm_H → Prop) (x1 : Int32) (x2 : Int32) (x3 : Int32) (I : Nat → Nat → Int32) (J : Nat → Nat → Int64) : Prop := pm_T (pm_Ev d) 170 Q (0, [(0, .ref 85), (1, .int x1), (2, .int x2), (3, .int x3)], [], pm_hp L fz t I J, 0, 0)
def t_X11_standsAt_35 (d L : Nat) (fz t : Bool) (Q : pm_R → pm_H → Prop) (x1 : Int32) (x2 : Int32) (x3 : Int32) (x4 : Int32) (I : Nat → Nat → Int32) (J : Nat → Nat → Int64) : Prop := pm_T (pm_Ev d) 170 Q (35, [(0, .ref 85), (1, .int x1), (2, .int x2), (3, .int x3), (4, .int x4)], [], pm_hp L fz t I J, 0, 0)
set_option maxRecDepth 100000 in
theorem b_X11_standsAt_0 {d L : Nat} {fz t : Bool} {Q : pm_R → pm_H → Prop} {x1 : Int32} {x2 : Int32} {x3 : Int32} {I : Nat → Nat → Int32} {J : Nat → Nat → Int64}
    (h : (vp_in x1 5 ∧ (((I 85 52) < (x2 + (I 89 (x1).toNatClampNeg)) → Q (.inl (some (.int (nI 0)))) (pm_hp L fz t I J)) ∧ (¬ (I 85 52) < (x2 + (I 89 (x1).toNatClampNeg)) → (vp_in x1 5 ∧ (((x3 + (I 88 (x1).toNatClampNeg)) ≤ (I 85 1) → t_X11_standsAt_35 d L fz t Q x1 x2 x3 (nI 0) I J) ∧ (¬ (x3 + (I 88 (x1).toNatClampNeg)) ≤ (I 85 1) → Q (.inl (some (.int (nI 0)))) (pm_hp L fz t I J)))))))) :
    t_X11_standsAt_0 d L fz t Q x1 x2 x3 I J := by
  exact pm_go d [(35, [0, 1, 2, 3, 4])] 400 ⟨(h).1, ⟨fun q0 => ⟨Or.inl rfl, (((h).2).1 q0)⟩, fun q0 => ⟨((((h).2).2 q0)).1, ⟨fun q1 => ((((((h).2).2 q0)).2).1 q1), fun q1 => ⟨Or.inl rfl, ((((((h).2).2 q0)).2).2 q1)⟩⟩⟩⟩⟩
theorem e_X11_standsAt {d L : Nat} {fz t : Bool} {Q : pm_R → pm_H → Prop} {x1 : Int32} {x2 : Int32} {x3 : Int32} {I : Nat → Nat → Int32} {J : Nat → Nat → Int64}
    (h : (vp_in x1 5 ∧ (((I 85 52) < (x2 + (I 89 (x1).toNatClampNeg)) → Q (.inl (some (.int (nI 0)))) (pm_hp L fz t I J)) ∧ (¬ (I 85 52) < (x2 + (I 89 (x1).toNatClampNeg)) → (vp_in x1 5 ∧ (((x3 + (I 88 (x1).toNatClampNeg)) ≤ (I 85 1) → t_X11_standsAt_35 d L fz t Q x1 x2 x3 (nI 0) I J) ∧ (¬ (x3 + (I 88 (x1).toNatClampNeg)) ≤ (I 85 1) → Q (.inl (some (.int (nI 0)))) (pm_hp L fz t I J)))))))) :
    pm_Ev (d + 1) 170 [.ref 85, .int x1, .int x2, .int x3] (pm_hp L fz t I J) Q := pm_Ev_in rfl (b_X11_standsAt_0 h)
set_option maxRecDepth 100000 in
theorem b_X11_standsAt_35 {d L : Nat} {fz t : Bool} {Q : pm_R → pm_H → Prop} {x1 : Int32} {x2 : Int32} {x3 : Int32} {x4 : Int32} {I : Nat → Nat → Int32} {J : Nat → Nat → Int64}
    (h : (vp_in x1 5 ∧ (((I 89 (x1).toNatClampNeg) ≤ x4 → Q (.inl (some (.int (nI 1)))) (pm_hp L fz t I J)) ∧ (¬ (I 89 (x1).toNatClampNeg) ≤ x4 → (vp_in (x2 + x4) 12 ∧ (vp_in x1 5 ∧ (vp_in (((nI 3) * x1) + x4) 15 ∧ (((((I 107 ((x2 + x4)).toNatClampNeg) >>> (x3 &&& 31)) &&& (((nI 1) <<< ((I 88 (x1).toNatClampNeg) &&& 31)) - (nI 1))) = (I 90 ((((nI 3) * x1) + x4)).toNatClampNeg) → t_X11_standsAt_35 d L fz t Q x1 x2 x3 (x4 + (nI 1)) I J) ∧ (¬ (((I 107 ((x2 + x4)).toNatClampNeg) >>> (x3 &&& 31)) &&& (((nI 1) <<< ((I 88 (x1).toNatClampNeg) &&& 31)) - (nI 1))) = (I 90 ((((nI 3) * x1) + x4)).toNatClampNeg) → Q (.inl (some (.int (nI 0)))) (pm_hp L fz t I J)))))))))) :
    t_X11_standsAt_35 d L fz t Q x1 x2 x3 x4 I J := by
  exact pm_go d [(35, [0, 1, 2, 3, 4])] 400 ⟨(h).1, ⟨fun q0 => ⟨Or.inr rfl, (((h).2).1 q0)⟩, fun q0 => ⟨((((h).2).2 q0)).1, ⟨(((((h).2).2 q0)).2).1, ⟨((((((h).2).2 q0)).2).2).1, ⟨fun q1 => ((((((((h).2).2 q0)).2).2).2).1 q1), fun q1 => ⟨Or.inl rfl, ((((((((h).2).2 q0)).2).2).2).2 q1)⟩⟩⟩⟩⟩⟩⟩
def t_X11_firstOf_0 (d L : Nat) (fz t : Bool) (Q : pm_R → pm_H → Prop) (x1 : Int32) (I : Nat → Nat → Int32) (J : Nat → Nat → Int64) : Prop := pm_T (pm_Ev d) 171 Q (0, [(0, .ref 85), (1, .int x1)], [], pm_hp L fz t I J, 0, 0)
def t_X11_firstOf_2 (d L : Nat) (fz t : Bool) (Q : pm_R → pm_H → Prop) (x1 : Int32) (x2 : Int32) (I : Nat → Nat → Int32) (J : Nat → Nat → Int64) : Prop := pm_T (pm_Ev d) 171 Q (2, [(0, .ref 85), (1, .int x1), (2, .int x2)], [], pm_hp L fz t I J, 0, 0)
def t_X11_firstOf_12 (d L : Nat) (fz t : Bool) (Q : pm_R → pm_H → Prop) (x1 : Int32) (x2 : Int32) (x3 : Int32) (I : Nat → Nat → Int32) (J : Nat → Nat → Int64) : Prop := pm_T (pm_Ev d) 171 Q (12, [(0, .ref 85), (1, .int x1), (2, .int x2), (3, .int x3)], [], pm_hp L fz t I J, 0, 0)
def t_X11_firstOf_27 (d L : Nat) (fz t : Bool) (Q : pm_R → pm_H → Prop) (x1 : Int32) (x2 : Int32) (x3 : Int32) (r : Int32) (I : Nat → Nat → Int32) (J : Nat → Nat → Int64) : Prop := pm_T (pm_Ev d) 171 Q (27, [(0, .ref 85), (1, .int x1), (2, .int x2), (3, .int x3)], [.int r], pm_hp L fz t I J, 0, 0)
def K_X11_firstOf_27 (d : Nat) (fz t : Bool) (Q : pm_R → pm_H → Prop) (x1 : Int32) (x2 : Int32) (x3 : Int32) : pm_R → pm_H → Prop := pm_K d 171 Q 27 [(0, .ref 85), (1, .int x1), (2, .int x2), (3, .int x3)] [] 118 0 fz 0 0
set_option maxRecDepth 100000 in
theorem b_X11_firstOf_0 {d L : Nat} {fz t : Bool} {Q : pm_R → pm_H → Prop} {x1 : Int32} {I : Nat → Nat → Int32} {J : Nat → Nat → Int64}
    (h : t_X11_firstOf_2 d L fz t Q x1 (nI 0) I J) :
    t_X11_firstOf_0 d L fz t Q x1 I J := by
  exact pm_go d [(2, [0, 1, 2]), (12, [0, 1, 2, 3]), (27, [0, 1, 2, 3])] 400 h
theorem e_X11_firstOf {d L : Nat} {fz t : Bool} {Q : pm_R → pm_H → Prop} {x1 : Int32} {I : Nat → Nat → Int32} {J : Nat → Nat → Int64}
    (h : t_X11_firstOf_2 d L fz t Q x1 (nI 0) I J) :
    pm_Ev (d + 1) 171 [.ref 85, .int x1] (pm_hp L fz t I J) Q := pm_Ev_in rfl (b_X11_firstOf_0 h)
set_option maxRecDepth 100000 in
theorem b_X11_firstOf_2 {d L : Nat} {fz t : Bool} {Q : pm_R → pm_H → Prop} {x1 : Int32} {x2 : Int32} {I : Nat → Nat → Int32} {J : Nat → Nat → Int64}
    (h : (((I 85 52) ≤ x2 → Q (.inl (some (.int (-1 : Int32)))) (pm_hp L fz t I J)) ∧ (¬ (I 85 52) ≤ x2 → t_X11_firstOf_12 d L fz t Q x1 x2 (nI 0) I J))) :
    t_X11_firstOf_2 d L fz t Q x1 x2 I J := by
  exact pm_go d [(2, [0, 1, 2]), (12, [0, 1, 2, 3]), (27, [0, 1, 2, 3])] 400 ⟨fun q0 => ((h).1 q0), fun q0 => ((h).2 q0)⟩
set_option maxRecDepth 100000 in
theorem b_X11_firstOf_12 {d L : Nat} {fz t : Bool} {Q : pm_R → pm_H → Prop} {x1 : Int32} {x2 : Int32} {x3 : Int32} {I : Nat → Nat → Int32} {J : Nat → Nat → Int64}
    (h : (((I 85 1) ≤ x3 → t_X11_firstOf_2 d L fz t Q x1 (x2 + (nI 1)) I J) ∧ (¬ (I 85 1) ≤ x3 → pm_Ev d 170 [.ref 85, .int x1, .int x2, .int x3] (pm_hp L fz t I J) (K_X11_firstOf_27 d fz t Q x1 x2 x3)))) :
    t_X11_firstOf_12 d L fz t Q x1 x2 x3 I J := by
  exact pm_go d [(2, [0, 1, 2]), (12, [0, 1, 2, 3]), (27, [0, 1, 2, 3])] 400 ⟨fun q0 => ((h).1 q0), fun q0 => ((h).2 q0)⟩
set_option maxRecDepth 100000 in
theorem b_X11_firstOf_27 {d L : Nat} {fz t : Bool} {Q : pm_R → pm_H → Prop} {x1 : Int32} {x2 : Int32} {x3 : Int32} {r : Int32} {I : Nat → Nat → Int32} {J : Nat → Nat → Int64}
    (h : ((r = (nI 0) → t_X11_firstOf_12 d L fz t Q x1 x2 (x3 + (nI 1)) I J) ∧ (¬ r = (nI 0) → Q (.inl (some (.int (((nI 100) * x2) + x3)))) (pm_hp L fz t I J)))) :
    t_X11_firstOf_27 d L fz t Q x1 x2 x3 r I J := by
  exact pm_go d [(2, [0, 1, 2]), (12, [0, 1, 2, 3]), (27, [0, 1, 2, 3])] 400 ⟨fun q0 => ((h).1 q0), fun q0 => ((h).2 q0)⟩
theorem kb_X11_firstOf_27 {d L : Nat} {fz t : Bool} {Q : pm_R → pm_H → Prop} {x1 : Int32} {x2 : Int32} {x3 : Int32} {r : Int32} {fz1 : Bool} {I : Nat → Nat → Int32} {J : Nat → Nat → Int64}
    (h : ((r = (nI 0) → t_X11_firstOf_12 d L fz t Q x1 x2 (x3 + (nI 1)) I J) ∧ (¬ r = (nI 0) → Q (.inl (some (.int (((nI 100) * x2) + x3)))) (pm_hp L fz t I J)))) :
    K_X11_firstOf_27 d fz t Q x1 x2 x3 (.inl (some (.int r))) (pm_hp L fz1 t I J) := b_X11_firstOf_27 h
def t_X11_standing_0 (d L : Nat) (fz t : Bool) (Q : pm_R → pm_H → Prop) (I : Nat → Nat → Int32) (J : Nat → Nat → Int64) : Prop := pm_T (pm_Ev d) 172 Q (0, [(0, .ref 85)], [], pm_hp L fz t I J, 0, 0)
def t_X11_standing_4 (d L : Nat) (fz t : Bool) (Q : pm_R → pm_H → Prop) (x1 : Int32) (x2 : Int32) (I : Nat → Nat → Int32) (J : Nat → Nat → Int64) : Prop := pm_T (pm_Ev d) 172 Q (4, [(0, .ref 85), (1, .int x1), (2, .int x2)], [], pm_hp L fz t I J, 0, 0)
def t_X11_standing_18 (d L : Nat) (fz t : Bool) (Q : pm_R → pm_H → Prop) (x2 : Int32) (s0 : Int32) (r : Int32) (I : Nat → Nat → Int32) (J : Nat → Nat → Int64) : Prop := pm_T (pm_Ev d) 172 Q (18, [(0, .ref 85), (2, .int x2)], [.int r, .int s0], pm_hp L fz t I J, 0, 0)
def K_X11_standing_18 (d : Nat) (fz t : Bool) (Q : pm_R → pm_H → Prop) (x2 : Int32) (s0 : Int32) : pm_R → pm_H → Prop := pm_K d 172 Q 18 [(0, .ref 85), (2, .int x2)] [.int s0] 118 0 fz 0 0
set_option maxRecDepth 100000 in
theorem b_X11_standing_0 {d L : Nat} {fz t : Bool} {Q : pm_R → pm_H → Prop} {I : Nat → Nat → Int32} {J : Nat → Nat → Int64}
    (h : t_X11_standing_4 d L fz t Q (nI 0) (nI 0) I J) :
    t_X11_standing_0 d L fz t Q I J := by
  exact pm_go d [(4, [0, 1, 2]), (18, [0, 2])] 400 h
theorem e_X11_standing {d L : Nat} {fz t : Bool} {Q : pm_R → pm_H → Prop} {I : Nat → Nat → Int32} {J : Nat → Nat → Int64}
    (h : t_X11_standing_4 d L fz t Q (nI 0) (nI 0) I J) :
    pm_Ev (d + 1) 172 [.ref 85] (pm_hp L fz t I J) Q := pm_Ev_in rfl (b_X11_standing_0 h)
set_option maxRecDepth 100000 in
theorem b_X11_standing_4 {d L : Nat} {fz t : Bool} {Q : pm_R → pm_H → Prop} {x1 : Int32} {x2 : Int32} {I : Nat → Nat → Int32} {J : Nat → Nat → Int64}
    (h : (((I 85 4) ≤ x2 → Q (.inl (some (.int x1))) (pm_hp L fz t I J)) ∧ (¬ (I 85 4) ≤ x2 → pm_Ev d 171 [.ref 85, .int x2] (pm_hp L fz t I J) (K_X11_standing_18 d fz t Q x2 x1)))) :
    t_X11_standing_4 d L fz t Q x1 x2 I J := by
  exact pm_go d [(4, [0, 1, 2]), (18, [0, 2])] 400 ⟨fun q0 => ((h).1 q0), fun q0 => ((h).2 q0)⟩
set_option maxRecDepth 100000 in
theorem b_X11_standing_18 {d L : Nat} {fz t : Bool} {Q : pm_R → pm_H → Prop} {x2 : Int32} {s0 : Int32} {r : Int32} {I : Nat → Nat → Int32} {J : Nat → Nat → Int64}
    (h : ((r = (-1 : Int32) → t_X11_standing_4 d L fz t Q (s0 ||| (nI 0)) (x2 + (nI 1)) I J) ∧ (¬ r = (-1 : Int32) → t_X11_standing_4 d L fz t Q (s0 ||| ((nI 1) <<< (x2 &&& 31))) (x2 + (nI 1)) I J))) :
    t_X11_standing_18 d L fz t Q x2 s0 r I J := by
  exact pm_go d [(4, [0, 1, 2]), (18, [0, 2])] 400 ⟨fun q0 => ((h).1 q0), fun q0 => ((h).2 q0)⟩
theorem kb_X11_standing_18 {d L : Nat} {fz t : Bool} {Q : pm_R → pm_H → Prop} {x2 : Int32} {s0 : Int32} {r : Int32} {fz1 : Bool} {I : Nat → Nat → Int32} {J : Nat → Nat → Int64}
    (h : ((r = (-1 : Int32) → t_X11_standing_4 d L fz t Q (s0 ||| (nI 0)) (x2 + (nI 1)) I J) ∧ (¬ r = (-1 : Int32) → t_X11_standing_4 d L fz t Q (s0 ||| ((nI 1) <<< (x2 &&& 31))) (x2 + (nI 1)) I J))) :
    K_X11_standing_18 d fz t Q x2 s0 (.inl (some (.int r))) (pm_hp L fz1 t I J) := b_X11_standing_18 h
def t_X11_placesOf_0 (d L : Nat) (fz t : Bool) (Q : pm_R → pm_H → Prop) (x1 : Int32) (x2 : Int32) (I : Nat → Nat → Int32) (J : Nat → Nat → Int64) : Prop := pm_T (pm_Ev d) 173 Q (0, [(0, .ref 85), (1, .int x1), (2, .int x2)], [], pm_hp L fz t I J, 0, 0)
def t_X11_placesOf_5 (d L : Nat) (fz t : Bool) (Q : pm_R → pm_H → Prop) (x1 : Int32) (x2 : Int32) (x3 : Int32) (x4 : Int32) (I : Nat → Nat → Int32) (J : Nat → Nat → Int64) : Prop := pm_T (pm_Ev d) 173 Q (5, [(0, .ref 85), (1, .int x1), (2, .int x2), (3, .int x3), (4, .int x4)], [], pm_hp L fz t I J, 0, 0)
set_option maxRecDepth 100000 in
theorem b_X11_placesOf_0 {d L : Nat} {fz t : Bool} {Q : pm_R → pm_H → Prop} {x1 : Int32} {x2 : Int32} {I : Nat → Nat → Int32} {J : Nat → Nat → Int64}
    (h : t_X11_placesOf_5 d L fz t Q x1 x2 (nI 0) (nI 0) I J) :
    t_X11_placesOf_0 d L fz t Q x1 x2 I J := by
  exact pm_go d [(5, [0, 1, 2, 3, 4])] 400 h
theorem e_X11_placesOf {d L : Nat} {fz t : Bool} {Q : pm_R → pm_H → Prop} {x1 : Int32} {x2 : Int32} {I : Nat → Nat → Int32} {J : Nat → Nat → Int64}
    (h : t_X11_placesOf_5 d L fz t Q x1 x2 (nI 0) (nI 0) I J) :
    pm_Ev (d + 1) 173 [.ref 85, .int x1, .int x2] (pm_hp L fz t I J) Q := pm_Ev_in rfl (b_X11_placesOf_0 h)
set_option maxRecDepth 100000 in
theorem b_X11_placesOf_5 {d L : Nat} {fz t : Bool} {Q : pm_R → pm_H → Prop} {x1 : Int32} {x2 : Int32} {x3 : Int32} {x4 : Int32} {I : Nat → Nat → Int32} {J : Nat → Nat → Int64}
    (h : (((I 85 3) ≤ x4 → Q (.inl (some (.int x3))) (pm_hp L fz t I J)) ∧ (¬ (I 85 3) ≤ x4 → (vp_in ((x1 + (nI 22)) + x4) 68 ∧ ((¬ (I 103 (((x1 + (nI 22)) + x4)).toNatClampNeg) = x2 → t_X11_placesOf_5 d L fz t Q x1 x2 (x3 ||| (nI 0)) (x4 + (nI 1)) I J) ∧ ((I 103 (((x1 + (nI 22)) + x4)).toNatClampNeg) = x2 → t_X11_placesOf_5 d L fz t Q x1 x2 (x3 ||| ((nI 1) <<< (x4 &&& 31))) (x4 + (nI 1)) I J)))))) :
    t_X11_placesOf_5 d L fz t Q x1 x2 x3 x4 I J := by
  exact pm_go d [(5, [0, 1, 2, 3, 4])] 400 ⟨fun q0 => ((h).1 q0), fun q0 => ⟨(((h).2 q0)).1, ⟨fun q1 => (((((h).2 q0)).2).1 q1), fun q1 => (((((h).2 q0)).2).2 q1)⟩⟩⟩
def t_X11_sundayGoes_0 (d L : Nat) (fz t : Bool) (Q : pm_R → pm_H → Prop) (x1 : Int32) (I : Nat → Nat → Int32) (J : Nat → Nat → Int64) : Prop := pm_T (pm_Ev d) 174 Q (0, [(0, .ref 85), (1, .int x1)], [], pm_hp L fz t I J, 0, 0)
def t_X11_sundayGoes_5 (d L : Nat) (fz t : Bool) (Q : pm_R → pm_H → Prop) (x1 : Int32) (I : Nat → Nat → Int32) (J : Nat → Nat → Int64) : Prop := pm_T (pm_Ev d) 174 Q (5, [(0, .ref 85), (1, .int x1)], [], pm_hp L fz t I J, 0, 0)
def K_X11_sundayGoes_5 (d : Nat) (fz t : Bool) (Q : pm_R → pm_H → Prop) (x1 : Int32) : pm_R → pm_H → Prop := pm_K d 174 Q 5 [(0, .ref 85), (1, .int x1)] [] 118 0 fz 0 0
def t_X11_sundayGoes_18 (d L : Nat) (fz t : Bool) (Q : pm_R → pm_H → Prop) (x1 : Int32) (s1 : Int32) (s2 : Int32) (r : Int32) (I : Nat → Nat → Int32) (J : Nat → Nat → Int64) : Prop := pm_T (pm_Ev d) 174 Q (18, [(0, .ref 85), (1, .int x1)], [.int r, .int s2, .int s1, .ref 103], pm_hp L fz t I J, 0, 0)
def K_X11_sundayGoes_18 (d : Nat) (fz t : Bool) (Q : pm_R → pm_H → Prop) (x1 : Int32) (s1 : Int32) (s2 : Int32) : pm_R → pm_H → Prop := pm_K d 174 Q 18 [(0, .ref 85), (1, .int x1)] [.int s2, .int s1, .ref 103] 118 0 fz 0 0
def t_X11_sundayGoes_21 (d L : Nat) (fz t : Bool) (Q : pm_R → pm_H → Prop) (x1 : Int32) (s1 : Int32) (s2 : Int32) (r : Int32) (I : Nat → Nat → Int32) (J : Nat → Nat → Int64) : Prop := pm_T (pm_Ev d) 174 Q (21, [(0, .ref 85), (1, .int x1)], [.int r, .int s2, .int s1, .ref 103], pm_hp L fz t I J, 0, 0)
def K_X11_sundayGoes_21 (d : Nat) (fz t : Bool) (Q : pm_R → pm_H → Prop) (x1 : Int32) (s1 : Int32) (s2 : Int32) : pm_R → pm_H → Prop := pm_K d 174 Q 21 [(0, .ref 85), (1, .int x1)] [.int s2, .int s1, .ref 103] 118 0 fz 0 0
def t_X11_sundayGoes_25 (d L : Nat) (fz t : Bool) (Q : pm_R → pm_H → Prop) (x1 : Int32) (x2 : Int32) (I : Nat → Nat → Int32) (J : Nat → Nat → Int64) : Prop := pm_T (pm_Ev d) 174 Q (25, [(0, .ref 85), (1, .int x1), (2, .int x2)], [], pm_hp L fz t I J, 0, 0)
def t_X11_sundayGoes_39 (d L : Nat) (fz t : Bool) (Q : pm_R → pm_H → Prop) (x1 : Int32) (x2 : Int32) (r : Int32) (I : Nat → Nat → Int32) (J : Nat → Nat → Int64) : Prop := pm_T (pm_Ev d) 174 Q (39, [(0, .ref 85), (1, .int x1), (2, .int x2)], [.int r], pm_hp L fz t I J, 0, 0)
def K_X11_sundayGoes_39 (d : Nat) (fz t : Bool) (Q : pm_R → pm_H → Prop) (x1 : Int32) (x2 : Int32) : pm_R → pm_H → Prop := pm_K d 174 Q 39 [(0, .ref 85), (1, .int x1), (2, .int x2)] [] 118 0 fz 0 0
def t_X11_sundayGoes_71 (d L : Nat) (fz t : Bool) (Q : pm_R → pm_H → Prop) (x1 : Int32) (x2 : Int32) (s1 : Int32) (r : Int32) (I : Nat → Nat → Int32) (J : Nat → Nat → Int64) : Prop := pm_T (pm_Ev d) 174 Q (71, [(0, .ref 85), (1, .int x1), (2, .int x2)], [.int r, .int s1, .ref 103], pm_hp L fz t I J, 0, 0)
def K_X11_sundayGoes_71 (d : Nat) (fz t : Bool) (Q : pm_R → pm_H → Prop) (x1 : Int32) (x2 : Int32) (s1 : Int32) : pm_R → pm_H → Prop := pm_K d 174 Q 71 [(0, .ref 85), (1, .int x1), (2, .int x2)] [.int s1, .ref 103] 118 0 fz 0 0
set_option maxRecDepth 100000 in
theorem b_X11_sundayGoes_0 {d L : Nat} {fz t : Bool} {Q : pm_R → pm_H → Prop} {x1 : Int32} {I : Nat → Nat → Int32} {J : Nat → Nat → Int64}
    (h : pm_Ev d 169 [.ref 85, .int x1] (pm_hp L fz t I J) (K_X11_sundayGoes_5 d fz t Q x1)) :
    t_X11_sundayGoes_0 d L fz t Q x1 I J := by
  exact pm_go d [(5, [0, 1]), (18, [0, 1]), (21, [0, 1]), (25, [0, 1, 2]), (39, [0, 1, 2]), (71, [0, 1, 2])] 400 h
theorem e_X11_sundayGoes {d L : Nat} {fz t : Bool} {Q : pm_R → pm_H → Prop} {x1 : Int32} {I : Nat → Nat → Int32} {J : Nat → Nat → Int64}
    (h : pm_Ev d 169 [.ref 85, .int x1] (pm_hp L fz t I J) (K_X11_sundayGoes_5 d fz t Q x1)) :
    pm_Ev (d + 1) 174 [.ref 85, .int x1] (pm_hp L fz t I J) Q := pm_Ev_in rfl (b_X11_sundayGoes_0 h)
set_option maxRecDepth 100000 in
theorem b_X11_sundayGoes_5 {d L : Nat} {fz t : Bool} {Q : pm_R → pm_H → Prop} {x1 : Int32} {I : Nat → Nat → Int32} {J : Nat → Nat → Int64}
    (h : (vp_in (x1 + (nI 1)) 68 ∧ pm_Ev d 172 [.ref 85] (pm_hp L fz t I J) (K_X11_sundayGoes_18 d fz t Q x1 (x1 + (nI 1)) (I 103 ((x1 + (nI 1))).toNatClampNeg)))) :
    t_X11_sundayGoes_5 d L fz t Q x1 I J := by
  exact pm_go d [(5, [0, 1]), (18, [0, 1]), (21, [0, 1]), (25, [0, 1, 2]), (39, [0, 1, 2]), (71, [0, 1, 2])] 400 ⟨(h).1, (h).2⟩
theorem kb_X11_sundayGoes_5 {d L : Nat} {fz t : Bool} {Q : pm_R → pm_H → Prop} {x1 : Int32} {fz1 : Bool} {I : Nat → Nat → Int32} {J : Nat → Nat → Int64}
    (h : (vp_in (x1 + (nI 1)) 68 ∧ pm_Ev d 172 [.ref 85] (pm_hp L fz t I J) (K_X11_sundayGoes_18 d fz t Q x1 (x1 + (nI 1)) (I 103 ((x1 + (nI 1))).toNatClampNeg)))) :
    K_X11_sundayGoes_5 d fz t Q x1 (.inl none) (pm_hp L fz1 t I J) := b_X11_sundayGoes_5 h
set_option maxRecDepth 100000 in
theorem b_X11_sundayGoes_18 {d L : Nat} {fz t : Bool} {Q : pm_R → pm_H → Prop} {x1 : Int32} {s1 : Int32} {s2 : Int32} {r : Int32} {I : Nat → Nat → Int32} {J : Nat → Nat → Int64}
    (h : pm_Ev d 123 [.int r] (pm_hp L fz t I J) (K_X11_sundayGoes_21 d fz t Q x1 s1 s2)) :
    t_X11_sundayGoes_18 d L fz t Q x1 s1 s2 r I J := by
  exact pm_go d [(5, [0, 1]), (18, [0, 1]), (21, [0, 1]), (25, [0, 1, 2]), (39, [0, 1, 2]), (71, [0, 1, 2])] 400 h
theorem kb_X11_sundayGoes_18 {d L : Nat} {fz t : Bool} {Q : pm_R → pm_H → Prop} {x1 : Int32} {s1 : Int32} {s2 : Int32} {r : Int32} {fz1 : Bool} {I : Nat → Nat → Int32} {J : Nat → Nat → Int64}
    (h : pm_Ev d 123 [.int r] (pm_hp L fz t I J) (K_X11_sundayGoes_21 d fz t Q x1 s1 s2)) :
    K_X11_sundayGoes_18 d fz t Q x1 s1 s2 (.inl (some (.int r))) (pm_hp L fz1 t I J) := b_X11_sundayGoes_18 h
set_option maxRecDepth 100000 in
theorem b_X11_sundayGoes_21 {d L : Nat} {fz t : Bool} {Q : pm_R → pm_H → Prop} {x1 : Int32} {s1 : Int32} {s2 : Int32} {r : Int32} {I : Nat → Nat → Int32} {J : Nat → Nat → Int64}
    (h : (vp_in s1 68 ∧ t_X11_sundayGoes_25 d L fz t Q x1 (nI 0) (pm_u I 103 (s1).toNatClampNeg (s2 + r)) J)) :
    t_X11_sundayGoes_21 d L fz t Q x1 s1 s2 r I J := by
  exact pm_go d [(5, [0, 1]), (18, [0, 1]), (21, [0, 1]), (25, [0, 1, 2]), (39, [0, 1, 2]), (71, [0, 1, 2])] 400 ⟨(h).1, (h).2⟩
theorem kb_X11_sundayGoes_21 {d L : Nat} {fz t : Bool} {Q : pm_R → pm_H → Prop} {x1 : Int32} {s1 : Int32} {s2 : Int32} {r : Int32} {fz1 : Bool} {I : Nat → Nat → Int32} {J : Nat → Nat → Int64}
    (h : (vp_in s1 68 ∧ t_X11_sundayGoes_25 d L fz t Q x1 (nI 0) (pm_u I 103 (s1).toNatClampNeg (s2 + r)) J)) :
    K_X11_sundayGoes_21 d fz t Q x1 s1 s2 (.inl (some (.int r))) (pm_hp L fz1 t I J) := b_X11_sundayGoes_21 h
set_option maxRecDepth 100000 in
theorem b_X11_sundayGoes_25 {d L : Nat} {fz t : Bool} {Q : pm_R → pm_H → Prop} {x1 : Int32} {x2 : Int32} {I : Nat → Nat → Int32} {J : Nat → Nat → Int64}
    (h : (((I 85 2) ≤ x2 → (vp_in (x1 + (nI 0)) 68 ∧ (vp_in (x1 + (nI 0)) 68 ∧ Q (.inl none) (pm_hp L fz t (pm_u I 103 ((x1 + (nI 0))).toNatClampNeg ((I 103 ((x1 + (nI 0))).toNatClampNeg) + (nI 1))) J)))) ∧ (¬ (I 85 2) ≤ x2 → pm_Ev d 173 [.ref 85, .int x1, .int x2] (pm_hp L fz t I J) (K_X11_sundayGoes_39 d fz t Q x1 x2)))) :
    t_X11_sundayGoes_25 d L fz t Q x1 x2 I J := by
  exact pm_go d [(5, [0, 1]), (18, [0, 1]), (21, [0, 1]), (25, [0, 1, 2]), (39, [0, 1, 2]), (71, [0, 1, 2])] 400 ⟨fun q0 => ⟨(((h).1 q0)).1, ⟨((((h).1 q0)).2).1, ((((h).1 q0)).2).2⟩⟩, fun q0 => ((h).2 q0)⟩
set_option maxRecDepth 100000 in
theorem b_X11_sundayGoes_39 {d L : Nat} {fz t : Bool} {Q : pm_R → pm_H → Prop} {x1 : Int32} {x2 : Int32} {r : Int32} {I : Nat → Nat → Int32} {J : Nat → Nat → Int64}
    (h : ((r = (nI 0) → t_X11_sundayGoes_25 d L fz t Q x1 (x2 + (nI 1)) I J) ∧ (¬ r = (nI 0) → (vp_in ((x1 + (nI 12)) + x2) 68 ∧ pm_Ev d 120 [.int ((I 103 (((x1 + (nI 12)) + x2)).toNatClampNeg) + (nI 1)), .int (nI 0), .int (nI 9)] (pm_hp L fz t I J) (K_X11_sundayGoes_71 d fz t Q x1 x2 ((x1 + (nI 12)) + x2)))))) :
    t_X11_sundayGoes_39 d L fz t Q x1 x2 r I J := by
  exact pm_go d [(5, [0, 1]), (18, [0, 1]), (21, [0, 1]), (25, [0, 1, 2]), (39, [0, 1, 2]), (71, [0, 1, 2])] 400 ⟨fun q0 => ((h).1 q0), fun q0 => ⟨(((h).2 q0)).1, (((h).2 q0)).2⟩⟩
theorem kb_X11_sundayGoes_39 {d L : Nat} {fz t : Bool} {Q : pm_R → pm_H → Prop} {x1 : Int32} {x2 : Int32} {r : Int32} {fz1 : Bool} {I : Nat → Nat → Int32} {J : Nat → Nat → Int64}
    (h : ((r = (nI 0) → t_X11_sundayGoes_25 d L fz t Q x1 (x2 + (nI 1)) I J) ∧ (¬ r = (nI 0) → (vp_in ((x1 + (nI 12)) + x2) 68 ∧ pm_Ev d 120 [.int ((I 103 (((x1 + (nI 12)) + x2)).toNatClampNeg) + (nI 1)), .int (nI 0), .int (nI 9)] (pm_hp L fz t I J) (K_X11_sundayGoes_71 d fz t Q x1 x2 ((x1 + (nI 12)) + x2)))))) :
    K_X11_sundayGoes_39 d fz t Q x1 x2 (.inl (some (.int r))) (pm_hp L fz1 t I J) := b_X11_sundayGoes_39 h
set_option maxRecDepth 100000 in
theorem b_X11_sundayGoes_71 {d L : Nat} {fz t : Bool} {Q : pm_R → pm_H → Prop} {x1 : Int32} {x2 : Int32} {s1 : Int32} {r : Int32} {I : Nat → Nat → Int32} {J : Nat → Nat → Int64}
    (h : (vp_in s1 68 ∧ t_X11_sundayGoes_25 d L fz t Q x1 (x2 + (nI 1)) (pm_u I 103 (s1).toNatClampNeg r) J)) :
    t_X11_sundayGoes_71 d L fz t Q x1 x2 s1 r I J := by
  exact pm_go d [(5, [0, 1]), (18, [0, 1]), (21, [0, 1]), (25, [0, 1, 2]), (39, [0, 1, 2]), (71, [0, 1, 2])] 400 ⟨(h).1, (h).2⟩
theorem kb_X11_sundayGoes_71 {d L : Nat} {fz t : Bool} {Q : pm_R → pm_H → Prop} {x1 : Int32} {x2 : Int32} {s1 : Int32} {r : Int32} {fz1 : Bool} {I : Nat → Nat → Int32} {J : Nat → Nat → Int64}
    (h : (vp_in s1 68 ∧ t_X11_sundayGoes_25 d L fz t Q x1 (x2 + (nI 1)) (pm_u I 103 (s1).toNatClampNeg r) J)) :
    K_X11_sundayGoes_71 d fz t Q x1 x2 s1 (.inl (some (.int r))) (pm_hp L fz1 t I J) := b_X11_sundayGoes_71 h
def t_X11_sundaysGo_0 (d L : Nat) (fz t : Bool) (Q : pm_R → pm_H → Prop) (x1 : Int32) (I : Nat → Nat → Int32) (J : Nat → Nat → Int64) : Prop := pm_T (pm_Ev d) 175 Q (0, [(0, .ref 85), (1, .int x1)], [], pm_hp L fz t I J, 0, 0)
def t_X11_sundaysGo_2 (d L : Nat) (fz t : Bool) (Q : pm_R → pm_H → Prop) (x1 : Int32) (x2 : Int32) (I : Nat → Nat → Int32) (J : Nat → Nat → Int64) : Prop := pm_T (pm_Ev d) 175 Q (2, [(0, .ref 85), (1, .int x1), (2, .int x2)], [], pm_hp L fz t I J, 0, 0)
def t_X11_sundaysGo_13 (d L : Nat) (fz t : Bool) (Q : pm_R → pm_H → Prop) (x1 : Int32) (x2 : Int32) (I : Nat → Nat → Int32) (J : Nat → Nat → Int64) : Prop := pm_T (pm_Ev d) 175 Q (13, [(0, .ref 85), (1, .int x1), (2, .int x2)], [], pm_hp L fz t I J, 0, 0)
def K_X11_sundaysGo_13 (d : Nat) (fz t : Bool) (Q : pm_R → pm_H → Prop) (x1 : Int32) (x2 : Int32) : pm_R → pm_H → Prop := pm_K d 175 Q 13 [(0, .ref 85), (1, .int x1), (2, .int x2)] [] 118 0 fz 0 0
set_option maxRecDepth 100000 in
theorem b_X11_sundaysGo_0 {d L : Nat} {fz t : Bool} {Q : pm_R → pm_H → Prop} {x1 : Int32} {I : Nat → Nat → Int32} {J : Nat → Nat → Int64}
    (h : t_X11_sundaysGo_2 d L fz t Q x1 (nI 0) I J) :
    t_X11_sundaysGo_0 d L fz t Q x1 I J := by
  exact pm_go d [(2, [0, 1, 2]), (13, [0, 1, 2])] 400 h
theorem e_X11_sundaysGo {d L : Nat} {fz t : Bool} {Q : pm_R → pm_H → Prop} {x1 : Int32} {I : Nat → Nat → Int32} {J : Nat → Nat → Int64}
    (h : t_X11_sundaysGo_2 d L fz t Q x1 (nI 0) I J) :
    pm_Ev (d + 1) 175 [.ref 85, .int x1] (pm_hp L fz t I J) Q := pm_Ev_in rfl (b_X11_sundaysGo_0 h)
set_option maxRecDepth 100000 in
theorem b_X11_sundaysGo_2 {d L : Nat} {fz t : Bool} {Q : pm_R → pm_H → Prop} {x1 : Int32} {x2 : Int32} {I : Nat → Nat → Int32} {J : Nat → Nat → Int64}
    (h : ((x1 ≤ x2 → Q (.inl none) (pm_hp L fz t I J)) ∧ (¬ x1 ≤ x2 → pm_Ev d 174 [.ref 85, .int (nI 34)] (pm_hp L fz t I J) (K_X11_sundaysGo_13 d fz t Q x1 x2)))) :
    t_X11_sundaysGo_2 d L fz t Q x1 x2 I J := by
  exact pm_go d [(2, [0, 1, 2]), (13, [0, 1, 2])] 400 ⟨fun q0 => ((h).1 q0), fun q0 => ((h).2 q0)⟩
set_option maxRecDepth 100000 in
theorem b_X11_sundaysGo_13 {d L : Nat} {fz t : Bool} {Q : pm_R → pm_H → Prop} {x1 : Int32} {x2 : Int32} {I : Nat → Nat → Int32} {J : Nat → Nat → Int64}
    (h : t_X11_sundaysGo_2 d L fz t Q x1 (x2 + (nI 1)) I J) :
    t_X11_sundaysGo_13 d L fz t Q x1 x2 I J := by
  exact pm_go d [(2, [0, 1, 2]), (13, [0, 1, 2])] 400 h
theorem kb_X11_sundaysGo_13 {d L : Nat} {fz t : Bool} {Q : pm_R → pm_H → Prop} {x1 : Int32} {x2 : Int32} {fz1 : Bool} {I : Nat → Nat → Int32} {J : Nat → Nat → Int64}
    (h : t_X11_sundaysGo_2 d L fz t Q x1 (x2 + (nI 1)) I J) :
    K_X11_sundaysGo_13 d fz t Q x1 x2 (.inl none) (pm_hp L fz1 t I J) := b_X11_sundaysGo_13 h
def t_X11_laceSnarl_0 (d L : Nat) (fz t : Bool) (Q : pm_R → pm_H → Prop) (I : Nat → Nat → Int32) (J : Nat → Nat → Int64) : Prop := pm_T (pm_Ev d) 176 Q (0, [(0, .ref 85)], [], pm_hp L fz t I J, 0, 0)
def t_X11_laceSnarl_4 (d L : Nat) (fz t : Bool) (Q : pm_R → pm_H → Prop) (x1 : Int32) (x2 : Int32) (I : Nat → Nat → Int32) (J : Nat → Nat → Int64) : Prop := pm_T (pm_Ev d) 176 Q (4, [(0, .ref 85), (1, .int x1), (2, .int x2)], [], pm_hp L fz t I J, 0, 0)
def t_X11_laceSnarl_37 (d L : Nat) (fz t : Bool) (Q : pm_R → pm_H → Prop) (x2 : Int32) (s0 : Int32) (r : Int32) (I : Nat → Nat → Int32) (J : Nat → Nat → Int64) : Prop := pm_T (pm_Ev d) 176 Q (37, [(0, .ref 85), (2, .int x2)], [.int r, .int s0], pm_hp L fz t I J, 0, 0)
def K_X11_laceSnarl_37 (d : Nat) (fz t : Bool) (Q : pm_R → pm_H → Prop) (x2 : Int32) (s0 : Int32) : pm_R → pm_H → Prop := pm_K d 176 Q 37 [(0, .ref 85), (2, .int x2)] [.int s0] 118 0 fz 0 0
set_option maxRecDepth 100000 in
theorem b_X11_laceSnarl_0 {d L : Nat} {fz t : Bool} {Q : pm_R → pm_H → Prop} {I : Nat → Nat → Int32} {J : Nat → Nat → Int64}
    (h : t_X11_laceSnarl_4 d L fz t Q (nI 0) (nI 1) I J) :
    t_X11_laceSnarl_0 d L fz t Q I J := by
  exact pm_go d [(4, [0, 1, 2]), (37, [0, 2])] 400 h
theorem e_X11_laceSnarl {d L : Nat} {fz t : Bool} {Q : pm_R → pm_H → Prop} {I : Nat → Nat → Int32} {J : Nat → Nat → Int64}
    (h : t_X11_laceSnarl_4 d L fz t Q (nI 0) (nI 1) I J) :
    pm_Ev (d + 1) 176 [.ref 85] (pm_hp L fz t I J) Q := pm_Ev_in rfl (b_X11_laceSnarl_0 h)
set_option maxRecDepth 100000 in
theorem b_X11_laceSnarl_4 {d L : Nat} {fz t : Bool} {Q : pm_R → pm_H → Prop} {x1 : Int32} {x2 : Int32} {I : Nat → Nat → Int32} {J : Nat → Nat → Int64}
    (h : (((I 85 3) ≤ x2 → Q (.inl (some (.int x1))) (pm_hp L fz t I J)) ∧ (¬ (I 85 3) ≤ x2 → (vp_in (((nI 22) + x2) - (nI 1)) 68 ∧ (vp_in ((nI 22) + x2) 68 ∧ pm_Ev d 166 [.ref 85, .int (I 103 ((((nI 22) + x2) - (nI 1))).toNatClampNeg), .int (I 103 (((nI 22) + x2)).toNatClampNeg)] (pm_hp L fz t I J) (K_X11_laceSnarl_37 d fz t Q x2 x1)))))) :
    t_X11_laceSnarl_4 d L fz t Q x1 x2 I J := by
  exact pm_go d [(4, [0, 1, 2]), (37, [0, 2])] 400 ⟨fun q0 => ((h).1 q0), fun q0 => ⟨(((h).2 q0)).1, ⟨((((h).2 q0)).2).1, ((((h).2 q0)).2).2⟩⟩⟩
set_option maxRecDepth 100000 in
theorem b_X11_laceSnarl_37 {d L : Nat} {fz t : Bool} {Q : pm_R → pm_H → Prop} {x2 : Int32} {s0 : Int32} {r : Int32} {I : Nat → Nat → Int32} {J : Nat → Nat → Int64}
    (h : t_X11_laceSnarl_4 d L fz t Q (s0 + r) (x2 + (nI 1)) I J) :
    t_X11_laceSnarl_37 d L fz t Q x2 s0 r I J := by
  exact pm_go d [(4, [0, 1, 2]), (37, [0, 2])] 400 h
theorem kb_X11_laceSnarl_37 {d L : Nat} {fz t : Bool} {Q : pm_R → pm_H → Prop} {x2 : Int32} {s0 : Int32} {r : Int32} {fz1 : Bool} {I : Nat → Nat → Int32} {J : Nat → Nat → Int64}
    (h : t_X11_laceSnarl_4 d L fz t Q (s0 + r) (x2 + (nI 1)) I J) :
    K_X11_laceSnarl_37 d fz t Q x2 s0 (.inl (some (.int r))) (pm_hp L fz1 t I J) := b_X11_laceSnarl_37 h
