theorem pm_bx {x y : Nat} {A B : Prop} (q : bif Nat.beq x y then A else B) : (x = y ∧ A) ∨ B := by
  cases h : Nat.beq x y with
  | true => rw [h] at q; exact Or.inl ⟨Nat.eq_of_beq_eq_true h, q⟩
  | false => rw [h] at q; exact Or.inr q
def t_L_chapel_0 (d L : Nat) (fz t : Bool) (Q : pm_R → pm_H → Prop) (x1 : Int32) (I : Nat → Nat → Int32) (J : Nat → Nat → Int64) : Prop := pm_T (pm_Ev d) 286 Q (0, [(0, .ref 0), (1, .int x1), (2, .ref 117)], [], pm_hp L fz t I J, 0, 0)
def t_L_chapel_7 (d L : Nat) (fz t : Bool) (Q : pm_R → pm_H → Prop) (s1 : Int32) (r : Int32) (I : Nat → Nat → Int32) (J : Nat → Nat → Int64) : Prop := pm_T (pm_Ev d) 286 Q (7, [], [.int r, .int s1, .ref 117], pm_hp L fz t I J, 4, 24)
def K_L_chapel_7 (d : Nat) (fz t : Bool) (Q : pm_R → pm_H → Prop) (s1 : Int32) : pm_R → pm_H → Prop := pm_KH d 286 Q 7 [] [.int s1, .ref 117] [(2, 13)] 118 4 fz 4 24
def t_L_chapel_13 (d L : Nat) (fz t : Bool) (Q : pm_R → pm_H → Prop) (I : Nat → Nat → Int32) (J : Nat → Nat → Int64) : Prop := pm_T (pm_Ev d) 286 Q (13, [], [], pm_hp L fz t I J, 4, 24)
set_option maxRecDepth 100000 in
theorem b_L_chapel_0 {d L : Nat} {fz t : Bool} {Q : pm_R → pm_H → Prop} {x1 : Int32} {I : Nat → Nat → Int32} {J : Nat → Nat → Int64}
    (h : pm_Ev d 249 [.ref 0, .int x1] (pm_hp L fz t I J) (K_L_chapel_7 d fz t Q (nI 0))) :
    t_L_chapel_0 d L fz t Q x1 I J := by
  refine pm_go d [(7, []), (13, [])] 400 (pm_Ev_mono d _ _ _ _ _ (fun r h' q => ?_) h)
  cases r with
  | inl v => exact q
  | inr x =>
    rcases pm_bx q with ⟨rfl, q⟩ | q
    · exact q
    · exact q.elim
theorem e_L_chapel {d L : Nat} {fz t : Bool} {Q : pm_R → pm_H → Prop} {x1 : Int32} {I : Nat → Nat → Int32} {J : Nat → Nat → Int64}
    (h : pm_Ev d 249 [.ref 0, .int x1] (pm_hp L fz t I J) (K_L_chapel_7 d fz t Q (nI 0))) :
    pm_Ev (d + 1) 286 [.ref 0, .int x1, .ref 117] (pm_hp L fz t I J) Q := pm_Ev_in rfl (b_L_chapel_0 h)
set_option maxRecDepth 100000 in
theorem b_L_chapel_7 {d L : Nat} {fz t : Bool} {Q : pm_R → pm_H → Prop} {s1 : Int32} {r : Int32} {I : Nat → Nat → Int32} {J : Nat → Nat → Int64}
    (h : (vp_in s1 1 ∧ Q (.inl (some (.int (nI 0)))) (pm_hp L fz t I (pm_u J 117 (s1).toNatClampNeg ((r).toInt64))))) :
    t_L_chapel_7 d L fz t Q s1 r I J := by
  exact pm_go d [(7, []), (13, [])] 400 ⟨(h).1, (h).2⟩
theorem kb_L_chapel_7 {d L : Nat} {fz t : Bool} {Q : pm_R → pm_H → Prop} {s1 : Int32} {r : Int32} {fz1 : Bool} {I : Nat → Nat → Int32} {J : Nat → Nat → Int64}
    (h : (vp_in s1 1 ∧ Q (.inl (some (.int (nI 0)))) (pm_hp L true t I (pm_u J 117 (s1).toNatClampNeg ((r).toInt64))))) :
    K_L_chapel_7 d fz t Q s1 (.inl (some (.int r))) (pm_hp L fz1 t I J) := b_L_chapel_7 h
set_option maxRecDepth 100000 in
theorem b_L_chapel_13 {d L : Nat} {fz t : Bool} {Q : pm_R → pm_H → Prop} {I : Nat → Nat → Int32} {J : Nat → Nat → Int64}
    (h : Q (.inl (some (.int (nI 1)))) (pm_hp L fz t I J)) :
    t_L_chapel_13 d L fz t Q I J := by
  exact pm_go d [(7, []), (13, [])] 400 h
def t_L_count_0 (d L : Nat) (fz t : Bool) (Q : pm_R → pm_H → Prop) (x1 : Int32) (I : Nat → Nat → Int32) (J : Nat → Nat → Int64) : Prop := pm_T (pm_Ev d) 287 Q (0, [(0, .ref 0), (1, .int x1), (2, .ref 117)], [], pm_hp L fz t I J, 0, 0)
def t_L_count_7 (d L : Nat) (fz t : Bool) (Q : pm_R → pm_H → Prop) (s1 : Int32) (r : Int32) (I : Nat → Nat → Int32) (J : Nat → Nat → Int64) : Prop := pm_T (pm_Ev d) 287 Q (7, [], [.int r, .int s1, .ref 117], pm_hp L fz t I J, 4, 24)
def K_L_count_7 (d : Nat) (fz t : Bool) (Q : pm_R → pm_H → Prop) (s1 : Int32) : pm_R → pm_H → Prop := pm_KH d 287 Q 7 [] [.int s1, .ref 117] [(1, 13)] 118 4 fz 4 24
def t_L_count_13 (d L : Nat) (fz t : Bool) (Q : pm_R → pm_H → Prop) (I : Nat → Nat → Int32) (J : Nat → Nat → Int64) : Prop := pm_T (pm_Ev d) 287 Q (13, [], [], pm_hp L fz t I J, 4, 24)
set_option maxRecDepth 100000 in
theorem b_L_count_0 {d L : Nat} {fz t : Bool} {Q : pm_R → pm_H → Prop} {x1 : Int32} {I : Nat → Nat → Int32} {J : Nat → Nat → Int64}
    (h : pm_Ev d 250 [.ref 0, .int x1] (pm_hp L fz t I J) (K_L_count_7 d fz t Q (nI 0))) :
    t_L_count_0 d L fz t Q x1 I J := by
  refine pm_go d [(7, []), (13, [])] 400 (pm_Ev_mono d _ _ _ _ _ (fun r h' q => ?_) h)
  cases r with
  | inl v => exact q
  | inr x =>
    rcases pm_bx q with ⟨rfl, q⟩ | q
    · exact q
    · exact q.elim
theorem e_L_count {d L : Nat} {fz t : Bool} {Q : pm_R → pm_H → Prop} {x1 : Int32} {I : Nat → Nat → Int32} {J : Nat → Nat → Int64}
    (h : pm_Ev d 250 [.ref 0, .int x1] (pm_hp L fz t I J) (K_L_count_7 d fz t Q (nI 0))) :
    pm_Ev (d + 1) 287 [.ref 0, .int x1, .ref 117] (pm_hp L fz t I J) Q := pm_Ev_in rfl (b_L_count_0 h)
set_option maxRecDepth 100000 in
theorem b_L_count_7 {d L : Nat} {fz t : Bool} {Q : pm_R → pm_H → Prop} {s1 : Int32} {r : Int32} {I : Nat → Nat → Int32} {J : Nat → Nat → Int64}
    (h : (vp_in s1 1 ∧ Q (.inl (some (.int (nI 0)))) (pm_hp L fz t I (pm_u J 117 (s1).toNatClampNeg ((r).toInt64))))) :
    t_L_count_7 d L fz t Q s1 r I J := by
  exact pm_go d [(7, []), (13, [])] 400 ⟨(h).1, (h).2⟩
theorem kb_L_count_7 {d L : Nat} {fz t : Bool} {Q : pm_R → pm_H → Prop} {s1 : Int32} {r : Int32} {fz1 : Bool} {I : Nat → Nat → Int32} {J : Nat → Nat → Int64}
    (h : (vp_in s1 1 ∧ Q (.inl (some (.int (nI 0)))) (pm_hp L true t I (pm_u J 117 (s1).toNatClampNeg ((r).toInt64))))) :
    K_L_count_7 d fz t Q s1 (.inl (some (.int r))) (pm_hp L fz1 t I J) := b_L_count_7 h
set_option maxRecDepth 100000 in
theorem b_L_count_13 {d L : Nat} {fz t : Bool} {Q : pm_R → pm_H → Prop} {I : Nat → Nat → Int32} {J : Nat → Nat → Int64}
    (h : Q (.inl (some (.int (nI 1)))) (pm_hp L fz t I J)) :
    t_L_count_13 d L fz t Q I J := by
  exact pm_go d [(7, []), (13, [])] 400 h
def t_L_card_0 (d L : Nat) (fz t : Bool) (Q : pm_R → pm_H → Prop) (x1 : Int32) (x2 : Int32) (I : Nat → Nat → Int32) (J : Nat → Nat → Int64) : Prop := pm_T (pm_Ev d) 288 Q (0, [(0, .ref 0), (1, .int x1), (2, .int x2), (3, .ref 117)], [], pm_hp L fz t I J, 0, 0)
def t_L_card_8 (d L : Nat) (fz t : Bool) (Q : pm_R → pm_H → Prop) (s1 : Int32) (r : Int32) (I : Nat → Nat → Int32) (J : Nat → Nat → Int64) : Prop := pm_T (pm_Ev d) 288 Q (8, [], [.int r, .int s1, .ref 117], pm_hp L fz t I J, 4, 24)
def K_L_card_8 (d : Nat) (fz t : Bool) (Q : pm_R → pm_H → Prop) (s1 : Int32) : pm_R → pm_H → Prop := pm_KH d 288 Q 8 [] [.int s1, .ref 117] [(1, 15)] 118 4 fz 4 24
def t_L_card_15 (d L : Nat) (fz t : Bool) (Q : pm_R → pm_H → Prop) (I : Nat → Nat → Int32) (J : Nat → Nat → Int64) : Prop := pm_T (pm_Ev d) 288 Q (15, [], [], pm_hp L fz t I J, 4, 24)
set_option maxRecDepth 100000 in
theorem b_L_card_0 {d L : Nat} {fz t : Bool} {Q : pm_R → pm_H → Prop} {x1 : Int32} {x2 : Int32} {I : Nat → Nat → Int32} {J : Nat → Nat → Int64}
    (h : pm_Ev d 251 [.ref 0, .int x1, .int x2] (pm_hp L fz t I J) (K_L_card_8 d fz t Q (nI 0))) :
    t_L_card_0 d L fz t Q x1 x2 I J := by
  refine pm_go d [(8, []), (15, [])] 400 (pm_Ev_mono d _ _ _ _ _ (fun r h' q => ?_) h)
  cases r with
  | inl v => exact q
  | inr x =>
    rcases pm_bx q with ⟨rfl, q⟩ | q
    · exact q
    · exact q.elim
theorem e_L_card {d L : Nat} {fz t : Bool} {Q : pm_R → pm_H → Prop} {x1 : Int32} {x2 : Int32} {I : Nat → Nat → Int32} {J : Nat → Nat → Int64}
    (h : pm_Ev d 251 [.ref 0, .int x1, .int x2] (pm_hp L fz t I J) (K_L_card_8 d fz t Q (nI 0))) :
    pm_Ev (d + 1) 288 [.ref 0, .int x1, .int x2, .ref 117] (pm_hp L fz t I J) Q := pm_Ev_in rfl (b_L_card_0 h)
set_option maxRecDepth 100000 in
theorem b_L_card_8 {d L : Nat} {fz t : Bool} {Q : pm_R → pm_H → Prop} {s1 : Int32} {r : Int32} {I : Nat → Nat → Int32} {J : Nat → Nat → Int64}
    (h : (vp_in s1 1 ∧ Q (.inl (some (.int (nI 0)))) (pm_hp L fz t I (pm_u J 117 (s1).toNatClampNeg ((r).toInt64))))) :
    t_L_card_8 d L fz t Q s1 r I J := by
  exact pm_go d [(8, []), (15, [])] 400 ⟨(h).1, (h).2⟩
theorem kb_L_card_8 {d L : Nat} {fz t : Bool} {Q : pm_R → pm_H → Prop} {s1 : Int32} {r : Int32} {fz1 : Bool} {I : Nat → Nat → Int32} {J : Nat → Nat → Int64}
    (h : (vp_in s1 1 ∧ Q (.inl (some (.int (nI 0)))) (pm_hp L true t I (pm_u J 117 (s1).toNatClampNeg ((r).toInt64))))) :
    K_L_card_8 d fz t Q s1 (.inl (some (.int r))) (pm_hp L fz1 t I J) := b_L_card_8 h
set_option maxRecDepth 100000 in
theorem b_L_card_15 {d L : Nat} {fz t : Bool} {Q : pm_R → pm_H → Prop} {I : Nat → Nat → Int32} {J : Nat → Nat → Int64}
    (h : Q (.inl (some (.int (nI 1)))) (pm_hp L fz t I J)) :
    t_L_card_15 d L fz t Q I J := by
  exact pm_go d [(8, []), (15, [])] 400 h
def t_L_lace_0 (d L : Nat) (fz t : Bool) (Q : pm_R → pm_H → Prop) (x1 : Int32) (I : Nat → Nat → Int32) (J : Nat → Nat → Int64) : Prop := pm_T (pm_Ev d) 289 Q (0, [(0, .ref 0), (1, .int x1), (2, .ref 117)], [], pm_hp L fz t I J, 0, 0)
def t_L_lace_7 (d L : Nat) (fz t : Bool) (Q : pm_R → pm_H → Prop) (s1 : Int32) (r : Int32) (I : Nat → Nat → Int32) (J : Nat → Nat → Int64) : Prop := pm_T (pm_Ev d) 289 Q (7, [], [.int r, .int s1, .ref 117], pm_hp L fz t I J, 4, 24)
def K_L_lace_7 (d : Nat) (fz t : Bool) (Q : pm_R → pm_H → Prop) (s1 : Int32) : pm_R → pm_H → Prop := pm_KH d 289 Q 7 [] [.int s1, .ref 117] [(1, 13)] 118 4 fz 4 24
def t_L_lace_13 (d L : Nat) (fz t : Bool) (Q : pm_R → pm_H → Prop) (I : Nat → Nat → Int32) (J : Nat → Nat → Int64) : Prop := pm_T (pm_Ev d) 289 Q (13, [], [], pm_hp L fz t I J, 4, 24)
set_option maxRecDepth 100000 in
theorem b_L_lace_0 {d L : Nat} {fz t : Bool} {Q : pm_R → pm_H → Prop} {x1 : Int32} {I : Nat → Nat → Int32} {J : Nat → Nat → Int64}
    (h : pm_Ev d 252 [.ref 0, .int x1] (pm_hp L fz t I J) (K_L_lace_7 d fz t Q (nI 0))) :
    t_L_lace_0 d L fz t Q x1 I J := by
  refine pm_go d [(7, []), (13, [])] 400 (pm_Ev_mono d _ _ _ _ _ (fun r h' q => ?_) h)
  cases r with
  | inl v => exact q
  | inr x =>
    rcases pm_bx q with ⟨rfl, q⟩ | q
    · exact q
    · exact q.elim
theorem e_L_lace {d L : Nat} {fz t : Bool} {Q : pm_R → pm_H → Prop} {x1 : Int32} {I : Nat → Nat → Int32} {J : Nat → Nat → Int64}
    (h : pm_Ev d 252 [.ref 0, .int x1] (pm_hp L fz t I J) (K_L_lace_7 d fz t Q (nI 0))) :
    pm_Ev (d + 1) 289 [.ref 0, .int x1, .ref 117] (pm_hp L fz t I J) Q := pm_Ev_in rfl (b_L_lace_0 h)
set_option maxRecDepth 100000 in
theorem b_L_lace_7 {d L : Nat} {fz t : Bool} {Q : pm_R → pm_H → Prop} {s1 : Int32} {r : Int32} {I : Nat → Nat → Int32} {J : Nat → Nat → Int64}
    (h : (vp_in s1 1 ∧ Q (.inl (some (.int (nI 0)))) (pm_hp L fz t I (pm_u J 117 (s1).toNatClampNeg ((r).toInt64))))) :
    t_L_lace_7 d L fz t Q s1 r I J := by
  exact pm_go d [(7, []), (13, [])] 400 ⟨(h).1, (h).2⟩
theorem kb_L_lace_7 {d L : Nat} {fz t : Bool} {Q : pm_R → pm_H → Prop} {s1 : Int32} {r : Int32} {fz1 : Bool} {I : Nat → Nat → Int32} {J : Nat → Nat → Int64}
    (h : (vp_in s1 1 ∧ Q (.inl (some (.int (nI 0)))) (pm_hp L true t I (pm_u J 117 (s1).toNatClampNeg ((r).toInt64))))) :
    K_L_lace_7 d fz t Q s1 (.inl (some (.int r))) (pm_hp L fz1 t I J) := b_L_lace_7 h
set_option maxRecDepth 100000 in
theorem b_L_lace_13 {d L : Nat} {fz t : Bool} {Q : pm_R → pm_H → Prop} {I : Nat → Nat → Int32} {J : Nat → Nat → Int64}
    (h : Q (.inl (some (.int (nI 1)))) (pm_hp L fz t I J)) :
    t_L_lace_13 d L fz t Q I J := by
  exact pm_go d [(7, []), (13, [])] 400 h
def t_L_figure_0 (d L : Nat) (fz t : Bool) (Q : pm_R → pm_H → Prop) (x1 : Int32) (x2 : Int32) (I : Nat → Nat → Int32) (J : Nat → Nat → Int64) : Prop := pm_T (pm_Ev d) 290 Q (0, [(0, .ref 0), (1, .int x1), (2, .int x2), (3, .ref 117)], [], pm_hp L fz t I J, 0, 0)
def t_L_figure_8 (d L : Nat) (fz t : Bool) (Q : pm_R → pm_H → Prop) (s1 : Int32) (r : Int32) (I : Nat → Nat → Int32) (J : Nat → Nat → Int64) : Prop := pm_T (pm_Ev d) 290 Q (8, [], [.int r, .int s1, .ref 117], pm_hp L fz t I J, 4, 24)
def K_L_figure_8 (d : Nat) (fz t : Bool) (Q : pm_R → pm_H → Prop) (s1 : Int32) : pm_R → pm_H → Prop := pm_KH d 290 Q 8 [] [.int s1, .ref 117] [(1, 15)] 118 4 fz 4 24
def t_L_figure_15 (d L : Nat) (fz t : Bool) (Q : pm_R → pm_H → Prop) (I : Nat → Nat → Int32) (J : Nat → Nat → Int64) : Prop := pm_T (pm_Ev d) 290 Q (15, [], [], pm_hp L fz t I J, 4, 24)
set_option maxRecDepth 100000 in
theorem b_L_figure_0 {d L : Nat} {fz t : Bool} {Q : pm_R → pm_H → Prop} {x1 : Int32} {x2 : Int32} {I : Nat → Nat → Int32} {J : Nat → Nat → Int64}
    (h : pm_Ev d 253 [.ref 0, .int x1, .int x2] (pm_hp L fz t I J) (K_L_figure_8 d fz t Q (nI 0))) :
    t_L_figure_0 d L fz t Q x1 x2 I J := by
  refine pm_go d [(8, []), (15, [])] 400 (pm_Ev_mono d _ _ _ _ _ (fun r h' q => ?_) h)
  cases r with
  | inl v => exact q
  | inr x =>
    rcases pm_bx q with ⟨rfl, q⟩ | q
    · exact q
    · exact q.elim
theorem e_L_figure {d L : Nat} {fz t : Bool} {Q : pm_R → pm_H → Prop} {x1 : Int32} {x2 : Int32} {I : Nat → Nat → Int32} {J : Nat → Nat → Int64}
    (h : pm_Ev d 253 [.ref 0, .int x1, .int x2] (pm_hp L fz t I J) (K_L_figure_8 d fz t Q (nI 0))) :
    pm_Ev (d + 1) 290 [.ref 0, .int x1, .int x2, .ref 117] (pm_hp L fz t I J) Q := pm_Ev_in rfl (b_L_figure_0 h)
set_option maxRecDepth 100000 in
theorem b_L_figure_8 {d L : Nat} {fz t : Bool} {Q : pm_R → pm_H → Prop} {s1 : Int32} {r : Int32} {I : Nat → Nat → Int32} {J : Nat → Nat → Int64}
    (h : (vp_in s1 1 ∧ Q (.inl (some (.int (nI 0)))) (pm_hp L fz t I (pm_u J 117 (s1).toNatClampNeg ((r).toInt64))))) :
    t_L_figure_8 d L fz t Q s1 r I J := by
  exact pm_go d [(8, []), (15, [])] 400 ⟨(h).1, (h).2⟩
theorem kb_L_figure_8 {d L : Nat} {fz t : Bool} {Q : pm_R → pm_H → Prop} {s1 : Int32} {r : Int32} {fz1 : Bool} {I : Nat → Nat → Int32} {J : Nat → Nat → Int64}
    (h : (vp_in s1 1 ∧ Q (.inl (some (.int (nI 0)))) (pm_hp L true t I (pm_u J 117 (s1).toNatClampNeg ((r).toInt64))))) :
    K_L_figure_8 d fz t Q s1 (.inl (some (.int r))) (pm_hp L fz1 t I J) := b_L_figure_8 h
set_option maxRecDepth 100000 in
theorem b_L_figure_15 {d L : Nat} {fz t : Bool} {Q : pm_R → pm_H → Prop} {I : Nat → Nat → Int32} {J : Nat → Nat → Int64}
    (h : Q (.inl (some (.int (nI 1)))) (pm_hp L fz t I J)) :
    t_L_figure_15 d L fz t Q I J := by
  exact pm_go d [(8, []), (15, [])] 400 h
def t_L_snarl_0 (d L : Nat) (fz t : Bool) (Q : pm_R → pm_H → Prop) (x1 : Int32) (x2 : Int32) (I : Nat → Nat → Int32) (J : Nat → Nat → Int64) : Prop := pm_T (pm_Ev d) 291 Q (0, [(0, .ref 0), (1, .int x1), (2, .int x2), (3, .ref 117)], [], pm_hp L fz t I J, 0, 0)
def t_L_snarl_8 (d L : Nat) (fz t : Bool) (Q : pm_R → pm_H → Prop) (s1 : Int32) (r : Int32) (I : Nat → Nat → Int32) (J : Nat → Nat → Int64) : Prop := pm_T (pm_Ev d) 291 Q (8, [], [.int r, .int s1, .ref 117], pm_hp L fz t I J, 4, 24)
def K_L_snarl_8 (d : Nat) (fz t : Bool) (Q : pm_R → pm_H → Prop) (s1 : Int32) : pm_R → pm_H → Prop := pm_KH d 291 Q 8 [] [.int s1, .ref 117] [(1, 15)] 118 4 fz 4 24
def t_L_snarl_15 (d L : Nat) (fz t : Bool) (Q : pm_R → pm_H → Prop) (I : Nat → Nat → Int32) (J : Nat → Nat → Int64) : Prop := pm_T (pm_Ev d) 291 Q (15, [], [], pm_hp L fz t I J, 4, 24)
set_option maxRecDepth 100000 in
theorem b_L_snarl_0 {d L : Nat} {fz t : Bool} {Q : pm_R → pm_H → Prop} {x1 : Int32} {x2 : Int32} {I : Nat → Nat → Int32} {J : Nat → Nat → Int64}
    (h : pm_Ev d 254 [.ref 0, .int x1, .int x2] (pm_hp L fz t I J) (K_L_snarl_8 d fz t Q (nI 0))) :
    t_L_snarl_0 d L fz t Q x1 x2 I J := by
  refine pm_go d [(8, []), (15, [])] 400 (pm_Ev_mono d _ _ _ _ _ (fun r h' q => ?_) h)
  cases r with
  | inl v => exact q
  | inr x =>
    rcases pm_bx q with ⟨rfl, q⟩ | q
    · exact q
    · exact q.elim
theorem e_L_snarl {d L : Nat} {fz t : Bool} {Q : pm_R → pm_H → Prop} {x1 : Int32} {x2 : Int32} {I : Nat → Nat → Int32} {J : Nat → Nat → Int64}
    (h : pm_Ev d 254 [.ref 0, .int x1, .int x2] (pm_hp L fz t I J) (K_L_snarl_8 d fz t Q (nI 0))) :
    pm_Ev (d + 1) 291 [.ref 0, .int x1, .int x2, .ref 117] (pm_hp L fz t I J) Q := pm_Ev_in rfl (b_L_snarl_0 h)
set_option maxRecDepth 100000 in
theorem b_L_snarl_8 {d L : Nat} {fz t : Bool} {Q : pm_R → pm_H → Prop} {s1 : Int32} {r : Int32} {I : Nat → Nat → Int32} {J : Nat → Nat → Int64}
    (h : (vp_in s1 1 ∧ Q (.inl (some (.int (nI 0)))) (pm_hp L fz t I (pm_u J 117 (s1).toNatClampNeg ((r).toInt64))))) :
    t_L_snarl_8 d L fz t Q s1 r I J := by
  exact pm_go d [(8, []), (15, [])] 400 ⟨(h).1, (h).2⟩
theorem kb_L_snarl_8 {d L : Nat} {fz t : Bool} {Q : pm_R → pm_H → Prop} {s1 : Int32} {r : Int32} {fz1 : Bool} {I : Nat → Nat → Int32} {J : Nat → Nat → Int64}
    (h : (vp_in s1 1 ∧ Q (.inl (some (.int (nI 0)))) (pm_hp L true t I (pm_u J 117 (s1).toNatClampNeg ((r).toInt64))))) :
    K_L_snarl_8 d fz t Q s1 (.inl (some (.int r))) (pm_hp L fz1 t I J) := b_L_snarl_8 h
set_option maxRecDepth 100000 in
theorem b_L_snarl_15 {d L : Nat} {fz t : Bool} {Q : pm_R → pm_H → Prop} {I : Nat → Nat → Int32} {J : Nat → Nat → Int64}
    (h : Q (.inl (some (.int (nI 1)))) (pm_hp L fz t I J)) :
    t_L_snarl_15 d L fz t Q I J := by
  exact pm_go d [(8, []), (15, [])] 400 h
def t_L_punch_0 (d L : Nat) (fz t : Bool) (Q : pm_R → pm_H → Prop) (x1 : Int32) (x2 : Int32) (I : Nat → Nat → Int32) (J : Nat → Nat → Int64) : Prop := pm_T (pm_Ev d) 292 Q (0, [(0, .ref 0), (1, .int x1), (2, .int x2), (3, .ref 117)], [], pm_hp L fz t I J, 0, 0)
def t_L_punch_8 (d L : Nat) (fz t : Bool) (Q : pm_R → pm_H → Prop) (s1 : Int32) (r : Int32) (I : Nat → Nat → Int32) (J : Nat → Nat → Int64) : Prop := pm_T (pm_Ev d) 292 Q (8, [], [.int r, .int s1, .ref 117], pm_hp L fz t I J, 4, 24)
def K_L_punch_8 (d : Nat) (fz t : Bool) (Q : pm_R → pm_H → Prop) (s1 : Int32) : pm_R → pm_H → Prop := pm_KH d 292 Q 8 [] [.int s1, .ref 117] [(1, 15)] 118 4 fz 4 24
def t_L_punch_15 (d L : Nat) (fz t : Bool) (Q : pm_R → pm_H → Prop) (I : Nat → Nat → Int32) (J : Nat → Nat → Int64) : Prop := pm_T (pm_Ev d) 292 Q (15, [], [], pm_hp L fz t I J, 4, 24)
set_option maxRecDepth 100000 in
theorem b_L_punch_0 {d L : Nat} {fz t : Bool} {Q : pm_R → pm_H → Prop} {x1 : Int32} {x2 : Int32} {I : Nat → Nat → Int32} {J : Nat → Nat → Int64}
    (h : pm_Ev d 255 [.ref 0, .int x1, .int x2] (pm_hp L fz t I J) (K_L_punch_8 d fz t Q (nI 0))) :
    t_L_punch_0 d L fz t Q x1 x2 I J := by
  refine pm_go d [(8, []), (15, [])] 400 (pm_Ev_mono d _ _ _ _ _ (fun r h' q => ?_) h)
  cases r with
  | inl v => exact q
  | inr x =>
    rcases pm_bx q with ⟨rfl, q⟩ | q
    · exact q
    · exact q.elim
theorem e_L_punch {d L : Nat} {fz t : Bool} {Q : pm_R → pm_H → Prop} {x1 : Int32} {x2 : Int32} {I : Nat → Nat → Int32} {J : Nat → Nat → Int64}
    (h : pm_Ev d 255 [.ref 0, .int x1, .int x2] (pm_hp L fz t I J) (K_L_punch_8 d fz t Q (nI 0))) :
    pm_Ev (d + 1) 292 [.ref 0, .int x1, .int x2, .ref 117] (pm_hp L fz t I J) Q := pm_Ev_in rfl (b_L_punch_0 h)
set_option maxRecDepth 100000 in
theorem b_L_punch_8 {d L : Nat} {fz t : Bool} {Q : pm_R → pm_H → Prop} {s1 : Int32} {r : Int32} {I : Nat → Nat → Int32} {J : Nat → Nat → Int64}
    (h : (vp_in s1 1 ∧ Q (.inl (some (.int (nI 0)))) (pm_hp L fz t I (pm_u J 117 (s1).toNatClampNeg ((r).toInt64))))) :
    t_L_punch_8 d L fz t Q s1 r I J := by
  exact pm_go d [(8, []), (15, [])] 400 ⟨(h).1, (h).2⟩
theorem kb_L_punch_8 {d L : Nat} {fz t : Bool} {Q : pm_R → pm_H → Prop} {s1 : Int32} {r : Int32} {fz1 : Bool} {I : Nat → Nat → Int32} {J : Nat → Nat → Int64}
    (h : (vp_in s1 1 ∧ Q (.inl (some (.int (nI 0)))) (pm_hp L true t I (pm_u J 117 (s1).toNatClampNeg ((r).toInt64))))) :
    K_L_punch_8 d fz t Q s1 (.inl (some (.int r))) (pm_hp L fz1 t I J) := b_L_punch_8 h
set_option maxRecDepth 100000 in
theorem b_L_punch_15 {d L : Nat} {fz t : Bool} {Q : pm_R → pm_H → Prop} {I : Nat → Nat → Int32} {J : Nat → Nat → Int64}
    (h : Q (.inl (some (.int (nI 1)))) (pm_hp L fz t I J)) :
    t_L_punch_15 d L fz t Q I J := by
  exact pm_go d [(8, []), (15, [])] 400 h
def t_L_turn_0 (d L : Nat) (fz t : Bool) (Q : pm_R → pm_H → Prop) (x1 : Int32) (I : Nat → Nat → Int32) (J : Nat → Nat → Int64) : Prop := pm_T (pm_Ev d) 293 Q (0, [(0, .ref 0), (1, .int x1), (2, .ref 117)], [], pm_hp L fz t I J, 0, 0)
def t_L_turn_7 (d L : Nat) (fz t : Bool) (Q : pm_R → pm_H → Prop) (s1 : Int32) (r : Int32) (I : Nat → Nat → Int32) (J : Nat → Nat → Int64) : Prop := pm_T (pm_Ev d) 293 Q (7, [], [.int r, .int s1, .ref 117], pm_hp L fz t I J, 4, 24)
def K_L_turn_7 (d : Nat) (fz t : Bool) (Q : pm_R → pm_H → Prop) (s1 : Int32) : pm_R → pm_H → Prop := pm_KH d 293 Q 7 [] [.int s1, .ref 117] [(1, 13)] 118 4 fz 4 24
def t_L_turn_13 (d L : Nat) (fz t : Bool) (Q : pm_R → pm_H → Prop) (I : Nat → Nat → Int32) (J : Nat → Nat → Int64) : Prop := pm_T (pm_Ev d) 293 Q (13, [], [], pm_hp L fz t I J, 4, 24)
set_option maxRecDepth 100000 in
theorem b_L_turn_0 {d L : Nat} {fz t : Bool} {Q : pm_R → pm_H → Prop} {x1 : Int32} {I : Nat → Nat → Int32} {J : Nat → Nat → Int64}
    (h : pm_Ev d 256 [.ref 0, .int x1] (pm_hp L fz t I J) (K_L_turn_7 d fz t Q (nI 0))) :
    t_L_turn_0 d L fz t Q x1 I J := by
  refine pm_go d [(7, []), (13, [])] 400 (pm_Ev_mono d _ _ _ _ _ (fun r h' q => ?_) h)
  cases r with
  | inl v => exact q
  | inr x =>
    rcases pm_bx q with ⟨rfl, q⟩ | q
    · exact q
    · exact q.elim
theorem e_L_turn {d L : Nat} {fz t : Bool} {Q : pm_R → pm_H → Prop} {x1 : Int32} {I : Nat → Nat → Int32} {J : Nat → Nat → Int64}
    (h : pm_Ev d 256 [.ref 0, .int x1] (pm_hp L fz t I J) (K_L_turn_7 d fz t Q (nI 0))) :
    pm_Ev (d + 1) 293 [.ref 0, .int x1, .ref 117] (pm_hp L fz t I J) Q := pm_Ev_in rfl (b_L_turn_0 h)
set_option maxRecDepth 100000 in
theorem b_L_turn_7 {d L : Nat} {fz t : Bool} {Q : pm_R → pm_H → Prop} {s1 : Int32} {r : Int32} {I : Nat → Nat → Int32} {J : Nat → Nat → Int64}
    (h : (vp_in s1 1 ∧ Q (.inl (some (.int (nI 0)))) (pm_hp L fz t I (pm_u J 117 (s1).toNatClampNeg ((r).toInt64))))) :
    t_L_turn_7 d L fz t Q s1 r I J := by
  exact pm_go d [(7, []), (13, [])] 400 ⟨(h).1, (h).2⟩
theorem kb_L_turn_7 {d L : Nat} {fz t : Bool} {Q : pm_R → pm_H → Prop} {s1 : Int32} {r : Int32} {fz1 : Bool} {I : Nat → Nat → Int32} {J : Nat → Nat → Int64}
    (h : (vp_in s1 1 ∧ Q (.inl (some (.int (nI 0)))) (pm_hp L true t I (pm_u J 117 (s1).toNatClampNeg ((r).toInt64))))) :
    K_L_turn_7 d fz t Q s1 (.inl (some (.int r))) (pm_hp L fz1 t I J) := b_L_turn_7 h
set_option maxRecDepth 100000 in
theorem b_L_turn_13 {d L : Nat} {fz t : Bool} {Q : pm_R → pm_H → Prop} {I : Nat → Nat → Int32} {J : Nat → Nat → Int64}
    (h : Q (.inl (some (.int (nI 1)))) (pm_hp L fz t I J)) :
    t_L_turn_13 d L fz t Q I J := by
  exact pm_go d [(7, []), (13, [])] 400 h
def t_L_cut_0 (d L : Nat) (fz t : Bool) (Q : pm_R → pm_H → Prop) (x1 : Int32) (I : Nat → Nat → Int32) (J : Nat → Nat → Int64) : Prop := pm_T (pm_Ev d) 294 Q (0, [(0, .ref 0), (1, .int x1), (2, .ref 117)], [], pm_hp L fz t I J, 0, 0)
def t_L_cut_7 (d L : Nat) (fz t : Bool) (Q : pm_R → pm_H → Prop) (s1 : Int32) (r : Int32) (I : Nat → Nat → Int32) (J : Nat → Nat → Int64) : Prop := pm_T (pm_Ev d) 294 Q (7, [], [.int r, .int s1, .ref 117], pm_hp L fz t I J, 4, 24)
def K_L_cut_7 (d : Nat) (fz t : Bool) (Q : pm_R → pm_H → Prop) (s1 : Int32) : pm_R → pm_H → Prop := pm_KH d 294 Q 7 [] [.int s1, .ref 117] [(1, 13)] 118 4 fz 4 24
def t_L_cut_13 (d L : Nat) (fz t : Bool) (Q : pm_R → pm_H → Prop) (I : Nat → Nat → Int32) (J : Nat → Nat → Int64) : Prop := pm_T (pm_Ev d) 294 Q (13, [], [], pm_hp L fz t I J, 4, 24)
set_option maxRecDepth 100000 in
theorem b_L_cut_0 {d L : Nat} {fz t : Bool} {Q : pm_R → pm_H → Prop} {x1 : Int32} {I : Nat → Nat → Int32} {J : Nat → Nat → Int64}
    (h : pm_Ev d 257 [.ref 0, .int x1] (pm_hp L fz t I J) (K_L_cut_7 d fz t Q (nI 0))) :
    t_L_cut_0 d L fz t Q x1 I J := by
  refine pm_go d [(7, []), (13, [])] 400 (pm_Ev_mono d _ _ _ _ _ (fun r h' q => ?_) h)
  cases r with
  | inl v => exact q
  | inr x =>
    rcases pm_bx q with ⟨rfl, q⟩ | q
    · exact q
    · exact q.elim
theorem e_L_cut {d L : Nat} {fz t : Bool} {Q : pm_R → pm_H → Prop} {x1 : Int32} {I : Nat → Nat → Int32} {J : Nat → Nat → Int64}
    (h : pm_Ev d 257 [.ref 0, .int x1] (pm_hp L fz t I J) (K_L_cut_7 d fz t Q (nI 0))) :
    pm_Ev (d + 1) 294 [.ref 0, .int x1, .ref 117] (pm_hp L fz t I J) Q := pm_Ev_in rfl (b_L_cut_0 h)
set_option maxRecDepth 100000 in
theorem b_L_cut_7 {d L : Nat} {fz t : Bool} {Q : pm_R → pm_H → Prop} {s1 : Int32} {r : Int32} {I : Nat → Nat → Int32} {J : Nat → Nat → Int64}
    (h : (vp_in s1 1 ∧ Q (.inl (some (.int (nI 0)))) (pm_hp L fz t I (pm_u J 117 (s1).toNatClampNeg ((r).toInt64))))) :
    t_L_cut_7 d L fz t Q s1 r I J := by
  exact pm_go d [(7, []), (13, [])] 400 ⟨(h).1, (h).2⟩
theorem kb_L_cut_7 {d L : Nat} {fz t : Bool} {Q : pm_R → pm_H → Prop} {s1 : Int32} {r : Int32} {fz1 : Bool} {I : Nat → Nat → Int32} {J : Nat → Nat → Int64}
    (h : (vp_in s1 1 ∧ Q (.inl (some (.int (nI 0)))) (pm_hp L true t I (pm_u J 117 (s1).toNatClampNeg ((r).toInt64))))) :
    K_L_cut_7 d fz t Q s1 (.inl (some (.int r))) (pm_hp L fz1 t I J) := b_L_cut_7 h
set_option maxRecDepth 100000 in
theorem b_L_cut_13 {d L : Nat} {fz t : Bool} {Q : pm_R → pm_H → Prop} {I : Nat → Nat → Int32} {J : Nat → Nat → Int64}
    (h : Q (.inl (some (.int (nI 1)))) (pm_hp L fz t I J)) :
    t_L_cut_13 d L fz t Q I J := by
  exact pm_go d [(7, []), (13, [])] 400 h
def t_L_then_0 (d L : Nat) (fz t : Bool) (Q : pm_R → pm_H → Prop) (x1 : Int32) (x2 : Int32) (I : Nat → Nat → Int32) (J : Nat → Nat → Int64) : Prop := pm_T (pm_Ev d) 295 Q (0, [(0, .ref 0), (1, .int x1), (2, .int x2), (3, .ref 117)], [], pm_hp L fz t I J, 0, 0)
def t_L_then_8 (d L : Nat) (fz t : Bool) (Q : pm_R → pm_H → Prop) (s1 : Int32) (r : Int32) (I : Nat → Nat → Int32) (J : Nat → Nat → Int64) : Prop := pm_T (pm_Ev d) 295 Q (8, [], [.int r, .int s1, .ref 117], pm_hp L fz t I J, 4, 24)
def K_L_then_8 (d : Nat) (fz t : Bool) (Q : pm_R → pm_H → Prop) (s1 : Int32) : pm_R → pm_H → Prop := pm_KH d 295 Q 8 [] [.int s1, .ref 117] [(1, 15), (2, 19)] 118 4 fz 4 24
def t_L_then_15 (d L : Nat) (fz t : Bool) (Q : pm_R → pm_H → Prop) (I : Nat → Nat → Int32) (J : Nat → Nat → Int64) : Prop := pm_T (pm_Ev d) 295 Q (15, [], [], pm_hp L fz t I J, 4, 24)
def t_L_then_19 (d L : Nat) (fz t : Bool) (Q : pm_R → pm_H → Prop) (I : Nat → Nat → Int32) (J : Nat → Nat → Int64) : Prop := pm_T (pm_Ev d) 295 Q (19, [], [], pm_hp L fz t I J, 4, 24)
set_option maxRecDepth 100000 in
theorem b_L_then_0 {d L : Nat} {fz t : Bool} {Q : pm_R → pm_H → Prop} {x1 : Int32} {x2 : Int32} {I : Nat → Nat → Int32} {J : Nat → Nat → Int64}
    (h : pm_Ev d 258 [.ref 0, .int x1, .int x2] (pm_hp L fz t I J) (K_L_then_8 d fz t Q (nI 0))) :
    t_L_then_0 d L fz t Q x1 x2 I J := by
  refine pm_go d [(8, []), (15, []), (19, [])] 400 (pm_Ev_mono d _ _ _ _ _ (fun r h' q => ?_) h)
  cases r with
  | inl v => exact q
  | inr x =>
    rcases pm_bx q with ⟨rfl, q⟩ | q
    · exact q
    · rcases pm_bx q with ⟨rfl, q⟩ | q
      · exact q
      · exact q.elim
theorem e_L_then {d L : Nat} {fz t : Bool} {Q : pm_R → pm_H → Prop} {x1 : Int32} {x2 : Int32} {I : Nat → Nat → Int32} {J : Nat → Nat → Int64}
    (h : pm_Ev d 258 [.ref 0, .int x1, .int x2] (pm_hp L fz t I J) (K_L_then_8 d fz t Q (nI 0))) :
    pm_Ev (d + 1) 295 [.ref 0, .int x1, .int x2, .ref 117] (pm_hp L fz t I J) Q := pm_Ev_in rfl (b_L_then_0 h)
set_option maxRecDepth 100000 in
theorem b_L_then_8 {d L : Nat} {fz t : Bool} {Q : pm_R → pm_H → Prop} {s1 : Int32} {r : Int32} {I : Nat → Nat → Int32} {J : Nat → Nat → Int64}
    (h : (vp_in s1 1 ∧ Q (.inl (some (.int (nI 0)))) (pm_hp L fz t I (pm_u J 117 (s1).toNatClampNeg ((r).toInt64))))) :
    t_L_then_8 d L fz t Q s1 r I J := by
  exact pm_go d [(8, []), (15, []), (19, [])] 400 ⟨(h).1, (h).2⟩
theorem kb_L_then_8 {d L : Nat} {fz t : Bool} {Q : pm_R → pm_H → Prop} {s1 : Int32} {r : Int32} {fz1 : Bool} {I : Nat → Nat → Int32} {J : Nat → Nat → Int64}
    (h : (vp_in s1 1 ∧ Q (.inl (some (.int (nI 0)))) (pm_hp L true t I (pm_u J 117 (s1).toNatClampNeg ((r).toInt64))))) :
    K_L_then_8 d fz t Q s1 (.inl (some (.int r))) (pm_hp L fz1 t I J) := b_L_then_8 h
set_option maxRecDepth 100000 in
theorem b_L_then_15 {d L : Nat} {fz t : Bool} {Q : pm_R → pm_H → Prop} {I : Nat → Nat → Int32} {J : Nat → Nat → Int64}
    (h : Q (.inl (some (.int (nI 1)))) (pm_hp L fz t I J)) :
    t_L_then_15 d L fz t Q I J := by
  exact pm_go d [(8, []), (15, []), (19, [])] 400 h
set_option maxRecDepth 100000 in
theorem b_L_then_19 {d L : Nat} {fz t : Bool} {Q : pm_R → pm_H → Prop} {I : Nat → Nat → Int32} {J : Nat → Nat → Int64}
    (h : Q (.inl (some (.int (nI 2)))) (pm_hp L fz t I J)) :
    t_L_then_19 d L fz t Q I J := by
  exact pm_go d [(8, []), (15, []), (19, [])] 400 h
def t_L_granted_0 (d L : Nat) (fz t : Bool) (Q : pm_R → pm_H → Prop) (x1 : Int32) (I : Nat → Nat → Int32) (J : Nat → Nat → Int64) : Prop := pm_T (pm_Ev d) 296 Q (0, [(0, .ref 0), (1, .int x1), (2, .ref 117)], [], pm_hp L fz t I J, 0, 0)
def t_L_granted_7 (d L : Nat) (fz t : Bool) (Q : pm_R → pm_H → Prop) (s1 : Int32) (r : Int32) (I : Nat → Nat → Int32) (J : Nat → Nat → Int64) : Prop := pm_T (pm_Ev d) 296 Q (7, [], [.int r, .int s1, .ref 117], pm_hp L fz t I J, 4, 24)
def K_L_granted_7 (d : Nat) (fz t : Bool) (Q : pm_R → pm_H → Prop) (s1 : Int32) : pm_R → pm_H → Prop := pm_KH d 296 Q 7 [] [.int s1, .ref 117] [(2, 13)] 118 4 fz 4 24
def t_L_granted_13 (d L : Nat) (fz t : Bool) (Q : pm_R → pm_H → Prop) (I : Nat → Nat → Int32) (J : Nat → Nat → Int64) : Prop := pm_T (pm_Ev d) 296 Q (13, [], [], pm_hp L fz t I J, 4, 24)
set_option maxRecDepth 100000 in
theorem b_L_granted_0 {d L : Nat} {fz t : Bool} {Q : pm_R → pm_H → Prop} {x1 : Int32} {I : Nat → Nat → Int32} {J : Nat → Nat → Int64}
    (h : pm_Ev d 259 [.ref 0, .int x1] (pm_hp L fz t I J) (K_L_granted_7 d fz t Q (nI 0))) :
    t_L_granted_0 d L fz t Q x1 I J := by
  refine pm_go d [(7, []), (13, [])] 400 (pm_Ev_mono d _ _ _ _ _ (fun r h' q => ?_) h)
  cases r with
  | inl v => exact q
  | inr x =>
    rcases pm_bx q with ⟨rfl, q⟩ | q
    · exact q
    · exact q.elim
theorem e_L_granted {d L : Nat} {fz t : Bool} {Q : pm_R → pm_H → Prop} {x1 : Int32} {I : Nat → Nat → Int32} {J : Nat → Nat → Int64}
    (h : pm_Ev d 259 [.ref 0, .int x1] (pm_hp L fz t I J) (K_L_granted_7 d fz t Q (nI 0))) :
    pm_Ev (d + 1) 296 [.ref 0, .int x1, .ref 117] (pm_hp L fz t I J) Q := pm_Ev_in rfl (b_L_granted_0 h)
set_option maxRecDepth 100000 in
theorem b_L_granted_7 {d L : Nat} {fz t : Bool} {Q : pm_R → pm_H → Prop} {s1 : Int32} {r : Int32} {I : Nat → Nat → Int32} {J : Nat → Nat → Int64}
    (h : (vp_in s1 1 ∧ Q (.inl (some (.int (nI 0)))) (pm_hp L fz t I (pm_u J 117 (s1).toNatClampNeg ((r).toInt64))))) :
    t_L_granted_7 d L fz t Q s1 r I J := by
  exact pm_go d [(7, []), (13, [])] 400 ⟨(h).1, (h).2⟩
theorem kb_L_granted_7 {d L : Nat} {fz t : Bool} {Q : pm_R → pm_H → Prop} {s1 : Int32} {r : Int32} {fz1 : Bool} {I : Nat → Nat → Int32} {J : Nat → Nat → Int64}
    (h : (vp_in s1 1 ∧ Q (.inl (some (.int (nI 0)))) (pm_hp L true t I (pm_u J 117 (s1).toNatClampNeg ((r).toInt64))))) :
    K_L_granted_7 d fz t Q s1 (.inl (some (.int r))) (pm_hp L fz1 t I J) := b_L_granted_7 h
set_option maxRecDepth 100000 in
theorem b_L_granted_13 {d L : Nat} {fz t : Bool} {Q : pm_R → pm_H → Prop} {I : Nat → Nat → Int32} {J : Nat → Nat → Int64}
    (h : Q (.inl (some (.int (nI 1)))) (pm_hp L fz t I J)) :
    t_L_granted_13 d L fz t Q I J := by
  exact pm_go d [(7, []), (13, [])] 400 h
def t_L_worn_0 (d L : Nat) (fz t : Bool) (Q : pm_R → pm_H → Prop) (x1 : Int32) (I : Nat → Nat → Int32) (J : Nat → Nat → Int64) : Prop := pm_T (pm_Ev d) 297 Q (0, [(0, .ref 0), (1, .int x1), (2, .ref 117)], [], pm_hp L fz t I J, 0, 0)
def t_L_worn_7 (d L : Nat) (fz t : Bool) (Q : pm_R → pm_H → Prop) (s1 : Int32) (r : Int32) (I : Nat → Nat → Int32) (J : Nat → Nat → Int64) : Prop := pm_T (pm_Ev d) 297 Q (7, [], [.int r, .int s1, .ref 117], pm_hp L fz t I J, 4, 24)
def K_L_worn_7 (d : Nat) (fz t : Bool) (Q : pm_R → pm_H → Prop) (s1 : Int32) : pm_R → pm_H → Prop := pm_KH d 297 Q 7 [] [.int s1, .ref 117] [(1, 13)] 118 4 fz 4 24
def t_L_worn_13 (d L : Nat) (fz t : Bool) (Q : pm_R → pm_H → Prop) (I : Nat → Nat → Int32) (J : Nat → Nat → Int64) : Prop := pm_T (pm_Ev d) 297 Q (13, [], [], pm_hp L fz t I J, 4, 24)
set_option maxRecDepth 100000 in
theorem b_L_worn_0 {d L : Nat} {fz t : Bool} {Q : pm_R → pm_H → Prop} {x1 : Int32} {I : Nat → Nat → Int32} {J : Nat → Nat → Int64}
    (h : pm_Ev d 260 [.ref 0, .int x1] (pm_hp L fz t I J) (K_L_worn_7 d fz t Q (nI 0))) :
    t_L_worn_0 d L fz t Q x1 I J := by
  refine pm_go d [(7, []), (13, [])] 400 (pm_Ev_mono d _ _ _ _ _ (fun r h' q => ?_) h)
  cases r with
  | inl v => exact q
  | inr x =>
    rcases pm_bx q with ⟨rfl, q⟩ | q
    · exact q
    · exact q.elim
theorem e_L_worn {d L : Nat} {fz t : Bool} {Q : pm_R → pm_H → Prop} {x1 : Int32} {I : Nat → Nat → Int32} {J : Nat → Nat → Int64}
    (h : pm_Ev d 260 [.ref 0, .int x1] (pm_hp L fz t I J) (K_L_worn_7 d fz t Q (nI 0))) :
    pm_Ev (d + 1) 297 [.ref 0, .int x1, .ref 117] (pm_hp L fz t I J) Q := pm_Ev_in rfl (b_L_worn_0 h)
set_option maxRecDepth 100000 in
theorem b_L_worn_7 {d L : Nat} {fz t : Bool} {Q : pm_R → pm_H → Prop} {s1 : Int32} {r : Int32} {I : Nat → Nat → Int32} {J : Nat → Nat → Int64}
    (h : (vp_in s1 1 ∧ Q (.inl (some (.int (nI 0)))) (pm_hp L fz t I (pm_u J 117 (s1).toNatClampNeg ((r).toInt64))))) :
    t_L_worn_7 d L fz t Q s1 r I J := by
  exact pm_go d [(7, []), (13, [])] 400 ⟨(h).1, (h).2⟩
theorem kb_L_worn_7 {d L : Nat} {fz t : Bool} {Q : pm_R → pm_H → Prop} {s1 : Int32} {r : Int32} {fz1 : Bool} {I : Nat → Nat → Int32} {J : Nat → Nat → Int64}
    (h : (vp_in s1 1 ∧ Q (.inl (some (.int (nI 0)))) (pm_hp L true t I (pm_u J 117 (s1).toNatClampNeg ((r).toInt64))))) :
    K_L_worn_7 d fz t Q s1 (.inl (some (.int r))) (pm_hp L fz1 t I J) := b_L_worn_7 h
set_option maxRecDepth 100000 in
theorem b_L_worn_13 {d L : Nat} {fz t : Bool} {Q : pm_R → pm_H → Prop} {I : Nat → Nat → Int32} {J : Nat → Nat → Int64}
    (h : Q (.inl (some (.int (nI 1)))) (pm_hp L fz t I J)) :
    t_L_worn_13 d L fz t Q I J := by
  exact pm_go d [(7, []), (13, [])] 400 h
def t_L_floats_0 (d L : Nat) (fz t : Bool) (Q : pm_R → pm_H → Prop) (x1 : Int32) (I : Nat → Nat → Int32) (J : Nat → Nat → Int64) : Prop := pm_T (pm_Ev d) 298 Q (0, [(0, .ref 0), (1, .int x1), (2, .ref 117)], [], pm_hp L fz t I J, 0, 0)
def t_L_floats_7 (d L : Nat) (fz t : Bool) (Q : pm_R → pm_H → Prop) (s1 : Int32) (r : Int32) (I : Nat → Nat → Int32) (J : Nat → Nat → Int64) : Prop := pm_T (pm_Ev d) 298 Q (7, [], [.int r, .int s1, .ref 117], pm_hp L fz t I J, 4, 24)
def K_L_floats_7 (d : Nat) (fz t : Bool) (Q : pm_R → pm_H → Prop) (s1 : Int32) : pm_R → pm_H → Prop := pm_KH d 298 Q 7 [] [.int s1, .ref 117] [(1, 13)] 118 4 fz 4 24
def t_L_floats_13 (d L : Nat) (fz t : Bool) (Q : pm_R → pm_H → Prop) (I : Nat → Nat → Int32) (J : Nat → Nat → Int64) : Prop := pm_T (pm_Ev d) 298 Q (13, [], [], pm_hp L fz t I J, 4, 24)
set_option maxRecDepth 100000 in
theorem b_L_floats_0 {d L : Nat} {fz t : Bool} {Q : pm_R → pm_H → Prop} {x1 : Int32} {I : Nat → Nat → Int32} {J : Nat → Nat → Int64}
    (h : pm_Ev d 261 [.ref 0, .int x1] (pm_hp L fz t I J) (K_L_floats_7 d fz t Q (nI 0))) :
    t_L_floats_0 d L fz t Q x1 I J := by
  refine pm_go d [(7, []), (13, [])] 400 (pm_Ev_mono d _ _ _ _ _ (fun r h' q => ?_) h)
  cases r with
  | inl v => exact q
  | inr x =>
    rcases pm_bx q with ⟨rfl, q⟩ | q
    · exact q
    · exact q.elim
theorem e_L_floats {d L : Nat} {fz t : Bool} {Q : pm_R → pm_H → Prop} {x1 : Int32} {I : Nat → Nat → Int32} {J : Nat → Nat → Int64}
    (h : pm_Ev d 261 [.ref 0, .int x1] (pm_hp L fz t I J) (K_L_floats_7 d fz t Q (nI 0))) :
    pm_Ev (d + 1) 298 [.ref 0, .int x1, .ref 117] (pm_hp L fz t I J) Q := pm_Ev_in rfl (b_L_floats_0 h)
set_option maxRecDepth 100000 in
theorem b_L_floats_7 {d L : Nat} {fz t : Bool} {Q : pm_R → pm_H → Prop} {s1 : Int32} {r : Int32} {I : Nat → Nat → Int32} {J : Nat → Nat → Int64}
    (h : (vp_in s1 1 ∧ Q (.inl (some (.int (nI 0)))) (pm_hp L fz t I (pm_u J 117 (s1).toNatClampNeg ((r).toInt64))))) :
    t_L_floats_7 d L fz t Q s1 r I J := by
  exact pm_go d [(7, []), (13, [])] 400 ⟨(h).1, (h).2⟩
theorem kb_L_floats_7 {d L : Nat} {fz t : Bool} {Q : pm_R → pm_H → Prop} {s1 : Int32} {r : Int32} {fz1 : Bool} {I : Nat → Nat → Int32} {J : Nat → Nat → Int64}
    (h : (vp_in s1 1 ∧ Q (.inl (some (.int (nI 0)))) (pm_hp L true t I (pm_u J 117 (s1).toNatClampNeg ((r).toInt64))))) :
    K_L_floats_7 d fz t Q s1 (.inl (some (.int r))) (pm_hp L fz1 t I J) := b_L_floats_7 h
set_option maxRecDepth 100000 in
theorem b_L_floats_13 {d L : Nat} {fz t : Bool} {Q : pm_R → pm_H → Prop} {I : Nat → Nat → Int32} {J : Nat → Nat → Int64}
    (h : Q (.inl (some (.int (nI 1)))) (pm_hp L fz t I J)) :
    t_L_floats_13 d L fz t Q I J := by
  exact pm_go d [(7, []), (13, [])] 400 h
def t_L_stands_0 (d L : Nat) (fz t : Bool) (Q : pm_R → pm_H → Prop) (x1 : Int32) (x2 : Int32) (I : Nat → Nat → Int32) (J : Nat → Nat → Int64) : Prop := pm_T (pm_Ev d) 299 Q (0, [(0, .ref 0), (1, .int x1), (2, .int x2), (3, .ref 117)], [], pm_hp L fz t I J, 0, 0)
def t_L_stands_8 (d L : Nat) (fz t : Bool) (Q : pm_R → pm_H → Prop) (s1 : Int32) (r : Int32) (I : Nat → Nat → Int32) (J : Nat → Nat → Int64) : Prop := pm_T (pm_Ev d) 299 Q (8, [], [.int r, .int s1, .ref 117], pm_hp L fz t I J, 4, 24)
def K_L_stands_8 (d : Nat) (fz t : Bool) (Q : pm_R → pm_H → Prop) (s1 : Int32) : pm_R → pm_H → Prop := pm_KH d 299 Q 8 [] [.int s1, .ref 117] [(1, 15)] 118 4 fz 4 24
def t_L_stands_15 (d L : Nat) (fz t : Bool) (Q : pm_R → pm_H → Prop) (I : Nat → Nat → Int32) (J : Nat → Nat → Int64) : Prop := pm_T (pm_Ev d) 299 Q (15, [], [], pm_hp L fz t I J, 4, 24)
set_option maxRecDepth 100000 in
theorem b_L_stands_0 {d L : Nat} {fz t : Bool} {Q : pm_R → pm_H → Prop} {x1 : Int32} {x2 : Int32} {I : Nat → Nat → Int32} {J : Nat → Nat → Int64}
    (h : pm_Ev d 262 [.ref 0, .int x1, .int x2] (pm_hp L fz t I J) (K_L_stands_8 d fz t Q (nI 0))) :
    t_L_stands_0 d L fz t Q x1 x2 I J := by
  refine pm_go d [(8, []), (15, [])] 400 (pm_Ev_mono d _ _ _ _ _ (fun r h' q => ?_) h)
  cases r with
  | inl v => exact q
  | inr x =>
    rcases pm_bx q with ⟨rfl, q⟩ | q
    · exact q
    · exact q.elim
theorem e_L_stands {d L : Nat} {fz t : Bool} {Q : pm_R → pm_H → Prop} {x1 : Int32} {x2 : Int32} {I : Nat → Nat → Int32} {J : Nat → Nat → Int64}
    (h : pm_Ev d 262 [.ref 0, .int x1, .int x2] (pm_hp L fz t I J) (K_L_stands_8 d fz t Q (nI 0))) :
    pm_Ev (d + 1) 299 [.ref 0, .int x1, .int x2, .ref 117] (pm_hp L fz t I J) Q := pm_Ev_in rfl (b_L_stands_0 h)
set_option maxRecDepth 100000 in
theorem b_L_stands_8 {d L : Nat} {fz t : Bool} {Q : pm_R → pm_H → Prop} {s1 : Int32} {r : Int32} {I : Nat → Nat → Int32} {J : Nat → Nat → Int64}
    (h : (vp_in s1 1 ∧ Q (.inl (some (.int (nI 0)))) (pm_hp L fz t I (pm_u J 117 (s1).toNatClampNeg ((r).toInt64))))) :
    t_L_stands_8 d L fz t Q s1 r I J := by
  exact pm_go d [(8, []), (15, [])] 400 ⟨(h).1, (h).2⟩
theorem kb_L_stands_8 {d L : Nat} {fz t : Bool} {Q : pm_R → pm_H → Prop} {s1 : Int32} {r : Int32} {fz1 : Bool} {I : Nat → Nat → Int32} {J : Nat → Nat → Int64}
    (h : (vp_in s1 1 ∧ Q (.inl (some (.int (nI 0)))) (pm_hp L true t I (pm_u J 117 (s1).toNatClampNeg ((r).toInt64))))) :
    K_L_stands_8 d fz t Q s1 (.inl (some (.int r))) (pm_hp L fz1 t I J) := b_L_stands_8 h
set_option maxRecDepth 100000 in
theorem b_L_stands_15 {d L : Nat} {fz t : Bool} {Q : pm_R → pm_H → Prop} {I : Nat → Nat → Int32} {J : Nat → Nat → Int64}
    (h : Q (.inl (some (.int (nI 1)))) (pm_hp L fz t I J)) :
    t_L_stands_15 d L fz t Q I J := by
  exact pm_go d [(8, []), (15, [])] 400 h
def t_L_order_0 (d L : Nat) (fz t : Bool) (Q : pm_R → pm_H → Prop) (x1 : Int32) (I : Nat → Nat → Int32) (J : Nat → Nat → Int64) : Prop := pm_T (pm_Ev d) 300 Q (0, [(0, .ref 0), (1, .int x1), (2, .ref 117)], [], pm_hp L fz t I J, 0, 0)
def t_L_order_7 (d L : Nat) (fz t : Bool) (Q : pm_R → pm_H → Prop) (s1 : Int32) (r : Int32) (I : Nat → Nat → Int32) (J : Nat → Nat → Int64) : Prop := pm_T (pm_Ev d) 300 Q (7, [], [.int r, .int s1, .ref 117], pm_hp L fz t I J, 4, 24)
def K_L_order_7 (d : Nat) (fz t : Bool) (Q : pm_R → pm_H → Prop) (s1 : Int32) : pm_R → pm_H → Prop := pm_KH d 300 Q 7 [] [.int s1, .ref 117] [(1, 13)] 118 4 fz 4 24
def t_L_order_13 (d L : Nat) (fz t : Bool) (Q : pm_R → pm_H → Prop) (I : Nat → Nat → Int32) (J : Nat → Nat → Int64) : Prop := pm_T (pm_Ev d) 300 Q (13, [], [], pm_hp L fz t I J, 4, 24)
set_option maxRecDepth 100000 in
theorem b_L_order_0 {d L : Nat} {fz t : Bool} {Q : pm_R → pm_H → Prop} {x1 : Int32} {I : Nat → Nat → Int32} {J : Nat → Nat → Int64}
    (h : pm_Ev d 263 [.ref 0, .int x1] (pm_hp L fz t I J) (K_L_order_7 d fz t Q (nI 0))) :
    t_L_order_0 d L fz t Q x1 I J := by
  refine pm_go d [(7, []), (13, [])] 400 (pm_Ev_mono d _ _ _ _ _ (fun r h' q => ?_) h)
  cases r with
  | inl v => exact q
  | inr x =>
    rcases pm_bx q with ⟨rfl, q⟩ | q
    · exact q
    · exact q.elim
theorem e_L_order {d L : Nat} {fz t : Bool} {Q : pm_R → pm_H → Prop} {x1 : Int32} {I : Nat → Nat → Int32} {J : Nat → Nat → Int64}
    (h : pm_Ev d 263 [.ref 0, .int x1] (pm_hp L fz t I J) (K_L_order_7 d fz t Q (nI 0))) :
    pm_Ev (d + 1) 300 [.ref 0, .int x1, .ref 117] (pm_hp L fz t I J) Q := pm_Ev_in rfl (b_L_order_0 h)
set_option maxRecDepth 100000 in
theorem b_L_order_7 {d L : Nat} {fz t : Bool} {Q : pm_R → pm_H → Prop} {s1 : Int32} {r : Int32} {I : Nat → Nat → Int32} {J : Nat → Nat → Int64}
    (h : (vp_in s1 1 ∧ Q (.inl (some (.int (nI 0)))) (pm_hp L fz t I (pm_u J 117 (s1).toNatClampNeg ((r).toInt64))))) :
    t_L_order_7 d L fz t Q s1 r I J := by
  exact pm_go d [(7, []), (13, [])] 400 ⟨(h).1, (h).2⟩
theorem kb_L_order_7 {d L : Nat} {fz t : Bool} {Q : pm_R → pm_H → Prop} {s1 : Int32} {r : Int32} {fz1 : Bool} {I : Nat → Nat → Int32} {J : Nat → Nat → Int64}
    (h : (vp_in s1 1 ∧ Q (.inl (some (.int (nI 0)))) (pm_hp L true t I (pm_u J 117 (s1).toNatClampNeg ((r).toInt64))))) :
    K_L_order_7 d fz t Q s1 (.inl (some (.int r))) (pm_hp L fz1 t I J) := b_L_order_7 h
set_option maxRecDepth 100000 in
theorem b_L_order_13 {d L : Nat} {fz t : Bool} {Q : pm_R → pm_H → Prop} {I : Nat → Nat → Int32} {J : Nat → Nat → Int64}
    (h : Q (.inl (some (.int (nI 1)))) (pm_hp L fz t I J)) :
    t_L_order_13 d L fz t Q I J := by
  exact pm_go d [(7, []), (13, [])] 400 h
def t_L_punching_0 (d L : Nat) (fz t : Bool) (Q : pm_R → pm_H → Prop) (x1 : Int32) (x2 : Int32) (x3 : Int32) (I : Nat → Nat → Int32) (J : Nat → Nat → Int64) : Prop := pm_T (pm_Ev d) 301 Q (0, [(0, .ref 0), (1, .int x1), (2, .int x2), (3, .int x3), (4, .ref 117)], [], pm_hp L fz t I J, 0, 0)
def t_L_punching_10 (d L : Nat) (fz t : Bool) (Q : pm_R → pm_H → Prop) (s1 : Int32) (r : Int32) (I : Nat → Nat → Int32) (J : Nat → Nat → Int64) : Prop := pm_T (pm_Ev d) 301 Q (10, [], [.int r, .int s1, .ref 117], pm_hp L fz t I J, 4, 24)
def K_L_punching_10 (d : Nat) (fz t : Bool) (Q : pm_R → pm_H → Prop) (s1 : Int32) : pm_R → pm_H → Prop := pm_KH d 301 Q 10 [] [.int s1, .ref 117] [(1, 17)] 118 4 fz 4 24
def t_L_punching_17 (d L : Nat) (fz t : Bool) (Q : pm_R → pm_H → Prop) (I : Nat → Nat → Int32) (J : Nat → Nat → Int64) : Prop := pm_T (pm_Ev d) 301 Q (17, [], [], pm_hp L fz t I J, 4, 24)
set_option maxRecDepth 100000 in
theorem b_L_punching_0 {d L : Nat} {fz t : Bool} {Q : pm_R → pm_H → Prop} {x1 : Int32} {x2 : Int32} {x3 : Int32} {I : Nat → Nat → Int32} {J : Nat → Nat → Int64}
    (h : pm_Ev d 264 [.ref 0, .int x1, .int x2, .int x3] (pm_hp L fz t I J) (K_L_punching_10 d fz t Q (nI 0))) :
    t_L_punching_0 d L fz t Q x1 x2 x3 I J := by
  refine pm_go d [(10, []), (17, [])] 400 (pm_Ev_mono d _ _ _ _ _ (fun r h' q => ?_) h)
  cases r with
  | inl v => exact q
  | inr x =>
    rcases pm_bx q with ⟨rfl, q⟩ | q
    · exact q
    · exact q.elim
theorem e_L_punching {d L : Nat} {fz t : Bool} {Q : pm_R → pm_H → Prop} {x1 : Int32} {x2 : Int32} {x3 : Int32} {I : Nat → Nat → Int32} {J : Nat → Nat → Int64}
    (h : pm_Ev d 264 [.ref 0, .int x1, .int x2, .int x3] (pm_hp L fz t I J) (K_L_punching_10 d fz t Q (nI 0))) :
    pm_Ev (d + 1) 301 [.ref 0, .int x1, .int x2, .int x3, .ref 117] (pm_hp L fz t I J) Q := pm_Ev_in rfl (b_L_punching_0 h)
set_option maxRecDepth 100000 in
theorem b_L_punching_10 {d L : Nat} {fz t : Bool} {Q : pm_R → pm_H → Prop} {s1 : Int32} {r : Int32} {I : Nat → Nat → Int32} {J : Nat → Nat → Int64}
    (h : (vp_in s1 1 ∧ Q (.inl (some (.int (nI 0)))) (pm_hp L fz t I (pm_u J 117 (s1).toNatClampNeg ((r).toInt64))))) :
    t_L_punching_10 d L fz t Q s1 r I J := by
  exact pm_go d [(10, []), (17, [])] 400 ⟨(h).1, (h).2⟩
theorem kb_L_punching_10 {d L : Nat} {fz t : Bool} {Q : pm_R → pm_H → Prop} {s1 : Int32} {r : Int32} {fz1 : Bool} {I : Nat → Nat → Int32} {J : Nat → Nat → Int64}
    (h : (vp_in s1 1 ∧ Q (.inl (some (.int (nI 0)))) (pm_hp L true t I (pm_u J 117 (s1).toNatClampNeg ((r).toInt64))))) :
    K_L_punching_10 d fz t Q s1 (.inl (some (.int r))) (pm_hp L fz1 t I J) := b_L_punching_10 h
set_option maxRecDepth 100000 in
theorem b_L_punching_17 {d L : Nat} {fz t : Bool} {Q : pm_R → pm_H → Prop} {I : Nat → Nat → Int32} {J : Nat → Nat → Int64}
    (h : Q (.inl (some (.int (nI 1)))) (pm_hp L fz t I J)) :
    t_L_punching_17 d L fz t Q I J := by
  exact pm_go d [(10, []), (17, [])] 400 h
def t_L_same_0 (d L : Nat) (fz t : Bool) (Q : pm_R → pm_H → Prop) (x1 : Int32) (I : Nat → Nat → Int32) (J : Nat → Nat → Int64) : Prop := pm_T (pm_Ev d) 302 Q (0, [(0, .ref 0), (1, .int x1), (2, .ref 117)], [], pm_hp L fz t I J, 0, 0)
def t_L_same_7 (d L : Nat) (fz t : Bool) (Q : pm_R → pm_H → Prop) (s1 : Int32) (r : Int32) (I : Nat → Nat → Int32) (J : Nat → Nat → Int64) : Prop := pm_T (pm_Ev d) 302 Q (7, [], [.int r, .int s1, .ref 117], pm_hp L fz t I J, 4, 24)
def K_L_same_7 (d : Nat) (fz t : Bool) (Q : pm_R → pm_H → Prop) (s1 : Int32) : pm_R → pm_H → Prop := pm_KH d 302 Q 7 [] [.int s1, .ref 117] [(1, 13)] 118 4 fz 4 24
def t_L_same_13 (d L : Nat) (fz t : Bool) (Q : pm_R → pm_H → Prop) (I : Nat → Nat → Int32) (J : Nat → Nat → Int64) : Prop := pm_T (pm_Ev d) 302 Q (13, [], [], pm_hp L fz t I J, 4, 24)
set_option maxRecDepth 100000 in
theorem b_L_same_0 {d L : Nat} {fz t : Bool} {Q : pm_R → pm_H → Prop} {x1 : Int32} {I : Nat → Nat → Int32} {J : Nat → Nat → Int64}
    (h : pm_Ev d 265 [.ref 0, .int x1] (pm_hp L fz t I J) (K_L_same_7 d fz t Q (nI 0))) :
    t_L_same_0 d L fz t Q x1 I J := by
  refine pm_go d [(7, []), (13, [])] 400 (pm_Ev_mono d _ _ _ _ _ (fun r h' q => ?_) h)
  cases r with
  | inl v => exact q
  | inr x =>
    rcases pm_bx q with ⟨rfl, q⟩ | q
    · exact q
    · exact q.elim
theorem e_L_same {d L : Nat} {fz t : Bool} {Q : pm_R → pm_H → Prop} {x1 : Int32} {I : Nat → Nat → Int32} {J : Nat → Nat → Int64}
    (h : pm_Ev d 265 [.ref 0, .int x1] (pm_hp L fz t I J) (K_L_same_7 d fz t Q (nI 0))) :
    pm_Ev (d + 1) 302 [.ref 0, .int x1, .ref 117] (pm_hp L fz t I J) Q := pm_Ev_in rfl (b_L_same_0 h)
set_option maxRecDepth 100000 in
theorem b_L_same_7 {d L : Nat} {fz t : Bool} {Q : pm_R → pm_H → Prop} {s1 : Int32} {r : Int32} {I : Nat → Nat → Int32} {J : Nat → Nat → Int64}
    (h : (vp_in s1 1 ∧ Q (.inl (some (.int (nI 0)))) (pm_hp L fz t I (pm_u J 117 (s1).toNatClampNeg ((r).toInt64))))) :
    t_L_same_7 d L fz t Q s1 r I J := by
  exact pm_go d [(7, []), (13, [])] 400 ⟨(h).1, (h).2⟩
theorem kb_L_same_7 {d L : Nat} {fz t : Bool} {Q : pm_R → pm_H → Prop} {s1 : Int32} {r : Int32} {fz1 : Bool} {I : Nat → Nat → Int32} {J : Nat → Nat → Int64}
    (h : (vp_in s1 1 ∧ Q (.inl (some (.int (nI 0)))) (pm_hp L true t I (pm_u J 117 (s1).toNatClampNeg ((r).toInt64))))) :
    K_L_same_7 d fz t Q s1 (.inl (some (.int r))) (pm_hp L fz1 t I J) := b_L_same_7 h
set_option maxRecDepth 100000 in
theorem b_L_same_13 {d L : Nat} {fz t : Bool} {Q : pm_R → pm_H → Prop} {I : Nat → Nat → Int32} {J : Nat → Nat → Int64}
    (h : Q (.inl (some (.int (nI 1)))) (pm_hp L fz t I J)) :
    t_L_same_13 d L fz t Q I J := by
  exact pm_go d [(7, []), (13, [])] 400 h
def t_L_see_0 (d L : Nat) (fz t : Bool) (Q : pm_R → pm_H → Prop) (x1 : Int32) (x2 : Int32) (x3 : Int32) (x4 : Int32) (I : Nat → Nat → Int32) (J : Nat → Nat → Int64) : Prop := pm_T (pm_Ev d) 303 Q (0, [(0, .ref 0), (1, .int x1), (2, .int x2), (3, .int x3), (4, .int x4), (5, .ref 117)], [], pm_hp L fz t I J, 0, 0)
def t_L_see_12 (d L : Nat) (fz t : Bool) (Q : pm_R → pm_H → Prop) (s1 : Int32) (r : Int32) (I : Nat → Nat → Int32) (J : Nat → Nat → Int64) : Prop := pm_T (pm_Ev d) 303 Q (12, [], [.int r, .int s1, .ref 117], pm_hp L fz t I J, 4, 24)
def K_L_see_12 (d : Nat) (fz t : Bool) (Q : pm_R → pm_H → Prop) (s1 : Int32) : pm_R → pm_H → Prop := pm_KH d 303 Q 12 [] [.int s1, .ref 117] [(1, 19)] 118 4 fz 4 24
def t_L_see_19 (d L : Nat) (fz t : Bool) (Q : pm_R → pm_H → Prop) (I : Nat → Nat → Int32) (J : Nat → Nat → Int64) : Prop := pm_T (pm_Ev d) 303 Q (19, [], [], pm_hp L fz t I J, 4, 24)
set_option maxRecDepth 100000 in
theorem b_L_see_0 {d L : Nat} {fz t : Bool} {Q : pm_R → pm_H → Prop} {x1 : Int32} {x2 : Int32} {x3 : Int32} {x4 : Int32} {I : Nat → Nat → Int32} {J : Nat → Nat → Int64}
    (h : pm_Ev d 266 [.ref 0, .int x1, .int x2, .int x3, .int x4] (pm_hp L fz t I J) (K_L_see_12 d fz t Q (nI 0))) :
    t_L_see_0 d L fz t Q x1 x2 x3 x4 I J := by
  refine pm_go d [(12, []), (19, [])] 400 (pm_Ev_mono d _ _ _ _ _ (fun r h' q => ?_) h)
  cases r with
  | inl v => exact q
  | inr x =>
    rcases pm_bx q with ⟨rfl, q⟩ | q
    · exact q
    · exact q.elim
theorem e_L_see {d L : Nat} {fz t : Bool} {Q : pm_R → pm_H → Prop} {x1 : Int32} {x2 : Int32} {x3 : Int32} {x4 : Int32} {I : Nat → Nat → Int32} {J : Nat → Nat → Int64}
    (h : pm_Ev d 266 [.ref 0, .int x1, .int x2, .int x3, .int x4] (pm_hp L fz t I J) (K_L_see_12 d fz t Q (nI 0))) :
    pm_Ev (d + 1) 303 [.ref 0, .int x1, .int x2, .int x3, .int x4, .ref 117] (pm_hp L fz t I J) Q := pm_Ev_in rfl (b_L_see_0 h)
set_option maxRecDepth 100000 in
theorem b_L_see_12 {d L : Nat} {fz t : Bool} {Q : pm_R → pm_H → Prop} {s1 : Int32} {r : Int32} {I : Nat → Nat → Int32} {J : Nat → Nat → Int64}
    (h : (vp_in s1 1 ∧ Q (.inl (some (.int (nI 0)))) (pm_hp L fz t I (pm_u J 117 (s1).toNatClampNeg ((r).toInt64))))) :
    t_L_see_12 d L fz t Q s1 r I J := by
  exact pm_go d [(12, []), (19, [])] 400 ⟨(h).1, (h).2⟩
theorem kb_L_see_12 {d L : Nat} {fz t : Bool} {Q : pm_R → pm_H → Prop} {s1 : Int32} {r : Int32} {fz1 : Bool} {I : Nat → Nat → Int32} {J : Nat → Nat → Int64}
    (h : (vp_in s1 1 ∧ Q (.inl (some (.int (nI 0)))) (pm_hp L true t I (pm_u J 117 (s1).toNatClampNeg ((r).toInt64))))) :
    K_L_see_12 d fz t Q s1 (.inl (some (.int r))) (pm_hp L fz1 t I J) := b_L_see_12 h
set_option maxRecDepth 100000 in
theorem b_L_see_19 {d L : Nat} {fz t : Bool} {Q : pm_R → pm_H → Prop} {I : Nat → Nat → Int32} {J : Nat → Nat → Int64}
    (h : Q (.inl (some (.int (nI 1)))) (pm_hp L fz t I J)) :
    t_L_see_19 d L fz t Q I J := by
  exact pm_go d [(12, []), (19, [])] 400 h
def t_L_backwards_0 (d L : Nat) (fz t : Bool) (Q : pm_R → pm_H → Prop) (x1 : Int32) (I : Nat → Nat → Int32) (J : Nat → Nat → Int64) : Prop := pm_T (pm_Ev d) 304 Q (0, [(0, .ref 0), (1, .int x1), (2, .ref 117)], [], pm_hp L fz t I J, 0, 0)
def t_L_backwards_7 (d L : Nat) (fz t : Bool) (Q : pm_R → pm_H → Prop) (s1 : Int32) (r : Int32) (I : Nat → Nat → Int32) (J : Nat → Nat → Int64) : Prop := pm_T (pm_Ev d) 304 Q (7, [], [.int r, .int s1, .ref 117], pm_hp L fz t I J, 4, 24)
def K_L_backwards_7 (d : Nat) (fz t : Bool) (Q : pm_R → pm_H → Prop) (s1 : Int32) : pm_R → pm_H → Prop := pm_KH d 304 Q 7 [] [.int s1, .ref 117] [(1, 13)] 118 4 fz 4 24
def t_L_backwards_13 (d L : Nat) (fz t : Bool) (Q : pm_R → pm_H → Prop) (I : Nat → Nat → Int32) (J : Nat → Nat → Int64) : Prop := pm_T (pm_Ev d) 304 Q (13, [], [], pm_hp L fz t I J, 4, 24)
set_option maxRecDepth 100000 in
theorem b_L_backwards_0 {d L : Nat} {fz t : Bool} {Q : pm_R → pm_H → Prop} {x1 : Int32} {I : Nat → Nat → Int32} {J : Nat → Nat → Int64}
    (h : pm_Ev d 267 [.ref 0, .int x1] (pm_hp L fz t I J) (K_L_backwards_7 d fz t Q (nI 0))) :
    t_L_backwards_0 d L fz t Q x1 I J := by
  refine pm_go d [(7, []), (13, [])] 400 (pm_Ev_mono d _ _ _ _ _ (fun r h' q => ?_) h)
  cases r with
  | inl v => exact q
  | inr x =>
    rcases pm_bx q with ⟨rfl, q⟩ | q
    · exact q
    · exact q.elim
theorem e_L_backwards {d L : Nat} {fz t : Bool} {Q : pm_R → pm_H → Prop} {x1 : Int32} {I : Nat → Nat → Int32} {J : Nat → Nat → Int64}
    (h : pm_Ev d 267 [.ref 0, .int x1] (pm_hp L fz t I J) (K_L_backwards_7 d fz t Q (nI 0))) :
    pm_Ev (d + 1) 304 [.ref 0, .int x1, .ref 117] (pm_hp L fz t I J) Q := pm_Ev_in rfl (b_L_backwards_0 h)
set_option maxRecDepth 100000 in
theorem b_L_backwards_7 {d L : Nat} {fz t : Bool} {Q : pm_R → pm_H → Prop} {s1 : Int32} {r : Int32} {I : Nat → Nat → Int32} {J : Nat → Nat → Int64}
    (h : (vp_in s1 1 ∧ Q (.inl (some (.int (nI 0)))) (pm_hp L fz t I (pm_u J 117 (s1).toNatClampNeg ((r).toInt64))))) :
    t_L_backwards_7 d L fz t Q s1 r I J := by
  exact pm_go d [(7, []), (13, [])] 400 ⟨(h).1, (h).2⟩
theorem kb_L_backwards_7 {d L : Nat} {fz t : Bool} {Q : pm_R → pm_H → Prop} {s1 : Int32} {r : Int32} {fz1 : Bool} {I : Nat → Nat → Int32} {J : Nat → Nat → Int64}
    (h : (vp_in s1 1 ∧ Q (.inl (some (.int (nI 0)))) (pm_hp L true t I (pm_u J 117 (s1).toNatClampNeg ((r).toInt64))))) :
    K_L_backwards_7 d fz t Q s1 (.inl (some (.int r))) (pm_hp L fz1 t I J) := b_L_backwards_7 h
set_option maxRecDepth 100000 in
theorem b_L_backwards_13 {d L : Nat} {fz t : Bool} {Q : pm_R → pm_H → Prop} {I : Nat → Nat → Int32} {J : Nat → Nat → Int64}
    (h : Q (.inl (some (.int (nI 1)))) (pm_hp L fz t I J)) :
    t_L_backwards_13 d L fz t Q I J := by
  exact pm_go d [(7, []), (13, [])] 400 h
def t_L_punched_0 (d L : Nat) (fz t : Bool) (Q : pm_R → pm_H → Prop) (x1 : Int32) (x2 : Int32) (I : Nat → Nat → Int32) (J : Nat → Nat → Int64) : Prop := pm_T (pm_Ev d) 305 Q (0, [(0, .ref 0), (1, .int x1), (2, .int x2), (3, .ref 117)], [], pm_hp L fz t I J, 0, 0)
def t_L_punched_8 (d L : Nat) (fz t : Bool) (Q : pm_R → pm_H → Prop) (s1 : Int32) (r : Int32) (I : Nat → Nat → Int32) (J : Nat → Nat → Int64) : Prop := pm_T (pm_Ev d) 305 Q (8, [], [.int r, .int s1, .ref 117], pm_hp L fz t I J, 4, 24)
def K_L_punched_8 (d : Nat) (fz t : Bool) (Q : pm_R → pm_H → Prop) (s1 : Int32) : pm_R → pm_H → Prop := pm_KH d 305 Q 8 [] [.int s1, .ref 117] [(1, 15)] 118 4 fz 4 24
def t_L_punched_15 (d L : Nat) (fz t : Bool) (Q : pm_R → pm_H → Prop) (I : Nat → Nat → Int32) (J : Nat → Nat → Int64) : Prop := pm_T (pm_Ev d) 305 Q (15, [], [], pm_hp L fz t I J, 4, 24)
set_option maxRecDepth 100000 in
theorem b_L_punched_0 {d L : Nat} {fz t : Bool} {Q : pm_R → pm_H → Prop} {x1 : Int32} {x2 : Int32} {I : Nat → Nat → Int32} {J : Nat → Nat → Int64}
    (h : pm_Ev d 268 [.ref 0, .int x1, .int x2] (pm_hp L fz t I J) (K_L_punched_8 d fz t Q (nI 0))) :
    t_L_punched_0 d L fz t Q x1 x2 I J := by
  refine pm_go d [(8, []), (15, [])] 400 (pm_Ev_mono d _ _ _ _ _ (fun r h' q => ?_) h)
  cases r with
  | inl v => exact q
  | inr x =>
    rcases pm_bx q with ⟨rfl, q⟩ | q
    · exact q
    · exact q.elim
theorem e_L_punched {d L : Nat} {fz t : Bool} {Q : pm_R → pm_H → Prop} {x1 : Int32} {x2 : Int32} {I : Nat → Nat → Int32} {J : Nat → Nat → Int64}
    (h : pm_Ev d 268 [.ref 0, .int x1, .int x2] (pm_hp L fz t I J) (K_L_punched_8 d fz t Q (nI 0))) :
    pm_Ev (d + 1) 305 [.ref 0, .int x1, .int x2, .ref 117] (pm_hp L fz t I J) Q := pm_Ev_in rfl (b_L_punched_0 h)
set_option maxRecDepth 100000 in
theorem b_L_punched_8 {d L : Nat} {fz t : Bool} {Q : pm_R → pm_H → Prop} {s1 : Int32} {r : Int32} {I : Nat → Nat → Int32} {J : Nat → Nat → Int64}
    (h : (vp_in s1 1 ∧ Q (.inl (some (.int (nI 0)))) (pm_hp L fz t I (pm_u J 117 (s1).toNatClampNeg ((r).toInt64))))) :
    t_L_punched_8 d L fz t Q s1 r I J := by
  exact pm_go d [(8, []), (15, [])] 400 ⟨(h).1, (h).2⟩
theorem kb_L_punched_8 {d L : Nat} {fz t : Bool} {Q : pm_R → pm_H → Prop} {s1 : Int32} {r : Int32} {fz1 : Bool} {I : Nat → Nat → Int32} {J : Nat → Nat → Int64}
    (h : (vp_in s1 1 ∧ Q (.inl (some (.int (nI 0)))) (pm_hp L true t I (pm_u J 117 (s1).toNatClampNeg ((r).toInt64))))) :
    K_L_punched_8 d fz t Q s1 (.inl (some (.int r))) (pm_hp L fz1 t I J) := b_L_punched_8 h
set_option maxRecDepth 100000 in
theorem b_L_punched_15 {d L : Nat} {fz t : Bool} {Q : pm_R → pm_H → Prop} {I : Nat → Nat → Int32} {J : Nat → Nat → Int64}
    (h : Q (.inl (some (.int (nI 1)))) (pm_hp L fz t I J)) :
    t_L_punched_15 d L fz t Q I J := by
  exact pm_go d [(8, []), (15, [])] 400 h
def t_L_next_0 (d L : Nat) (fz t : Bool) (Q : pm_R → pm_H → Prop) (x1 : Int32) (I : Nat → Nat → Int32) (J : Nat → Nat → Int64) : Prop := pm_T (pm_Ev d) 306 Q (0, [(0, .ref 0), (1, .int x1), (2, .ref 117)], [], pm_hp L fz t I J, 0, 0)
def t_L_next_7 (d L : Nat) (fz t : Bool) (Q : pm_R → pm_H → Prop) (s1 : Int32) (r : Int32) (I : Nat → Nat → Int32) (J : Nat → Nat → Int64) : Prop := pm_T (pm_Ev d) 306 Q (7, [], [.int r, .int s1, .ref 117], pm_hp L fz t I J, 4, 24)
def K_L_next_7 (d : Nat) (fz t : Bool) (Q : pm_R → pm_H → Prop) (s1 : Int32) : pm_R → pm_H → Prop := pm_KH d 306 Q 7 [] [.int s1, .ref 117] [(1, 13)] 118 4 fz 4 24
def t_L_next_13 (d L : Nat) (fz t : Bool) (Q : pm_R → pm_H → Prop) (I : Nat → Nat → Int32) (J : Nat → Nat → Int64) : Prop := pm_T (pm_Ev d) 306 Q (13, [], [], pm_hp L fz t I J, 4, 24)
set_option maxRecDepth 100000 in
theorem b_L_next_0 {d L : Nat} {fz t : Bool} {Q : pm_R → pm_H → Prop} {x1 : Int32} {I : Nat → Nat → Int32} {J : Nat → Nat → Int64}
    (h : pm_Ev d 269 [.ref 0, .int x1] (pm_hp L fz t I J) (K_L_next_7 d fz t Q (nI 0))) :
    t_L_next_0 d L fz t Q x1 I J := by
  refine pm_go d [(7, []), (13, [])] 400 (pm_Ev_mono d _ _ _ _ _ (fun r h' q => ?_) h)
  cases r with
  | inl v => exact q
  | inr x =>
    rcases pm_bx q with ⟨rfl, q⟩ | q
    · exact q
    · exact q.elim
theorem e_L_next {d L : Nat} {fz t : Bool} {Q : pm_R → pm_H → Prop} {x1 : Int32} {I : Nat → Nat → Int32} {J : Nat → Nat → Int64}
    (h : pm_Ev d 269 [.ref 0, .int x1] (pm_hp L fz t I J) (K_L_next_7 d fz t Q (nI 0))) :
    pm_Ev (d + 1) 306 [.ref 0, .int x1, .ref 117] (pm_hp L fz t I J) Q := pm_Ev_in rfl (b_L_next_0 h)
set_option maxRecDepth 100000 in
theorem b_L_next_7 {d L : Nat} {fz t : Bool} {Q : pm_R → pm_H → Prop} {s1 : Int32} {r : Int32} {I : Nat → Nat → Int32} {J : Nat → Nat → Int64}
    (h : (vp_in s1 1 ∧ Q (.inl (some (.int (nI 0)))) (pm_hp L fz t I (pm_u J 117 (s1).toNatClampNeg ((r).toInt64))))) :
    t_L_next_7 d L fz t Q s1 r I J := by
  exact pm_go d [(7, []), (13, [])] 400 ⟨(h).1, (h).2⟩
theorem kb_L_next_7 {d L : Nat} {fz t : Bool} {Q : pm_R → pm_H → Prop} {s1 : Int32} {r : Int32} {fz1 : Bool} {I : Nat → Nat → Int32} {J : Nat → Nat → Int64}
    (h : (vp_in s1 1 ∧ Q (.inl (some (.int (nI 0)))) (pm_hp L true t I (pm_u J 117 (s1).toNatClampNeg ((r).toInt64))))) :
    K_L_next_7 d fz t Q s1 (.inl (some (.int r))) (pm_hp L fz1 t I J) := b_L_next_7 h
set_option maxRecDepth 100000 in
theorem b_L_next_13 {d L : Nat} {fz t : Bool} {Q : pm_R → pm_H → Prop} {I : Nat → Nat → Int32} {J : Nat → Nat → Int64}
    (h : Q (.inl (some (.int (nI 1)))) (pm_hp L fz t I J)) :
    t_L_next_13 d L fz t Q I J := by
  exact pm_go d [(7, []), (13, [])] 400 h
def t_L_toCut_0 (d L : Nat) (fz t : Bool) (Q : pm_R → pm_H → Prop) (x1 : Int32) (x2 : Int32) (x3 : Int32) (x4 : Int32) (I : Nat → Nat → Int32) (J : Nat → Nat → Int64) : Prop := pm_T (pm_Ev d) 307 Q (0, [(0, .ref 0), (1, .int x1), (2, .int x2), (3, .int x3), (4, .int x4), (5, .ref 117)], [], pm_hp L fz t I J, 0, 0)
def t_L_toCut_12 (d L : Nat) (fz t : Bool) (Q : pm_R → pm_H → Prop) (s1 : Int32) (r : Int32) (I : Nat → Nat → Int32) (J : Nat → Nat → Int64) : Prop := pm_T (pm_Ev d) 307 Q (12, [], [.int r, .int s1, .ref 117], pm_hp L fz t I J, 4, 24)
def K_L_toCut_12 (d : Nat) (fz t : Bool) (Q : pm_R → pm_H → Prop) (s1 : Int32) : pm_R → pm_H → Prop := pm_KH d 307 Q 12 [] [.int s1, .ref 117] [(1, 19), (2, 23)] 118 4 fz 4 24
def t_L_toCut_19 (d L : Nat) (fz t : Bool) (Q : pm_R → pm_H → Prop) (I : Nat → Nat → Int32) (J : Nat → Nat → Int64) : Prop := pm_T (pm_Ev d) 307 Q (19, [], [], pm_hp L fz t I J, 4, 24)
def t_L_toCut_23 (d L : Nat) (fz t : Bool) (Q : pm_R → pm_H → Prop) (I : Nat → Nat → Int32) (J : Nat → Nat → Int64) : Prop := pm_T (pm_Ev d) 307 Q (23, [], [], pm_hp L fz t I J, 4, 24)
set_option maxRecDepth 100000 in
theorem b_L_toCut_0 {d L : Nat} {fz t : Bool} {Q : pm_R → pm_H → Prop} {x1 : Int32} {x2 : Int32} {x3 : Int32} {x4 : Int32} {I : Nat → Nat → Int32} {J : Nat → Nat → Int64}
    (h : pm_Ev d 270 [.ref 0, .int x1, .int x2, .int x3, .int x4] (pm_hp L fz t I J) (K_L_toCut_12 d fz t Q (nI 0))) :
    t_L_toCut_0 d L fz t Q x1 x2 x3 x4 I J := by
  refine pm_go d [(12, []), (19, []), (23, [])] 400 (pm_Ev_mono d _ _ _ _ _ (fun r h' q => ?_) h)
  cases r with
  | inl v => exact q
  | inr x =>
    rcases pm_bx q with ⟨rfl, q⟩ | q
    · exact q
    · rcases pm_bx q with ⟨rfl, q⟩ | q
      · exact q
      · exact q.elim
theorem e_L_toCut {d L : Nat} {fz t : Bool} {Q : pm_R → pm_H → Prop} {x1 : Int32} {x2 : Int32} {x3 : Int32} {x4 : Int32} {I : Nat → Nat → Int32} {J : Nat → Nat → Int64}
    (h : pm_Ev d 270 [.ref 0, .int x1, .int x2, .int x3, .int x4] (pm_hp L fz t I J) (K_L_toCut_12 d fz t Q (nI 0))) :
    pm_Ev (d + 1) 307 [.ref 0, .int x1, .int x2, .int x3, .int x4, .ref 117] (pm_hp L fz t I J) Q := pm_Ev_in rfl (b_L_toCut_0 h)
set_option maxRecDepth 100000 in
theorem b_L_toCut_12 {d L : Nat} {fz t : Bool} {Q : pm_R → pm_H → Prop} {s1 : Int32} {r : Int32} {I : Nat → Nat → Int32} {J : Nat → Nat → Int64}
    (h : (vp_in s1 1 ∧ Q (.inl (some (.int (nI 0)))) (pm_hp L fz t I (pm_u J 117 (s1).toNatClampNeg ((r).toInt64))))) :
    t_L_toCut_12 d L fz t Q s1 r I J := by
  exact pm_go d [(12, []), (19, []), (23, [])] 400 ⟨(h).1, (h).2⟩
theorem kb_L_toCut_12 {d L : Nat} {fz t : Bool} {Q : pm_R → pm_H → Prop} {s1 : Int32} {r : Int32} {fz1 : Bool} {I : Nat → Nat → Int32} {J : Nat → Nat → Int64}
    (h : (vp_in s1 1 ∧ Q (.inl (some (.int (nI 0)))) (pm_hp L true t I (pm_u J 117 (s1).toNatClampNeg ((r).toInt64))))) :
    K_L_toCut_12 d fz t Q s1 (.inl (some (.int r))) (pm_hp L fz1 t I J) := b_L_toCut_12 h
set_option maxRecDepth 100000 in
theorem b_L_toCut_19 {d L : Nat} {fz t : Bool} {Q : pm_R → pm_H → Prop} {I : Nat → Nat → Int32} {J : Nat → Nat → Int64}
    (h : Q (.inl (some (.int (nI 1)))) (pm_hp L fz t I J)) :
    t_L_toCut_19 d L fz t Q I J := by
  exact pm_go d [(12, []), (19, []), (23, [])] 400 h
set_option maxRecDepth 100000 in
theorem b_L_toCut_23 {d L : Nat} {fz t : Bool} {Q : pm_R → pm_H → Prop} {I : Nat → Nat → Int32} {J : Nat → Nat → Int64}
    (h : Q (.inl (some (.int (nI 2)))) (pm_hp L fz t I J)) :
    t_L_toCut_23 d L fz t Q I J := by
  exact pm_go d [(12, []), (19, []), (23, [])] 400 h
def t_L_coats_0 (d L : Nat) (fz t : Bool) (Q : pm_R → pm_H → Prop) (x1 : Int32) (I : Nat → Nat → Int32) (J : Nat → Nat → Int64) : Prop := pm_T (pm_Ev d) 308 Q (0, [(0, .ref 0), (1, .int x1), (2, .ref 117)], [], pm_hp L fz t I J, 0, 0)
def t_L_coats_7 (d L : Nat) (fz t : Bool) (Q : pm_R → pm_H → Prop) (s1 : Int32) (r : Int32) (I : Nat → Nat → Int32) (J : Nat → Nat → Int64) : Prop := pm_T (pm_Ev d) 308 Q (7, [], [.int r, .int s1, .ref 117], pm_hp L fz t I J, 4, 24)
def K_L_coats_7 (d : Nat) (fz t : Bool) (Q : pm_R → pm_H → Prop) (s1 : Int32) : pm_R → pm_H → Prop := pm_KH d 308 Q 7 [] [.int s1, .ref 117] [(1, 13)] 118 4 fz 4 24
def t_L_coats_13 (d L : Nat) (fz t : Bool) (Q : pm_R → pm_H → Prop) (I : Nat → Nat → Int32) (J : Nat → Nat → Int64) : Prop := pm_T (pm_Ev d) 308 Q (13, [], [], pm_hp L fz t I J, 4, 24)
set_option maxRecDepth 100000 in
theorem b_L_coats_0 {d L : Nat} {fz t : Bool} {Q : pm_R → pm_H → Prop} {x1 : Int32} {I : Nat → Nat → Int32} {J : Nat → Nat → Int64}
    (h : pm_Ev d 271 [.ref 0, .int x1] (pm_hp L fz t I J) (K_L_coats_7 d fz t Q (nI 0))) :
    t_L_coats_0 d L fz t Q x1 I J := by
  refine pm_go d [(7, []), (13, [])] 400 (pm_Ev_mono d _ _ _ _ _ (fun r h' q => ?_) h)
  cases r with
  | inl v => exact q
  | inr x =>
    rcases pm_bx q with ⟨rfl, q⟩ | q
    · exact q
    · exact q.elim
theorem e_L_coats {d L : Nat} {fz t : Bool} {Q : pm_R → pm_H → Prop} {x1 : Int32} {I : Nat → Nat → Int32} {J : Nat → Nat → Int64}
    (h : pm_Ev d 271 [.ref 0, .int x1] (pm_hp L fz t I J) (K_L_coats_7 d fz t Q (nI 0))) :
    pm_Ev (d + 1) 308 [.ref 0, .int x1, .ref 117] (pm_hp L fz t I J) Q := pm_Ev_in rfl (b_L_coats_0 h)
set_option maxRecDepth 100000 in
theorem b_L_coats_7 {d L : Nat} {fz t : Bool} {Q : pm_R → pm_H → Prop} {s1 : Int32} {r : Int32} {I : Nat → Nat → Int32} {J : Nat → Nat → Int64}
    (h : (vp_in s1 1 ∧ Q (.inl (some (.int (nI 0)))) (pm_hp L fz t I (pm_u J 117 (s1).toNatClampNeg ((r).toInt64))))) :
    t_L_coats_7 d L fz t Q s1 r I J := by
  exact pm_go d [(7, []), (13, [])] 400 ⟨(h).1, (h).2⟩
theorem kb_L_coats_7 {d L : Nat} {fz t : Bool} {Q : pm_R → pm_H → Prop} {s1 : Int32} {r : Int32} {fz1 : Bool} {I : Nat → Nat → Int32} {J : Nat → Nat → Int64}
    (h : (vp_in s1 1 ∧ Q (.inl (some (.int (nI 0)))) (pm_hp L true t I (pm_u J 117 (s1).toNatClampNeg ((r).toInt64))))) :
    K_L_coats_7 d fz t Q s1 (.inl (some (.int r))) (pm_hp L fz1 t I J) := b_L_coats_7 h
set_option maxRecDepth 100000 in
theorem b_L_coats_13 {d L : Nat} {fz t : Bool} {Q : pm_R → pm_H → Prop} {I : Nat → Nat → Int32} {J : Nat → Nat → Int64}
    (h : Q (.inl (some (.int (nI 1)))) (pm_hp L fz t I J)) :
    t_L_coats_13 d L fz t Q I J := by
  exact pm_go d [(7, []), (13, [])] 400 h
def t_L_game_0 (d L : Nat) (fz t : Bool) (Q : pm_R → pm_H → Prop) (x1 : Int32) (x2 : Int32) (x3 : Int32) (I : Nat → Nat → Int32) (J : Nat → Nat → Int64) : Prop := pm_T (pm_Ev d) 309 Q (0, [(0, .ref 0), (1, .int x1), (2, .int x2), (3, .int x3), (4, .ref 117)], [], pm_hp L fz t I J, 0, 0)
def t_L_game_10 (d L : Nat) (fz t : Bool) (Q : pm_R → pm_H → Prop) (s1 : Int32) (r : Int32) (I : Nat → Nat → Int32) (J : Nat → Nat → Int64) : Prop := pm_T (pm_Ev d) 309 Q (10, [], [.int r, .int s1, .ref 117], pm_hp L fz t I J, 4, 24)
def K_L_game_10 (d : Nat) (fz t : Bool) (Q : pm_R → pm_H → Prop) (s1 : Int32) : pm_R → pm_H → Prop := pm_KH d 309 Q 10 [] [.int s1, .ref 117] [(1, 17), (2, 21)] 118 4 fz 4 24
def t_L_game_17 (d L : Nat) (fz t : Bool) (Q : pm_R → pm_H → Prop) (I : Nat → Nat → Int32) (J : Nat → Nat → Int64) : Prop := pm_T (pm_Ev d) 309 Q (17, [], [], pm_hp L fz t I J, 4, 24)
def t_L_game_21 (d L : Nat) (fz t : Bool) (Q : pm_R → pm_H → Prop) (I : Nat → Nat → Int32) (J : Nat → Nat → Int64) : Prop := pm_T (pm_Ev d) 309 Q (21, [], [], pm_hp L fz t I J, 4, 24)
set_option maxRecDepth 100000 in
theorem b_L_game_0 {d L : Nat} {fz t : Bool} {Q : pm_R → pm_H → Prop} {x1 : Int32} {x2 : Int32} {x3 : Int32} {I : Nat → Nat → Int32} {J : Nat → Nat → Int64}
    (h : pm_Ev d 272 [.ref 0, .int x1, .int x2, .int x3] (pm_hp L fz t I J) (K_L_game_10 d fz t Q (nI 0))) :
    t_L_game_0 d L fz t Q x1 x2 x3 I J := by
  refine pm_go d [(10, []), (17, []), (21, [])] 400 (pm_Ev_mono d _ _ _ _ _ (fun r h' q => ?_) h)
  cases r with
  | inl v => exact q
  | inr x =>
    rcases pm_bx q with ⟨rfl, q⟩ | q
    · exact q
    · rcases pm_bx q with ⟨rfl, q⟩ | q
      · exact q
      · exact q.elim
theorem e_L_game {d L : Nat} {fz t : Bool} {Q : pm_R → pm_H → Prop} {x1 : Int32} {x2 : Int32} {x3 : Int32} {I : Nat → Nat → Int32} {J : Nat → Nat → Int64}
    (h : pm_Ev d 272 [.ref 0, .int x1, .int x2, .int x3] (pm_hp L fz t I J) (K_L_game_10 d fz t Q (nI 0))) :
    pm_Ev (d + 1) 309 [.ref 0, .int x1, .int x2, .int x3, .ref 117] (pm_hp L fz t I J) Q := pm_Ev_in rfl (b_L_game_0 h)
set_option maxRecDepth 100000 in
theorem b_L_game_10 {d L : Nat} {fz t : Bool} {Q : pm_R → pm_H → Prop} {s1 : Int32} {r : Int32} {I : Nat → Nat → Int32} {J : Nat → Nat → Int64}
    (h : (vp_in s1 1 ∧ Q (.inl (some (.int (nI 0)))) (pm_hp L fz t I (pm_u J 117 (s1).toNatClampNeg ((r).toInt64))))) :
    t_L_game_10 d L fz t Q s1 r I J := by
  exact pm_go d [(10, []), (17, []), (21, [])] 400 ⟨(h).1, (h).2⟩
theorem kb_L_game_10 {d L : Nat} {fz t : Bool} {Q : pm_R → pm_H → Prop} {s1 : Int32} {r : Int32} {fz1 : Bool} {I : Nat → Nat → Int32} {J : Nat → Nat → Int64}
    (h : (vp_in s1 1 ∧ Q (.inl (some (.int (nI 0)))) (pm_hp L true t I (pm_u J 117 (s1).toNatClampNeg ((r).toInt64))))) :
    K_L_game_10 d fz t Q s1 (.inl (some (.int r))) (pm_hp L fz1 t I J) := b_L_game_10 h
set_option maxRecDepth 100000 in
theorem b_L_game_17 {d L : Nat} {fz t : Bool} {Q : pm_R → pm_H → Prop} {I : Nat → Nat → Int32} {J : Nat → Nat → Int64}
    (h : Q (.inl (some (.int (nI 1)))) (pm_hp L fz t I J)) :
    t_L_game_17 d L fz t Q I J := by
  exact pm_go d [(10, []), (17, []), (21, [])] 400 h
set_option maxRecDepth 100000 in
theorem b_L_game_21 {d L : Nat} {fz t : Bool} {Q : pm_R → pm_H → Prop} {I : Nat → Nat → Int32} {J : Nat → Nat → Int64}
    (h : Q (.inl (some (.int (nI 2)))) (pm_hp L fz t I J)) :
    t_L_game_21 d L fz t Q I J := by
  exact pm_go d [(10, []), (17, []), (21, [])] 400 h
def t_L_drawn_0 (d L : Nat) (fz t : Bool) (Q : pm_R → pm_H → Prop) (x1 : Int32) (x2 : Int32) (x3 : Int32) (I : Nat → Nat → Int32) (J : Nat → Nat → Int64) : Prop := pm_T (pm_Ev d) 310 Q (0, [(0, .ref 0), (1, .int x1), (2, .int x2), (3, .int x3), (4, .ref 117)], [], pm_hp L fz t I J, 0, 0)
def t_L_drawn_10 (d L : Nat) (fz t : Bool) (Q : pm_R → pm_H → Prop) (s1 : Int32) (r : Int32) (I : Nat → Nat → Int32) (J : Nat → Nat → Int64) : Prop := pm_T (pm_Ev d) 310 Q (10, [], [.int r, .int s1, .ref 117], pm_hp L fz t I J, 4, 24)
def K_L_drawn_10 (d : Nat) (fz t : Bool) (Q : pm_R → pm_H → Prop) (s1 : Int32) : pm_R → pm_H → Prop := pm_KH d 310 Q 10 [] [.int s1, .ref 117] [(1, 17), (2, 21)] 118 4 fz 4 24
def t_L_drawn_17 (d L : Nat) (fz t : Bool) (Q : pm_R → pm_H → Prop) (I : Nat → Nat → Int32) (J : Nat → Nat → Int64) : Prop := pm_T (pm_Ev d) 310 Q (17, [], [], pm_hp L fz t I J, 4, 24)
def t_L_drawn_21 (d L : Nat) (fz t : Bool) (Q : pm_R → pm_H → Prop) (I : Nat → Nat → Int32) (J : Nat → Nat → Int64) : Prop := pm_T (pm_Ev d) 310 Q (21, [], [], pm_hp L fz t I J, 4, 24)
set_option maxRecDepth 100000 in
theorem b_L_drawn_0 {d L : Nat} {fz t : Bool} {Q : pm_R → pm_H → Prop} {x1 : Int32} {x2 : Int32} {x3 : Int32} {I : Nat → Nat → Int32} {J : Nat → Nat → Int64}
    (h : pm_Ev d 273 [.ref 0, .int x1, .int x2, .int x3] (pm_hp L fz t I J) (K_L_drawn_10 d fz t Q (nI 0))) :
    t_L_drawn_0 d L fz t Q x1 x2 x3 I J := by
  refine pm_go d [(10, []), (17, []), (21, [])] 400 (pm_Ev_mono d _ _ _ _ _ (fun r h' q => ?_) h)
  cases r with
  | inl v => exact q
  | inr x =>
    rcases pm_bx q with ⟨rfl, q⟩ | q
    · exact q
    · rcases pm_bx q with ⟨rfl, q⟩ | q
      · exact q
      · exact q.elim
theorem e_L_drawn {d L : Nat} {fz t : Bool} {Q : pm_R → pm_H → Prop} {x1 : Int32} {x2 : Int32} {x3 : Int32} {I : Nat → Nat → Int32} {J : Nat → Nat → Int64}
    (h : pm_Ev d 273 [.ref 0, .int x1, .int x2, .int x3] (pm_hp L fz t I J) (K_L_drawn_10 d fz t Q (nI 0))) :
    pm_Ev (d + 1) 310 [.ref 0, .int x1, .int x2, .int x3, .ref 117] (pm_hp L fz t I J) Q := pm_Ev_in rfl (b_L_drawn_0 h)
set_option maxRecDepth 100000 in
theorem b_L_drawn_10 {d L : Nat} {fz t : Bool} {Q : pm_R → pm_H → Prop} {s1 : Int32} {r : Int32} {I : Nat → Nat → Int32} {J : Nat → Nat → Int64}
    (h : (vp_in s1 1 ∧ Q (.inl (some (.int (nI 0)))) (pm_hp L fz t I (pm_u J 117 (s1).toNatClampNeg ((r).toInt64))))) :
    t_L_drawn_10 d L fz t Q s1 r I J := by
  exact pm_go d [(10, []), (17, []), (21, [])] 400 ⟨(h).1, (h).2⟩
theorem kb_L_drawn_10 {d L : Nat} {fz t : Bool} {Q : pm_R → pm_H → Prop} {s1 : Int32} {r : Int32} {fz1 : Bool} {I : Nat → Nat → Int32} {J : Nat → Nat → Int64}
    (h : (vp_in s1 1 ∧ Q (.inl (some (.int (nI 0)))) (pm_hp L true t I (pm_u J 117 (s1).toNatClampNeg ((r).toInt64))))) :
    K_L_drawn_10 d fz t Q s1 (.inl (some (.int r))) (pm_hp L fz1 t I J) := b_L_drawn_10 h
set_option maxRecDepth 100000 in
theorem b_L_drawn_17 {d L : Nat} {fz t : Bool} {Q : pm_R → pm_H → Prop} {I : Nat → Nat → Int32} {J : Nat → Nat → Int64}
    (h : Q (.inl (some (.int (nI 1)))) (pm_hp L fz t I J)) :
    t_L_drawn_17 d L fz t Q I J := by
  exact pm_go d [(10, []), (17, []), (21, [])] 400 h
set_option maxRecDepth 100000 in
theorem b_L_drawn_21 {d L : Nat} {fz t : Bool} {Q : pm_R → pm_H → Prop} {I : Nat → Nat → Int32} {J : Nat → Nat → Int64}
    (h : Q (.inl (some (.int (nI 2)))) (pm_hp L fz t I J)) :
    t_L_drawn_21 d L fz t Q I J := by
  exact pm_go d [(10, []), (17, []), (21, [])] 400 h
def t_L_gap_0 (d L : Nat) (fz t : Bool) (Q : pm_R → pm_H → Prop) (x1 : Int32) (x2 : Int32) (I : Nat → Nat → Int32) (J : Nat → Nat → Int64) : Prop := pm_T (pm_Ev d) 311 Q (0, [(0, .ref 0), (1, .int x1), (2, .int x2), (3, .ref 117)], [], pm_hp L fz t I J, 0, 0)
def t_L_gap_8 (d L : Nat) (fz t : Bool) (Q : pm_R → pm_H → Prop) (s1 : Int32) (r : Int32) (I : Nat → Nat → Int32) (J : Nat → Nat → Int64) : Prop := pm_T (pm_Ev d) 311 Q (8, [], [.int r, .int s1, .ref 117], pm_hp L fz t I J, 4, 24)
def K_L_gap_8 (d : Nat) (fz t : Bool) (Q : pm_R → pm_H → Prop) (s1 : Int32) : pm_R → pm_H → Prop := pm_KH d 311 Q 8 [] [.int s1, .ref 117] [(1, 15)] 118 4 fz 4 24
def t_L_gap_15 (d L : Nat) (fz t : Bool) (Q : pm_R → pm_H → Prop) (I : Nat → Nat → Int32) (J : Nat → Nat → Int64) : Prop := pm_T (pm_Ev d) 311 Q (15, [], [], pm_hp L fz t I J, 4, 24)
set_option maxRecDepth 100000 in
theorem b_L_gap_0 {d L : Nat} {fz t : Bool} {Q : pm_R → pm_H → Prop} {x1 : Int32} {x2 : Int32} {I : Nat → Nat → Int32} {J : Nat → Nat → Int64}
    (h : pm_Ev d 274 [.ref 0, .int x1, .int x2] (pm_hp L fz t I J) (K_L_gap_8 d fz t Q (nI 0))) :
    t_L_gap_0 d L fz t Q x1 x2 I J := by
  refine pm_go d [(8, []), (15, [])] 400 (pm_Ev_mono d _ _ _ _ _ (fun r h' q => ?_) h)
  cases r with
  | inl v => exact q
  | inr x =>
    rcases pm_bx q with ⟨rfl, q⟩ | q
    · exact q
    · exact q.elim
theorem e_L_gap {d L : Nat} {fz t : Bool} {Q : pm_R → pm_H → Prop} {x1 : Int32} {x2 : Int32} {I : Nat → Nat → Int32} {J : Nat → Nat → Int64}
    (h : pm_Ev d 274 [.ref 0, .int x1, .int x2] (pm_hp L fz t I J) (K_L_gap_8 d fz t Q (nI 0))) :
    pm_Ev (d + 1) 311 [.ref 0, .int x1, .int x2, .ref 117] (pm_hp L fz t I J) Q := pm_Ev_in rfl (b_L_gap_0 h)
set_option maxRecDepth 100000 in
theorem b_L_gap_8 {d L : Nat} {fz t : Bool} {Q : pm_R → pm_H → Prop} {s1 : Int32} {r : Int32} {I : Nat → Nat → Int32} {J : Nat → Nat → Int64}
    (h : (vp_in s1 1 ∧ Q (.inl (some (.int (nI 0)))) (pm_hp L fz t I (pm_u J 117 (s1).toNatClampNeg ((r).toInt64))))) :
    t_L_gap_8 d L fz t Q s1 r I J := by
  exact pm_go d [(8, []), (15, [])] 400 ⟨(h).1, (h).2⟩
theorem kb_L_gap_8 {d L : Nat} {fz t : Bool} {Q : pm_R → pm_H → Prop} {s1 : Int32} {r : Int32} {fz1 : Bool} {I : Nat → Nat → Int32} {J : Nat → Nat → Int64}
    (h : (vp_in s1 1 ∧ Q (.inl (some (.int (nI 0)))) (pm_hp L true t I (pm_u J 117 (s1).toNatClampNeg ((r).toInt64))))) :
    K_L_gap_8 d fz t Q s1 (.inl (some (.int r))) (pm_hp L fz1 t I J) := b_L_gap_8 h
set_option maxRecDepth 100000 in
theorem b_L_gap_15 {d L : Nat} {fz t : Bool} {Q : pm_R → pm_H → Prop} {I : Nat → Nat → Int32} {J : Nat → Nat → Int64}
    (h : Q (.inl (some (.int (nI 1)))) (pm_hp L fz t I J)) :
    t_L_gap_15 d L fz t Q I J := by
  exact pm_go d [(8, []), (15, [])] 400 h
def t_L_unlike_0 (d L : Nat) (fz t : Bool) (Q : pm_R → pm_H → Prop) (x1 : Int32) (x2 : Int32) (I : Nat → Nat → Int32) (J : Nat → Nat → Int64) : Prop := pm_T (pm_Ev d) 312 Q (0, [(0, .ref 0), (1, .int x1), (2, .int x2), (3, .ref 117)], [], pm_hp L fz t I J, 0, 0)
def t_L_unlike_8 (d L : Nat) (fz t : Bool) (Q : pm_R → pm_H → Prop) (s1 : Int32) (r : Int32) (I : Nat → Nat → Int32) (J : Nat → Nat → Int64) : Prop := pm_T (pm_Ev d) 312 Q (8, [], [.int r, .int s1, .ref 117], pm_hp L fz t I J, 4, 24)
def K_L_unlike_8 (d : Nat) (fz t : Bool) (Q : pm_R → pm_H → Prop) (s1 : Int32) : pm_R → pm_H → Prop := pm_KH d 312 Q 8 [] [.int s1, .ref 117] [(1, 15)] 118 4 fz 4 24
def t_L_unlike_15 (d L : Nat) (fz t : Bool) (Q : pm_R → pm_H → Prop) (I : Nat → Nat → Int32) (J : Nat → Nat → Int64) : Prop := pm_T (pm_Ev d) 312 Q (15, [], [], pm_hp L fz t I J, 4, 24)
set_option maxRecDepth 100000 in
theorem b_L_unlike_0 {d L : Nat} {fz t : Bool} {Q : pm_R → pm_H → Prop} {x1 : Int32} {x2 : Int32} {I : Nat → Nat → Int32} {J : Nat → Nat → Int64}
    (h : pm_Ev d 275 [.ref 0, .int x1, .int x2] (pm_hp L fz t I J) (K_L_unlike_8 d fz t Q (nI 0))) :
    t_L_unlike_0 d L fz t Q x1 x2 I J := by
  refine pm_go d [(8, []), (15, [])] 400 (pm_Ev_mono d _ _ _ _ _ (fun r h' q => ?_) h)
  cases r with
  | inl v => exact q
  | inr x =>
    rcases pm_bx q with ⟨rfl, q⟩ | q
    · exact q
    · exact q.elim
theorem e_L_unlike {d L : Nat} {fz t : Bool} {Q : pm_R → pm_H → Prop} {x1 : Int32} {x2 : Int32} {I : Nat → Nat → Int32} {J : Nat → Nat → Int64}
    (h : pm_Ev d 275 [.ref 0, .int x1, .int x2] (pm_hp L fz t I J) (K_L_unlike_8 d fz t Q (nI 0))) :
    pm_Ev (d + 1) 312 [.ref 0, .int x1, .int x2, .ref 117] (pm_hp L fz t I J) Q := pm_Ev_in rfl (b_L_unlike_0 h)
set_option maxRecDepth 100000 in
theorem b_L_unlike_8 {d L : Nat} {fz t : Bool} {Q : pm_R → pm_H → Prop} {s1 : Int32} {r : Int32} {I : Nat → Nat → Int32} {J : Nat → Nat → Int64}
    (h : (vp_in s1 1 ∧ Q (.inl (some (.int (nI 0)))) (pm_hp L fz t I (pm_u J 117 (s1).toNatClampNeg ((r).toInt64))))) :
    t_L_unlike_8 d L fz t Q s1 r I J := by
  exact pm_go d [(8, []), (15, [])] 400 ⟨(h).1, (h).2⟩
theorem kb_L_unlike_8 {d L : Nat} {fz t : Bool} {Q : pm_R → pm_H → Prop} {s1 : Int32} {r : Int32} {fz1 : Bool} {I : Nat → Nat → Int32} {J : Nat → Nat → Int64}
    (h : (vp_in s1 1 ∧ Q (.inl (some (.int (nI 0)))) (pm_hp L true t I (pm_u J 117 (s1).toNatClampNeg ((r).toInt64))))) :
    K_L_unlike_8 d fz t Q s1 (.inl (some (.int r))) (pm_hp L fz1 t I J) := b_L_unlike_8 h
set_option maxRecDepth 100000 in
theorem b_L_unlike_15 {d L : Nat} {fz t : Bool} {Q : pm_R → pm_H → Prop} {I : Nat → Nat → Int32} {J : Nat → Nat → Int64}
    (h : Q (.inl (some (.int (nI 1)))) (pm_hp L fz t I J)) :
    t_L_unlike_15 d L fz t Q I J := by
  exact pm_go d [(8, []), (15, [])] 400 h
def t_L_family_0 (d L : Nat) (fz t : Bool) (Q : pm_R → pm_H → Prop) (x1 : Int32) (I : Nat → Nat → Int32) (J : Nat → Nat → Int64) : Prop := pm_T (pm_Ev d) 313 Q (0, [(0, .ref 0), (1, .int x1), (2, .ref 117)], [], pm_hp L fz t I J, 0, 0)
def t_L_family_7 (d L : Nat) (fz t : Bool) (Q : pm_R → pm_H → Prop) (s1 : Int32) (r : Int32) (I : Nat → Nat → Int32) (J : Nat → Nat → Int64) : Prop := pm_T (pm_Ev d) 313 Q (7, [], [.int r, .int s1, .ref 117], pm_hp L fz t I J, 4, 24)
def K_L_family_7 (d : Nat) (fz t : Bool) (Q : pm_R → pm_H → Prop) (s1 : Int32) : pm_R → pm_H → Prop := pm_KH d 313 Q 7 [] [.int s1, .ref 117] [(1, 13)] 118 4 fz 4 24
def t_L_family_13 (d L : Nat) (fz t : Bool) (Q : pm_R → pm_H → Prop) (I : Nat → Nat → Int32) (J : Nat → Nat → Int64) : Prop := pm_T (pm_Ev d) 313 Q (13, [], [], pm_hp L fz t I J, 4, 24)
set_option maxRecDepth 100000 in
theorem b_L_family_0 {d L : Nat} {fz t : Bool} {Q : pm_R → pm_H → Prop} {x1 : Int32} {I : Nat → Nat → Int32} {J : Nat → Nat → Int64}
    (h : pm_Ev d 276 [.ref 0, .int x1] (pm_hp L fz t I J) (K_L_family_7 d fz t Q (nI 0))) :
    t_L_family_0 d L fz t Q x1 I J := by
  refine pm_go d [(7, []), (13, [])] 400 (pm_Ev_mono d _ _ _ _ _ (fun r h' q => ?_) h)
  cases r with
  | inl v => exact q
  | inr x =>
    rcases pm_bx q with ⟨rfl, q⟩ | q
    · exact q
    · exact q.elim
theorem e_L_family {d L : Nat} {fz t : Bool} {Q : pm_R → pm_H → Prop} {x1 : Int32} {I : Nat → Nat → Int32} {J : Nat → Nat → Int64}
    (h : pm_Ev d 276 [.ref 0, .int x1] (pm_hp L fz t I J) (K_L_family_7 d fz t Q (nI 0))) :
    pm_Ev (d + 1) 313 [.ref 0, .int x1, .ref 117] (pm_hp L fz t I J) Q := pm_Ev_in rfl (b_L_family_0 h)
set_option maxRecDepth 100000 in
theorem b_L_family_7 {d L : Nat} {fz t : Bool} {Q : pm_R → pm_H → Prop} {s1 : Int32} {r : Int32} {I : Nat → Nat → Int32} {J : Nat → Nat → Int64}
    (h : (vp_in s1 1 ∧ Q (.inl (some (.int (nI 0)))) (pm_hp L fz t I (pm_u J 117 (s1).toNatClampNeg ((r).toInt64))))) :
    t_L_family_7 d L fz t Q s1 r I J := by
  exact pm_go d [(7, []), (13, [])] 400 ⟨(h).1, (h).2⟩
theorem kb_L_family_7 {d L : Nat} {fz t : Bool} {Q : pm_R → pm_H → Prop} {s1 : Int32} {r : Int32} {fz1 : Bool} {I : Nat → Nat → Int32} {J : Nat → Nat → Int64}
    (h : (vp_in s1 1 ∧ Q (.inl (some (.int (nI 0)))) (pm_hp L true t I (pm_u J 117 (s1).toNatClampNeg ((r).toInt64))))) :
    K_L_family_7 d fz t Q s1 (.inl (some (.int r))) (pm_hp L fz1 t I J) := b_L_family_7 h
set_option maxRecDepth 100000 in
theorem b_L_family_13 {d L : Nat} {fz t : Bool} {Q : pm_R → pm_H → Prop} {I : Nat → Nat → Int32} {J : Nat → Nat → Int64}
    (h : Q (.inl (some (.int (nI 1)))) (pm_hp L fz t I J)) :
    t_L_family_13 d L fz t Q I J := by
  exact pm_go d [(7, []), (13, [])] 400 h
def t_L_turning_0 (d L : Nat) (fz t : Bool) (Q : pm_R → pm_H → Prop) (x1 : Int32) (I : Nat → Nat → Int32) (J : Nat → Nat → Int64) : Prop := pm_T (pm_Ev d) 314 Q (0, [(0, .ref 0), (1, .int x1), (2, .ref 117)], [], pm_hp L fz t I J, 0, 0)
def t_L_turning_7 (d L : Nat) (fz t : Bool) (Q : pm_R → pm_H → Prop) (s1 : Int32) (r : Int32) (I : Nat → Nat → Int32) (J : Nat → Nat → Int64) : Prop := pm_T (pm_Ev d) 314 Q (7, [], [.int r, .int s1, .ref 117], pm_hp L fz t I J, 4, 24)
def K_L_turning_7 (d : Nat) (fz t : Bool) (Q : pm_R → pm_H → Prop) (s1 : Int32) : pm_R → pm_H → Prop := pm_KH d 314 Q 7 [] [.int s1, .ref 117] [(1, 13)] 118 4 fz 4 24
def t_L_turning_13 (d L : Nat) (fz t : Bool) (Q : pm_R → pm_H → Prop) (I : Nat → Nat → Int32) (J : Nat → Nat → Int64) : Prop := pm_T (pm_Ev d) 314 Q (13, [], [], pm_hp L fz t I J, 4, 24)
set_option maxRecDepth 100000 in
theorem b_L_turning_0 {d L : Nat} {fz t : Bool} {Q : pm_R → pm_H → Prop} {x1 : Int32} {I : Nat → Nat → Int32} {J : Nat → Nat → Int64}
    (h : pm_Ev d 277 [.ref 0, .int x1] (pm_hp L fz t I J) (K_L_turning_7 d fz t Q (nI 0))) :
    t_L_turning_0 d L fz t Q x1 I J := by
  refine pm_go d [(7, []), (13, [])] 400 (pm_Ev_mono d _ _ _ _ _ (fun r h' q => ?_) h)
  cases r with
  | inl v => exact q
  | inr x =>
    rcases pm_bx q with ⟨rfl, q⟩ | q
    · exact q
    · exact q.elim
theorem e_L_turning {d L : Nat} {fz t : Bool} {Q : pm_R → pm_H → Prop} {x1 : Int32} {I : Nat → Nat → Int32} {J : Nat → Nat → Int64}
    (h : pm_Ev d 277 [.ref 0, .int x1] (pm_hp L fz t I J) (K_L_turning_7 d fz t Q (nI 0))) :
    pm_Ev (d + 1) 314 [.ref 0, .int x1, .ref 117] (pm_hp L fz t I J) Q := pm_Ev_in rfl (b_L_turning_0 h)
set_option maxRecDepth 100000 in
theorem b_L_turning_7 {d L : Nat} {fz t : Bool} {Q : pm_R → pm_H → Prop} {s1 : Int32} {r : Int32} {I : Nat → Nat → Int32} {J : Nat → Nat → Int64}
    (h : (vp_in s1 1 ∧ Q (.inl (some (.int (nI 0)))) (pm_hp L fz t I (pm_u J 117 (s1).toNatClampNeg ((r).toInt64))))) :
    t_L_turning_7 d L fz t Q s1 r I J := by
  exact pm_go d [(7, []), (13, [])] 400 ⟨(h).1, (h).2⟩
theorem kb_L_turning_7 {d L : Nat} {fz t : Bool} {Q : pm_R → pm_H → Prop} {s1 : Int32} {r : Int32} {fz1 : Bool} {I : Nat → Nat → Int32} {J : Nat → Nat → Int64}
    (h : (vp_in s1 1 ∧ Q (.inl (some (.int (nI 0)))) (pm_hp L true t I (pm_u J 117 (s1).toNatClampNeg ((r).toInt64))))) :
    K_L_turning_7 d fz t Q s1 (.inl (some (.int r))) (pm_hp L fz1 t I J) := b_L_turning_7 h
set_option maxRecDepth 100000 in
theorem b_L_turning_13 {d L : Nat} {fz t : Bool} {Q : pm_R → pm_H → Prop} {I : Nat → Nat → Int32} {J : Nat → Nat → Int64}
    (h : Q (.inl (some (.int (nI 1)))) (pm_hp L fz t I J)) :
    t_L_turning_13 d L fz t Q I J := by
  exact pm_go d [(7, []), (13, [])] 400 h
def t_L_leftOut_0 (d L : Nat) (fz t : Bool) (Q : pm_R → pm_H → Prop) (x1 : Int32) (I : Nat → Nat → Int32) (J : Nat → Nat → Int64) : Prop := pm_T (pm_Ev d) 315 Q (0, [(0, .ref 0), (1, .int x1), (2, .ref 117)], [], pm_hp L fz t I J, 0, 0)
def t_L_leftOut_7 (d L : Nat) (fz t : Bool) (Q : pm_R → pm_H → Prop) (s1 : Int32) (r : Int32) (I : Nat → Nat → Int32) (J : Nat → Nat → Int64) : Prop := pm_T (pm_Ev d) 315 Q (7, [], [.int r, .int s1, .ref 117], pm_hp L fz t I J, 4, 24)
def K_L_leftOut_7 (d : Nat) (fz t : Bool) (Q : pm_R → pm_H → Prop) (s1 : Int32) : pm_R → pm_H → Prop := pm_KH d 315 Q 7 [] [.int s1, .ref 117] [(1, 13)] 118 4 fz 4 24
def t_L_leftOut_13 (d L : Nat) (fz t : Bool) (Q : pm_R → pm_H → Prop) (I : Nat → Nat → Int32) (J : Nat → Nat → Int64) : Prop := pm_T (pm_Ev d) 315 Q (13, [], [], pm_hp L fz t I J, 4, 24)
set_option maxRecDepth 100000 in
theorem b_L_leftOut_0 {d L : Nat} {fz t : Bool} {Q : pm_R → pm_H → Prop} {x1 : Int32} {I : Nat → Nat → Int32} {J : Nat → Nat → Int64}
    (h : pm_Ev d 278 [.ref 0, .int x1] (pm_hp L fz t I J) (K_L_leftOut_7 d fz t Q (nI 0))) :
    t_L_leftOut_0 d L fz t Q x1 I J := by
  refine pm_go d [(7, []), (13, [])] 400 (pm_Ev_mono d _ _ _ _ _ (fun r h' q => ?_) h)
  cases r with
  | inl v => exact q
  | inr x =>
    rcases pm_bx q with ⟨rfl, q⟩ | q
    · exact q
    · exact q.elim
theorem e_L_leftOut {d L : Nat} {fz t : Bool} {Q : pm_R → pm_H → Prop} {x1 : Int32} {I : Nat → Nat → Int32} {J : Nat → Nat → Int64}
    (h : pm_Ev d 278 [.ref 0, .int x1] (pm_hp L fz t I J) (K_L_leftOut_7 d fz t Q (nI 0))) :
    pm_Ev (d + 1) 315 [.ref 0, .int x1, .ref 117] (pm_hp L fz t I J) Q := pm_Ev_in rfl (b_L_leftOut_0 h)
set_option maxRecDepth 100000 in
theorem b_L_leftOut_7 {d L : Nat} {fz t : Bool} {Q : pm_R → pm_H → Prop} {s1 : Int32} {r : Int32} {I : Nat → Nat → Int32} {J : Nat → Nat → Int64}
    (h : (vp_in s1 1 ∧ Q (.inl (some (.int (nI 0)))) (pm_hp L fz t I (pm_u J 117 (s1).toNatClampNeg ((r).toInt64))))) :
    t_L_leftOut_7 d L fz t Q s1 r I J := by
  exact pm_go d [(7, []), (13, [])] 400 ⟨(h).1, (h).2⟩
theorem kb_L_leftOut_7 {d L : Nat} {fz t : Bool} {Q : pm_R → pm_H → Prop} {s1 : Int32} {r : Int32} {fz1 : Bool} {I : Nat → Nat → Int32} {J : Nat → Nat → Int64}
    (h : (vp_in s1 1 ∧ Q (.inl (some (.int (nI 0)))) (pm_hp L true t I (pm_u J 117 (s1).toNatClampNeg ((r).toInt64))))) :
    K_L_leftOut_7 d fz t Q s1 (.inl (some (.int r))) (pm_hp L fz1 t I J) := b_L_leftOut_7 h
set_option maxRecDepth 100000 in
theorem b_L_leftOut_13 {d L : Nat} {fz t : Bool} {Q : pm_R → pm_H → Prop} {I : Nat → Nat → Int32} {J : Nat → Nat → Int64}
    (h : Q (.inl (some (.int (nI 1)))) (pm_hp L fz t I J)) :
    t_L_leftOut_13 d L fz t Q I J := by
  exact pm_go d [(7, []), (13, [])] 400 h
def t_L_cutting_0 (d L : Nat) (fz t : Bool) (Q : pm_R → pm_H → Prop) (x1 : Int32) (I : Nat → Nat → Int32) (J : Nat → Nat → Int64) : Prop := pm_T (pm_Ev d) 316 Q (0, [(0, .ref 0), (1, .int x1), (2, .ref 117)], [], pm_hp L fz t I J, 0, 0)
def t_L_cutting_7 (d L : Nat) (fz t : Bool) (Q : pm_R → pm_H → Prop) (s1 : Int32) (r : Int32) (I : Nat → Nat → Int32) (J : Nat → Nat → Int64) : Prop := pm_T (pm_Ev d) 316 Q (7, [], [.int r, .int s1, .ref 117], pm_hp L fz t I J, 4, 24)
def K_L_cutting_7 (d : Nat) (fz t : Bool) (Q : pm_R → pm_H → Prop) (s1 : Int32) : pm_R → pm_H → Prop := pm_KH d 316 Q 7 [] [.int s1, .ref 117] [(2, 13)] 118 4 fz 4 24
def t_L_cutting_13 (d L : Nat) (fz t : Bool) (Q : pm_R → pm_H → Prop) (I : Nat → Nat → Int32) (J : Nat → Nat → Int64) : Prop := pm_T (pm_Ev d) 316 Q (13, [], [], pm_hp L fz t I J, 4, 24)
set_option maxRecDepth 100000 in
theorem b_L_cutting_0 {d L : Nat} {fz t : Bool} {Q : pm_R → pm_H → Prop} {x1 : Int32} {I : Nat → Nat → Int32} {J : Nat → Nat → Int64}
    (h : pm_Ev d 279 [.ref 0, .int x1] (pm_hp L fz t I J) (K_L_cutting_7 d fz t Q (nI 0))) :
    t_L_cutting_0 d L fz t Q x1 I J := by
  refine pm_go d [(7, []), (13, [])] 400 (pm_Ev_mono d _ _ _ _ _ (fun r h' q => ?_) h)
  cases r with
  | inl v => exact q
  | inr x =>
    rcases pm_bx q with ⟨rfl, q⟩ | q
    · exact q
    · exact q.elim
theorem e_L_cutting {d L : Nat} {fz t : Bool} {Q : pm_R → pm_H → Prop} {x1 : Int32} {I : Nat → Nat → Int32} {J : Nat → Nat → Int64}
    (h : pm_Ev d 279 [.ref 0, .int x1] (pm_hp L fz t I J) (K_L_cutting_7 d fz t Q (nI 0))) :
    pm_Ev (d + 1) 316 [.ref 0, .int x1, .ref 117] (pm_hp L fz t I J) Q := pm_Ev_in rfl (b_L_cutting_0 h)
set_option maxRecDepth 100000 in
theorem b_L_cutting_7 {d L : Nat} {fz t : Bool} {Q : pm_R → pm_H → Prop} {s1 : Int32} {r : Int32} {I : Nat → Nat → Int32} {J : Nat → Nat → Int64}
    (h : (vp_in s1 1 ∧ Q (.inl (some (.int (nI 0)))) (pm_hp L fz t I (pm_u J 117 (s1).toNatClampNeg ((r).toInt64))))) :
    t_L_cutting_7 d L fz t Q s1 r I J := by
  exact pm_go d [(7, []), (13, [])] 400 ⟨(h).1, (h).2⟩
theorem kb_L_cutting_7 {d L : Nat} {fz t : Bool} {Q : pm_R → pm_H → Prop} {s1 : Int32} {r : Int32} {fz1 : Bool} {I : Nat → Nat → Int32} {J : Nat → Nat → Int64}
    (h : (vp_in s1 1 ∧ Q (.inl (some (.int (nI 0)))) (pm_hp L true t I (pm_u J 117 (s1).toNatClampNeg ((r).toInt64))))) :
    K_L_cutting_7 d fz t Q s1 (.inl (some (.int r))) (pm_hp L fz1 t I J) := b_L_cutting_7 h
set_option maxRecDepth 100000 in
theorem b_L_cutting_13 {d L : Nat} {fz t : Bool} {Q : pm_R → pm_H → Prop} {I : Nat → Nat → Int32} {J : Nat → Nat → Int64}
    (h : Q (.inl (some (.int (nI 1)))) (pm_hp L fz t I J)) :
    t_L_cutting_13 d L fz t Q I J := by
  exact pm_go d [(7, []), (13, [])] 400 h
def t_L_mirrored_0 (d L : Nat) (fz t : Bool) (Q : pm_R → pm_H → Prop) (x1 : Int32) (I : Nat → Nat → Int32) (J : Nat → Nat → Int64) : Prop := pm_T (pm_Ev d) 317 Q (0, [(0, .ref 0), (1, .int x1), (2, .ref 117)], [], pm_hp L fz t I J, 0, 0)
def t_L_mirrored_7 (d L : Nat) (fz t : Bool) (Q : pm_R → pm_H → Prop) (s1 : Int32) (r : Int32) (I : Nat → Nat → Int32) (J : Nat → Nat → Int64) : Prop := pm_T (pm_Ev d) 317 Q (7, [], [.int r, .int s1, .ref 117], pm_hp L fz t I J, 4, 24)
def K_L_mirrored_7 (d : Nat) (fz t : Bool) (Q : pm_R → pm_H → Prop) (s1 : Int32) : pm_R → pm_H → Prop := pm_KH d 317 Q 7 [] [.int s1, .ref 117] [(1, 20)] 118 4 fz 4 24
def t_L_mirrored_20 (d L : Nat) (fz t : Bool) (Q : pm_R → pm_H → Prop) (I : Nat → Nat → Int32) (J : Nat → Nat → Int64) : Prop := pm_T (pm_Ev d) 317 Q (20, [], [], pm_hp L fz t I J, 4, 24)
set_option maxRecDepth 100000 in
theorem b_L_mirrored_0 {d L : Nat} {fz t : Bool} {Q : pm_R → pm_H → Prop} {x1 : Int32} {I : Nat → Nat → Int32} {J : Nat → Nat → Int64}
    (h : pm_Ev d 280 [.ref 0, .int x1] (pm_hp L fz t I J) (K_L_mirrored_7 d fz t Q (nI 0))) :
    t_L_mirrored_0 d L fz t Q x1 I J := by
  refine pm_go d [(7, []), (20, [])] 400 (pm_Ev_mono d _ _ _ _ _ (fun r h' q => ?_) h)
  cases r with
  | inl v => exact q
  | inr x =>
    rcases pm_bx q with ⟨rfl, q⟩ | q
    · exact q
    · exact q.elim
theorem e_L_mirrored {d L : Nat} {fz t : Bool} {Q : pm_R → pm_H → Prop} {x1 : Int32} {I : Nat → Nat → Int32} {J : Nat → Nat → Int64}
    (h : pm_Ev d 280 [.ref 0, .int x1] (pm_hp L fz t I J) (K_L_mirrored_7 d fz t Q (nI 0))) :
    pm_Ev (d + 1) 317 [.ref 0, .int x1, .ref 117] (pm_hp L fz t I J) Q := pm_Ev_in rfl (b_L_mirrored_0 h)
set_option maxRecDepth 100000 in
theorem b_L_mirrored_7 {d L : Nat} {fz t : Bool} {Q : pm_R → pm_H → Prop} {s1 : Int32} {r : Int32} {I : Nat → Nat → Int32} {J : Nat → Nat → Int64}
    (h : ((r = (nI 0) → (vp_in s1 1 ∧ Q (.inl (some (.int (nI 0)))) (pm_hp L fz t I (pm_u J 117 (s1).toNatClampNeg (Int64.ofNat 0))))) ∧ (¬ r = (nI 0) → (vp_in s1 1 ∧ Q (.inl (some (.int (nI 0)))) (pm_hp L fz t I (pm_u J 117 (s1).toNatClampNeg (Int64.ofNat 1))))))) :
    t_L_mirrored_7 d L fz t Q s1 r I J := by
  exact pm_go d [(7, []), (20, [])] 400 ⟨fun q0 => ⟨(((h).1 q0)).1, (((h).1 q0)).2⟩, fun q0 => ⟨(((h).2 q0)).1, (((h).2 q0)).2⟩⟩
theorem kb_L_mirrored_7 {d L : Nat} {fz t : Bool} {Q : pm_R → pm_H → Prop} {s1 : Int32} {r : Int32} {fz1 : Bool} {I : Nat → Nat → Int32} {J : Nat → Nat → Int64}
    (h : ((r = (nI 0) → (vp_in s1 1 ∧ Q (.inl (some (.int (nI 0)))) (pm_hp L true t I (pm_u J 117 (s1).toNatClampNeg (Int64.ofNat 0))))) ∧ (¬ r = (nI 0) → (vp_in s1 1 ∧ Q (.inl (some (.int (nI 0)))) (pm_hp L true t I (pm_u J 117 (s1).toNatClampNeg (Int64.ofNat 1))))))) :
    K_L_mirrored_7 d fz t Q s1 (.inl (some (.int r))) (pm_hp L fz1 t I J) := b_L_mirrored_7 h
set_option maxRecDepth 100000 in
theorem b_L_mirrored_20 {d L : Nat} {fz t : Bool} {Q : pm_R → pm_H → Prop} {I : Nat → Nat → Int32} {J : Nat → Nat → Int64}
    (h : Q (.inl (some (.int (nI 1)))) (pm_hp L fz t I J)) :
    t_L_mirrored_20 d L fz t Q I J := by
  exact pm_go d [(7, []), (20, [])] 400 h
