/-! from cut to cut -/
/-- the locals of these numbers -/
def pm_keep (ks : List Nat) : pm_L → pm_L
  | [] => []
  | q :: l => bif ks.any (Nat.beq q.1) then q :: pm_keep ks l else pm_keep ks l
theorem pm_keep_mem (ks : List Nat) : ∀ (l : pm_L), ∀ q ∈ pm_keep ks l, q ∈ l
  | [], _, h => h
  | p :: l, q, h => by
    unfold pm_keep at h
    cases hb : ks.any (Nat.beq p.1) with
    | true =>
      rw [hb] at h
      rcases List.mem_cons.mp h with h | h
      · exact List.mem_cons.mpr (Or.inl h)
      · exact List.mem_cons.mpr (Or.inr (pm_keep_mem ks l q h))
    | false =>
      rw [hb] at h
      exact List.mem_cons.mpr (Or.inr (pm_keep_mem ks l q h))
def pm_cut (pc : Nat) : List (Nat × List Nat) → Option (List Nat)
  | [] => none
  | (p, ks) :: r => bif Nat.beq p pc then some ks else pm_cut pc r
/-- on from s, until a pc of cs; there the locals that are wanted later -/
def pm_run (E : pm_E) (k : Nat) (cs : List (Nat × List Nat)) (Q : pm_R → pm_H → Prop) : Nat → pm_F → Prop
  | 0, s => pm_T E k Q s
  | f + 1, s => match pm_cut s.1 cs with
    | some ks => pm_T E k Q (s.1, pm_keep ks s.2.1, s.2.2)
    | none => pm_step E k s (pm_run E k cs Q f) Q
theorem pm_run_T {E : pm_E} (hE : pm_mono E) {k : Nat} {cs : List (Nat × List Nat)} {Q : pm_R → pm_H → Prop} : ∀ (f : Nat) (s : pm_F), pm_run E k cs Q f s → pm_T E k Q s
  | 0, _, h => h
  | f + 1, s, h => by
    unfold pm_run at h
    cases hb : pm_cut s.1 cs with
    | some ks =>
      rw [hb] at h
      obtain ⟨pc, lv, st, hh, c, z⟩ := s
      exact pm_T_weak (pm_keep_mem ks lv) h
    | none => rw [hb] at h; exact pm_T_step hE (pm_step_mono hE (pm_run_T hE f) (fun _ _ q => q) h)
theorem pm_go (d : Nat) {k : Nat} {Q : pm_R → pm_H → Prop} {s : pm_F} (cs : List (Nat × List Nat)) (f : Nat) (h : pm_step (pm_Ev d) k s (pm_run (pm_Ev d) k cs Q f) Q) : pm_T (pm_Ev d) k Q s :=
  pm_T_step (pm_Ev_mono d) (pm_step_mono (pm_Ev_mono d) (pm_run_T (pm_Ev_mono d) f) (fun _ _ q => q) h)
/-- what comes behind a call -/
def pm_K (d k : Nat) (Q : pm_R → pm_H → Prop) (pc : Nat) (lv : pm_L) (rest : List Value) (n mc : Nat) (fz : Bool) (c z : Nat) : pm_R → pm_H → Prop := fun r h' => match r with
  | .inl v => pm_T (pm_Ev d) k Q (pc, lv, v.toList ++ rest, (bif Nat.beq h'.2.1 (n + mc) then fz else true, h'.2), c, z)
  | .inr x => Q (.inr x) h'
/-- what comes behind a call that a handler waits for -/
def pm_KH (d k : Nat) (Q : pm_R → pm_H → Prop) (pc : Nat) (lv : pm_L) (rest : List Value) (hs : List (Nat × Nat)) (n mc : Nat) (fz : Bool) (c z : Nat) : pm_R → pm_H → Prop := fun r h' => match r with
  | .inl v => pm_T (pm_Ev d) k Q (pc, lv, v.toList ++ rest, (bif Nat.beq h'.2.1 (n + mc) then fz else true, h'.2), c, z)
  | .inr x => match hs with
    | [] => False
    | (y, t) :: hs' => bif Nat.beq x y then pm_T (pm_Ev d) k Q (t, [], [], (true, h'.2), c, z) else match hs' with
      | [] => False
      | (y', t') :: _ => bif Nat.beq x y' then pm_T (pm_Ev d) k Q (t', [], [], (true, h'.2), c, z) else False
theorem pm_Ev_in {d k : Nat} {as : List Value} {h : pm_H} {Q : pm_R → pm_H → Prop} (hl : Nat.ble (pm_cat as) (pm_ml k) = true) (q : pm_T (pm_Ev d) k Q (0, lv_args 0 as, [], h, 0, 0)) : pm_Ev (d + 1) k as h Q := by
  show (bif Nat.ble (pm_cat as) (pm_ml k) then pm_T (pm_Ev d) k Q (0, lv_args 0 as, [], h, 0, 0) else False)
  rw [hl]; exact q
