/-! the state that the constructors leave -/
def opR : List (Nat × Option (Nat × Nat)) := [(0, none), (1, none), (2, none), (1, some (0, 2)), (0, some (0, 1)), (3, none), (4, none), (3, some (0, 4)), (5, none), (3, some (2, 5)), (6, none), (3, some (3, 6)), (7, none), (3, some (4, 7)), (8, none), (3, some (5, 8)), (0, some (1, 3)), (9, none), (10, none), (9, some (0, 10)), (11, none), (9, some (1, 11)), (0, some (2, 9)), (12, none), (13, none), (12, some (0, 13)), (14, none), (12, some (1, 14)), (15, none), (12, some (2, 15)), (0, some (3, 12)), (16, none), (17, none), (16, some (0, 17)), (18, none), (16, some (1, 18)), (19, none), (16, some (2, 19)), (0, some (4, 16)), (20, none), (0, some (5, 20)), (21, none), (0, some (6, 21)), (22, none), (0, some (7, 22)), (23, none), (24, none), (23, some (0, 24)), (25, none), (23, some (1, 25)), (26, none), (23, some (2, 26)), (0, some (8, 23)), (27, none), (28, none), (27, some (0, 28)), (29, none), (27, some (1, 29)), (30, none), (27, some (2, 30)), (0, some (9, 27)), (31, none), (32, none), (31, some (0, 32)), (33, none), (31, some (1, 33)), (34, none), (31, some (2, 34)), (0, some (10, 31)), (35, none), (36, none), (35, some (0, 36)), (37, none), (35, some (1, 37)), (38, none), (35, some (2, 38)), (39, none), (35, some (3, 39)), (0, some (11, 35)), (40, none), (41, none), (40, some (0, 41)), (42, none), (40, some (1, 42)), (43, none), (40, some (2, 43)), (44, none), (40, some (3, 44)), (0, some (12, 40)), (45, none), (46, none), (45, some (0, 46)), (47, none), (45, some (1, 47)), (48, none), (45, some (2, 48)), (49, none), (45, some (3, 49)), (0, some (13, 45)), (50, none), (51, none), (50, some (0, 51)), (52, none), (50, some (1, 52)), (53, none), (50, some (2, 53)), (54, none), (50, some (3, 54)), (0, some (14, 50)), (55, none), (56, none), (55, some (0, 56)), (57, none), (55, some (1, 57)), (58, none), (55, some (2, 58)), (59, none), (55, some (3, 59)), (60, none), (55, some (4, 60)), (61, none), (55, some (5, 61)), (62, none), (55, some (6, 62)), (63, none), (55, some (7, 63)), (64, none), (65, none), (64, some (0, 65)), (66, none), (64, some (1, 66)), (55, some (8, 64)), (67, none), (68, none), (67, some (0, 68)), (69, none), (67, some (1, 69)), (55, some (9, 67)), (0, some (15, 55)), (70, none), (71, none), (70, some (0, 71)), (72, none), (70, some (1, 72)), (73, none), (70, some (2, 73)), (74, none), (70, some (3, 74)), (75, none), (70, some (4, 75)), (76, none), (70, some (5, 76)), (77, none), (70, some (6, 77)), (78, none), (70, some (7, 78)), (79, none), (80, none), (79, some (0, 80)), (81, none), (79, some (1, 81)), (70, some (8, 79)), (82, none), (83, none), (82, some (0, 83)), (84, none), (82, some (1, 84)), (70, some (9, 82)), (0, some (16, 70)), (85, none), (86, none), (85, some (7, 86)), (87, none), (85, some (8, 87)), (88, none), (85, some (9, 88)), (89, none), (85, some (10, 89)), (90, none), (85, some (11, 90)), (91, none), (85, some (12, 91)), (92, none), (85, some (13, 92)), (93, none), (85, some (17, 93)), (94, none), (85, some (37, 94)), (95, none), (85, some (38, 95)), (96, none), (85, some (39, 96)), (97, none), (85, some (40, 97)), (98, none), (85, some (41, 98)), (99, none), (85, some (42, 99)), (100, none), (85, some (43, 100)), (101, none), (85, some (44, 101)), (102, none), (85, some (45, 102)), (103, none), (85, some (46, 103)), (104, none), (85, some (47, 104)), (105, none), (85, some (49, 105)), (106, none), (85, some (50, 106)), (107, none), (85, some (51, 107)), (108, none), (85, some (53, 108)), (109, none), (85, some (54, 109)), (110, none), (85, some (56, 110)), (111, none), (85, some (57, 111)), (112, none), (85, some (58, 112)), (113, none), (85, some (59, 113)), (114, none), (85, some (64, 114)), (115, none), (85, some (65, 115)), (116, none), (85, some (66, 116)), (117, none)]
def apR (f : Nat → Nat → Option Nat) (o : Nat × Option (Nat × Nat)) : Nat → Nat → Option Nat := match o.2 with | none => pm_ur f o.1 (fun _ => none) | some (k, v) => pm_u f o.1 k (some v)
set_option maxRecDepth 100000 in
theorem hR_ops : hR233 = opR.foldl apR hR0 := rfl
theorem opR_x : ∀ (l : List (Nat × Option (Nat × Nat))) (f : Nat → Nat → Option Nat) (x y : Nat), (∀ o, o ∈ l → o.1 < 118) → 118 ≤ x → l.foldl apR f x y = f x y := by
  intro l
  induction l with
  | nil => intro f x y _ _; rfl
  | cons o l ih =>
    intro f x y h hx
    rw [List.foldl_cons, ih _ _ _ (fun o' ho => h o' (List.mem_cons_of_mem _ ho)) hx]
    have h0 := h o (List.mem_cons_self ..)
    obtain ⟨a, b⟩ := o
    cases b with
    | none => exact if_neg (by simp at h0; omega)
    | some b => exact if_neg (by simp at h0; omega)
theorem opR_y : ∀ (l : List (Nat × Option (Nat × Nat))) (f : Nat → Nat → Option Nat) (x y : Nat), (∀ o, o ∈ l → ∀ b, o.2 = some b → b.1 < 67) → 67 ≤ y → f x y = none → l.foldl apR f x y = none := by
  intro l
  induction l with
  | nil => intro f x y _ _ h; exact h
  | cons o l ih =>
    intro f x y h hx hf
    rw [List.foldl_cons]
    refine ih _ _ _ (fun o' ho => h o' (List.mem_cons_of_mem _ ho)) hx ?_
    have h0 := h o (List.mem_cons_self ..)
    obtain ⟨a, b⟩ := o
    cases b with
    | none => show (if x = a then none else f x y) = none; split <;> simp [hf]
    | some b => have := h0 b rfl; exact (if_neg (by omega)).trans hf
theorem opR_1 : ∀ o, o ∈ opR → o.1 < 118 := by decide +kernel
theorem opR_2 : ∀ o, o ∈ opR → ∀ b, o.2 = some b → b.1 < 67 := by
  have : ∀ o, o ∈ opR → (match o.2 with | none => true | some b => decide (b.1 < 67)) = true := by decide +kernel
  intro o ho b hb
  have h := this o ho
  rw [hb] at h
  exact of_decide_eq_true h
theorem R0_x {x : Nat} (y : Nat) (h : 118 ≤ x) : pm_R0 false x y = none := by
  have hb : ∀ k, k ≤ 118 → Nat.blt x k = false := fun k hk => by cases e : Nat.blt x k with | false => rfl | true => exact absurd (Nat.blt_eq.mp e) (by omega)
  have he : ∀ k, k < 118 → Nat.beq x k = false := fun k hk => by cases e : Nat.beq x k with | false => rfl | true => exact absurd (Nat.eq_of_beq_eq_true e) (by omega)
  simp [pm_R0, hb, he]
theorem R0_y (x : Nat) {y : Nat} (h : 67 ≤ y) : pm_R0 false x y = none := by
  have hb : ∀ k, k ≤ 67 → Nat.blt y k = false := fun k hk => by cases e : Nat.blt y k with | false => rfl | true => exact absurd (Nat.blt_eq.mp e) (by omega)
  have he : ∀ k, k < 67 → Nat.beq y k = false := fun k hk => by cases e : Nat.beq y k with | false => rfl | true => exact absurd (Nat.eq_of_beq_eq_true e) (by omega)
  simp [pm_R0, hb, he]
def lkR (y : Nat) (r : Option Nat) (o : Nat × Option (Nat × Nat)) : Option Nat := match o.2 with | none => none | some (k, v) => bif Nat.beq y k then some v else r
theorem opR_f : ∀ (l : List (Nat × Option (Nat × Nat))) (f : Nat → Nat → Option Nat) (x y : Nat), l.foldl apR f x y = (l.filter (fun o => Nat.beq o.1 x)).foldl (lkR y) (f x y) := by
  intro l
  induction l with
  | nil => intro f x y; rfl
  | cons o l ih =>
    intro f x y
    rw [List.foldl_cons, ih, List.filter_cons]
    obtain ⟨a, b⟩ := o
    by_cases e : a = x
    · rw [if_pos (show Nat.beq a x = true by rw [e]; exact Nat.beq_refl x), List.foldl_cons]
      congr 1
      cases b with
      | none => exact if_pos e.symm
      | some b =>
        obtain ⟨k, v⟩ := b
        show (if x = a ∧ y = k then some v else f x y) = bif Nat.beq y k then some v else f x y
        by_cases h : y = k
        · rw [if_pos ⟨e.symm, h⟩, h, Nat.beq_refl]; rfl
        · rw [if_neg (fun g => h g.2), show Nat.beq y k = false from by cases q : Nat.beq y k with | false => rfl | true => exact absurd (Nat.eq_of_beq_eq_true q) h]; rfl
    · rw [if_neg (fun q => e (Nat.eq_of_beq_eq_true q))]
      congr 1
      cases b with
      | none => exact if_neg (fun q => e q.symm)
      | some b => exact if_neg (fun q => e q.1.symm)
def eqO (a b : Option Nat) : Bool := match a, b with | none, none => true | some a, some b => Nat.beq a b | _, _ => false
theorem eqO_e {a b : Option Nat} (h : eqO a b = true) : a = b := by
  cases a <;> cases b
  · rfl
  · cases h
  · cases h
  · exact congrArg some (Nat.eq_of_beq_eq_true h)
theorem R0_all : (List.range 118).all (fun x => (List.range 67).all (fun y => eqO ((opR.filter (fun o => Nat.beq o.1 x)).foldl (lkR y) none) (pm_R0 false x y))) = true := by decide +kernel
theorem R0_lt : ∀ x, x < 118 → ∀ y, y < 67 → opR.foldl apR hR0 x y = pm_R0 false x y := by
  intro x hx y hy
  rw [opR_f]
  exact eqO_e (List.all_eq_true.mp (List.all_eq_true.mp R0_all x (List.mem_range.mpr hx)) y (List.mem_range.mpr hy))
theorem hR_eq : hR233 = pm_R0 false := by
  rw [hR_ops]
  funext x y
  by_cases hx : x < 118
  · by_cases hy : y < 67
    · exact R0_lt x hx y hy
    · rw [opR_y _ _ _ _ opR_2 (by omega) rfl, R0_y x (by omega)]
  · rw [opR_x _ _ _ _ opR_1 (by omega), R0_x y (by omega)]; rfl
def opS : List (Nat × Nat × Nat) := [(0, 10, 19), (1, 3, 10), (2, 101, 700), (3, 2, 6), (4, 100, 12), (5, 100, 12), (6, 100, 6), (7, 100, 1440), (8, 100, 120), (9, 5, 3), (10, 100, 8), (11, 100, 8), (12, 6, 3), (13, 100, 4), (14, 100, 100), (15, 100, 4608), (16, 8, 5), (17, 100, 10), (18, 100, 10), (19, 100, 12), (20, 100, 3), (21, 100, 120), (22, 100, 10), (23, 9, 6), (24, 100, 10), (25, 100, 10), (26, 100, 12), (27, 9, 6), (28, 100, 10), (29, 100, 10), (30, 100, 12), (31, 9, 6), (32, 100, 10), (33, 100, 10), (34, 100, 12), (35, 0, 5), (36, 100, 40), (37, 100, 40), (38, 100, 40), (39, 103, 40), (40, 0, 5), (41, 100, 40), (42, 100, 40), (43, 100, 40), (44, 103, 40), (45, 4, 5), (46, 100, 8), (47, 100, 8), (48, 100, 8), (49, 102, 8), (50, 4, 5), (51, 100, 8), (52, 100, 8), (53, 100, 8), (54, 102, 8), (55, 7, 16), (56, 100, 10), (57, 100, 10), (58, 100, 10), (59, 100, 12), (60, 100, 5), (61, 100, 5), (62, 100, 5), (63, 100, 15), (64, 1, 4), (65, 100, 700), (66, 100, 64), (67, 1, 4), (68, 100, 700), (69, 100, 64), (70, 7, 16), (71, 100, 10), (72, 100, 10), (73, 100, 10), (74, 100, 12), (75, 100, 5), (76, 100, 5), (77, 100, 5), (78, 100, 15), (79, 1, 4), (80, 100, 700), (81, 100, 64), (82, 1, 4), (83, 100, 700), (84, 100, 64), (85, 11, 67), (86, 100, 10), (87, 100, 5), (88, 100, 5), (89, 100, 5), (90, 100, 15), (91, 100, 1400), (92, 100, 700), (93, 100, 3), (94, 100, 10), (95, 100, 5), (96, 100, 5), (97, 100, 5), (98, 100, 15), (99, 100, 34), (100, 100, 1400), (101, 100, 950), (102, 102, 9), (103, 100, 68), (104, 100, 1360), (105, 100, 10), (106, 100, 950), (107, 100, 12), (108, 100, 12), (109, 100, 4608), (110, 100, 32), (111, 100, 120), (112, 100, 310), (113, 100, 40960), (114, 100, 34), (115, 100, 1360), (116, 100, 32), (117, 103, 1)]
def apS (f : Nat → Nat × Nat) (o : Nat × Nat × Nat) : Nat → Nat × Nat := fun x => if x = o.1 then o.2 else f x
set_option maxRecDepth 100000 in
theorem hs_ops (L : Nat) : hs118 L = opS.foldl apS (hs0 L) := rfl
theorem opS_x : ∀ (l : List (Nat × Nat × Nat)) (f : Nat → Nat × Nat) (x : Nat), (∀ o, o ∈ l → o.1 < 118) → 118 ≤ x → l.foldl apS f x = f x := by
  intro l
  induction l with
  | nil => intro f x _ _; rfl
  | cons o l ih =>
    intro f x h hx
    rw [List.foldl_cons, ih _ _ (fun o' ho => h o' (List.mem_cons_of_mem _ ho)) hx]
    have h0 := h o (List.mem_cons_self ..)
    exact if_neg (by omega)
theorem opS_y : ∀ (l : List (Nat × Nat × Nat)) (f g : Nat → Nat × Nat) (x : Nat), (l.map (·.1)).contains x = true ∨ f x = g x → l.foldl apS f x = l.foldl apS g x := by
  intro l
  induction l with
  | nil => intro f g x h; exact h.elim (fun h => by simp at h) id
  | cons o l ih =>
    intro f g x h
    rw [List.foldl_cons, List.foldl_cons]
    refine ih _ _ _ ?_
    by_cases e : x = o.1
    · exact Or.inr (by show (if x = o.1 then o.2 else f x) = (if x = o.1 then o.2 else g x); rw [if_pos e, if_pos e])
    · rcases h with h | h
      · left
        rw [List.map_cons, List.contains_cons] at h
        rw [Bool.or_eq_true] at h
        exact h.resolve_left (fun h => e (by simpa using h))
      · exact Or.inr (by show (if x = o.1 then o.2 else f x) = (if x = o.1 then o.2 else g x); rw [h])
theorem S0_lt : ∀ x, x < 118 → (opS.map (·.1)).contains x = true ∧ opS.foldl apS (hs0 0) x = pm_sh0 0 x := by decide +kernel
theorem sh_lt (L : Nat) {x : Nat} (h : x < 118) : pm_sh0 L x = pm_sh0 0 x := by
  unfold pm_sh0
  rw [Nat.blt_eq.mpr h]
  rfl
theorem sh_ge (L : Nat) {x : Nat} (h : 118 ≤ x) : pm_sh0 L x = hs0 L x := by
  unfold pm_sh0
  rw [show Nat.blt x 118 = false from by cases e : Nat.blt x 118 with | false => rfl | true => exact absurd (Nat.blt_eq.mp e) (by omega)]
  rfl
theorem opS_1 : ∀ o, o ∈ opS → o.1 < 118 := by decide +kernel
theorem hs_eq (L : Nat) : hs118 L = pm_sh0 L := by
  rw [hs_ops]
  funext x
  by_cases hx : x < 118
  · rw [opS_y opS _ (hs0 0) x (Or.inl (S0_lt x hx).1), (S0_lt x hx).2, sh_lt L hx]
  · rw [opS_x _ _ _ opS_1 (by omega), sh_ge L (by omega)]
