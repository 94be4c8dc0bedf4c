/-! the small machine's cells in the heap -/
def pm_A (base : Nat) : Nat → Prop := fun q => base ≤ q
def pm_ad (base : Nat) (sad : Nat → Nat) (b x : Nat) : Nat := if x < 1000000 then base + x else if x < 2000000 then sad (x - 1000000) else b
def pm_tv (ad : Nat → Nat) (v : Value) : Value := match v with
  | .ref x => .ref (ad x)
  | w => w
theorem pm_tv_cat (ad : Nat → Nat) (v : Value) : (pm_tv ad v).category = v.category := by cases v <;> rfl
theorem pm_cat_map (ad : Nat → Nat) (st : List Value) : ((st.map (pm_tv ad)).map fun v => v.category).sum = pm_cat st := by
  unfold pm_cat
  rw [List.map_map]
  congr 1
  apply List.map_congr_left
  intro v _
  exact pm_tv_cat ad v
def pm_cel (cy : Nat → ClassId) (ad : Nat → Nat) (ks : Nat × Nat) (I : Nat → Int32) (J : Nat → Int64) (R : Nat → Option Nat) : va_E :=
  if ks.1 < 100 then .inr (ks.1, (List.range (pm_nf ks.1)).map (fun k => pm_tv ad (pm_fv (pm_ft ks.1 k) (fun _ => I) (fun _ => J) (fun _ => R) 0 k)))
  else if ks.1 = 103 then .inl (cy 103, ks.2, .inr (.inl J))
  else .inl (cy ks.1, ks.2, .inl I)
def pm_ws (base : Nat) (cy : Nat → ClassId) (ad : Nat → Nat) (n : Nat) (sh : Nat → Nat × Nat) (I : Nat → Nat → Int32) (J : Nat → Nat → Int64) (R : Nat → Nat → Option Nat) : va_W :=
  (List.range n).map (fun i => (base + i, pm_cel cy ad (sh i) (I i) (J i) (R i)))
section Ws
variable {base : Nat} {cy : Nat → ClassId} {ad : Nat → Nat} {n : Nat} {sh sh' : Nat → Nat × Nat} {I I' : Nat → Nat → Int32} {J J' : Nat → Nat → Int64} {R R' : Nat → Nat → Option Nat}
theorem pm_ws_get {i : Nat} (h : i < n) : (pm_ws base cy ad n sh I J R)[i]? = some (base + i, pm_cel cy ad (sh i) (I i) (J i) (R i)) := by
  simp [pm_ws, List.getElem?_map, List.getElem?_range h]
theorem pm_ws_inv {i : Nat} {q : Nat × va_E} (h : (pm_ws base cy ad n sh I J R)[i]? = some q) : i < n ∧ q = (base + i, pm_cel cy ad (sh i) (I i) (J i) (R i)) := by
  have hi : i < n := by
    have := (List.getElem?_eq_some_iff.mp h).1
    simpa [pm_ws] using this
  rw [pm_ws_get hi] at h
  exact ⟨hi, (Option.some.inj h).symm⟩
theorem pm_ws_D : va_D (pm_A base) (pm_ws base cy ad n sh I J R) := by
  refine ⟨fun i j p q hi hj e => ?_, fun k q hk => ?_⟩
  · obtain ⟨-, rfl⟩ := pm_ws_inv hi
    obtain ⟨-, rfl⟩ := pm_ws_inv hj
    exact Nat.add_left_cancel e
  · obtain ⟨-, rfl⟩ := pm_ws_inv hk
    exact Nat.le_add_right _ _
theorem pm_ws_set {i : Nat} {e : va_E} (hi : i < n) (he : e = pm_cel cy ad (sh' i) (I' i) (J' i) (R' i)) (hj : ∀ j, j ≠ i → sh' j = sh j ∧ I' j = I j ∧ J' j = J j ∧ R' j = R j) :
    (pm_ws base cy ad n sh I J R).set i (base + i, e) = pm_ws base cy ad n sh' I' J' R' := by
  apply List.ext_getElem?
  intro j
  rw [List.getElem?_set]
  by_cases hij : i = j
  · subst hij
    rw [if_pos rfl, if_pos (by simpa [pm_ws] using hi), pm_ws_get hi, he]
  · rw [if_neg hij]
    by_cases hjn : j < n
    · obtain ⟨h1, h2, h3, h4⟩ := hj j (fun q => hij q.symm)
      rw [pm_ws_get hjn, pm_ws_get hjn, h1, h2, h3, h4]
    · have e1 : (pm_ws base cy ad n sh I J R)[j]? = none := by
        apply List.getElem?_eq_none; simpa [pm_ws] using Nat.le_of_not_lt hjn
      have e2 : (pm_ws base cy ad n sh' I' J' R')[j]? = none := by
        apply List.getElem?_eq_none; simpa [pm_ws] using Nat.le_of_not_lt hjn
      rw [e1, e2]
theorem pm_ws_push {e : va_E} (he : e = pm_cel cy ad (sh' n) (I' n) (J' n) (R' n)) (hj : ∀ j, j ≠ n → sh' j = sh j ∧ I' j = I j ∧ J' j = J j ∧ R' j = R j) :
    pm_ws base cy ad n sh I J R ++ [(base + n, e)] = pm_ws base cy ad (n + 1) sh' I' J' R' := by
  unfold pm_ws
  rw [List.range_succ, List.map_append, he]
  congr 1
  apply List.map_congr_left
  intro j hjm
  have hjn : j ≠ n := Nat.ne_of_lt (List.mem_range.mp hjm)
  obtain ⟨h1, h2, h3, h4⟩ := hj j hjn
  rw [h1, h2, h3, h4]
end Ws
theorem pm_fv_row (t : Nat) (I : Nat → Nat → Int32) (J : Nat → Nat → Int64) (R : Nat → Nat → Option Nat) (a k : Nat) : pm_fv t (fun _ => I a) (fun _ => J a) (fun _ => R a) 0 k = pm_fv t I J R a k := by
  unfold pm_fv; split <;> rfl
theorem pm_mapset {α : Type} {n k : Nat} (f g : Nat → α) (v : α) (hv : g k = v) (ho : ∀ j, j ≠ k → g j = f j) : ((List.range n).map f).set k v = (List.range n).map g := by
  apply List.ext_getElem?
  intro j
  rw [List.getElem?_set]
  by_cases hkj : k = j
  · subst hkj
    rw [if_pos rfl]
    by_cases hn : k < n
    · rw [if_pos (by simpa using hn), List.getElem?_map, List.getElem?_range hn, ← hv]; rfl
    · rw [if_neg (by simpa using hn)]
      symm
      apply List.getElem?_eq_none; simpa using Nat.le_of_not_lt hn
  · rw [if_neg hkj]
    by_cases hn : j < n
    · rw [List.getElem?_map, List.getElem?_map, List.getElem?_range hn]
      simp only [Option.map_some]
      rw [ho j (fun q => hkj q.symm)]
    · rw [List.getElem?_eq_none (by simpa using Nat.le_of_not_lt hn), List.getElem?_eq_none (by simpa using Nat.le_of_not_lt hn)]
theorem pm_u_row {α : Type} {f : Nat → Nat → α} {a k : Nat} {v : α} {j : Nat} (h : j ≠ a) : pm_u f a k v j = f j := by
  funext y; simp [pm_u, h]
theorem pm_ur_row {α : Type} {f : Nat → Nat → α} {a : Nat} {g : Nat → α} {j : Nat} (h : j ≠ a) : pm_ur f a g j = f j := by
  funext y; simp [pm_ur, h]
theorem pm_ur_self {α : Type} (f : Nat → Nat → α) (a : Nat) (g : Nat → α) : pm_ur f a g a = g := by
  funext y; simp [pm_ur]
theorem pm_u_self (f : Nat → Nat → Int32) (a k : Nat) (v : Int32) : pm_u f a k v a = upd (f a) k v := by
  funext y; simp [pm_u, upd]
theorem pm_u_selfL (f : Nat → Nat → Int64) (a k : Nat) (v : Int64) : pm_u f a k v a = vp_updL (f a) k v := by
  funext y; simp [pm_u, vp_updL]
/-- the heap holds the small machine's cells -/
def pm_rel (base : Nat) (D : va_G) (cy : Nat → ClassId) (ad : Nat → Nat) (L : Nat) (xs : Nat → Int32) (h : pm_H) (H : Heap) : Prop := match h with
  | (_, n, sh, I, J, R) => va_P D vwCl (pm_ws base cy ad n sh I J R) H ∧ n < 1000000 ∧ base + n ≤ H.size ∧ sh 2000000 = (104, L) ∧ ∀ j, j < L → I 2000000 j = xs j
/-! locals -/
theorem pm_get_mem {lv : pm_L} {i : Nat} {v : Value} (h : pm_get lv i = some v) : (i, v) ∈ lv := by
  induction lv with
  | nil => cases h
  | cons q t ih =>
    obtain ⟨j, w⟩ := q
    unfold pm_get at h
    cases hb : Nat.beq j i with
    | true =>
      rw [hb] at h
      cases Nat.eq_of_beq_eq_true hb
      cases h
      exact List.mem_cons_self
    | false =>
      rw [hb] at h
      exact List.mem_cons_of_mem _ (ih h)
theorem pm_ins_mem {p q : Nat × Value} {l : pm_L} (h : q ∈ pm_ins p l) : q = p ∨ q ∈ l := by
  induction l with
  | nil => exact Or.inl (List.mem_singleton.mp h)
  | cons r t ih =>
    unfold pm_ins at h
    cases hb : Nat.blt p.1 r.1 with
    | true =>
      rw [hb] at h
      rcases List.mem_cons.mp h with h | h
      · exact Or.inl h
      · exact Or.inr h
    | false =>
      rw [hb] at h
      rcases List.mem_cons.mp h with h | h
      · exact Or.inr (h ▸ List.mem_cons_self)
      · rcases ih h with h | h
        · exact Or.inl h
        · exact Or.inr (List.mem_cons_of_mem _ h)
abbrev pm_lm (ad : Nat → Nat) (lv : pm_L) : List (Nat × Value) := lv.map (fun q => (q.1, pm_tv ad q.2))
theorem pm_lv_sub {ls : Array Slot} {nL : Nat} {l l' : List (Nat × Value)} (h : lv_has ls nL l) (hs : ∀ q ∈ l', q ∈ l) : lv_has ls nL l' := ⟨h.1, h.2.1, fun q hq => h.2.2 q (hs q hq)⟩
theorem pm_lv_get {ls : Array Slot} {nL : Nat} {ad : Nat → Nat} {lv : pm_L} {i : Nat} {v : Value} (h : lv_has ls nL (pm_lm ad lv)) (hg : pm_get lv i = some v) : ls[i]? = some (.val (pm_tv ad v)) :=
  h.2.2 (i, pm_tv ad v) (List.mem_map.mpr ⟨(i, v), pm_get_mem hg, rfl⟩)
theorem pm_f1_mem {ad : Nat → Nat} {lv : pm_L} {i : Nat} {q : Nat × Value} (h : q ∈ pm_lm ad (pm_f1 lv i)) : q ∈ (pm_lm ad lv).filter (fun q => !(q.1 == i) && !(q.1 + 1 == i && q.2.category == 2)) := by
  obtain ⟨r, hr, rfl⟩ := List.mem_map.mp h
  obtain ⟨h1, h2⟩ := List.mem_filter.mp hr
  refine List.mem_filter.mpr ⟨List.mem_map.mpr ⟨r, h1, rfl⟩, ?_⟩
  rw [pm_tv_cat]; exact h2
theorem pm_f2_mem {ad : Nat → Nat} {lv : pm_L} {i : Nat} {q : Nat × Value} (h : q ∈ pm_lm ad (pm_f2 lv i)) : q ∈ (pm_lm ad lv).filter (fun q => !(q.1 == i) && (!(q.1 == i + 1) && !(q.1 + 1 == i && q.2.category == 2))) := by
  obtain ⟨r, hr, rfl⟩ := List.mem_map.mp h
  obtain ⟨h1, h2⟩ := List.mem_filter.mp hr
  refine List.mem_filter.mpr ⟨List.mem_map.mpr ⟨r, h1, rfl⟩, ?_⟩
  rw [pm_tv_cat]; exact h2
theorem pm_lst1 {ls : Array Slot} {nL : Nat} {ad : Nat → Nat} {lv : pm_L} {i : Nat} {v : Value} (h : lv_has ls nL ((i, pm_tv ad v) :: (pm_lm ad lv).filter (fun q => !(q.1 == i) && !(q.1 + 1 == i && q.2.category == 2)))) : lv_has ls nL (pm_lm ad (pm_ins (i, v) (pm_f1 lv i))) := by
  refine pm_lv_sub h fun q hq => ?_
  obtain ⟨r, hr, rfl⟩ := List.mem_map.mp hq
  rcases pm_ins_mem hr with rfl | hr
  · exact List.mem_cons_self
  · exact List.mem_cons_of_mem _ (pm_f1_mem (List.mem_map.mpr ⟨r, hr, rfl⟩))
theorem pm_lst2 {ls : Array Slot} {nL : Nat} {ad : Nat → Nat} {lv : pm_L} {i : Nat} {v : Value} (h : lv_has ls nL ((i, pm_tv ad v) :: (pm_lm ad lv).filter (fun q => !(q.1 == i) && (!(q.1 == i + 1) && !(q.1 + 1 == i && q.2.category == 2))))) : lv_has ls nL (pm_lm ad (pm_ins (i, v) (pm_f2 lv i))) := by
  refine pm_lv_sub h fun q hq => ?_
  obtain ⟨r, hr, rfl⟩ := List.mem_map.mp hq
  rcases pm_ins_mem hr with rfl | hr
  · exact List.mem_cons_self
  · exact List.mem_cons_of_mem _ (pm_f2_mem (List.mem_map.mpr ⟨r, hr, rfl⟩))
theorem pm_args_map (ad : Nat → Nat) (as : List Value) : ∀ i, lv_args i (as.map (pm_tv ad)) = pm_lm ad (lv_args i as) := by
  induction as with
  | nil => intro i; rfl
  | cons v t ih =>
    intro i
    show (i, pm_tv ad v) :: lv_args (if (pm_tv ad v).category = 2 then i + 2 else i + 1) (t.map (pm_tv ad)) = (i, pm_tv ad v) :: pm_lm ad (lv_args (if v.category = 2 then i + 2 else i + 1) t)
    rw [pm_tv_cat, ih]
theorem pm_pop_spec : ∀ (n : Nat) (acc st as rest : List Value), pm_pop n acc st = some (as, rest) → ∃ bs, bs.length = n ∧ st = bs ++ rest ∧ as = bs.reverse ++ acc
  | 0, acc, st, as, rest, h => by
    simp only [pm_pop, Option.some.injEq, Prod.mk.injEq] at h
    exact ⟨[], rfl, by simp [h.2], by simp [h.1]⟩
  | n + 1, acc, [], as, rest, h => by simp [pm_pop] at h
  | n + 1, acc, v :: st, as, rest, h => by
    obtain ⟨bs, h1, h2, h3⟩ := pm_pop_spec n (v :: acc) st as rest (by simpa [pm_pop] using h)
    exact ⟨v :: bs, by simp [h1], by simp [h2], by simp [h3]⟩
