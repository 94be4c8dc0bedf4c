/-! what stays so from call to call: classes, texts, statics, the script -/
def pm_tys (cy : Nat → ClassId) : List (ClassId × FieldType) := [(cy 100, .int), (cy 101, .byte), (cy 102, .boolean), (cy 103, .long)]
def pm_isN (w : Cond) : Bool := match w with
  | .methodLinkNest _ _ _ _ => true
  | .castable _ _ => true
  | .declares _ => true
  | _ => false
theorem pm_cast_moved {a b : String} {s U : State} (hvm : s.vm.Alike U.vm) (h : va_Nw (.castable a b) s) : va_Nw (.castable a b) U := by
  unfold va_Nw at h ⊢
  simp only [Cond.before, Cond.holds, Cond.value] at h ⊢
  have e1 : U.vm.findClass a = s.vm.findClass a := hvm.findClass ..
  have e2 : U.vm.findClass b = s.vm.findClass b := hvm.findClass ..
  rw [e1, e2]
  cases ha : s.vm.findClass a with
  | none => simp [ha] at h
  | some x =>
    cases hb : s.vm.findClass b with
    | none => simp [ha, hb] at h
    | some y =>
      have e3 : U.vm.assignable x y = s.vm.assignable x y := hvm.assignable ..
      simp only [ha, hb] at h ⊢
      rw [e3]
      exact h
/-- the texts' cells -/
def pm_vS (sad sav : Nat → Nat) (A : Nat → Prop) (U : State) (H : Heap) : Prop := ∀ i : Nat, i < pm_sn → va_O "java/lang/String" (sad i) A U H ∧ va_OF "java/lang/String" "coder" "B" (.int 0) (sad i) A U H ∧ va_OF "java/lang/String" "value" "[B" (.ref (sav i)) (sad i) A U H ∧ va_T .byte (sav i) (pm_slen i) (fun j => .int (pm_sb i j)) A U H
theorem pm_vS_recv {sad sav : Nat → Nat} {A : Nat → Prop} {s : State} {H : Heap} {locs : List Loc} {i : Nat} (hE : pm_vS sad sav A s s.heap) (hi : i < pm_sn) (hS : va_S A s.heap H locs) : ∃ cell : Cell, H[sad i]? = some cell ∧ cell.vm.isStatics = false ∧ s.vm.findClass "java/lang/String" = some cell.cls := by
  obtain ⟨cell, h1, h2, h3, -⟩ := (hE i hi).1.kept hS.2.1
  exact ⟨cell, h1, h2, h3⟩
def pm_C (base : Nat) (D : va_G) (cy : Nat → ClassId) (sad sav : Nat → Nat) (b L : Nat) (xs : Nat → Int32) (U : State) : Prop :=
  va_K D vwCl (pm_tys cy) U ∧ (∀ j, j < pm_sn → vk_R (pm_so j) (pm_si j) (pm_stx j) (sad j) U) ∧ pm_vS sad sav (pm_A base) U U.heap ∧ (va_Z "java/lang/String" "COMPACT_STRINGS" "Z" (.int 1) (pm_A base) U U.heap ∧ va_Zq "jdk/internal/util/Preconditions" "SIOOBE_FORMATTER" "Ljava/util/function/BiFunction;" (pm_A base) U U.heap) ∧ vx_Zq Bundle.tN "UNASSIGNED_STACK" Bundle.steD (pm_A base) U U.heap ∧ vx_Zq Bundle.tN "SUPPRESSED_SENTINEL" Bundle.listD (pm_A base) U U.heap ∧ va_X b L xs U U.heap ∧ b < base ∧ base ≤ U.heap.size ∧ (∀ w ∈ lw_tbl, pm_isN w = true → va_Nw w U) ∧ va_Nc (pm_xn 2) (pm_xn 1) U
theorem pm_C_warm {base : Nat} {D : va_G} {cy : Nat → ClassId} {sad sav : Nat → Nat} {b L : Nat} {xs : Nat → Int32} {s U : State} (hW : s.WarmedH U.vm) (hz : s.heap.size ≤ U.heap.size) (hq : ∀ a : Nat, a < s.heap.size → ¬ pm_A base a → U.heap[a]? = s.heap[a]?) (h : pm_C base D cy sad sav b L xs s) : pm_C base D cy sad sav b L xs U := by
  obtain ⟨h1, h2, h3, h4, h5, h6, h7, h8, h9, h10, h11⟩ := h
  have hvm := hW.alike
  refine ⟨va_K.moved hvm h1, fun j hj => vk_R.warm hW (h2 j hj), fun i hi => ⟨(va_O.moved hvm (h3 i hi).1).kept hq, (va_OF.moved hvm (h3 i hi).2.1).kept hq, (va_OF.moved hvm (h3 i hi).2.2.1).kept hq, (va_T.moved hvm (h3 i hi).2.2.2).kept hq⟩, ⟨(va_Z.moved hvm h4.1).kept hq, (va_Zq.moved hvm h4.2).kept hq⟩, (vx_Zq.moved hvm h5).kept hq, (vx_Zq.moved hvm h6).kept hq, (va_X.moved hvm h7).kept (hq b (Nat.lt_of_lt_of_le h8 h9) (Nat.not_le.mpr h8)), h8, Nat.le_trans h9 hz, fun w hw hn => ?_, va_Nc.moved hvm h11⟩
  have hs := h10 w hw hn
  cases w with
  | methodLinkNest a i x y => exact va_Nw.warmM hW hs
  | castable a b => exact pm_cast_moved hvm hs
  | declares x => exact va_tabs rfl (rfl : (s.setVm U.vm).vm = U.vm) (by rw [Cond.declares_setVm hvm]; exact hs)
  | _ => cases hn
def pm_rm (d k : Nat) : Room := { frames := d + 20, cells := pm_mc k, slots := pm_ms k, locals := 100 * d + 300 }
def pm_Pc (base : Nat) (D : va_G) (cy : Nat → ClassId) (sad sav : Nat → Nat) (b L : Nat) (xs : Nat → Int32) (as : List Value) (h : pm_H) : Array Value → State → Prop :=
  va_Pc (as.map (pm_tv (pm_ad base sad b))) (fun U => pm_C base D cy sad sav b L xs U ∧ pm_rel base D cy (pm_ad base sad b) L xs h U.heap ∧ (h.1 = false → U.heap.size ≤ base + h.2.1))
def pm_Qc (base : Nat) (D : va_G) (cy : Nat → ClassId) (ad : Nat → Nat) (L : Nat) (xs : Nat → Int32) (Q : pm_R → pm_H → Prop) : Array Value → State → Outcome → State → Prop :=
  fun _ st oc t => (∃ (v : Option Value) (h : pm_H), oc = .returned (v.map (pm_tv ad)) ∧ Q (.inl v) h ∧ pm_rel base D cy ad L xs h t.heap) ∧ va_F (pm_A base) st t
def pm_XC (base : Nat) (D : va_G) (cy : Nat → ClassId) (ad : Nat → Nat) (L : Nat) (xs : Nat → Int32) (Q : pm_R → pm_H → Prop) : String → State → State → Prop :=
  fun E st t => (∃ (x : Nat) (h : pm_H), E = pm_xn x ∧ Q (.inr x) h ∧ pm_rel base D cy ad L xs h t.heap) ∧ va_F (pm_A base) st t
/-- every method keeps its word, at depth d -/
def pm_ok (l : Launch) (base : Nat) (D : va_G) (cy : Nat → ClassId) (sad sav : Nat → Nat) (b L : Nat) (xs : Nat → Int32) (d : Nat) (E : pm_E) : Prop :=
  ∀ (k : Nat) (as : List Value) (h : pm_H) (Q : pm_R → pm_H → Prop), k < 318 → E k as h Q →
    vx_Met l (pm_nm k) (pm_cw k :: pm_GW) (pm_rm d k) (pm_Pc base D cy sad sav b L xs as h) (pm_Qc base D cy (pm_ad base sad b) L xs Q) (pm_XC base D cy (pm_ad base sad b) L xs Q) (pm_mc k) (pm_ms k) (pm_A base)
theorem pm_blind {base : Nat} {D : va_G} {cy : Nat → ClassId} {sad sav : Nat → Nat} {b L : Nat} {xs : Nat → Int32} {as : List Value} {h : pm_H} : FrameBlind (pm_Pc base D cy sad sav b L xs as h) := by
  intro a U g mk q
  obtain ⟨q0, q1, q2⟩ := q
  exact ⟨q0, pm_C_warm (s := U) (U := U.calling g mk a) (State.WarmedH.refl U) (Nat.le_refl _) (fun _ _ _ => rfl) q1, q2⟩
/-- what a walk of method k stands on -/
def pm_cx (p : Program) (l : Launch) (Rm : Room) (s : State) (m : MethodId) (args : Array Value) (meth : Method) (c : Code) (k d base : Nat) (D : va_G) (cy : Nat → ClassId) (sad sav : Nat → Nat) (b L : Nat) (xs : Nat → Int32) : Prop :=
  p.tables.exec = Jvm.exec ∧ c.code = pm_by k ∧ c.maxLocals = pm_ml k ∧ s.vm.findClass (pm_cn (pm_ow k)) = some m.cls ∧ (∀ w ∈ pm_GW, w.before args s = true) ∧ ((pm_nm k).name = "<init>" → meth.name = "<init>") ∧ pm_C base D cy sad sav b L xs s ∧ (d + 21 ≤ Rm.frames ∧ 100 * d + 400 ≤ Rm.locals ∧ Rm.cells = pm_mc k ∧ Rm.slots = pm_ms k) ∧ k < 319 ∧ l.stackTraces = false ∧ meth.locks = false ∧ (k < 318 → c.exceptionTable.toList = tableOf (pm_hh k)) ∧ meth.sig.returnType = pm_rt k
/-- a state of the small machine from which the great one comes to Z -/
def pm_gd (p : Program) (l : Launch) (e : Env) (Rm : Room) (s : State) (m : MethodId) (args : Array Value) (below : List Frame) (meth : Method) (c : Code) (k base : Nat) (D : va_G) (cy : Nat → ClassId) (ad : Nat → Nat) (L : Nat) (xs : Nat → Int32) (Z : State → Prop) (f : pm_F) : Prop :=
  ∀ (H : Heap) (locs : List Loc) (ls : Array Slot), pm_rel base D cy ad L xs f.2.2.2.1 H → (f.2.2.2.1.1 = false → s.heap.size + f.2.2.2.2.1 ≤ base + f.2.2.2.1.2.1) → va_S (pm_A base) s.heap H locs → lv_has ls (pm_ml k) (pm_lm ad f.2.1) → W p l e Rm s m args below meth c H locs f.2.2.2.2.1 f.2.2.2.2.2 Z (F0 m f.1 ls (f.2.2.1.map (pm_tv ad)))
/-- a walk may use that no more cells have come than are counted -/
theorem pm_W_size {p : Program} {l : Launch} {e : Env} {Rm : Room} {s : State} {m : MethodId} {args : Array Value} {below : List Frame} {meth : Method} {c : Code} {H : Heap} {locs : List Loc} {cells slots : Nat} {Z : State → Prop} {g : JFrame} (h : H.size ≤ s.heap.size + cells → W p l e Rm s m args below meth c H locs cells slots Z g) : W p l e Rm s m args below meth c H locs cells slots Z g := by
  intro T hT X
  have h1 : T.heap.size ≤ s.heap.size + cells := X.same.2.2.1
  rw [hT] at h1
  exact h h1 T hT X
