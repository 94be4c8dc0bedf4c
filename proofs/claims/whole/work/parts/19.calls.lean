/-! calls -/
theorem pm_hk_nil {k : Nat} {hh : List (Nat × Nat × Nat × Nat)} (h : pm_hk k hh [] = true) : hh = [] := by
  cases hh with
  | nil => rfl
  | cons a t => simp [pm_hk] at h
theorem pm_mw {k : Nat} (hk : k < 318) : (pm_sta k = true → Cond.static (pm_nm k) ∈ pm_GW) ∧ (pm_sta k = false → Cond.instanceMethod (pm_nm k) ∈ pm_GW ∧ ((pm_nm k).name = "<init>" ∨ Cond.selects (pm_cn (pm_ow k)) (pm_nm k) (pm_nm k) ∈ pm_GW)) ∧ Cond.initialized (pm_nm k).cls ∈ pm_GW ∧ (pm_nm k).cls = pm_cn (pm_ow k) ∧ ((pm_nm k).cls ≠ "java/lang/invoke/MethodHandle" ∧ (pm_nm k).cls ≠ "java/lang/invoke/VarHandle") ∧ (parseMethodDescriptor (pm_nm k).desc).map (fun d => d.parameters.length) = some (pm_np k) ∧ plainName (pm_nm k).cls = true ∧ pm_ml k ≤ 40 ∧ pm_hk k (pm_hh k) (pm_hd k) = true ∧ (pm_hd k).length ≤ 2 ∧ (pm_hd k).map (fun q => q.1) ≠ [2, 1] ∧ (pm_hd k).map (fun q => q.1) ≠ [1, 1] ∧ (pm_hd k).map (fun q => q.1) ≠ [2, 2] := by
  have h := pm_ckw_all k (by omega)
  unfold pm_ckw at h
  have hne : Nat.beq k k_L_law = false := by
    cases hb : Nat.beq k k_L_law with
    | false => rfl
    | true =>
      have h1 : k = 318 := Nat.eq_of_beq_eq_true hb
      omega
  rw [hne] at h
  simp only [Bool.false_or, Bool.and_eq_true, decide_eq_true_eq] at h
  obtain ⟨h1, h2, h3, h4, h5, h6, h7, h8, h9, h10, h11⟩ := h
  refine ⟨fun q => ?_, fun q => ?_, pm_wd_good h2 rfl, h3, h4, h5, h6, Nat.le_of_ble_eq_true h7, h8, Nat.le_of_ble_eq_true h9, h10, h11.1, h11.2⟩
  · rw [q] at h1
    exact pm_wd_good h1 rfl
  · rw [q] at h1
    simp only [cond_false, Bool.and_eq_true, Bool.or_eq_true, decide_eq_true_eq] at h1
    refine ⟨pm_wd_good h1.1 rfl, ?_⟩
    rcases h1.2 with q | q
    · exact Or.inl q
    · exact Or.inr (pm_wd_good q rfl)
theorem pm_cw_good {k : Nat} (hk : k < 318) : pm_cw k ∈ pm_GW := by
  refine List.mem_filter.mpr ⟨pm_cw_all k hk, ?_⟩
  unfold pm_cw
  split <;> rfl
theorem pm_goodin {k : Nat} (hk : k < 318) : GoodIn pm_GW (pm_cw k :: pm_GW) := by
  intro w hw
  have h : w ∈ pm_GW := by
    rcases List.mem_cons.mp hw with rfl | h
    · exact pm_cw_good hk
    · exact h
  exact ⟨h, (pm_gw_in h).2⟩
theorem pm_pop_rcv {np : Nat} {st as rest : List Value} {u : Value} (h : pm_pop (np + 1) [] st = some (as, rest)) (hr : st[np]? = some u) : ∃ As : List Value, as = u :: As ∧ As.length = np ∧ st = As.reverse ++ u :: rest := by
  obtain ⟨bs, h1, h2, h3⟩ := pm_pop_spec _ _ _ _ _ h
  rcases List.eq_nil_or_concat bs with rfl | ⟨bs', x, rfl⟩
  · simp at h1
  · have hl : bs'.length = np := by simpa using h1
    refine ⟨bs'.reverse, ?_, by simpa using hl, ?_⟩
    · rw [h3]
      subst h2
      rw [List.concat_eq_append, List.append_assoc, List.getElem?_append_right (by omega)] at hr
      simp [hl] at hr
      simp [hr]
    · subst h2
      rw [List.concat_eq_append, List.append_assoc, List.getElem?_append_right (by omega)] at hr
      simp [hl] at hr
      simp [hr]
/-- a callee that never throws -/
theorem pm_met0 {l : Launch} {y : MethodName} {ws : List Cond} {rm : Room} {Pc : Array Value → State → Prop} {Qc : Array Value → State → Outcome → State → Prop} {XC : String → State → State → Prop} {mc ms : Nat} {free : Addr → Prop} (h : vx_Met l y ws rm Pc Qc XC mc ms free) (hX : ∀ E st t, ¬ XC E st t) : Met l y ws rm Pc Qc mc ms free := by
  intro p e h1 h2 h3 s m args below h4 h5 h6 h7
  obtain ⟨n, o, a1, a2, a3, hq⟩ := h p e h1 h2 h3 s m args below h4 h5 h6 h7
  refine ⟨n, o, a1, a2, a3, ?_⟩
  rcases hq with q | ⟨q, -, E, ce, L, hE, -⟩
  · exact q
  · exact absurd hE (hX _ _ _)
theorem pm_arith (q d : Nat) (h : q ≤ 40) : 8 + (q + 11) + (100 * d + 300) ≤ 100 * d + 400 := by omega
section Sound4
variable {p : Program} {l : Launch} {e : Env} {Rm : Room} {s : State} {m : MethodId} {args : Array Value} {below : List Frame} {meth : Method} {c : Code}
variable {base : Nat} {D : va_G} {cy : Nat → ClassId} {sad sav : Nat → Nat} {b L : Nat} {xs : Nat → Int32} {k d : Nat} {Z : State → Prop} {E : pm_E} {Q : pm_R → pm_H → Prop}
variable {pc len : Nat} {lv : pm_L} {st : List Value} {fz : Bool} {n : Nat} {sh : Nat → Nat × Nat} {I : Nat → Nat → Int32} {J : Nat → Nat → Int64} {R : Nat → Nat → Option Nat} {c0 z0 : Nat} {ts : List Nat} {v : Int32}
/-- behind a call that may throw -/
theorem pm_cont {ad : Nat → Nat} {H : Heap} {locs : List Loc} {ls : Array Slot} {mc ms : Nat} {rest st0 : List Value} {a : Array Value} {Qk : pm_R → pm_H → Prop} (hr : vx_Run p l e Rm s m args below meth c H locs c0 z0 mc ms (F0 m pc ls st0) rest (pm_Qc base D cy ad L xs Qk a) (pm_XC base D cy ad L xs Qk) (pm_A base)) (hS : va_S (pm_A base) s.heap H locs)
    (kk : ∀ (w : Option Value) (h' : pm_H) (H1 : Heap) (locs1 : List Loc), Qk (.inl w) h' → pm_rel base D cy ad L xs h' H1 → va_S (pm_A base) s.heap H1 locs1 → W p l e Rm s m args below meth c H1 locs1 (c0 + mc) (z0 + ms) Z (F0 m (pc + 3) ls ((w.map (pm_tv ad)).toList ++ rest)))
    (kx : ∀ (x : Nat) (h' : pm_H) (H1 : Heap) (locs1 : List Loc) (q : Addr) (ce : Cell), Qk (.inr x) h' → pm_rel base D cy ad L xs h' H1 → va_S (pm_A base) s.heap H1 locs1 → H1[q]? = some ce → ce.vm = .none → s.vm.findClass (pm_xn x) = some ce.cls → vx_W p l e Rm s m args below meth c H1 locs1 (c0 + mc) (z0 + ms) Z (F0 m pc ls rest) q) :
    W p l e Rm s m args below meth c H locs c0 z0 Z (F0 m pc ls st0) := by
  intro T hT X
  rcases hr T hT X with ⟨w, st₀, t, T', L', h0, X', hL, e1, e2, ⟨⟨u, h', hv, hq, hrel⟩, hF⟩, stp⟩ | ⟨q, st₀, t, T', L', E', ce, h0, X', hL, e1, e2, ⟨⟨x, h', hE, hq, hrel⟩, hF⟩, hce, hcv, hcl, stp⟩
  · cases hv
    obtain ⟨k1, k2, k3⟩ := vx_keep h0 e1 hS (fun _ _ q => q) (fun _ q => q) hL hF
    rw [← e1] at hrel
    obtain ⟨t2, a1, b1⟩ := kk u h' T'.heap (locs ++ L') hq hrel k3 T' rfl X'
    exact ⟨t2, stp t2 a1, b1⟩
  · obtain ⟨k1, k2, k3⟩ := vx_keep h0 e1 hS (fun _ _ q => q) (fun _ q => q) hL hF
    rw [← e1] at hrel hce
    subst hE
    obtain ⟨t2, a1, b1⟩ := kx x h' T'.heap (locs ++ L') q ce hq hrel k3 hce hcv hcl T' rfl X'
    exact ⟨t2, stp.trans a1, b1⟩
theorem pm_cont0 {ad : Nat → Nat} {H : Heap} {locs : List Loc} {ls : Array Slot} {mc ms : Nat} {rest st0 : List Value} {a : Array Value} {Qk : pm_R → pm_H → Prop} (hr : va_Run p l e Rm s m args below meth c H locs c0 z0 mc ms (F0 m pc ls st0) rest (pm_Qc base D cy ad L xs Qk a) (pm_A base)) (hS : va_S (pm_A base) s.heap H locs)
    (kk : ∀ (w : Option Value) (h' : pm_H) (H1 : Heap) (locs1 : List Loc), Qk (.inl w) h' → pm_rel base D cy ad L xs h' H1 → va_S (pm_A base) s.heap H1 locs1 → W p l e Rm s m args below meth c H1 locs1 (c0 + mc) (z0 + ms) Z (F0 m (pc + 3) ls ((w.map (pm_tv ad)).toList ++ rest))) :
    W p l e Rm s m args below meth c H locs c0 z0 Z (F0 m pc ls st0) := by
  intro T hT X
  obtain ⟨w, st₀, t, T', L', h0, X', hL, e1, e2, ⟨⟨u, h', hv, hq, hrel⟩, hF⟩, stp⟩ := hr T hT X
  cases hv
  obtain ⟨k1, k2, k3⟩ := vx_keep h0 e1 hS (fun _ _ q => q) (fun _ q => q) hL hF
  rw [← e1] at hrel
  obtain ⟨t2, a1, b1⟩ := kk u h' T'.heap (locs ++ L') hq hrel k3 T' rfl X'
  exact ⟨t2, stp t2 a1, b1⟩
/-- an exception that has come out of a call: on to the caller, or caught -/
def pm_endX (p : Program) (l : Launch) (e : Env) (Rm : Room) (s : State) (m : MethodId) (args : Array Value) (below : List Frame) (meth : Method) (c : Code) (k base : Nat) (D : va_G) (cy : Nat → ClassId) (ad : Nat → Nat) (L : Nat) (xs : Nat → Int32) (Z : State → Prop) (Q : pm_R → pm_H → Prop) : Prop :=
  pm_hh k = [] → ∀ (x : Nat) (h' : pm_H) (H1 : Heap) (locs1 : List Loc) (ls : Array Slot) (rest : List Value) (pc c1 z1 : Nat) (q : Addr) (ce : Cell), Q (.inr x) h' → pm_rel base D cy ad L xs h' H1 → va_S (pm_A base) s.heap H1 locs1 → H1[q]? = some ce → ce.vm = .none → s.vm.findClass (pm_xn x) = some ce.cls → c1 ≤ pm_mc k → z1 ≤ pm_ms k → vx_W p l e Rm s m args below meth c H1 locs1 c1 z1 Z (F0 m pc ls rest) q
def pm_catch (p : Program) (l : Launch) (e : Env) (Rm : Room) (s : State) (m : MethodId) (args : Array Value) (below : List Frame) (meth : Method) (c : Code) (k : Nat) (ad : Nat → Nat) (Z : State → Prop) : Prop :=
  ∀ (pc x j t c1 z1 : Nat) (lv : pm_L) (H1 : Heap) (locs1 : List Loc) (ls : Array Slot) (rest : List Value) (q : Addr) (ce : Cell), pm_hnd x (pm_hd k) = some (j, t) → (pm_hh k).all (fun h => Nat.ble h.1 pc && Nat.blt pc h.2.1) = true → H1[q]? = some ce → ce.vm = .none → s.vm.findClass (pm_xn x) = some ce.cls → lv_has ls (pm_ml k) (pm_lm ad lv) →
    (∀ ls' : Array Slot, lv_has ls' (pm_ml k) (pm_lm ad (pm_f1 lv j)) → W p l e Rm s m args below meth c H1 locs1 c1 z1 Z (F0 m t ls' [])) → vx_W p l e Rm s m args below meth c H1 locs1 c1 z1 Z (F0 m pc ls rest) q
/-- what comes of a call's outcome: the words of pm_call -/
theorem pm_call_out {k' : Nat} {H : Heap} {locs : List Loc} {ls : Array Slot} {rest st0 : List Value} {a : Array Value} (C : pm_cx p l Rm s m args meth c k d base D cy sad sav b L xs) (hX : pm_endX p l e Rm s m args below meth c k base D cy (pm_ad base sad b) L xs Z Q) (hCa : pm_catch p l e Rm s m args below meth c k (pm_ad base sad b) Z)
    (hcov : (pm_hh k).all (fun h => Nat.ble h.1 pc && Nat.blt pc h.2.1) = true) (hhd : pm_hk k (pm_hh k) (pm_hd k) = true)
    (hf : c0 + pm_mc k' ≤ pm_mc k ∧ z0 + pm_ms k' ≤ pm_ms k) (hex : fz = false → s.heap.size + c0 ≤ base + n) (hl : lv_has ls (pm_ml k) (pm_lm (pm_ad base sad b) lv))
    (hr : vx_Run p l e Rm s m args below meth c H locs c0 z0 (pm_mc k') (pm_ms k') (F0 m pc ls st0) (rest.map (pm_tv (pm_ad base sad b)))
      (pm_Qc base D cy (pm_ad base sad b) L xs (fun r h' => match r with
        | .inl v => pm_gd p l e Rm s m args below meth c k base D cy (pm_ad base sad b) L xs Z (pc + 3, lv, v.toList ++ rest, (bif Nat.beq h'.2.1 (n + pm_mc k') then fz else true, h'.2), c0 + pm_mc k', z0 + pm_ms k')
        | .inr x => match pm_hd k with
          | [] => Q (.inr x) h'
          | l' => match pm_hnd x l' with
            | none => False
            | some (j, t) => pm_gd p l e Rm s m args below meth c k base D cy (pm_ad base sad b) L xs Z (t, pm_f1 lv j, [], (true, h'.2), c0 + pm_mc k', z0 + pm_ms k')) a)
      (pm_XC base D cy (pm_ad base sad b) L xs (fun r h' => match r with
        | .inl v => pm_gd p l e Rm s m args below meth c k base D cy (pm_ad base sad b) L xs Z (pc + 3, lv, v.toList ++ rest, (bif Nat.beq h'.2.1 (n + pm_mc k') then fz else true, h'.2), c0 + pm_mc k', z0 + pm_ms k')
        | .inr x => match pm_hd k with
          | [] => Q (.inr x) h'
          | l' => match pm_hnd x l' with
            | none => False
            | some (j, t) => pm_gd p l e Rm s m args below meth c k base D cy (pm_ad base sad b) L xs Z (t, pm_f1 lv j, [], (true, h'.2), c0 + pm_mc k', z0 + pm_ms k'))) (pm_A base)) (hS : va_S (pm_A base) s.heap H locs) :
    W p l e Rm s m args below meth c H locs c0 z0 Z (F0 m pc ls st0) := by
  refine pm_cont hr hS (fun w h' H1 locs1 hq hrel hS1 => ?_) (fun x h' H1 locs1 q ce hq hrel hS1 hce hcv hcl => ?_)
  · have e9 := hq H1 locs1 ls (by obtain ⟨a1, a2, a3, a4, a5, a6⟩ := h'; exact hrel) (fun hfz => ?_) hS1 hl
    · simp only [List.map_append] at e9
      cases w <;> exact e9
    · simp only at hfz ⊢
      cases hb : Nat.beq h'.2.1 (n + pm_mc k') with
      | false => rw [hb] at hfz; cases hfz
      | true =>
        rw [hb] at hfz
        have := hex hfz
        have := Nat.eq_of_beq_eq_true hb
        omega
  · simp only at hq
    cases hhd2 : pm_hd k with
    | nil =>
      rw [hhd2] at hq hhd
      exact hX (pm_hk_nil hhd) x h' H1 locs1 ls _ pc _ _ q ce hq hrel hS1 hce hcv hcl hf.1 hf.2
    | cons a0 t0 =>
      rw [hhd2] at hq
      simp only at hq
      cases hh2 : pm_hnd x (a0 :: t0) with
      | none => rw [hh2] at hq; exact hq.elim
      | some jt =>
        obtain ⟨j, t⟩ := jt
        rw [hh2] at hq
        exact hCa pc x j t _ _ lv H1 locs1 ls _ q ce (by rw [hhd2]; exact hh2) hcov hce hcv hcl hl (fun ls' hl' => hq H1 locs1 ls' (by obtain ⟨a1, a2, a3, a4, a5, a6⟩ := h'; exact hrel) (fun hfz => by cases hfz) hS1 hl')
/-- what a callee finds at its entry -/
theorem pm_pre (C : pm_cx p l Rm s m args meth c k d base D cy sad sav b L xs) {H : Heap} {locs : List Loc} {as : List Value} (hsz2 : H.size ≤ s.heap.size + c0) (hrel : pm_rel base D cy (pm_ad base sad b) L xs (fz, n, sh, I, J, R) H) (hex : fz = false → s.heap.size + c0 ≤ base + n) (hS : va_S (pm_A base) s.heap H locs) (U : State) (hU : U.heap = H) (hW : s.WarmedH U.vm) : pm_Pc base D cy sad sav b L xs as (fz, n, sh, I, J, R) (as.map (pm_tv (pm_ad base sad b))).toArray U := by
  obtain ⟨hx, hb, hml, hown, hts, hnm, hC, hRm, hk, hst, hlk, htb, hrt⟩ := C
  refine ⟨rfl, pm_C_warm hW (by rw [hU]; exact hS.1) (fun a h1 h2 => by rw [hU]; exact hS.2.1 a h1 h2) hC, by rw [hU]; exact hrel, fun hfz => ?_⟩
  have := hex hfz
  rw [hU]
  show H.size ≤ base + n
  omega
theorem pm_room (C : pm_cx p l Rm s m args meth c k d base D cy sad sav b L xs) {k' : Nat} (hk' : k' < 318) : (pm_rm d k').frames + 1 ≤ Rm.frames ∧ 8 + (pm_ml k' + 11) + (pm_rm d k').locals ≤ Rm.locals :=
  ⟨C.2.2.2.2.2.2.2.1.1, Nat.le_trans (pm_arith (pm_ml k') d (pm_mw hk').2.2.2.2.2.2.2.1) C.2.2.2.2.2.2.2.1.2.1⟩
end Sound4
