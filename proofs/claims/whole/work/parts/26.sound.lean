/-! each step of the small machine, kept by the great one; so every method keeps its word -/
section Str
variable {p : Program} {l : Launch} {e : Env} {Rm : Room} {s : State} {m : MethodId} {args : Array Value} {below : List Frame} {meth : Method} {c : Code}
variable {base : Nat} {D : va_G} {cy : Nat → ClassId} {sad sav : Nat → Nat} {b L : Nat} {xs : Nat → Int32} {k d : Nat} {Z : State → Prop} {E : pm_E} {Q : pm_R → pm_H → Prop}
variable {pc len : Nat} {lv : pm_L} {st : List Value} {fz : Bool} {n : Nat} {sh : Nat → Nat × Nat} {I : Nat → Nat → Int32} {J : Nat → Nat → Int64} {R : Nat → Nat → Option Nat} {c0 z0 : Nat} {ts : List Nat} {v : Int32}
theorem pm_sound (C : pm_cx p l Rm s m args meth c k d base D cy sad sav b L xs) (hok : pm_ok l base D cy sad sav b L xs d E) (hE : pm_endR p l e Rm s m args below meth c k base D cy (pm_ad base sad b) L xs Z Q) (hX : pm_endX p l e Rm s m args below meth c k base D cy (pm_ad base sad b) L xs Z Q) (hT : pm_endT p l e Rm s m args below meth c k base D cy (pm_ad base sad b) L xs Z Q) (hCa : pm_catch p l e Rm s m args below meth c k (pm_ad base sad b) Z)
    (f : pm_F) (h : pm_step E k f (pm_gd p l e Rm s m args below meth c k base D cy (pm_ad base sad b) L xs Z) Q) : pm_gd p l e Rm s m args below meth c k base D cy (pm_ad base sad b) L xs Z f := by
  obtain ⟨pc, lv, st, ⟨fz, n, sh, I, J, R⟩, c0, z0⟩ := f
  unfold pm_step at h
  simp only at h
  cases ht : pm_tab k pc with
  | none => rw [ht] at h; exact h.elim
  | some x =>
    obtain ⟨i, len, ts, v⟩ := x
    rw [ht] at h
    simp only at h
    cases i
    case iconst => exact pm_s_iconst C ht h
    case bipush => exact pm_s_bipush C ht h
    case sipush => exact pm_s_sipush C ht h
    case lconst => exact pm_s_lconst C ht h
    case ldc => exact pm_s_ldc C ht h
    case ldc_w => exact pm_s_ldc_w C ht h
    case ldc2_w => exact pm_s_ldc2_w C ht h
    case iload => exact pm_s_iload C ht h
    case iload_n => exact pm_s_iload_n C ht h
    case lload => exact pm_s_lload C ht h
    case lload_n => exact pm_s_lload_n C ht h
    case aload => exact pm_s_aload C ht h
    case aload_n => exact pm_s_aload_n C ht h
    case istore => exact pm_s_istore C ht h
    case istore_n => exact pm_s_istore_n C ht h
    case lstore => exact pm_s_lstore C ht h
    case lstore_n => exact pm_s_lstore_n C ht h
    case astore => exact pm_s_astore C ht h
    case astore_n => exact pm_s_astore_n C ht h
    case iinc => exact pm_s_iinc C ht h
    case iadd => exact pm_s_iadd C ht h
    case isub => exact pm_s_isub C ht h
    case imul => exact pm_s_imul C ht h
    case iand => exact pm_s_iand C ht h
    case ior => exact pm_s_ior C ht h
    case ixor => exact pm_s_ixor C ht h
    case ishl => exact pm_s_ishl C ht h
    case ishr => exact pm_s_ishr C ht h
    case iushr => exact pm_s_iushr C ht h
    case idiv => exact pm_s_idiv C ht h
    case irem => exact pm_s_irem C ht h
    case ineg => exact pm_s_ineg C ht h
    case lsub => exact pm_s_lsub C ht h
    case land => exact pm_s_land C ht h
    case lor => exact pm_s_lor C ht h
    case lshl => exact pm_s_lshl C ht h
    case lshr => exact pm_s_lshr C ht h
    case lcmp => exact pm_s_lcmp C ht h
    case i2l => exact pm_s_i2l C ht h
    case l2i => exact pm_s_l2i C ht h
    case i2b => exact pm_s_i2b C ht h
    case dup => exact pm_s_dup C ht h
    case dup2 => exact pm_s_dup2 C ht h
    case pop => exact pm_s_pop C ht h
    case goto => exact pm_s_goto C ht h
    case ifCond => exact pm_s_ifCond C ht h
    case if_icmp => exact pm_s_if_icmp C ht h
    case tableswitch => exact pm_s_tableswitch C ht h
    case getfield => exact pm_s_getfield C ht h
    case putfield => exact pm_s_putfield C ht h
    case iaload => exact pm_s_iaload C ht h
    case baload => exact pm_s_baload C ht h
    case laload => exact pm_s_laload C ht h
    case iastore => exact pm_s_iastore C ht h
    case bastore => exact pm_s_bastore C ht h
    case lastore => exact pm_s_lastore C ht h
    case arraylength => exact pm_s_arraylength C ht h
    case newarray => exact pm_s_newarray C ht h
    case ireturn => exact pm_s_ireturn C hE ht h
    case lreturn => exact pm_s_lreturn C hE ht h
    case return_ => exact pm_s_return C hE ht h
    case new w =>
      have h0 := h
      simp only [pm_sem] at h0
      split at h0
      · exact pm_s_new C ht h
      · rename_i x p0 j ic wd
        cases hb1 : (Nat.ble (c0 + 1) (pm_mc k) && (Nat.ble (z0 + 6) (pm_ms k) && Nat.ble (pm_cat st) 8)) with
        | false => rw [hb1] at h0; exact h0.elim
        | true =>
          rw [hb1] at h0
          simp only [Bool.and_eq_true] at hb1
          intro H locs ls hrel hex hS hl
          exact hT w x len p0 j ic wd v fz n sh I J R H locs ls st pc c0 z0 ht h0 hrel hS hl.1 (Nat.le_of_ble_eq_true hb1.1) (Nat.le_of_ble_eq_true hb1.2.1) (Nat.le_of_ble_eq_true hb1.2.2)
      · exact h0.elim
    case invokevirtual w =>
      have h0 := h
      simp only [pm_sem, pm_inv] at h0
      split at h0
      · exact pm_s_virt C hok hX hCa ht h
      · exact pm_s_str C ht (Or.inl ⟨_, rfl⟩) h
      · exact pm_s_str C ht (Or.inr ⟨_, rfl⟩) h
      · exact h0.elim
    case invokestatic w =>
      have h0 := h
      simp only [pm_sem, pm_inst] at h0
      split at h0
      · exact pm_s_stat C hok hX hCa ht h
      · exact pm_s_minmax C ht (Or.inl ⟨_, rfl⟩) h
      · exact pm_s_minmax C ht (Or.inr ⟨_, rfl⟩) h
      · exact pm_s_copy C ht h
      · exact h0.elim
    case invokespecial w =>
      have h0 := h
      simp only [pm_sem] at h0
      split at h0
      · exact pm_s_spec C hok ht (Or.inl rfl) h
      · exact pm_s_spec C hok ht (Or.inr rfl) h
      · exact pm_s_objInit C ht h
      · exact h0.elim
    all_goals exact h.elim
theorem pm_sl_len (vs : List Value) : (lg_sl vs).length = pm_cat vs := by
  induction vs with
  | nil => rfl
  | cons v t ih =>
    have e : lg_sl (v :: t) = (if v.category = 2 then [Slot.val v, Slot.second] else [Slot.val v]) ++ lg_sl t := rfl
    rw [e, List.length_append, ih]
    have e2 : pm_cat (v :: t) = v.category + pm_cat t := rfl
    rw [e2]
    rcases lv_cat v with q | q <;> simp [q]
/-- from the entry of a method -/
theorem pm_entry (C : pm_cx p l Rm s m args meth c k d base D cy sad sav b L xs) (hok : pm_ok l base D cy sad sav b L xs d (pm_Ev d)) (hE : pm_endR p l e Rm s m args below meth c k base D cy (pm_ad base sad b) L xs Z Q) (hX : pm_endX p l e Rm s m args below meth c k base D cy (pm_ad base sad b) L xs Z Q) (hT : pm_endT p l e Rm s m args below meth c k base D cy (pm_ad base sad b) L xs Z Q) (hCa : pm_catch p l e Rm s m args below meth c k (pm_ad base sad b) Z)
    {as : List Value} {h : pm_H} (hlen : pm_cat as ≤ pm_ml k) (hW : pm_T (pm_Ev d) k Q (0, lv_args 0 as, [], h, 0, 0)) (hrel : pm_rel base D cy (pm_ad base sad b) L xs h s.heap) (hex : h.1 = false → s.heap.size ≤ base + h.2.1) :
    W p l e Rm s m args below meth c s.heap [] 0 0 Z (entryFrame m (as.map (pm_tv (pm_ad base sad b))).toArray (pm_ml k)) := by
  have hg := hW (pm_gd p l e Rm s m args below meth c k base D cy (pm_ad base sad b) L xs Z) (fun f hf => pm_sound C hok hE hX hT hCa f hf) (fun pc lv lv' st h c z hs hg => fun H locs ls a1 a2 a3 a4 => hg H locs ls a1 a2 a3 (pm_lv_sub a4 fun q hq => by
    obtain ⟨r, hr, rfl⟩ := List.mem_map.mp hq
    exact List.mem_map.mpr ⟨r, hs r hr, rfl⟩))
  have hl := lv_entry (as.map (pm_tv (pm_ad base sad b))) (n := pm_ml k) (by
    rw [pm_sl_len]
    have e := pm_cat_map (pm_ad base sad b) as
    unfold pm_cat at e ⊢
    rw [e]
    exact hlen)
  rw [pm_args_map] at hl
  rw [lg_entry_eq]
  exact hg s.heap [] _ hrel (fun q => by simpa using hex q) va_S.rf hl
end Str
/-- every method keeps its word, at every depth -/
theorem pm_contract {l : Launch} (hl : l.stackTraces = false) {base : Nat} {D : va_G} {cy : Nat → ClassId} {sad sav : Nat → Nat} {b L : Nat} {xs : Nat → Int32} : ∀ d, pm_ok l base D cy sad sav b L xs d (pm_Ev d)
  | 0 => fun _ _ _ _ _ h => h.elim
  | d + 1 => by
    have ih := pm_contract hl (base := base) (D := D) (cy := cy) (sad := sad) (sav := sav) (b := b) (L := L) (xs := xs) d
    intro k as h Q hk hE
    have hE' : (bif Nat.ble (pm_cat as) (pm_ml k) then pm_T (pm_Ev d) k Q (0, lv_args 0 as, [], h, 0, 0) else False) := hE
    cases hb1 : Nat.ble (pm_cat as) (pm_ml k) with
    | false => rw [hb1] at hE'; exact hE'.elim
    | true =>
      rw [hb1] at hE'
      have hlen := Nat.le_of_ble_eq_true hb1
      obtain ⟨w1, w2, w3, w4, w5, w6, w7, w8, w9, w10⟩ := pm_mw hk
      have hroom : d + 21 ≤ (pm_rm (d + 1) k).frames ∧ 100 * d + 400 ≤ (pm_rm (d + 1) k).locals ∧ (pm_rm (d + 1) k).cells = pm_mc k ∧ (pm_rm (d + 1) k).slots = pm_ms k := ⟨by show d + 21 ≤ d + 1 + 20; omega, by show 100 * d + 400 ≤ 100 * (d + 1) + 300; omega, rfl, rfl⟩
      cases hhe : pm_hh k with
      | nil =>
        have hcw : pm_cw k = .code (pm_nm k) (pm_by k) (pm_ml k) (pm_rt k) := by
          unfold pm_cw
          rw [hhe]
        rw [hcw]
        refine vx_ofW (cc := pm_by k) (maxL := pm_ml k) (ret := pm_rt k) w7 rfl ?_
        intro p e s m args below meth c s₁ B hml htab hP
        obtain ⟨rfl, hC, hrel, hex⟩ := hP
        have hts := atoms_spec (ws := Cond.code (pm_nm k) (pm_by k) (pm_ml k) (pm_rt k) :: pm_GW) B.pre
        have C : pm_cx p l (pm_rm (d + 1) k) s m (as.map (pm_tv (pm_ad base sad b))).toArray meth c k d base D cy sad sav b L xs := ⟨B.exec, B.bytes, hml, by rw [← w4]; exact findClass_of_methodNamed B.named, fun w hw => hts w (List.mem_cons_of_mem _ hw), fun q => (name_of_methodNamed B.named B.method).1.trans q, hC, hroom, by omega, hl, B.notSynchronized, fun _ => by
          rw [hhe]
          exact List.eq_nil_iff_forall_not_mem.mpr fun z hz => htab z hz, B.returns⟩
        exact pm_entry C ih (pm_endR_ok C) (pm_endX_ok C hk) (pm_endT_ok C) (pm_catch_ok C) hlen hE' hrel hex
      | cons h1 t1 =>
        have hcw : pm_cw k = .codeWith (pm_nm k) (pm_by k) (pm_ml k) (pm_rt k) (h1 :: t1) := by
          unfold pm_cw
          rw [hhe]
        rw [hcw]
        refine vx_ofWH (cc := pm_by k) (maxL := pm_ml k) (ret := pm_rt k) (hh := h1 :: t1) w7 rfl ?_
        intro p e s m args below meth c s₁ B hml hP
        obtain ⟨rfl, hC, hrel, hex⟩ := hP
        have hts := atoms_spec (ws := Cond.codeWith (pm_nm k) (pm_by k) (pm_ml k) (pm_rt k) (h1 :: t1) :: pm_GW) B.pre
        have C : pm_cx p l (pm_rm (d + 1) k) s m (as.map (pm_tv (pm_ad base sad b))).toArray meth c k d base D cy sad sav b L xs := ⟨B.exec, B.bytes, hml, by rw [← w4]; exact findClass_of_methodNamed B.named, fun w hw => hts w (List.mem_cons_of_mem _ hw), fun q => (name_of_methodNamed B.named B.method).1.trans q, hC, hroom, by omega, hl, B.notSynchronized, fun _ => by
          rw [hhe]
          exact vx_table (x := pm_nm k) B (hts _ List.mem_cons_self), B.returns⟩
        exact pm_entry C ih (pm_endR_ok C) (pm_endX_ok C hk) (pm_endT_ok C) (pm_catch_ok C) hlen hE' hrel hex
