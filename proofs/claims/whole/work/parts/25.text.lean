/-! length and charAt of the class's own texts; rows of words written by wip/whole/gen_text.py -/
theorem pj_good {w : Cond} (h : w ∈ pm_GW) : GoodIn pm_GW (w :: pm_GW) := by
  intro u hu
  have h2 : u ∈ pm_GW := by
    rcases List.mem_cons.mp hu with rfl | q
    · exact h
    · exact q
  exact ⟨h2, (pm_gw_in h2).2⟩
abbrev pj_c_len : Cond := .code yJ0_length_8abf5 cJ0_length_8abf5 1 (some .int)
theorem pj_w_len : pj_c_len ∈ pm_GW := pm_wd_good (p := 879) (by decide +kernel) rfl
theorem pj_g_len : GoodIn pm_GW (pj_c_len :: pm_GW) := pj_good pj_w_len
theorem pj_m_len : Cond.instanceMethod yJ0_length_8abf5 ∈ pm_GW := pm_wd_good (p := 877) (by decide +kernel) rfl
theorem pj_x_len : Cond.selects "java/lang/String" yJ0_length_8abf5 yJ0_length_8abf5 ∈ pm_GW := pm_wd_good (p := 878) (by decide +kernel) rfl
theorem pj_d_len : yJ0_length_8abf5.cls ≠ "java/lang/invoke/MethodHandle" ∧ yJ0_length_8abf5.cls ≠ "java/lang/invoke/VarHandle" ∧ (parseMethodDescriptor yJ0_length_8abf5.desc).map (fun d => d.parameters.length) = some 0 := by decide +kernel
theorem dd_len_0 : decode cJ0_length_8abf5 0 = .ok (.aload_n 0, 1) := by decide +kernel
theorem dd_len_1 : decode cJ0_length_8abf5 1 = .ok (.getfield 9, 3) := by decide +kernel
theorem dd_len_4 : decode cJ0_length_8abf5 4 = .ok (.arraylength, 1) := by decide +kernel
theorem dd_len_5 : decode cJ0_length_8abf5 5 = .ok (.aload_n 0, 1) := by decide +kernel
theorem dd_len_6 : decode cJ0_length_8abf5 6 = .ok (.invokevirtual 335, 3) := by decide +kernel
theorem dd_len_9 : decode cJ0_length_8abf5 9 = .ok (.ishr, 1) := by decide +kernel
theorem dd_len_10 : decode cJ0_length_8abf5 10 = .ok (.ireturn, 1) := by decide +kernel
abbrev pj_c_chr : Cond := .code yJ0_charAt_5068e cJ0_charAt_5068e 2 (some .char)
theorem pj_w_chr : pj_c_chr ∈ pm_GW := pm_wd_good (p := 889) (by decide +kernel) rfl
theorem pj_g_chr : GoodIn pm_GW (pj_c_chr :: pm_GW) := pj_good pj_w_chr
theorem pj_m_chr : Cond.instanceMethod yJ0_charAt_5068e ∈ pm_GW := pm_wd_good (p := 887) (by decide +kernel) rfl
theorem pj_x_chr : Cond.selects "java/lang/String" yJ0_charAt_5068e yJ0_charAt_5068e ∈ pm_GW := pm_wd_good (p := 888) (by decide +kernel) rfl
theorem pj_d_chr : yJ0_charAt_5068e.cls ≠ "java/lang/invoke/MethodHandle" ∧ yJ0_charAt_5068e.cls ≠ "java/lang/invoke/VarHandle" ∧ (parseMethodDescriptor yJ0_charAt_5068e.desc).map (fun d => d.parameters.length) = some 1 := by decide +kernel
theorem dd_chr_0 : decode cJ0_charAt_5068e 0 = .ok (.aload_n 0, 1) := by decide +kernel
theorem dd_chr_1 : decode cJ0_charAt_5068e 1 = .ok (.invokevirtual 492, 3) := by decide +kernel
theorem dd_chr_4 : decode cJ0_charAt_5068e 4 = .ok (.ifCond .eq 12, 3) := by decide +kernel
theorem dd_chr_7 : decode cJ0_charAt_5068e 7 = .ok (.aload_n 0, 1) := by decide +kernel
theorem dd_chr_8 : decode cJ0_charAt_5068e 8 = .ok (.getfield 9, 3) := by decide +kernel
theorem dd_chr_11 : decode cJ0_charAt_5068e 11 = .ok (.iload_n 1, 1) := by decide +kernel
theorem dd_chr_12 : decode cJ0_charAt_5068e 12 = .ok (.invokestatic 495, 3) := by decide +kernel
theorem dd_chr_15 : decode cJ0_charAt_5068e 15 = .ok (.ireturn, 1) := by decide +kernel
theorem dd_chr_16 : decode cJ0_charAt_5068e 16 = .ok (.aload_n 0, 1) := by decide +kernel
theorem dd_chr_17 : decode cJ0_charAt_5068e 17 = .ok (.getfield 9, 3) := by decide +kernel
theorem dd_chr_20 : decode cJ0_charAt_5068e 20 = .ok (.iload_n 1, 1) := by decide +kernel
theorem dd_chr_21 : decode cJ0_charAt_5068e 21 = .ok (.invokestatic 498, 3) := by decide +kernel
theorem dd_chr_24 : decode cJ0_charAt_5068e 24 = .ok (.ireturn, 1) := by decide +kernel
abbrev pj_c_cod : Cond := .code yJ0_coder_7d493 cJ0_coder_7d493 1 (some .byte)
theorem pj_w_cod : pj_c_cod ∈ pm_GW := pm_wd_good (p := 883) (by decide +kernel) rfl
theorem pj_g_cod : GoodIn pm_GW (pj_c_cod :: pm_GW) := pj_good pj_w_cod
theorem pj_m_cod : Cond.instanceMethod yJ0_coder_7d493 ∈ pm_GW := pm_wd_good (p := 881) (by decide +kernel) rfl
theorem pj_x_cod : Cond.selects "java/lang/String" yJ0_coder_7d493 yJ0_coder_7d493 ∈ pm_GW := pm_wd_good (p := 882) (by decide +kernel) rfl
theorem pj_d_cod : yJ0_coder_7d493.cls ≠ "java/lang/invoke/MethodHandle" ∧ yJ0_coder_7d493.cls ≠ "java/lang/invoke/VarHandle" ∧ (parseMethodDescriptor yJ0_coder_7d493.desc).map (fun d => d.parameters.length) = some 0 := by decide +kernel
theorem dd_cod_0 : decode cJ0_coder_7d493 0 = .ok (.getstatic 38, 3) := by decide +kernel
theorem dd_cod_3 : decode cJ0_coder_7d493 3 = .ok (.ifCond .eq 10, 3) := by decide +kernel
theorem dd_cod_6 : decode cJ0_coder_7d493 6 = .ok (.aload_n 0, 1) := by decide +kernel
theorem dd_cod_7 : decode cJ0_coder_7d493 7 = .ok (.getfield 15, 3) := by decide +kernel
theorem dd_cod_10 : decode cJ0_coder_7d493 10 = .ok (.goto 4, 3) := by decide +kernel
theorem dd_cod_13 : decode cJ0_coder_7d493 13 = .ok (.iconst 1, 1) := by decide +kernel
theorem dd_cod_14 : decode cJ0_coder_7d493 14 = .ok (.ireturn, 1) := by decide +kernel
abbrev pj_c_lat : Cond := .code yJ0_isLatin1_aae02 cJ0_isLatin1_aae02 1 (some .boolean)
theorem pj_w_lat : pj_c_lat ∈ pm_GW := pm_wd_good (p := 893) (by decide +kernel) rfl
theorem pj_g_lat : GoodIn pm_GW (pj_c_lat :: pm_GW) := pj_good pj_w_lat
theorem pj_m_lat : Cond.instanceMethod yJ0_isLatin1_aae02 ∈ pm_GW := pm_wd_good (p := 891) (by decide +kernel) rfl
theorem pj_x_lat : Cond.selects "java/lang/String" yJ0_isLatin1_aae02 yJ0_isLatin1_aae02 ∈ pm_GW := pm_wd_good (p := 892) (by decide +kernel) rfl
theorem pj_d_lat : yJ0_isLatin1_aae02.cls ≠ "java/lang/invoke/MethodHandle" ∧ yJ0_isLatin1_aae02.cls ≠ "java/lang/invoke/VarHandle" ∧ (parseMethodDescriptor yJ0_isLatin1_aae02.desc).map (fun d => d.parameters.length) = some 0 := by decide +kernel
theorem dd_lat_0 : decode cJ0_isLatin1_aae02 0 = .ok (.getstatic 38, 3) := by decide +kernel
theorem dd_lat_3 : decode cJ0_isLatin1_aae02 3 = .ok (.ifCond .eq 14, 3) := by decide +kernel
theorem dd_lat_6 : decode cJ0_isLatin1_aae02 6 = .ok (.aload_n 0, 1) := by decide +kernel
theorem dd_lat_7 : decode cJ0_isLatin1_aae02 7 = .ok (.getfield 15, 3) := by decide +kernel
theorem dd_lat_10 : decode cJ0_isLatin1_aae02 10 = .ok (.ifCond .ne 7, 3) := by decide +kernel
theorem dd_lat_13 : decode cJ0_isLatin1_aae02 13 = .ok (.iconst 1, 1) := by decide +kernel
theorem dd_lat_14 : decode cJ0_isLatin1_aae02 14 = .ok (.goto 4, 3) := by decide +kernel
theorem dd_lat_17 : decode cJ0_isLatin1_aae02 17 = .ok (.iconst 0, 1) := by decide +kernel
theorem dd_lat_18 : decode cJ0_isLatin1_aae02 18 = .ok (.ireturn, 1) := by decide +kernel
abbrev pj_c_lch : Cond := .code yJ1_charAt_3b067 cJ1_charAt_3b067 2 (some .char)
theorem pj_w_lch : pj_c_lch ∈ pm_GW := pm_wd_good (p := 896) (by decide +kernel) rfl
theorem pj_g_lch : GoodIn pm_GW (pj_c_lch :: pm_GW) := pj_good pj_w_lch
theorem pj_s_lch : Cond.static yJ1_charAt_3b067 ∈ pm_GW := pm_wd_good (p := 895) (by decide +kernel) rfl
theorem pj_d_lch : yJ1_charAt_3b067.cls ≠ "java/lang/invoke/MethodHandle" ∧ yJ1_charAt_3b067.cls ≠ "java/lang/invoke/VarHandle" ∧ (parseMethodDescriptor yJ1_charAt_3b067.desc).map (fun d => d.parameters.length) = some 2 := by decide +kernel
theorem dd_lch_0 : decode cJ1_charAt_3b067 0 = .ok (.iload_n 1, 1) := by decide +kernel
theorem dd_lch_1 : decode cJ1_charAt_3b067 1 = .ok (.aload_n 0, 1) := by decide +kernel
theorem dd_lch_2 : decode cJ1_charAt_3b067 2 = .ok (.arraylength, 1) := by decide +kernel
theorem dd_lch_3 : decode cJ1_charAt_3b067 3 = .ok (.invokestatic 9, 3) := by decide +kernel
theorem dd_lch_6 : decode cJ1_charAt_3b067 6 = .ok (.aload_n 0, 1) := by decide +kernel
theorem dd_lch_7 : decode cJ1_charAt_3b067 7 = .ok (.iload_n 1, 1) := by decide +kernel
theorem dd_lch_8 : decode cJ1_charAt_3b067 8 = .ok (.baload, 1) := by decide +kernel
theorem dd_lch_9 : decode cJ1_charAt_3b067 9 = .ok (.sipush 255, 3) := by decide +kernel
theorem dd_lch_12 : decode cJ1_charAt_3b067 12 = .ok (.iand, 1) := by decide +kernel
theorem dd_lch_13 : decode cJ1_charAt_3b067 13 = .ok (.i2c, 1) := by decide +kernel
theorem dd_lch_14 : decode cJ1_charAt_3b067 14 = .ok (.ireturn, 1) := by decide +kernel
abbrev pj_c_ci : Cond := .code yJ0_checkIndex_df160 cJ0_checkIndex_df160 2 none
theorem pj_w_ci : pj_c_ci ∈ pm_GW := pm_wd_good (p := 899) (by decide +kernel) rfl
theorem pj_g_ci : GoodIn pm_GW (pj_c_ci :: pm_GW) := pj_good pj_w_ci
theorem pj_s_ci : Cond.static yJ0_checkIndex_df160 ∈ pm_GW := pm_wd_good (p := 898) (by decide +kernel) rfl
theorem pj_d_ci : yJ0_checkIndex_df160.cls ≠ "java/lang/invoke/MethodHandle" ∧ yJ0_checkIndex_df160.cls ≠ "java/lang/invoke/VarHandle" ∧ (parseMethodDescriptor yJ0_checkIndex_df160.desc).map (fun d => d.parameters.length) = some 2 := by decide +kernel
theorem dd_ci_0 : decode cJ0_checkIndex_df160 0 = .ok (.iload_n 0, 1) := by decide +kernel
theorem dd_ci_1 : decode cJ0_checkIndex_df160 1 = .ok (.iload_n 1, 1) := by decide +kernel
theorem dd_ci_2 : decode cJ0_checkIndex_df160 2 = .ok (.getstatic 1053, 3) := by decide +kernel
theorem dd_ci_5 : decode cJ0_checkIndex_df160 5 = .ok (.invokestatic 1059, 3) := by decide +kernel
theorem dd_ci_8 : decode cJ0_checkIndex_df160 8 = .ok (.pop, 1) := by decide +kernel
theorem dd_ci_9 : decode cJ0_checkIndex_df160 9 = .ok (.return_, 1) := by decide +kernel
abbrev pj_c_pci : Cond := .code yJ3_checkIndex_8e157 cJ3_checkIndex_8e157 3 (some .int)
theorem pj_w_pci : pj_c_pci ∈ pm_GW := pm_wd_good (p := 904) (by decide +kernel) rfl
theorem pj_g_pci : GoodIn pm_GW (pj_c_pci :: pm_GW) := pj_good pj_w_pci
theorem pj_s_pci : Cond.static yJ3_checkIndex_8e157 ∈ pm_GW := pm_wd_good (p := 903) (by decide +kernel) rfl
theorem pj_d_pci : yJ3_checkIndex_8e157.cls ≠ "java/lang/invoke/MethodHandle" ∧ yJ3_checkIndex_8e157.cls ≠ "java/lang/invoke/VarHandle" ∧ (parseMethodDescriptor yJ3_checkIndex_8e157.desc).map (fun d => d.parameters.length) = some 3 := by decide +kernel
theorem dd_pci_0 : decode cJ3_checkIndex_8e157 0 = .ok (.iload_n 0, 1) := by decide +kernel
theorem dd_pci_1 : decode cJ3_checkIndex_8e157 1 = .ok (.ifCond .lt 8, 3) := by decide +kernel
theorem dd_pci_4 : decode cJ3_checkIndex_8e157 4 = .ok (.iload_n 0, 1) := by decide +kernel
theorem dd_pci_5 : decode cJ3_checkIndex_8e157 5 = .ok (.iload_n 1, 1) := by decide +kernel
theorem dd_pci_6 : decode cJ3_checkIndex_8e157 6 = .ok (.if_icmp .lt 10, 3) := by decide +kernel
theorem dd_pci_9 : decode cJ3_checkIndex_8e157 9 = .ok (.aload_n 2, 1) := by decide +kernel
theorem dd_pci_10 : decode cJ3_checkIndex_8e157 10 = .ok (.iload_n 0, 1) := by decide +kernel
theorem dd_pci_11 : decode cJ3_checkIndex_8e157 11 = .ok (.iload_n 1, 1) := by decide +kernel
theorem dd_pci_12 : decode cJ3_checkIndex_8e157 12 = .ok (.invokestatic 95, 3) := by decide +kernel
theorem dd_pci_15 : decode cJ3_checkIndex_8e157 15 = .ok (.athrow, 1) := by decide +kernel
theorem dd_pci_16 : decode cJ3_checkIndex_8e157 16 = .ok (.iload_n 0, 1) := by decide +kernel
theorem dd_pci_17 : decode cJ3_checkIndex_8e157 17 = .ok (.ireturn, 1) := by decide +kernel
theorem pj_f_val : Cond.fieldLink "java/lang/String" 9 "java/lang/String" "value" "[B" ∈ pm_GW := pm_wd_good (p := 2158) (by decide +kernel) rfl
theorem pj_f_cs : Cond.fieldLink "java/lang/String" 38 "java/lang/String" "COMPACT_STRINGS" "Z" ∈ pm_GW := pm_wd_good (p := 884) (by decide +kernel) rfl
theorem pj_f_cod : Cond.fieldLink "java/lang/String" 15 "java/lang/String" "coder" "B" ∈ pm_GW := pm_wd_good (p := 2159) (by decide +kernel) rfl
theorem pj_f_sio : Cond.fieldLink "java/lang/String" 1053 "jdk/internal/util/Preconditions" "SIOOBE_FORMATTER" "Ljava/util/function/BiFunction;" ∈ pm_GW := pm_wd_good (p := 900) (by decide +kernel) rfl
theorem pj_l_len_cod : Cond.methodLink "java/lang/String" 335 yJ0_coder_7d493 ∈ pm_GW := pm_wd_good (p := 880) (by decide +kernel) rfl
theorem pj_l_chr_lat : Cond.methodLink "java/lang/String" 492 yJ0_isLatin1_aae02 ∈ pm_GW := pm_wd_good (p := 890) (by decide +kernel) rfl
theorem pj_l_chr_lch : Cond.methodLink "java/lang/String" 495 yJ1_charAt_3b067 ∈ pm_GW := pm_wd_good (p := 894) (by decide +kernel) rfl
theorem pj_l_lch_ci : Cond.methodLink "java/lang/StringLatin1" 9 yJ0_checkIndex_df160 ∈ pm_GW := pm_wd_good (p := 897) (by decide +kernel) rfl
theorem pj_l_ci_pci : Cond.methodLink "java/lang/String" 1059 yJ3_checkIndex_8e157 ∈ pm_GW := pm_wd_good (p := 902) (by decide +kernel) rfl
theorem pj_i_str : Cond.initialized "java/lang/String" ∈ pm_GW := pm_wd_good (p := 147) (by decide +kernel) rfl
theorem pj_i_l1 : Cond.initialized "java/lang/StringLatin1" ∈ pm_GW := pm_wd_good (p := 148) (by decide +kernel) rfl

def pj_rm (j : Nat) : Room := { frames := j, cells := 0, slots := 0, locals := 40 * j }
def pj_Q (r : Option Value) : Array Value → State → Outcome → State → Prop := fun _ st oc t => oc = .returned r ∧ t.heap = st.heap
section Txt
variable {p : Program} {l : Launch} {e : Env} {Rm : Room} {s : State} {m : MethodId} {args : Array Value} {below : List Frame} {meth : Method} {c : Code}
variable {base : Nat} {D : va_G} {cy : Nat → ClassId} {sad sav : Nat → Nat} {b L : Nat} {xs : Nat → Int32} {k d : Nat} {Z : State → Prop} {E : pm_E} {Q : pm_R → pm_H → Prop}
variable {pc len : Nat} {lv : pm_L} {st : List Value} {fz : Bool} {n : Nat} {sh : Nat → Nat × Nat} {I : Nat → Nat → Int32} {J : Nat → Nat → Int64} {R : Nat → Nat → Option Nat} {c0 z0 : Nat} {ts : List Nat} {v : Int32}
theorem pj_cont {H : Heap} {locs : List Loc} {ls : Array Slot} {rest st0 : List Value} {a : Array Value} {r : Option Value} (hr : va_Run p l e Rm s m args below meth c H locs c0 z0 0 0 (F0 m pc ls st0) rest (pj_Q r a) (fun _ => False))
    (kk : W p l e Rm s m args below meth c H locs c0 z0 Z (F0 m (pc + 3) ls (r.toList ++ rest))) : W p l e Rm s m args below meth c H locs c0 z0 Z (F0 m pc ls st0) := by
  intro T hT X
  obtain ⟨w, st₀, t, T', L', h0, X', hL, e1, e2, ⟨hv, hh⟩, stp⟩ := hr T hT X
  cases hv
  cases L' with
  | cons q t9 => exact (hL q List.mem_cons_self).elim
  | nil =>
    rw [List.append_nil] at X'
    obtain ⟨t2, a1, b1⟩ := kk T' (by rw [e1, hh, h0]) X'
    exact ⟨t2, stp t2 a1, b1⟩
theorem pj_blind {as : List Value} : FrameBlind (va_Pc as (fun U => pm_C base D cy sad sav b L xs U)) := by
  intro a U g mk q
  exact ⟨q.1, pm_C_warm (s := U) (U := U.calling g mk a) (State.WarmedH.refl U) (Nat.le_refl _) (fun _ _ _ => rfl) q.2⟩
theorem pj_pre {as : List Value} {H : Heap} {locs : List Loc} (hC : pm_C base D cy sad sav b L xs s) (hS : va_S (pm_A base) s.heap H locs) : ∀ U : State, U.heap = H → s.WarmedH U.vm → va_Pc as (fun U => pm_C base D cy sad sav b L xs U) as.toArray U := fun U hU hW => ⟨rfl, pm_C_warm hW (by rw [hU]; exact hS.1) (fun a h1 h2 => by rw [hU]; exact hS.2.1 a h1 h2) hC⟩
end Txt
theorem pj_shr0 (x : Int32) : x >>> ((0 : Int32) &&& 31) = x := by
  rw [show ((0 : Int32) &&& 31) = 0 by decide]
  simp
theorem pj_byte : ∀ j, j < pm_sn → ∀ i, i < pm_slen j → ((pm_sb j i &&& 255).toUInt32 % 65536).toInt32 = pm_sb j i ∧ narrow .char (.int (pm_sb j i)) = .int (pm_sb j i) ∧ pm_slen j < 1000 := by decide +kernel
section Jdk
variable {l : Launch} {base : Nat} {D : va_G} {cy : Nat → ClassId} {sad sav : Nat → Nat} {b L : Nat} {xs : Nat → Int32}
set_option maxHeartbeats 1000000 in
theorem pj_coder {i : Nat} (hi : i < pm_sn) : Met l yJ0_coder_7d493 (pj_c_cod :: pm_GW) (pj_rm 0) (va_Pc [.ref (sad i)] (fun U => pm_C base D cy sad sav b L xs U)) (pj_Q (some (.int 0))) 0 0 (fun _ => False) := by
  refine Met.ofW (cc := cJ0_coder_7d493) (maxL := 1) (ret := (some .byte)) (by decide +kernel) rfl ?_
  intro p e s m args below meth c s₁ B hml hv
  obtain ⟨rfl, hC⟩ := hv
  have hx := B.exec
  have hb := B.bytes
  have hr := B.returns
  have hts0 := atoms_spec (ws := pj_c_cod :: pm_GW) B.pre
  have hts : ∀ w ∈ pm_GW, w.before [Value.ref (sad i)].toArray s = true := fun w hw => hts0 w (List.mem_cons_of_mem _ hw)
  have hown : s.vm.findClass "java/lang/String" = some m.cls := findClass_of_methodNamed B.named
  have hlocks := B.notSynchronized
  have hS : va_S (pm_A base) s.heap s.heap [] := va_S.rf
  have hl := lv_entry ([.ref (sad i)]) (n := 1) (Nat.le_of_ble_eq_true rfl)
  rw [lg_entry_eq]
  generalize (lg_sl ([.ref (sad i)]) ++ List.replicate (1 - (lg_sl ([.ref (sad i)])).length) Slot.unset).toArray = ls at hl ⊢
  have hl : lv_has ls 1 [(0, .ref (sad i))] := hl
  refine va_gets hx hb hC.2.2.2.1.1 hS hown (hts _ pj_f_cs) (fun _ h => h) dd_cod_0 ?_
  refine lv_if_eq (tgt := 13) hx hb dd_cod_3 (by decide) (fun q => absurd q (by decide)) (fun _ => ?_)
  refine lv_aload_n hx hb dd_cod_6 rfl (lv_at hl 0 rfl) ?_
  refine vk_getf hx hb (hC.2.2.1 i hi).2.1 hS hown (hts _ pj_f_cod) (fun _ h => h) dd_cod_7 ?_
  refine lv_goto (tgt := 14) hx hb dd_cod_10 (by decide) ?_
  exact W.zret hx hb hr rfl (fun t ht hW => ⟨rfl, ht⟩) (fun q hq => nomatch hq) dd_cod_14
set_option maxHeartbeats 1000000 in
theorem pj_latin {i : Nat} (hi : i < pm_sn) : Met l yJ0_isLatin1_aae02 (pj_c_lat :: pm_GW) (pj_rm 0) (va_Pc [.ref (sad i)] (fun U => pm_C base D cy sad sav b L xs U)) (pj_Q (some (.int 1))) 0 0 (fun _ => False) := by
  refine Met.ofW (cc := cJ0_isLatin1_aae02) (maxL := 1) (ret := (some .boolean)) (by decide +kernel) rfl ?_
  intro p e s m args below meth c s₁ B hml hv
  obtain ⟨rfl, hC⟩ := hv
  have hx := B.exec
  have hb := B.bytes
  have hr := B.returns
  have hts0 := atoms_spec (ws := pj_c_lat :: pm_GW) B.pre
  have hts : ∀ w ∈ pm_GW, w.before [Value.ref (sad i)].toArray s = true := fun w hw => hts0 w (List.mem_cons_of_mem _ hw)
  have hown : s.vm.findClass "java/lang/String" = some m.cls := findClass_of_methodNamed B.named
  have hlocks := B.notSynchronized
  have hS : va_S (pm_A base) s.heap s.heap [] := va_S.rf
  have hl := lv_entry ([.ref (sad i)]) (n := 1) (Nat.le_of_ble_eq_true rfl)
  rw [lg_entry_eq]
  generalize (lg_sl ([.ref (sad i)]) ++ List.replicate (1 - (lg_sl ([.ref (sad i)])).length) Slot.unset).toArray = ls at hl ⊢
  have hl : lv_has ls 1 [(0, .ref (sad i))] := hl
  refine va_gets hx hb hC.2.2.2.1.1 hS hown (hts _ pj_f_cs) (fun _ h => h) dd_lat_0 ?_
  refine lv_if_eq (tgt := 17) hx hb dd_lat_3 (by decide) (fun q => absurd q (by decide)) (fun _ => ?_)
  refine lv_aload_n hx hb dd_lat_6 rfl (lv_at hl 0 rfl) ?_
  refine vk_getf hx hb (hC.2.2.1 i hi).2.1 hS hown (hts _ pj_f_cod) (fun _ h => h) dd_lat_7 ?_
  refine lv_if_ne (tgt := 17) hx hb dd_lat_10 (by decide) (fun q => absurd rfl q) (fun _ => ?_)
  refine lv_iconst (v := 1) hx hb dd_lat_13 (by decide) ?_
  refine lv_goto (tgt := 18) hx hb dd_lat_14 (by decide) ?_
  exact W.zret hx hb hr rfl (fun t ht hW => ⟨rfl, ht⟩) (fun q hq => nomatch hq) dd_lat_18
set_option maxHeartbeats 1000000 in
theorem pj_length {i : Nat} (hi : i < pm_sn) : Met l yJ0_length_8abf5 (pj_c_len :: pm_GW) (pj_rm 1) (va_Pc [.ref (sad i)] (fun U => pm_C base D cy sad sav b L xs U)) (pj_Q (some (.int (nI (pm_slen i))))) 0 0 (fun _ => False) := by
  refine Met.ofW (cc := cJ0_length_8abf5) (maxL := 1) (ret := (some .int)) (by decide +kernel) rfl ?_
  intro p e s m args below meth c s₁ B hml hv
  obtain ⟨rfl, hC⟩ := hv
  have hx := B.exec
  have hb := B.bytes
  have hr := B.returns
  have hts0 := atoms_spec (ws := pj_c_len :: pm_GW) B.pre
  have hts : ∀ w ∈ pm_GW, w.before [Value.ref (sad i)].toArray s = true := fun w hw => hts0 w (List.mem_cons_of_mem _ hw)
  have hown : s.vm.findClass "java/lang/String" = some m.cls := findClass_of_methodNamed B.named
  have hlocks := B.notSynchronized
  have hS : va_S (pm_A base) s.heap s.heap [] := va_S.rf
  have hl := lv_entry ([.ref (sad i)]) (n := 1) (Nat.le_of_ble_eq_true rfl)
  rw [lg_entry_eq]
  generalize (lg_sl ([.ref (sad i)]) ++ List.replicate (1 - (lg_sl ([.ref (sad i)])).length) Slot.unset).toArray = ls at hl ⊢
  have hl : lv_has ls 1 [(0, .ref (sad i))] := hl
  refine lv_aload_n hx hb dd_len_0 rfl (lv_at hl 0 rfl) ?_
  refine vk_getf hx hb (hC.2.2.1 i hi).2.2.1 hS hown (hts _ pj_f_val) (fun _ h => h) dd_len_1 ?_
  refine va_tlen (v := nI (pm_slen i)) hx hb (hC.2.2.1 i hi).2.2.2 hS rfl dd_len_4 ?_
  refine lv_aload_n hx hb dd_len_5 rfl (lv_at hl 0 rfl) ?_
  refine pj_cont (r := some (.int 0)) (rest := [.int (nI (pm_slen i))]) (a := [Value.ref (sad i)].toArray) (va_runV (As := []) (b := sad i) (nL := 1) (Ts := pm_GW) ⟨hx, hb, hml, hown, hts⟩ (pj_coder (base := base) (D := D) (cy := cy) (sad := sad) (sav := sav) (b := b) (L := L) (xs := xs) hi) ⟨callB_of 0 hts pj_g_cod rfl rfl rfl (hts _ pj_i_str) (hts _ pj_l_len_cod) pj_d_cod ⟨Nat.le_of_ble_eq_true rfl, Nat.le_of_ble_eq_true rfl⟩, hts _ pj_m_cod, hts _ pj_x_cod⟩ ⟨pj_blind, pm_vS_recv hC.2.2.1 hi hS, pj_pre hC hS⟩ rfl rfl hl.1 rfl (lv_room (Nat.le_of_ble_eq_true rfl)) dd_len_6 ⟨Nat.le_refl _, Nat.le_refl _⟩) ?_
  refine lv_ishr hx hb dd_len_9 ?_
  have e0 : (nI (pm_slen i)) >>> ((0 : Int32) &&& 31) = nI (pm_slen i) := pj_shr0 _
  rw [e0]
  exact W.iret hx hb hr (fun t ht hW => ⟨rfl, ht⟩) (fun q hq => nomatch hq) dd_len_10
set_option maxHeartbeats 1000000 in
theorem pj_pcheck {x y : Int32} {f : Value} (hf : f = .null ∨ ∃ a, f = .ref a) (h0 : ¬ x < 0) (h1 : x < y) : Met l yJ3_checkIndex_8e157 (pj_c_pci :: pm_GW) (pj_rm 0) (va_Pc [.int x, .int y, f] (fun U => pm_C base D cy sad sav b L xs U)) (pj_Q (some (.int x))) 0 0 (fun _ => False) := by
  have hcat : f.category = 1 := by rcases hf with rfl | ⟨a, rfl⟩ <;> rfl
  refine Met.ofW (cc := cJ3_checkIndex_8e157) (maxL := 3) (ret := (some .int)) (by decide +kernel) rfl ?_
  intro p e s m args below meth c s₁ B hml hv
  obtain ⟨rfl, hC⟩ := hv
  have hx := B.exec
  have hb := B.bytes
  have hr := B.returns
  have hts0 := atoms_spec (ws := pj_c_pci :: pm_GW) B.pre
  have hts : ∀ w ∈ pm_GW, w.before ([.int x, .int y, f] : List Value).toArray s = true := fun w hw => hts0 w (List.mem_cons_of_mem _ hw)
  have hown : s.vm.findClass "jdk/internal/util/Preconditions" = some m.cls := findClass_of_methodNamed B.named
  have hlocks := B.notSynchronized
  have hS : va_S (pm_A base) s.heap s.heap [] := va_S.rf
  have hl := lv_entry ([.int x, .int y, f]) (n := 3) (by rcases hf with rfl | ⟨a, rfl⟩ <;> exact Nat.le_of_ble_eq_true rfl)
  rw [lg_entry_eq]
  generalize (lg_sl ([.int x, .int y, f]) ++ List.replicate (3 - (lg_sl ([.int x, .int y, f])).length) Slot.unset).toArray = ls at hl ⊢
  have hl : lv_has ls 3 [(0, .int x), (1, .int y), (2, f)] := by
    have e0 : lv_args 0 [.int x, .int y, f] = [(0, .int x), (1, .int y), (2, f)] := by simp [lv_args, Value.category]
    rw [e0] at hl
    exact hl
  refine lv_iload_n hx hb dd_pci_0 rfl (lv_at hl 0 rfl) ?_
  refine lv_if_lt (tgt := 9) hx hb dd_pci_1 (by decide) (fun q => absurd q h0) (fun _ => ?_)
  refine lv_iload_n hx hb dd_pci_4 rfl (lv_at hl 0 rfl) ?_
  refine lv_iload_n hx hb dd_pci_5 rfl (lv_at hl 1 rfl) ?_
  refine lv_icmp_lt (tgt := 16) hx hb dd_pci_6 (by decide) (fun _ => ?_) (fun q => absurd h1 q)
  refine lv_iload_n hx hb dd_pci_16 rfl (lv_at hl 0 rfl) ?_
  exact W.iret hx hb hr (fun t ht hW => ⟨rfl, ht⟩) (fun q hq => nomatch hq) dd_pci_17
theorem pj_ip : Cond.initialized "jdk/internal/util/Preconditions" ∈ pm_GW := pm_wd_good (p := 149) (by decide +kernel) rfl
set_option maxHeartbeats 1000000 in
theorem pj_check {x y : Int32} (h0 : ¬ x < 0) (h1 : x < y) : Met l yJ0_checkIndex_df160 (pj_c_ci :: pm_GW) (pj_rm 1) (va_Pc [.int x, .int y] (fun U => pm_C base D cy sad sav b L xs U)) (pj_Q none) 0 0 (fun _ => False) := by
  refine Met.ofW (cc := cJ0_checkIndex_df160) (maxL := 2) (ret := none) (by decide +kernel) rfl ?_
  intro p e s m args below meth c s₁ B hml hv
  obtain ⟨rfl, hC⟩ := hv
  have hx := B.exec
  have hb := B.bytes
  have hr := B.returns
  have hts0 := atoms_spec (ws := pj_c_ci :: pm_GW) B.pre
  have hts : ∀ w ∈ pm_GW, w.before ([.int x, .int y] : List Value).toArray s = true := fun w hw => hts0 w (List.mem_cons_of_mem _ hw)
  have hown : s.vm.findClass "java/lang/String" = some m.cls := findClass_of_methodNamed B.named
  have hlocks := B.notSynchronized
  have hS : va_S (pm_A base) s.heap s.heap [] := va_S.rf
  have hl := lv_entry ([.int x, .int y]) (n := 2) (Nat.le_of_ble_eq_true rfl)
  rw [lg_entry_eq]
  generalize (lg_sl ([.int x, .int y]) ++ List.replicate (2 - (lg_sl ([.int x, .int y])).length) Slot.unset).toArray = ls at hl ⊢
  have hl : lv_has ls 2 [(0, .int x), (1, .int y)] := hl
  refine lv_iload_n hx hb dd_ci_0 rfl (lv_at hl 0 rfl) ?_
  refine lv_iload_n hx hb dd_ci_1 rfl (lv_at hl 1 rfl) ?_
  have key : ∀ f : Value, (f = .null ∨ ∃ a, f = .ref a) → va_Z "jdk/internal/util/Preconditions" "SIOOBE_FORMATTER" "Ljava/util/function/BiFunction;" f (pm_A base) s s.heap → W p l e (headSpec (pj_c_ci :: pm_GW) (pj_rm 1)).room s m ([.int x, .int y] : List Value).toArray below meth c s.heap [] 0 0 (MQ below (pj_Q none) ([.int x, .int y] : List Value).toArray s 0 0 (fun _ => False)) (F0 m 2 ls [.int y, .int x]) := by
    intro f hf hZ
    refine va_gets hx hb hZ hS hown (hts _ pj_f_sio) (fun _ h => h) dd_ci_2 ?_
    refine pj_cont (r := some (.int x)) (rest := []) (a := ([.int x, .int y, f] : List Value).toArray) (va_runS (As := [.int x, .int y, f]) (nL := 2) (Ts := pm_GW) ⟨hx, hb, hml, hown, hts⟩ (pj_pcheck (base := base) (D := D) (cy := cy) (sad := sad) (sav := sav) (b := b) (L := L) (xs := xs) hf h0 h1) ⟨callB_of 3 hts pj_g_pci rfl rfl rfl (hts _ pj_ip) (hts _ pj_l_ci_pci) pj_d_pci ⟨Nat.le_of_ble_eq_true rfl, Nat.le_of_ble_eq_true rfl⟩, hts _ pj_s_pci⟩ ⟨pj_blind, pj_pre hC hS⟩ rfl rfl hl.1 rfl (lv_room (Nat.le_of_ble_eq_true rfl)) dd_ci_5 ⟨Nat.le_refl _, Nat.le_refl _⟩) ?_
    refine lv_pop hx hb dd_ci_8 rfl ?_
    exact W.vret hx hb hr (fun t ht hW => ⟨rfl, ht⟩) (fun q hq => nomatch hq) dd_ci_9
  rcases hC.2.2.2.1.2 with q | ⟨a, q⟩
  · exact key .null (Or.inl rfl) q
  · exact key (.ref a) (Or.inr ⟨a, rfl⟩) q
theorem pj_nlt {x : Int32} {n : Nat} (h : vp_in x n) (hn : n < 1000) : ¬ x < 0 ∧ x < nI n := by
  obtain ⟨j, hj, rfl⟩ := vp_in_of h (by omega)
  exact ⟨nI_pos (by omega), nI_lt hj (by omega)⟩
set_option maxHeartbeats 1000000 in
theorem pj_lcharAt {i : Nat} {x : Int32} (hi : i < pm_sn) (hx0 : vp_in x (pm_slen i)) (hb1 : ((pm_sb i x.toNatClampNeg &&& 255).toUInt32 % 65536).toInt32 = pm_sb i x.toNatClampNeg) (hb2 : narrow .char (.int (pm_sb i x.toNatClampNeg)) = .int (pm_sb i x.toNatClampNeg)) (hb3 : pm_slen i < 1000) : Met l yJ1_charAt_3b067 (pj_c_lch :: pm_GW) (pj_rm 2) (va_Pc [.ref (sav i), .int x] (fun U => pm_C base D cy sad sav b L xs U)) (pj_Q (some (.int (pm_sb i x.toNatClampNeg)))) 0 0 (fun _ => False) := by
  refine Met.ofW (cc := cJ1_charAt_3b067) (maxL := 2) (ret := (some .char)) (by decide +kernel) rfl ?_
  intro p e s m args below meth c s₁ B hml hv
  obtain ⟨rfl, hC⟩ := hv
  have hx := B.exec
  have hb := B.bytes
  have hr := B.returns
  have hts0 := atoms_spec (ws := pj_c_lch :: pm_GW) B.pre
  have hts : ∀ w ∈ pm_GW, w.before ([.ref (sav i), .int x] : List Value).toArray s = true := fun w hw => hts0 w (List.mem_cons_of_mem _ hw)
  have hown : s.vm.findClass "java/lang/StringLatin1" = some m.cls := findClass_of_methodNamed B.named
  have hlocks := B.notSynchronized
  have hS : va_S (pm_A base) s.heap s.heap [] := va_S.rf
  have hl := lv_entry ([.ref (sav i), .int x]) (n := 2) (Nat.le_of_ble_eq_true rfl)
  rw [lg_entry_eq]
  generalize (lg_sl ([.ref (sav i), .int x]) ++ List.replicate (2 - (lg_sl ([.ref (sav i), .int x])).length) Slot.unset).toArray = ls at hl ⊢
  have hl : lv_has ls 2 [(0, .ref (sav i)), (1, .int x)] := hl
  have hT := (hC.2.2.1 i hi).2.2.2
  refine lv_iload_n hx hb dd_lch_0 rfl (lv_at hl 1 rfl) ?_
  refine lv_aload_n hx hb dd_lch_1 rfl (lv_at hl 0 rfl) ?_
  refine va_tlen (v := nI (pm_slen i)) hx hb hT hS rfl dd_lch_2 ?_
  refine pj_cont (r := none) (rest := []) (a := ([.int x, .int (nI (pm_slen i))] : List Value).toArray) (va_runS (As := [.int x, .int (nI (pm_slen i))]) (nL := 2) (Ts := pm_GW) ⟨hx, hb, hml, hown, hts⟩ (pj_check (base := base) (D := D) (cy := cy) (sad := sad) (sav := sav) (b := b) (L := L) (xs := xs) (pj_nlt hx0 hb3).1 (pj_nlt hx0 hb3).2) ⟨callB_of 2 hts pj_g_ci rfl rfl rfl (hts _ pj_i_str) (hts _ pj_l_lch_ci) pj_d_ci ⟨Nat.le_of_ble_eq_true rfl, Nat.le_of_ble_eq_true rfl⟩, hts _ pj_s_ci⟩ ⟨pj_blind, pj_pre hC hS⟩ rfl rfl hl.1 rfl (lv_room (Nat.le_of_ble_eq_true rfl)) dd_lch_3 ⟨Nat.le_refl _, Nat.le_refl _⟩) ?_
  refine lv_aload_n hx hb dd_lch_6 rfl (lv_at hl 0 rfl) ?_
  refine lv_iload_n hx hb dd_lch_7 rfl (lv_at hl 1 rfl) ?_
  refine va_tb (v := .int (pm_sb i x.toNatClampNeg)) hx hb hT hS hx0 rfl dd_lch_8 ?_
  refine lv_sipush (v := 255) hx hb dd_lch_9 (by decide) ?_
  refine lv_iand hx hb dd_lch_12 ?_
  refine lv_i2c hx hb dd_lch_13 hb1 ?_
  exact W.zret hx hb hr hb2 (fun t ht hW => ⟨rfl, ht⟩) (fun q hq => nomatch hq) dd_lch_14
set_option maxHeartbeats 1000000 in
theorem pj_charAt {i : Nat} {x : Int32} (hi : i < pm_sn) (hx0 : vp_in x (pm_slen i)) (hb1 : ((pm_sb i x.toNatClampNeg &&& 255).toUInt32 % 65536).toInt32 = pm_sb i x.toNatClampNeg) (hb2 : narrow .char (.int (pm_sb i x.toNatClampNeg)) = .int (pm_sb i x.toNatClampNeg)) (hb3 : pm_slen i < 1000) : Met l yJ0_charAt_5068e (pj_c_chr :: pm_GW) (pj_rm 3) (va_Pc [.ref (sad i), .int x] (fun U => pm_C base D cy sad sav b L xs U)) (pj_Q (some (.int (pm_sb i x.toNatClampNeg)))) 0 0 (fun _ => False) := by
  refine Met.ofW (cc := cJ0_charAt_5068e) (maxL := 2) (ret := (some .char)) (by decide +kernel) rfl ?_
  intro p e s m args below meth c s₁ B hml hv
  obtain ⟨rfl, hC⟩ := hv
  have hx := B.exec
  have hb := B.bytes
  have hr := B.returns
  have hts0 := atoms_spec (ws := pj_c_chr :: pm_GW) B.pre
  have hts : ∀ w ∈ pm_GW, w.before ([.ref (sad i), .int x] : List Value).toArray s = true := fun w hw => hts0 w (List.mem_cons_of_mem _ hw)
  have hown : s.vm.findClass "java/lang/String" = some m.cls := findClass_of_methodNamed B.named
  have hlocks := B.notSynchronized
  have hS : va_S (pm_A base) s.heap s.heap [] := va_S.rf
  have hl := lv_entry ([.ref (sad i), .int x]) (n := 2) (Nat.le_of_ble_eq_true rfl)
  rw [lg_entry_eq]
  generalize (lg_sl ([.ref (sad i), .int x]) ++ List.replicate (2 - (lg_sl ([.ref (sad i), .int x])).length) Slot.unset).toArray = ls at hl ⊢
  have hl : lv_has ls 2 [(0, .ref (sad i)), (1, .int x)] := hl
  refine lv_aload_n hx hb dd_chr_0 rfl (lv_at hl 0 rfl) ?_
  refine pj_cont (r := some (.int 1)) (rest := []) (a := ([Value.ref (sad i)] : List Value).toArray) (va_runV (As := []) (b := sad i) (nL := 2) (Ts := pm_GW) ⟨hx, hb, hml, hown, hts⟩ (pj_latin (base := base) (D := D) (cy := cy) (sad := sad) (sav := sav) (b := b) (L := L) (xs := xs) hi) ⟨callB_of 0 hts pj_g_lat rfl rfl rfl (hts _ pj_i_str) (hts _ pj_l_chr_lat) pj_d_lat ⟨Nat.le_of_ble_eq_true rfl, Nat.le_of_ble_eq_true rfl⟩, hts _ pj_m_lat, hts _ pj_x_lat⟩ ⟨pj_blind, pm_vS_recv hC.2.2.1 hi hS, pj_pre hC hS⟩ rfl rfl hl.1 rfl (lv_room (Nat.le_of_ble_eq_true rfl)) dd_chr_1 ⟨Nat.le_refl _, Nat.le_refl _⟩) ?_
  refine lv_if_eq (tgt := 16) hx hb dd_chr_4 (by decide) (fun q => absurd q (by decide)) (fun _ => ?_)
  refine lv_aload_n hx hb dd_chr_7 rfl (lv_at hl 0 rfl) ?_
  refine vk_getf hx hb (hC.2.2.1 i hi).2.2.1 hS hown (hts _ pj_f_val) (fun _ h => h) dd_chr_8 ?_
  refine lv_iload_n hx hb dd_chr_11 rfl (lv_at hl 1 rfl) ?_
  refine pj_cont (r := some (.int (pm_sb i x.toNatClampNeg))) (rest := []) (a := ([Value.ref (sav i), .int x] : List Value).toArray) (va_runS (As := [.ref (sav i), .int x]) (nL := 2) (Ts := pm_GW) ⟨hx, hb, hml, hown, hts⟩ (pj_lcharAt (base := base) (D := D) (cy := cy) (sad := sad) (sav := sav) (b := b) (L := L) (xs := xs) hi hx0 hb1 hb2 hb3) ⟨callB_of 2 hts pj_g_lch rfl rfl rfl (hts _ pj_i_l1) (hts _ pj_l_chr_lch) pj_d_lch ⟨Nat.le_of_ble_eq_true rfl, Nat.le_of_ble_eq_true rfl⟩, hts _ pj_s_lch⟩ ⟨pj_blind, pj_pre hC hS⟩ rfl rfl hl.1 rfl (lv_room (Nat.le_of_ble_eq_true rfl)) dd_chr_12 ⟨Nat.le_refl _, Nat.le_refl _⟩) ?_
  exact W.zret hx hb hr hb2 (fun t ht hW => ⟨rfl, ht⟩) (fun q hq => nomatch hq) dd_chr_15
end Jdk
theorem pm_blt {a b : Nat} (h : Nat.blt a b = true) : a < b := Nat.le_of_ble_eq_true h
theorem pm_adS {base : Nat} {sad : Nat → Nat} {b a : Nat} (h : pm_isS a = true) : pm_sx a < pm_sn ∧ pm_ad base sad b a = sad (pm_sx a) := by
  unfold pm_isS at h
  rw [Bool.and_eq_true] at h
  have h1 := Nat.eq_of_beq_eq_true h.1
  have h2 := pm_blt h.2
  refine ⟨h2, ?_⟩
  generalize pm_sx a = j at h1 h2
  subst h1
  have h3 : pm_sn = 33 := rfl
  rw [h3] at h2
  unfold pm_ad
  rw [if_neg (by omega), if_pos (by omega), Nat.add_sub_cancel_left]
theorem pj_room {Rm : Room} {d j ml : Nat} (h : d + 21 ≤ Rm.frames ∧ 100 * d + 400 ≤ Rm.locals) (hj : j ≤ 3) (hm : ml ≤ 2) : (pj_rm j).frames + 1 ≤ Rm.frames ∧ 8 + (ml + 11) + (pj_rm j).locals ≤ Rm.locals := ⟨by show j + 1 ≤ _; omega, by show 8 + (ml + 11) + 40 * j ≤ _; omega⟩
section Txt2
variable {p : Program} {l : Launch} {e : Env} {Rm : Room} {s : State} {m : MethodId} {args : Array Value} {below : List Frame} {meth : Method} {c : Code}
variable {base : Nat} {D : va_G} {cy : Nat → ClassId} {sad sav : Nat → Nat} {b L : Nat} {xs : Nat → Int32} {k d : Nat} {Z : State → Prop} {E : pm_E} {Q : pm_R → pm_H → Prop}
variable {pc len : Nat} {lv : pm_L} {st : List Value} {fz : Bool} {n : Nat} {sh : Nat → Nat × Nat} {I : Nat → Nat → Int32} {J : Nat → Nat → Int64} {R : Nat → Nat → Option Nat} {c0 z0 : Nat} {ts : List Nat} {v : Int32}
theorem pm_chr1 (C : pm_cx p l Rm s m args meth c k d base D cy sad sav b L xs) {w p0 j : Nat} {x : Int32} {rest : List Value} {H : Heap} {locs : List Loc} {ls : Array Slot} (hd : decode (pm_by k) pc = .ok (.invokevirtual w, 3)) (hci : pm_wd p0 (.methodLink (pm_cn (pm_ow k)) w yJ0_charAt_5068e) = true) (hi : j < pm_sn) (hin : vp_in x (pm_slen j)) (hS : va_S (pm_A base) s.heap H locs) (hl1 : ls.size = pm_ml k) (hcat : (rest.map fun v => v.category).sum ≤ 8) (hc0 : c0 ≤ pm_mc k) (hz0 : z0 ≤ pm_ms k)
    (kk : W p l e Rm s m args below meth c H locs c0 z0 Z (F0 m (pc + 3) ls (.int (pm_sb j x.toNatClampNeg) :: rest))) : W p l e Rm s m args below meth c H locs c0 z0 Z (F0 m pc ls (.int x :: .ref (sad j) :: rest)) := by
  obtain ⟨hx, hb, hml, hown, hts, hnm, hC, hRm, hk, hst, hlk, htb, hrt⟩ := C
  have hlt : x.toNatClampNeg < pm_slen j := Nat.not_le.mp fun q => hin (Or.inr q)
  obtain ⟨e1, e2, e3⟩ := pj_byte j hi x.toNatClampNeg hlt
  generalize hbv : pm_sb j x.toNatClampNeg = bv at *
  have hM := pj_charAt (l := l) (base := base) (D := D) (cy := cy) (sad := sad) (sav := sav) (b := b) (L := L) (xs := xs) hi hin (by rw [hbv]; exact e1) (by rw [hbv]; exact e2) e3
  rw [hbv] at hM
  have hCB : CallB Rm s args (pm_cn (pm_ow k)) w yJ0_charAt_5068e cJ0_charAt_5068e 2 (some .char) (pj_c_chr :: pm_GW) (pj_rm 3) 0 0 1 := callB_of 1 hts pj_g_chr rfl rfl rfl (hts _ pj_i_str) (hts _ (pm_wd_good hci rfl)) pj_d_chr (pj_room ⟨hRm.1, hRm.2.1⟩ (by decide) (by decide))
  have hcells : c0 + 0 ≤ Rm.cells ∧ z0 + 0 ≤ Rm.slots := ⟨by rw [hRm.2.2.1]; exact hc0, by rw [hRm.2.2.2]; exact hz0⟩
  have hrun : va_Run p l e Rm s m args below meth c H locs c0 z0 0 0 (F0 m pc ls (.int x :: .ref (sad j) :: rest)) rest (pj_Q (some (.int bv)) (Value.ref (sad j) :: [.int x]).toArray) (fun _ => False) := va_runV (C := "java/lang/String") (As := [.int x]) (b := sad j) (n := 1) (nL := pm_ml k) (cc := pm_by k) (Ts := pm_GW) ⟨hx, hb, hml, hown, hts⟩ hM ⟨hCB, hts _ pj_m_chr, hts _ pj_x_chr⟩ ⟨pj_blind, pm_vS_recv hC.2.2.1 hi hS, pj_pre hC hS⟩ rfl rfl hl1 rfl (lv_room hcat) hd hcells
  exact pj_cont hrun kk
theorem pm_s_str (C : pm_cx p l Rm s m args meth c k d base D cy sad sav b L xs) {w : Nat} (ht : pm_tab k pc = some (.invokevirtual w, len, ts, v)) (hts4 : (∃ p0, ts = [1, p0]) ∨ ∃ p0, ts = [2, p0]) (h : pm_sem E k (.invokevirtual w) len ts v (pc, lv, st, (fz, n, sh, I, J, R), c0, z0) (pm_gd p l e Rm s m args below meth c k base D cy (pm_ad base sad b) L xs Z) Q) : pm_gd p l e Rm s m args below meth c k base D cy (pm_ad base sad b) L xs Z (pc, lv, st, (fz, n, sh, I, J, R), c0, z0) := by
  have C0 := C
  obtain ⟨hx, hb, hml, hown, hts, hnm, hC, hRm, hk, hst, hlk, htb, hrt⟩ := C
  obtain ⟨hd, hln, hci⟩ := pm_tab_spec hk ht
  have hlen : len = 3 := by simpa [pm_ln] using hln
  subst hlen
  intro H locs ls hrel hex hS hl
  rcases hts4 with ⟨p0, rfl⟩ | ⟨p0, rfl⟩
  · simp only [pm_ci] at hci
    simp only [pm_sem, pm_inv] at h
    split at h
    · rename_i a r
      cases hb1 : pm_isS a && (Nat.ble (pm_cat r) 8 && (Nat.ble c0 (pm_mc k) && Nat.ble z0 (pm_ms k))) with
      | false => rw [hb1] at h; exact h.elim
      | true =>
        rw [hb1] at h
        simp only [Bool.and_eq_true] at hb1
        obtain ⟨hi, had⟩ := pm_adS (base := base) (sad := sad) (b := b) hb1.1
        generalize pm_sx a = j at h hi had
        have hcat := Nat.le_of_ble_eq_true hb1.2.1
        show W p l e Rm s m args below meth c H locs c0 z0 Z (F0 m pc ls (.ref (pm_ad base sad b a) :: r.map (pm_tv (pm_ad base sad b))))
        rw [had]
        have hM := pj_length (l := l) (base := base) (D := D) (cy := cy) (sad := sad) (sav := sav) (b := b) (L := L) (xs := xs) hi
        have hCB : CallB Rm s args (pm_cn (pm_ow k)) w yJ0_length_8abf5 cJ0_length_8abf5 1 (some .int) (pj_c_len :: pm_GW) (pj_rm 1) 0 0 0 := callB_of 0 hts pj_g_len rfl rfl rfl (hts _ pj_i_str) (hts _ (pm_wd_good hci rfl)) pj_d_len (pj_room ⟨hRm.1, hRm.2.1⟩ (by decide) (by decide))
        have hcells : c0 + 0 ≤ Rm.cells ∧ z0 + 0 ≤ Rm.slots := ⟨by rw [hRm.2.2.1]; exact Nat.le_of_ble_eq_true hb1.2.2.1, by rw [hRm.2.2.2]; exact Nat.le_of_ble_eq_true hb1.2.2.2⟩
        have hrun : va_Run p l e Rm s m args below meth c H locs c0 z0 0 0 (F0 m pc ls (.ref (sad j) :: r.map (pm_tv (pm_ad base sad b)))) (r.map (pm_tv (pm_ad base sad b))) (pj_Q (some (.int (nI (pm_slen j)))) (Value.ref (sad j) :: []).toArray) (fun _ => False) := va_runV (C := "java/lang/String") (As := []) (b := sad j) (n := 0) (nL := pm_ml k) (cc := pm_by k) (Ts := pm_GW) ⟨hx, hb, hml, hown, hts⟩ hM ⟨hCB, hts _ pj_m_len, hts _ pj_x_len⟩ ⟨pj_blind, pm_vS_recv hC.2.2.1 hi hS, pj_pre hC hS⟩ rfl rfl hl.1 rfl (lv_room (by rw [pm_cat_map]; exact hcat)) hd hcells
        exact pj_cont hrun (h H locs ls hrel hex hS hl)
    · exact h.elim
  · simp only [pm_ci] at hci
    simp only [pm_sem, pm_inv] at h
    split at h
    · rename_i x a r
      cases hb1 : pm_isS a && (Nat.ble (pm_cat r) 8 && (Nat.ble c0 (pm_mc k) && Nat.ble z0 (pm_ms k))) with
      | false => rw [hb1] at h; exact h.elim
      | true =>
        rw [hb1] at h
        simp only [Bool.and_eq_true] at hb1
        obtain ⟨hi, had⟩ := pm_adS (base := base) (sad := sad) (b := b) hb1.1
        replace h : vp_in x (pm_slen (pm_sx a)) ∧ pm_gd p l e Rm s m args below meth c k base D cy (pm_ad base sad b) L xs Z (pc + 3, lv, .int (pm_sb (pm_sx a) x.toNatClampNeg) :: r, (fz, n, sh, I, J, R), c0, z0) := h
        obtain ⟨hv, hK⟩ := h
        generalize pm_sx a = j at hv hK hi had
        have hcat := Nat.le_of_ble_eq_true hb1.2.1
        show W p l e Rm s m args below meth c H locs c0 z0 Z (F0 m pc ls (.int x :: .ref (pm_ad base sad b a) :: r.map (pm_tv (pm_ad base sad b))))
        rw [had]
        exact pm_chr1 C0 hd hci hi hv hS hl.1 (by rw [pm_cat_map]; exact hcat) (Nat.le_of_ble_eq_true hb1.2.2.1) (Nat.le_of_ble_eq_true hb1.2.2.2) (hK H locs ls hrel hex hS hl)
    · exact h.elim
end Txt2
