/-! the throws of the face -/
def pm_six13 : ByteArray := ⟨#[0x2a, 0x2b, 0xb7, 0x00, 0x0d, 0xb1]⟩
abbrev pm_oA1 : List Cond := pm_oA RX10 171 "java/util/NoSuchElementException" "java/lang/RuntimeException" 13 pm_six13 ["java/lang/Exception"]
abbrev pm_oA2 : List Cond := pm_oA RX10 116 "java/lang/IllegalArgumentException" "java/lang/RuntimeException" 7 Bundle.six ["java/lang/Exception"]
theorem pm_oA1_in : (pm_oA1.filter vx_no).all (fun w => decide (w ∈ lw_tbl)) = true := by decide +kernel
theorem pm_oA2_in : (pm_oA2.filter vx_no).all (fun w => decide (w ∈ lw_tbl)) = true := by decide +kernel
theorem pm_oA1_k : (pm_oA1.filter vx_no).all (fun w => (goodWord w || pm_isN w) && vx_ot w) = true := by decide +kernel
theorem pm_oA2_k : (pm_oA2.filter vx_no).all (fun w => (goodWord w || pm_isN w) && vx_ot w) = true := by decide +kernel
theorem pm_hh10 : (List.range 319).all (fun k => !Nat.beq (pm_ow k) 10 || (pm_hh k).isEmpty) = true := by decide +kernel
theorem pm_i1 : Cond.initialized "java/util/NoSuchElementException" ∈ pm_GW := pm_wd_good (p := 153) (by decide +kernel) rfl
theorem pm_i2 : Cond.initialized "java/lang/IllegalArgumentException" ∈ pm_GW := pm_wd_good (p := 144) (by decide +kernel) rfl
section Thrown
variable {p : Program} {l : Launch} {e : Env} {Rm : Room} {s : State} {m : MethodId} {args : Array Value} {below : List Frame} {meth : Method} {c : Code}
variable {base : Nat} {D : va_G} {cy : Nat → ClassId} {sad sav : Nat → Nat} {b L : Nat} {xs : Nat → Int32} {k d : Nat} {Z : State → Prop} {E : pm_E} {Q : pm_R → pm_H → Prop}
theorem pm_words (hts : ∀ w ∈ pm_GW, w.before args s = true) (hC : pm_C base D cy sad sav b L xs s) {W9 : List Cond} (h1 : W9.all (fun w => decide (w ∈ lw_tbl)) = true) (h2 : W9.all (fun w => (goodWord w || pm_isN w) && vx_ot w) = true) : ∀ w ∈ W9, w.before args s = true := by
  intro w hw
  have a1 := of_decide_eq_true (List.all_eq_true.mp h1 w hw)
  have a2 := List.all_eq_true.mp h2 w hw
  simp only [Bool.and_eq_true, Bool.or_eq_true] at a2
  rcases a2.1 with g | g
  · exact hts w (List.mem_filter.mpr ⟨a1, g⟩)
  · have hn := hC.2.2.2.2.2.2.2.2.2.1 w a1 g
    cases w <;> first | exact va_Nw.use rfl hn | cases g
theorem pm_endT_ok (C : pm_cx p l Rm s m args meth c k d base D cy sad sav b L xs) : pm_endT p l e Rm s m args below meth c k base D cy (pm_ad base sad b) L xs (vx_MQ below (pm_Qc base D cy (pm_ad base sad b) L xs Q) (pm_XC base D cy (pm_ad base sad b) L xs Q) args s (pm_mc k) (pm_ms k) (pm_A base)) Q := by
  obtain ⟨hx, hb, hml, hown, hts, hnm, hC, hRm, hk, hst, hlk, htb, hrt⟩ := C
  intro w x len p0 j ic wd v fz n sh I J R H locs ls st pc c0 z0 ht hq hrel hS hls h1 h2 hcat
  obtain ⟨hd, hln, hci⟩ := pm_tab_spec hk ht
  have hlen : len = 3 := by simpa [pm_ln] using hln
  subst hlen
  simp only [pm_ci, Bool.and_eq_true, decide_eq_true_eq, Bool.or_eq_true] at hci
  obtain ⟨g1, g2, g3, g4, g5, g6, g7⟩ := hci
  have how : pm_ow k = 10 := Nat.eq_of_beq_eq_true g3
  have hk' : k < 318 := by
    by_cases hq : k < 318
    · exact hq
    · exfalso
      have : k = 318 := by omega
      subst this
      cases how
  have hhe : pm_hh k = [] := by
    have h9 := List.all_eq_true.mp pm_hh10 k (List.mem_range.mpr hk)
    rw [how] at h9
    simpa using h9
  have hcn : pm_cn (pm_ow k) = RX10 := by rw [how]; rfl
  rw [hcn] at hown g2 g5
  have hstr := hC.2.1 j (Nat.le_of_ble_eq_true g1)
  rw [g2] at hstr
  have hout : ∀ q : Nat, ∀ y ∈ c.exceptionTable.toList, covers y q = false := by
    intro q y hy
    rw [htb hk', hhe] at hy
    cases hy
  have hX : ∀ t : State, s.vm.Alike t.vm → H.size ≤ t.heap.size → (∀ q : Nat, q < H.size → t.heap[q]? = H[q]?) → pm_XC base D cy (pm_ad base sad b) L xs Q (pm_xn x) s t := by
    intro t _ hz hsame
    obtain ⟨hP, hn6, hsz, hs1, hs2⟩ := hrel
    exact ⟨⟨x, (true, n, sh, I, J, R), rfl, hq, hP.kept fun q9 q10 hq9 => hsame _ ((hP q9 q10 hq9).lt), hn6, Nat.le_trans hsz hz, hs1, hs2⟩, Nat.le_trans hS.1 hz, fun q q1 q2 => (hsame q (Nat.lt_of_lt_of_le q1 hS.1)).trans (hS.2.1 q q1 q2)⟩
  have hfr : ["java/lang/Exception"].length + 4 < Rm.frames := by have := hRm.1; simp only [List.length_cons, List.length_nil]; omega
  have hlo : ((st.map (pm_tv (pm_ad base sad b))).map fun v => v.category).sum + (13 * (["java/lang/Exception"].length + 2) + 43) ≤ Rm.locals := by
    rw [pm_cat_map]
    have := hRm.2.1
    simp only [List.length_cons, List.length_nil]
    omega
  have hce : c0 + 1 ≤ Rm.cells := by rw [hRm.2.2.1]; exact h1
  have hsl : z0 + 6 ≤ Rm.slots := by rw [hRm.2.2.2]; exact h2
  have hms : ls.size = c.maxLocals := hls.trans hml.symm
  have hnm1 : ∀ q ∈ ["java/lang/Exception"], Bundle.fit q = true := by decide +kernel
  have hcase : (x = 1 ∧ ic = 171) ∨ (x = 2 ∧ ic = 116) := by
    rcases g4 with ⟨a1, a2⟩ | ⟨a1, a2⟩
    · exact Or.inl ⟨Nat.eq_of_beq_eq_true a1, Nat.eq_of_beq_eq_true a2⟩
    · exact Or.inr ⟨Nat.eq_of_beq_eq_true a1, Nat.eq_of_beq_eq_true a2⟩
  have hlk1 := hts _ (pm_wd_good g5 rfl)
  rcases hcase with ⟨rfl, rfl⟩ | ⟨rfl, rfl⟩
  · have hat := pm_words hts hC pm_oA1_in pm_oA1_k
    have hgd : ∀ q ∈ Cond.classLink RX10 w "java/util/NoSuchElementException" :: Cond.initialized "java/util/NoSuchElementException" :: pm_oA1.filter vx_no, vx_ot q = true := by
      intro q hq9
      rcases List.mem_cons.mp hq9 with rfl | hq9
      · rfl
      · rcases List.mem_cons.mp hq9 with rfl | hq9
        · rfl
        · have := List.all_eq_true.mp pm_oA1_k q hq9
          simp only [Bool.and_eq_true] at this
          exact this.2
    cases hw : Nat.beq wd 2 with
    | true =>
      rw [hw] at g7
      simp only [cond_true, Bool.and_eq_true, decide_eq_true_eq] at g7
      exact pm_throwS (A := pm_A base) (text := pm_stx j) (sa := sad j) hx hb hst hown (by decide +kernel) (by decide +kernel) hnm1 (by decide +kernel) (by decide +kernel) (by decide +kernel) (by decide +kernel) hlk1 (hts _ pm_i1) hstr hat hgd hC.2.2.2.2.1 hC.2.2.2.2.2.1 hS hms hd g6 g7.1 g7.2.1 g7.2.2 (hout _) hfr hlo hce hsl hlk hX hS.2.2 h1 h2
    | false =>
      rw [hw] at g7
      simp only [cond_false, Bool.and_eq_true, decide_eq_true_eq] at g7
      exact pm_throwW (A := pm_A base) (text := pm_stx j) (sa := sad j) hx hb hst hown (by decide +kernel) (by decide +kernel) hnm1 (by decide +kernel) (by decide +kernel) (by decide +kernel) (by decide +kernel) hlk1 (hts _ pm_i1) hstr hat hgd hC.2.2.2.2.1 hC.2.2.2.2.2.1 hS hms hd g6 g7.1 g7.2.1 g7.2.2 (hout _) hfr hlo hce hsl hlk hX hS.2.2 h1 h2
  · have hat := pm_words hts hC pm_oA2_in pm_oA2_k
    have hgd : ∀ q ∈ Cond.classLink RX10 w "java/lang/IllegalArgumentException" :: Cond.initialized "java/lang/IllegalArgumentException" :: pm_oA2.filter vx_no, vx_ot q = true := by
      intro q hq9
      rcases List.mem_cons.mp hq9 with rfl | hq9
      · rfl
      · rcases List.mem_cons.mp hq9 with rfl | hq9
        · rfl
        · have := List.all_eq_true.mp pm_oA2_k q hq9
          simp only [Bool.and_eq_true] at this
          exact this.2
    cases hw : Nat.beq wd 2 with
    | true =>
      rw [hw] at g7
      simp only [cond_true, Bool.and_eq_true, decide_eq_true_eq] at g7
      exact pm_throwS (A := pm_A base) (text := pm_stx j) (sa := sad j) hx hb hst hown (by decide +kernel) (by decide +kernel) hnm1 (by decide +kernel) (by decide +kernel) (by decide +kernel) (by decide +kernel) hlk1 (hts _ pm_i2) hstr hat hgd hC.2.2.2.2.1 hC.2.2.2.2.2.1 hS hms hd g6 g7.1 g7.2.1 g7.2.2 (hout _) hfr hlo hce hsl hlk hX hS.2.2 h1 h2
    | false =>
      rw [hw] at g7
      simp only [cond_false, Bool.and_eq_true, decide_eq_true_eq] at g7
      exact pm_throwW (A := pm_A base) (text := pm_stx j) (sa := sad j) hx hb hst hown (by decide +kernel) (by decide +kernel) hnm1 (by decide +kernel) (by decide +kernel) (by decide +kernel) (by decide +kernel) hlk1 (hts _ pm_i2) hstr hat hgd hC.2.2.2.2.1 hC.2.2.2.2.2.1 hS hms hd g6 g7.1 g7.2.1 g7.2.2 (hout _) hfr hlo hce hsl hlk hX hS.2.2 h1 h2
end Thrown
