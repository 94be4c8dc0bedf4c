/-! the law's start; rows of places written by wip/whole/gen_start.py -/
abbrev pm_fl : List Cond := flatC (Jvm.Cond.and given_1 narrow_1)
def pm_fps : List Nat := [37, 232, 265, 339, 368, 387, 423, 440, 486, 507, 249, 292, 321, 405, 71, 82, 90, 98, 108, 224, 218, 211, 114, 121, 129, 139, 148, 156, 166, 174, 183, 192, 201]
def pm_fp (j : Nat) : Nat := pm_fps.getD j 0
def pm_fk (i : Nat) (w : Cond) : Bool := decide (pm_fl[i]? = some w)
def pm_tm (j : Nat) : Term := .string (pm_so j) (pm_si j)
def pm_cks (j : Nat) : Bool := pm_fk (pm_fp j) (.exactly (pm_tm j) "java/lang/String") && (pm_fk (pm_fp j + 1) (.eq (.field (pm_tm j) "java/lang/String" "coder" "B") (.int 0)) && (pm_fk (pm_fp j + 2) (.arrayOf (.field (pm_tm j) "java/lang/String" "value" "[B") .byte) && (pm_fk (pm_fp j + 3) (.eq (.length (.field (pm_tm j) "java/lang/String" "value" "[B")) (.int (Int32.ofNat (pm_slen j)))) && ((List.range (pm_slen j)).all (fun i => pm_fk (pm_fp j + 4 + i) (.eq (.elem (.field (pm_tm j) "java/lang/String" "value" "[B") (.int (Int32.ofNat i))) (.int (pm_sb j i)))) && (pm_wd (pm_spl j) (.stringRef (pm_so j) (pm_si j) (pm_stx j)) && decide (pm_slen j < 2 ^ 31))))))
theorem pm_cks_all : (List.range 33).all pm_cks = true := by decide +kernel
theorem pm_fk_mem {i : Nat} {w : Cond} (h : pm_fk i w = true) : w ∈ pm_fl := List.mem_of_getElem? (of_decide_eq_true h)
theorem pm_f_nc : pm_fk 36 (.not (.castable (pm_xn 2) (pm_xn 1))) = true := by decide +kernel
theorem pm_f_cs : pm_fk 6 (.eq (.static "java/lang/String" "COMPACT_STRINGS" "Z") (.int 1)) = true := by decide +kernel
theorem pm_f_us : pm_fk 4 (.isRef (.static Bundle.tN "UNASSIGNED_STACK" Bundle.steD)) = true := by decide +kernel
theorem pm_f_ss : pm_fk 5 (.isRef (.static Bundle.tN "SUPPRESSED_SENTINEL" Bundle.listD)) = true := by decide +kernel
theorem pm_f_sf : pm_fk 7 (.isRef (.static "jdk/internal/util/Preconditions" "SIOOBE_FORMATTER" "Ljava/util/function/BiFunction;")) = true := by decide +kernel
theorem pm_l_us : Cond.laysStatic Bundle.tN "UNASSIGNED_STACK" Bundle.steD ∈ lw_tbl := pm_wd_mem (p := 787) (by decide +kernel)
theorem pm_l_ss : Cond.laysStatic Bundle.tN "SUPPRESSED_SENTINEL" Bundle.listD ∈ lw_tbl := pm_wd_mem (p := 789) (by decide +kernel)
theorem pm_l_cs : Cond.laysStatic "java/lang/String" "COMPACT_STRINGS" "Z" ∈ lw_tbl := pm_wd_mem (p := 885) (by decide +kernel)
theorem pm_l_sf : Cond.laysStatic "jdk/internal/util/Preconditions" "SIOOBE_FORMATTER" "Ljava/util/function/BiFunction;" ∈ lw_tbl := pm_wd_mem (p := 901) (by decide +kernel)
theorem pm_i_th : Cond.initialized Bundle.tN ∈ lw_tbl := pm_wd_mem (p := 141) (by decide +kernel)
theorem pm_ni0 : Cond.instantiable RX0 5 ∈ lw_tbl := pm_wd_mem (p := 332) (by decide +kernel)
theorem pm_ni1 : Cond.instantiable RX1 4 ∈ lw_tbl := pm_wd_mem (p := 390) (by decide +kernel)
theorem pm_ni2 : Cond.instantiable RX2 6 ∈ lw_tbl := pm_wd_mem (p := 203) (by decide +kernel)
theorem pm_ni3 : Cond.instantiable RX3 10 ∈ lw_tbl := pm_wd_mem (p := 163) (by decide +kernel)
theorem pm_ni4 : Cond.instantiable RX4 5 ∈ lw_tbl := pm_wd_mem (p := 356) (by decide +kernel)
theorem pm_ni5 : Cond.instantiable RX5 3 ∈ lw_tbl := pm_wd_mem (p := 231) (by decide +kernel)
theorem pm_ni6 : Cond.instantiable RX6 3 ∈ lw_tbl := pm_wd_mem (p := 249) (by decide +kernel)
theorem pm_ni7 : Cond.instantiable RX7 16 ∈ lw_tbl := pm_wd_mem (p := 384) (by decide +kernel)
theorem pm_ni8 : Cond.instantiable RX8 5 ∈ lw_tbl := pm_wd_mem (p := 265) (by decide +kernel)
theorem pm_ni9 : Cond.instantiable RX9 6 ∈ lw_tbl := pm_wd_mem (p := 289) (by decide +kernel)
theorem pm_ni10 : Cond.instantiable RX10 19 ∈ lw_tbl := pm_wd_mem (p := 155) (by decide +kernel)
theorem pm_ni11 : Cond.instantiable RX11 67 ∈ lw_tbl := pm_wd_mem (p := 1465) (by decide +kernel)
theorem pm_known {s : State} {args : Array Value} (hts : ∀ w ∈ lw_tbl, w.before args s = true) : ∃ D : va_G, ∀ (k : Nat) (q : vw_C), vwCl[k]? = some q → u_Kn s q.1 q.2.1 q.2.2 (D.1 k) (D.2 k) := by
  obtain ⟨c0, i0, hk0⟩ := u_known (C := RX0) (T := TX0) (N := 5) (n := 5) hts (fun w hw => (pm_in0 w hw).1) (hts _ pm_ni0)
  obtain ⟨c1, i1, hk1⟩ := u_known (C := RX1) (T := TX1) (N := 4) (n := 4) hts (fun w hw => (pm_in1 w hw).1) (hts _ pm_ni1)
  obtain ⟨c2, i2, hk2⟩ := u_known (C := RX2) (T := TX2) (N := 6) (n := 6) hts (fun w hw => (pm_in2 w hw).1) (hts _ pm_ni2)
  obtain ⟨c3, i3, hk3⟩ := u_known (C := RX3) (T := TX3) (N := 10) (n := 10) hts (fun w hw => (pm_in3 w hw).1) (hts _ pm_ni3)
  obtain ⟨c4, i4, hk4⟩ := u_known (C := RX4) (T := TX4) (N := 5) (n := 5) hts (fun w hw => (pm_in4 w hw).1) (hts _ pm_ni4)
  obtain ⟨c5, i5, hk5⟩ := u_known (C := RX5) (T := TX5) (N := 3) (n := 3) hts (fun w hw => (pm_in5 w hw).1) (hts _ pm_ni5)
  obtain ⟨c6, i6, hk6⟩ := u_known (C := RX6) (T := TX6) (N := 3) (n := 3) hts (fun w hw => (pm_in6 w hw).1) (hts _ pm_ni6)
  obtain ⟨c7, i7, hk7⟩ := u_known (C := RX7) (T := TX7) (N := 16) (n := 16) hts (fun w hw => (pm_in7 w hw).1) (hts _ pm_ni7)
  obtain ⟨c8, i8, hk8⟩ := u_known (C := RX8) (T := TX8) (N := 5) (n := 5) hts (fun w hw => (pm_in8 w hw).1) (hts _ pm_ni8)
  obtain ⟨c9, i9, hk9⟩ := u_known (C := RX9) (T := TX9) (N := 6) (n := 6) hts (fun w hw => (pm_in9 w hw).1) (hts _ pm_ni9)
  obtain ⟨c10, i10, hk10⟩ := u_known (C := RX10) (T := TX10) (N := 19) (n := 19) hts (fun w hw => (pm_in10 w hw).1) (hts _ pm_ni10)
  obtain ⟨c11, i11, hk11⟩ := u_known (C := RX11) (T := TX11) (N := 67) (n := 67) hts (fun w hw => (pm_in11 w hw).1) (hts _ pm_ni11)
  refine ⟨(fun k => [c0, c1, c2, c3, c4, c5, c6, c7, c8, c9, c10, c11].getD k c0, fun k => [i0, i1, i2, i3, i4, i5, i6, i7, i8, i9, i10, i11].getD k i0), ?_⟩
  intro k q hq
  match k, hq with
  | 0, hq => cases hq; exact hk0
  | 1, hq => cases hq; exact hk1
  | 2, hq => cases hq; exact hk2
  | 3, hq => cases hq; exact hk3
  | 4, hq => cases hq; exact hk4
  | 5, hq => cases hq; exact hk5
  | 6, hq => cases hq; exact hk6
  | 7, hq => cases hq; exact hk7
  | 8, hq => cases hq; exact hk8
  | 9, hq => cases hq; exact hk9
  | 10, hq => cases hq; exact hk10
  | 11, hq => cases hq; exact hk11
  | k + 12, hq => simp [vwCl] at hq
theorem pm_arr {s : State} {args : Array Value} {ty : FieldType} (h : (Cond.arrayClass ty).before args s = true) (hr : ∀ c : ClassId, s.vm.findClass ("[" ++ ty.toString) = some c → va_RA s c ty) : ∃ c : ClassId, ArrOfT s c ty ∧ va_RA s c ty := by
  obtain ⟨cA, kA, comp, h1, h2, h3⟩ := Cond.arrayClass_spec h
  exact ⟨cA, fun n z => ⟨fun k h => (by cases h), kA, h2, comp, h3⟩, hr cA h1⟩
theorem pm_C_start {s : State} {b L : Nat} {xs : Nat → Int32} (hts : ∀ w ∈ lw_tbl, w.before #[Value.ref b] s = true) (hX : va_X b L xs s s.heap) (hbl : b < s.heap.size) (hgv : (Jvm.Cond.and given_1 narrow_1).before #[Value.ref b] s = true) : ∃ (D : va_G) (cy : Nat → ClassId) (sad sav : Nat → Nat), pm_C s.heap.size D cy sad sav b L xs s := by
  have hfl := flat_of_before _ hgv
  have hA : ∀ a : Nat, a < s.heap.size → ¬ pm_A s.heap.size a := fun a h q => Nat.not_lt.mpr q h
  obtain ⟨D, hD⟩ := pm_known hts
  obtain ⟨aI, hI, hI2⟩ := pm_arr (hts _ (pm_gw_in pm_wI).1) (fun _ h => h)
  obtain ⟨aB, hB, hB2⟩ := pm_arr (hts _ (pm_gw_in pm_wB).1) (fun _ h => h)
  obtain ⟨aZ, hZ, hZ2⟩ := pm_arr (hts _ (pm_gw_in pm_wZ).1) (fun _ h => h)
  obtain ⟨aJ, hJ, hJ2⟩ := pm_arr (hts _ (pm_gw_in pm_wJ).1) (fun _ h => h)
  have hstr : ∀ j, ∃ q : Nat × Nat, j < pm_sn → vk_R (pm_so j) (pm_si j) (pm_stx j) q.1 s ∧ va_O "java/lang/String" q.1 (pm_A s.heap.size) s s.heap ∧ va_OF "java/lang/String" "coder" "B" (.int 0) q.1 (pm_A s.heap.size) s s.heap ∧ va_OF "java/lang/String" "value" "[B" (.ref q.2) q.1 (pm_A s.heap.size) s s.heap ∧ va_T .byte q.2 (pm_slen j) (fun i => .int (pm_sb j i)) (pm_A s.heap.size) s s.heap := by
    intro j
    by_cases hj : j < pm_sn
    · have hck := List.all_eq_true.mp pm_cks_all j (List.mem_range.mpr hj)
      unfold pm_cks at hck
      simp only [Bool.and_eq_true, decide_eq_true_eq] at hck
      obtain ⟨g1, g2, g3, g4, g5, g6, g7⟩ := hck
      obtain ⟨adK, adV, h1, h2⟩ := vk_Sof (args := #[Value.ref b]) (s := s) (N := 1) (tm := fun _ => pm_tm j) (len := [pm_slen j]) (byt := [(List.range (pm_slen j)).map (pm_sb j)]) (A := pm_A s.heap.size)
        (fun i hi => by obtain rfl : i = 0 := by omega
                        exact g7)
        (fun i hi => hfl _ (pm_fk_mem g1)) (fun i hi => hfl _ (pm_fk_mem g2)) (fun i hi => hfl _ (pm_fk_mem g3))
        (fun i hi => by obtain rfl : i = 0 := by omega
                        exact hfl _ (pm_fk_mem g4))
        (fun i hi t ht => by
          obtain rfl : i = 0 := by omega
          have ht : t < pm_slen j := ht
          have e : ((([(List.range (pm_slen j)).map (pm_sb j)] : List (List Int32)).getD 0 []).getD t 0) = pm_sb j t := by
            show (((List.range (pm_slen j)).map (pm_sb j))[t]?).getD 0 = _
            rw [List.getElem?_map, List.getElem?_range ht]
            rfl
          rw [e]
          exact hfl _ (pm_fk_mem (List.all_eq_true.mp g5 t (List.mem_range.mpr ht))))
        (fun i t hi ht hne => absurd (by omega : i = t) hne) hA
      obtain ⟨k1, k2, k3, k4⟩ := h1.1 0 (by decide)
      refine ⟨(adK 0, adV 0), fun _ => ⟨vk_R.of (A := #[Value.ref b]) (hts _ (pm_wd_mem g6)) (h2 0 (by decide)), k1, k2, k3, ?_⟩⟩
      obtain ⟨cell, t1, t2, t3, t4, t5, t6, t7⟩ := k4
      refine ⟨cell, t1, t2, t3, t4, t5, fun i hi => ?_, t7⟩
      have hi : i < pm_slen j := hi
      rw [t6 i hi]
      show some (Value.int ((((List.range (pm_slen j)).map (pm_sb j))[i]?).getD 0)) = _
      rw [List.getElem?_map, List.getElem?_range hi]
      rfl
    · exact ⟨(0, 0), fun q => absurd q hj⟩
  obtain ⟨ss, hss⟩ : ∃ f : Nat → Nat × Nat, ∀ j, j < pm_sn → vk_R (pm_so j) (pm_si j) (pm_stx j) (f j).1 s ∧ va_O "java/lang/String" (f j).1 (pm_A s.heap.size) s s.heap ∧ va_OF "java/lang/String" "coder" "B" (.int 0) (f j).1 (pm_A s.heap.size) s s.heap ∧ va_OF "java/lang/String" "value" "[B" (.ref (f j).2) (f j).1 (pm_A s.heap.size) s s.heap ∧ va_T .byte (f j).2 (pm_slen j) (fun i => .int (pm_sb j i)) (pm_A s.heap.size) s s.heap :=
    ⟨fun j => (hstr j).choose, fun j hj => (hstr j).choose_spec hj⟩
  refine ⟨D, fun q => if q = 100 then aI else if q = 101 then aB else if q = 102 then aZ else aJ, fun j => (ss j).1, fun j => (ss j).2, ⟨hD, ?_⟩, fun j hj => (hss j hj).1, fun j hj => (hss j hj).2, ⟨va_Zof (hts _ pm_l_cs) (hts _ (pm_gw_in pj_i_str).1) ?_ hA, va_Zqof (hts _ pm_l_sf) (hts _ (pm_gw_in pj_ip).1) (hfl _ (pm_fk_mem pm_f_sf)) hA⟩, vx_Zqof (hts _ pm_l_us) (hts _ pm_i_th) (hfl _ (pm_fk_mem pm_f_us)) hA, vx_Zqof (hts _ pm_l_ss) (hts _ pm_i_th) (hfl _ (pm_fk_mem pm_f_ss)) hA, hX, hbl, Nat.le_refl _, fun w hw hn => ?_, va_Nc.of (hfl _ (pm_fk_mem pm_f_nc))⟩
  · intro t q hq
    match t, hq with
    | 0, hq => cases hq; exact ⟨hI, hI2⟩
    | 1, hq => cases hq; exact ⟨hB, hB2⟩
    | 2, hq => cases hq; exact ⟨hZ, hZ2⟩
    | 3, hq => cases hq; exact ⟨hJ, hJ2⟩
    | t + 4, hq => simp [pm_tys] at hq
  · obtain ⟨w, h1, h2⟩ := Cond.eq_one (hfl _ (pm_fk_mem pm_f_cs))
    cases h2
    exact h1
  · have h9 := hts w hw
    cases w <;> first | exact va_Nw.of rfl h9 | cases hn
/-! THE CLAIM OUT OF ONE WALK OF THE LAW'S BODY. Your part is whole_start (and what it stands on); all else here is the same for every law, but numbers. -/
def R_law : String := "PunchCardsLaw"
def lw_P (b : Addr) (xs : List Int32) (args : Array Value) (s : State) : Prop := args = #[.ref b] ∧ s.IntsAt b xs ∧ xs.length ≤ 3072 ∧ (Jvm.Cond.and given_1 narrow_1).before args s = true
def lw_Q (_ : Array Value) (s : State) (o : Outcome) (t : State) : Prop := o = .returned (some (.int 1)) ∧ Framed s o t [] 601024 7293034
def lw_Z (below : List Frame) (a : Array Value) (s : State) : State → Prop := fun t => ∃ o, t.status = .running ∧ Ended t below o ∧ lw_Q a s o t
/-- the law's own end, with 1 on the stack, nothing written that was there before, its room as the claim has it -/
theorem lw_ret {p : Program} {l : Launch} {e : Env} {s : State} {m : MethodId} {below : List Frame} {meth : Method} {c : Code} {b : Nat} (hx : p.tables.exec = Jvm.exec) (hb : c.code = code) (hr : meth.sig.returnType = ret) (hlocks : meth.locks = false) {pc : Nat} {H : Heap} {ls : Array Slot} (hdg : decode code pc = .ok (.ireturn, 1)) : W p l e room_1 s m #[Value.ref b] below meth c H [] 601024 7293034 (lw_Z below #[Value.ref b] s) (F0 m pc ls [.int 1]) := by
  intro T hT X
  obtain ⟨fs, hret, hrun, hended, hW, hframe⟩ := X.leave (v := some (.int 1)) (hlocks := hlocks) (fun h => by rw [hr] at h; cases h)
  have hmeth' : T.vm.method? m = some meth := X.method'
  refine ⟨T.setFrames fs, ?_, .returned (some (.int 1)), hrun, hended, rfl, ⟨_, rfl⟩, hW, hframe⟩
  jvm_step X.here [X.here.top, hx, hb, hdg, hmeth', hr, ret, narrow_b1]
  (try refine ⟨rfl, ?_⟩); (try refine ⟨rfl, ?_⟩)
  first | (intro acts; rw [hret _ acts rfl rfl rfl]) | rw [hret _ _ rfl rfl rfl]
  exact Steps.refl _
/-- what holds at the law's entry: the machine, the code, the tables' words (any of lw_tbl by 'hts w (by decide +kernel)'), the script of L ints xs at the cell b, what the Statement gives of the start (any of its parts by flat_of_before) -/
def lw_At (p : Program) (s : State) (m : MethodId) (meth : Method) (c : Code) (b L : Nat) (xs : Nat → Int32) : Prop :=
  p.tables.exec = Jvm.exec ∧ c.code = code ∧ meth.sig.returnType = ret ∧ c.maxLocals = 7 ∧ s.vm.findClass R_law = some m.cls ∧ (∀ w ∈ lw_tbl, w.before #[Value.ref b] s = true) ∧ va_X b L xs s s.heap ∧ b < s.heap.size ∧ meth.locks = false ∧ (Jvm.Cond.and given_1 narrow_1).before #[Value.ref b] s = true

/-- the small machine ahead of the law's first instruction: no cells, the script of L ints -/
def pm_h0 (L : Nat) (xs : Nat → Int32) : pm_H := (false, 0, (fun x => bif Nat.beq x 2000000 then (104, L) else (0, 0)), (fun x y => bif Nat.beq x 2000000 then xs y else 0), (fun _ _ => 0), (fun _ _ => none))
/-- whole, purely -/
def pm_Pure : Prop := ∀ (L : Nat) (xs : Nat → Int32), L ≤ 3072 → pm_T (pm_Ev 60) k_L_law (fun r _ => r = .inl (some (.int 1))) (0, [(0, .ref 2000000)], [], pm_h0 L xs, 0, 0)
theorem whole_start_open (hpure : pm_Pure) {p : Program} {e : Env} {s : State} {m : MethodId} {below : List Frame} {meth : Method} {c : Code} (l : Launch) (hflags : l.flags = flags0) {b L : Nat} {xs : Nat → Int32} (hL : L ≤ 3072) (C0 : lw_At p s m meth c b L xs) : W p l e room_1 s m #[Value.ref b] below meth c s.heap [] 0 0 (lw_Z below #[Value.ref b] s) (entryFrame m ([Value.ref b] : List Value).toArray 7) := by
  obtain ⟨hx, hb, hr, hml, hown, hts, hX, hbl, hlocks, hgv⟩ := C0
  have hst : l.stackTraces = false := by
    unfold Launch.stackTraces
    rw [hflags]
    decide +kernel
  obtain ⟨D, cy, sad, sav, hC⟩ := pm_C_start hts hX hbl hgv
  have C : pm_cx p l room_1 s m #[Value.ref b] meth c 318 60 s.heap.size D cy sad sav b L xs := ⟨hx, hb, hml, hown, fun w hw => hts w (pm_gw_in hw).1, fun q => absurd q (by decide +kernel), hC, ⟨by decide +kernel, by decide +kernel, by decide +kernel, by decide +kernel⟩, by decide, hst, hlocks, fun q => absurd q (by decide), hr⟩
  have hE : pm_endR p l e room_1 s m #[Value.ref b] below meth c 318 s.heap.size D cy (pm_ad s.heap.size sad b) L xs (lw_Z below #[Value.ref b] s) (fun r _ => r = .inl (some (.int 1))) := by
    intro i v h H locs ls pc c0 z0 hd hro hq hrel hS h1 h2
    cases hq
    rcases hro with ⟨rfl, -⟩ | ⟨rfl, x, hv, -⟩ | ⟨rfl, hv, -⟩
    · refine va_forget (fun q hq => hS.2.2 q hq) ?_
      refine W.widen (k := 601024) (n := 7293034) h1 h2 ?_
      exact lw_ret hx hb hr hlocks hd
    · cases hv
    · cases hv
  have hw := pm_entry (e := e) (below := below) C (pm_contract hst 60) hE (fun _ x h' H1 locs1 ls rest pc c1 z1 q ce hq => by cases hq) (fun w x len p0 j ic wd v fz n sh I J R H locs ls st pc c0 z0 ht hq => by cases hq) (pm_catch_ok C) (as := [.ref 2000000]) (h := pm_h0 L xs) (by decide +kernel) (hpure L xs hL) ⟨fun k q hq => by simp [pm_ws] at hq, by decide, by simp, rfl, fun j _ => rfl⟩ (fun _ => by simp [pm_h0])
  simp only [List.map_cons, List.map_nil, pm_tv, pm_ad_scr] at hw
  exact hw
