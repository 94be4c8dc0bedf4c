/-! the reference reads a whole formula -/
section Spec
variable {d L : Nat} {fz t : Bool} {Q : pm_R → pm_H → Prop} {I0 : Nat → Nat → Int32} {J0 : Nat → Nat → Int64} {g : Nat → Nat} {N lo n0 b : Nat}
def opn (W : List Nat) : Nat := (W.filter (fun z => decide (14 ≤ z))).length
theorem opn_lo {x : Nat} {W : List Nat} (h : x < 14) : opn (x :: W) = opn W := by
  unfold opn; rw [List.filter_cons_of_neg (by simp; omega)]
theorem opn_hi {W : List Nat} : opn (14 :: W) = opn W + 1 := by
  unfold opn; rw [List.filter_cons_of_pos (by simp)]; rfl
theorem opn_app : ∀ (Z : List Nat) {W : List Nat}, (∀ z, z ∈ Z → z < 14) → opn (Z ++ W) = opn W
  | [], _, _ => rfl
  | z :: Z, _, h => by rw [List.cons_append, opn_lo (h z List.mem_cons_self), opn_app Z (fun x hx => h x (List.mem_cons_of_mem _ hx))]
/-- what the end of a formula asks -/
def yQ (L : Nat) (fz t : Bool) (Q : pm_R → pm_H → Prop) (I0 : Nat → Nat → Int32) (J0 : Nat → Nat → Int64) (g : Nat → Nat) (N b : Nat) (o : Rs) : Prop := match o with
  | .inl (C, p) => ∀ I' J', mG g N p I' J' → p ≤ N → b + C.length + 2 ≤ 2 * p → I' 85 32 = nI (b + C.length + 1) → mC (I' 100) b (C ++ [0]) → wF I0 I' → gJ J0 J' → Q (.inl none) (pm_hp L fz t I' J')
  | .inr (y, q) => ∀ I' J', mBd g N y q I' → wF I0 I' → gJ J0 J' → Q (.inl none) (pm_hp L fz t I' J')
def yMo (d L : Nat) (fz t : Bool) (Q : pm_R → pm_H → Prop) (I0 : Nat → Nat → Int32) (J0 : Nat → Nat → Int64) (g : Nat → Nat) (N lo n0 b : Nat) (m : Option (Bool × Nat)) (p : Nat) (W C : List Nat) (D : List Bool) (o : Rs) : Prop := yQ L fz t Q I0 J0 g N b o → ∀ I J, yI g N lo n0 b p W C D I J → wF I0 I → gJ J0 J → opn W + 1 = D.length → match m with
  | none => t_X11_expression_39 (d + 5) L fz t Q (nI 1) I J
  | some (bb, k) => ∀ Qo : pm_R → pm_H → Prop, (∀ I' J', t_X11_expression_39 (d + 5) L fz t Q (nI 1) I' J' → Qo (.inl none) (pm_hp L fz t I' J')) → t_X11_operand_18 (d + 4) L fz t Qo (bz bb) (nI k) I J
theorem gJ_t {J J' J'' : Nat → Nat → Int64} (h : gJ J J') (h' : gJ J' J'') : gJ J J'' := fun a ha => (h' a ha).trans (h a ha)
theorem op_b {bb : Bool} {x : Int32} {I : Nat → Nat → Int32} {J : Nat → Nat → Int64} {Qo : pm_R → pm_H → Prop} (hx : x = bz bb) (hG : I 85 15 = nI 0) (h : t_X11_operand_18 (d + 4) L fz t Qo (bz bb) (nI 0) I J) : pm_Ev (d + 5) 146 [.ref 85, .int x] (pm_hp L fz t I J) Qo := by
  subst hx
  exact e_X11_operand (b_X11_operand_4 (q_f nI_01 (S_good (d := d + 3) hG (kb_X11_operand_12 (q_f nI_01 h)))))
theorem Ys_run (hg : ∀ i, g i < 256) (hN : N ≤ 700) (hn : 1 ≤ n0 ∧ lo + n0 ≤ 18) {m : Option (Bool × Nat)} {p : Nat} {W C : List Nat} {D : List Bool} {o : Rs} (h : Ys (tK g N) (tnx g N) lo n0 m p W C D o) : yMo d L fz t Q I0 J0 g N lo n0 b m p W C D o := by
  refine h (yMo d L fz t Q I0 J0 g N lo n0 b) ⟨?_, ?_, ?_, ?_, ?_, ?_, ?_, ?_, ?_, ?_, ?_, ?_, ?_, ?_, ?_⟩
  · intro k p W C D o hk h6 ih hq I J hI hw hj hD Qo hQ
    exact O_not hg hN h6 hI hk fun I' J' a1 a2 a3 => ih hq I' J' a1 (wF_t hw a2) (gJ_t hj a3) (by rw [opn_lo (by omega)]; exact hD) Qo hQ
  · intro p W C D hk hq I J hI hw hj hD Qo hQ
    exact O_max hN hI hk fun I' a1 a2 => hQ I' J (E_out (d := d + 3) a1 fun I2 b1 b2 => hq I2 J b1 (wF_t hw (wF_t a2 b2)) hj)
  · intro bb k p W C D o hk h6 ih hq I J hI hw hj hD Qo hQ
    exact O_par hg hN hI hk (fun I' J' _ a1 a2 a3 => ih hq I' J' a1 (wF_t hw a2) (gJ_t hj a3) (by rw [opn_hi, List.length_cons]; omega) Qo hQ) (fun I' J' q => absurd h6 q)
  · intro bb k p W C D hk h6 hq I J hI hw hj hD Qo hQ
    exact O_par hg hN hI hk (fun I' J' q => absurd q h6) (fun I' J' _ a1 a2 a3 => hQ I' J' (E_out (d := d + 3) a1 fun I2 b1 b2 => hq I2 J' b1 (wF_t hw (wF_t a2 b2)) (gJ_t hj a3)))
  · intro bb k p W C D o v hk ih hq I J hI hw hj hD Qo hQ
    refine O_part hg hN hn hI (fun q => by rw [hk] at q; cases q.2) (by rw [hk]; intro q; cases q) (fun v' I' J' e a1 a2 a3 => ?_) (fun j I' J' e => by rw [hk] at e; cases e) (fun y C' I' e => ?_)
    · rw [hk] at e; cases e
      exact hQ I' J' (ih hq I' J' a1 (wF_t hw a2) (gJ_t hj a3) hD)
    · rcases e with ⟨e, _⟩ | ⟨j, e, _⟩ | ⟨_, e, _⟩
      · rw [hk] at e; cases e
      · rw [hk] at e; cases e
      · rw [hk] at e; exact absurd rfl e
  · intro bb k p W C D o j hk h1 h2 hb ih hq I J hI hw hj hD Qo hQ
    refine O_part hg hN hn hI (fun q => hb ⟨q.1, kW_inj.mp (hk.symm.trans q.2)⟩) (by rw [hk]; intro q; cases q) (fun v' I' J' e => by rw [hk] at e; cases e) (fun j' I' J' e _ _ a1 a2 a3 => ?_) (fun y C' I' e => ?_)
    · rw [hk] at e; cases e
      exact hQ I' J' (ih hq I' J' a1 (wF_t hw a2) (gJ_t hj a3) hD)
    · rcases e with ⟨e, _⟩ | ⟨j', e, q, _⟩ | ⟨e, _⟩
      · rw [hk] at e; cases e
      · rw [hk] at e; cases e; exact absurd ⟨h1, h2⟩ q
      · rw [hk] at e; exact absurd rfl e
  · intro bb k p W C D hk hq I J hI hw hj hD Qo hQ
    refine O_part hg hN hn hI (fun q => by rw [hk] at q; cases q.2) (by rw [hk]; intro q; cases q) (fun v' I' J' e => by rw [hk] at e; cases e) (fun j I' J' e => by rw [hk] at e; cases e) (fun y C' I' e a1 a2 => ?_)
    rcases e with ⟨_, rfl⟩ | ⟨j', e, q, _⟩ | ⟨_, _, e, _⟩
    · exact hQ I' J (E_out (d := d + 3) a1 fun I2 b1 b2 => hq I2 J b1 (wF_t hw (wF_t a2 b2)) hj)
    · rw [hk] at e; cases e
    · rw [hk] at e; exact absurd rfl e
  · intro bb k p W C D j hk h1 hb hq I J hI hw hj hD Qo hQ
    refine O_part hg hN hn hI (fun q => hb ⟨q.1, kW_inj.mp (hk.symm.trans q.2)⟩) (by rw [hk]; intro q; cases q) (fun v' I' J' e => by rw [hk] at e; cases e) (fun j' I' J' e g1 g2 => by rw [hk] at e; cases e; exact absurd ⟨g1, g2⟩ h1) (fun y C' I' e a1 a2 => ?_)
    rcases e with ⟨e, _⟩ | ⟨j', e, q, rfl⟩ | ⟨e, _⟩
    · rw [hk] at e; cases e
    · exact hQ I' J (E_out (d := d + 3) a1 fun I2 b1 b2 => hq I2 J b1 (wF_t hw (wF_t a2 b2)) hj)
    · rw [hk] at e; exact absurd rfl e
  · intro bb k p W C D hk hq I J hI hw hj hD Qo hQ
    have hs : (tK g N p).1 ≠ 1 ∧ (tK g N p).1 ≠ 2 ∧ (tK g N p).1 ≠ 5 ∧ tK g N p ≠ kS 40 := by
      rcases hk with e | ⟨c, e, hc⟩
      · rw [e]; exact ⟨by decide, by decide, by decide, by decide⟩
      · rw [e]; exact ⟨fun q => (by cases q), fun q => (by cases q), fun q => (by cases q), fun q => hc (by cases q; rfl)⟩
    refine O_part hg hN hn hI (fun q => hs.1 (by rw [q.2]; rfl)) hs.2.2.2 (fun v' I' J' e => absurd (by rw [e]; rfl) hs.2.1) (fun j I' J' e => absurd (by rw [e]; rfl) hs.1) (fun y C' I' e a1 a2 => ?_)
    rcases e with ⟨e, _⟩ | ⟨j', e, _⟩ | ⟨_, _, _, rfl⟩
    · exact absurd (by rw [e]; rfl) hs.2.2.1
    · exact absurd (by rw [e]; rfl) hs.1
    · exact hQ I' J (E_out (d := d + 3) a1 fun I2 b1 b2 => hq I2 J b1 (wF_t hw (wF_t a2 b2)) hj)
  · intro m c p Z W C D o hm ho hZ hlow ih hq I J hI hw hj hD
    obtain ⟨b0, D', rfl⟩ : ∃ b0 D', D = b0 :: D' := by cases D with | nil => exact absurd hD (by simp) | cons x y => exact ⟨x, y, rfl⟩
    rw [opn_app Z (fun z hz => (hZ z hz).1)] at hD
    have hcc := (op_c (m := m) (by rcases hm with rfl | rfl; exact Or.inl rfl; exact Or.inr (Or.inl rfl)) ho).2.1
    rcases hm with rfl | rfl
    · exact E_prod hg hN hI ho hZ hlow fun I' J' a1 a2 a3 => op_b (bb := false) rfl a1.1.2 (ih hq I' J' a1 (wF_t hw a2) (gJ_t hj a3) (by rw [opn_lo hcc]; simpa using hD) _ (fun I2 J2 h2 => kb_X11_expression_309 h2))
    · exact E_sum hg hN hI ho hZ hlow fun I' J' a1 a2 a3 => op_b (bb := false) rfl a1.1.2 (ih hq I' J' a1 (wF_t hw a2) (gJ_t hj a3) (by rw [opn_lo hcc]; simpa using hD) _ (fun I2 J2 h2 => kb_X11_expression_253 h2))
  · intro m c p Z W C b0 D o hm ho hZ hlow ih hq I J hI hw hj hD
    rw [opn_app Z (fun z hz => (hZ z hz).1)] at hD
    have hcc := (op_c (m := m) (by rcases hm with rfl | rfl; exact Or.inr (Or.inr (Or.inl rfl)); exact Or.inr (Or.inr (Or.inr rfl))) ho).2.1
    exact E_and hg hN hm hI ho hZ hlow fun I' J' a1 a2 a3 => op_b (bb := true) rfl a1.1.2 (ih hq I' J' a1 (wF_t hw a2) (gJ_t hj a3) (by rw [opn_lo hcc]; simpa using hD) _ (fun I2 J2 h2 => kb_X11_expression_121 h2))
  · intro c p Z W C D o ho hZ hlow ih hq I J hI hw hj hD
    rw [opn_app Z (fun z hz => (hZ z hz).1)] at hD
    have hcc := (cmp_c ho).2.1
    exact E_cmp hg hN hI ho hZ hlow fun I' J' a1 a2 a3 => op_b (bb := false) rfl a1.1.2 (ih hq I' J' a1 (wF_t hw a2) (gJ_t hj a3) (by rw [opn_lo hcc]; simpa using hD) _ (fun I2 J2 h2 => kb_X11_expression_198 h2))
  · intro p Z W C b0 D o hk hZ ih hq I J hI hw hj hD
    rw [opn_app Z hZ, opn_hi, List.length_cons] at hD
    exact E_close hg hN hI hk hZ fun I' J' a1 a2 a3 => ih hq I' J' a1 (wF_t hw a2) (gJ_t hj a3) (by omega)
  · intro p W C b0 D ho hc hk hD1 hq I J hI hw hj hD
    exact E_bad hg hN hI ho hc hk hD1 fun I' a1 a2 => hq I' J a1 (wF_t hw a2) hj
  · intro p W C b0 ho hc hW hq I J hI hw hj hD
    have hb := hI.2.2.1
    exact E_end hg hN hI ho hc hW fun I' a1 a2 a3 a4 => hq I' J a1 hI.2.2.2.2.1 (by rw [List.length_append]; omega) a2 a3 (wF_t hw a4) hj
/-- a whole formula, from the token behind its word on: what descent finds -/
theorem S_expression (hg : ∀ i, g i < 256) (hN : N ≤ 700) (hn : 1 ≤ n0 ∧ n0 ≤ 16 ∧ lo + n0 ≤ 18) {p : Nat} {r : Rs} (hp : p ≤ N) (hG : mG g N p I0 J0) (h32 : I0 85 32 = nI b) (hb : b + 2 ≤ 2 * p) (hD : Dv (tK g N) (tnx g N) lo n0 6 0 none p r)
    (hq : yQ L fz t Q I0 J0 g N b (match r with | .inl (e, q) => rok (es lo e) q | .inr (y, q) => rbad y q)) : pm_Ev (d + 6) 149 [.ref 85, .int (nI lo), .int (nI (lo + n0 - 1))] (pm_hp L fz t I0 J0) Q := by
  have hY := Dv_whole (C := []) hn.2.1 hn.2.2 hD
  refine e_X11_expression (S_good (d := d + 4) hG.2 (kb_X11_expression_4 (q_t' nI_01 ?_)))
  refine e_X11_deeper ?_
  rw [pm_us]
  refine q_f (by decide) ⟨by rw [nI_add]; exact vp_in_nI (by omega) (by omega), kb_X11_expression_32 ?_⟩
  have u85 : ∀ k, k ≠ 33 → k ≠ 34 → k ≠ 35 → k ≠ 36 → pm_u (pm_u (pm_u (pm_u (pm_u (pm_u I0 85 33 (nI lo)) 85 34 (nI (lo + n0 - 1))) 85 35 (nI 0)) 85 36 (nI 0)) 85 36 (nI 0 + nI 1)) 102 (nI 0 + nI 1).toNatClampNeg (vp_nar .boolean (nI 0)) 85 k = I0 85 k := fun k q1 q2 q3 q4 => by
    rw [pm_ua (by omega), pm_uk q4, pm_uk q4, pm_uk q3, pm_uk q2, pm_uk q1]
  have uo : ∀ a, a ≠ 85 → a ≠ 102 → pm_u (pm_u (pm_u (pm_u (pm_u (pm_u I0 85 33 (nI lo)) 85 34 (nI (lo + n0 - 1))) 85 35 (nI 0)) 85 36 (nI 0)) 85 36 (nI 0 + nI 1)) 102 (nI 0 + nI 1).toNatClampNeg (vp_nar .boolean (nI 0)) a = I0 a := fun a q1 q2 => by
    rw [pm_ua q2, pm_ua q1, pm_ua q1, pm_ua q1, pm_ua q1, pm_ua q1]
  have g1 : mG g N p (pm_u (pm_u (pm_u (pm_u (pm_u (pm_u I0 85 33 (nI lo)) 85 34 (nI (lo + n0 - 1))) 85 35 (nI 0)) 85 36 (nI 0)) 85 36 (nI 0 + nI 1)) 102 (nI 0 + nI 1).toNatClampNeg (vp_nar .boolean (nI 0))) J0 := ⟨mTk_c hG.1 (fun k hk => u85 k (by omega) (by omega) (by omega) (by omega)) (uo 92 (by omega) (by omega)), by rw [u85 15 (by omega) (by omega) (by omega) (by omega)]; exact hG.2⟩
  have w1 : yW lo n0 b [] [] [false] (pm_u (pm_u (pm_u (pm_u (pm_u (pm_u I0 85 33 (nI lo)) 85 34 (nI (lo + n0 - 1))) 85 35 (nI 0)) 85 36 (nI 0)) 85 36 (nI 0 + nI 1)) 102 (nI 0 + nI 1).toNatClampNeg (vp_nar .boolean (nI 0))) := by
    refine ⟨⟨?_, ?_⟩, ⟨?_, fun i hi => absurd hi (Nat.not_lt_zero i)⟩, ⟨?_, fun i hi => absurd hi (Nat.not_lt_zero i)⟩, ⟨?_, fun i hi => ?_⟩⟩
    · rw [pm_ua (by omega), pm_uk (by omega), pm_uk (by omega), pm_uk (by omega), pm_uk (by omega), pm_us]
    · rw [pm_ua (by omega), pm_uk (by omega), pm_uk (by omega), pm_uk (by omega), pm_us]
    · rw [u85 32 (by omega) (by omega) (by omega) (by omega), h32]; rfl
    · rw [pm_ua (by omega), pm_uk (by omega), pm_uk (by omega), pm_us]; rfl
    · rw [pm_ua (by omega), pm_us]; rfl
    · have : i = 0 := by simp at hi; exact hi
      subst this
      have e1 : (nI 0 + nI 1).toNatClampNeg = 1 := by decide
      rw [e1, pm_us, vn0]; rfl
  have wf1 : wF I0 (pm_u (pm_u (pm_u (pm_u (pm_u (pm_u I0 85 33 (nI lo)) 85 34 (nI (lo + n0 - 1))) 85 35 (nI 0)) 85 36 (nI 0)) 85 36 (nI 0 + nI 1)) 102 (nI 0 + nI 1).toNatClampNeg (vp_nar .boolean (nI 0))) := wF_c (wF_u (wF_u (wF_u (wF_u (wF_u wF_r (by omega)) (by omega)) (by omega)) (by omega)) (by omega)) (by omega)
  refine op_b (bb := true) rfl g1.2 (Ys_run hg hN ⟨hn.1, hn.2.2⟩ hY ?_ _ J0 ⟨g1, w1, by simpa using hb, Nat.zero_le _, hp, by simp, fun z hz => by cases hz⟩ wf1 (fun _ _ => rfl) rfl _ (fun I' J' h' => kb_X11_expression_37 h'))
  rcases r with ⟨e, q⟩ | ⟨y, q⟩
  · simpa using hq
  · exact hq
end Spec
