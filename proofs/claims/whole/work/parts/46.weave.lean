/-! the class weaves -/
def wv (T : Td) (k w y : Nat) : Int32 := mk (fun t => lift T (decide (y % 2 = 1)) (y / 4) (decide (y / 2 % 2 = 1)) k t w) (tN T)
def us (T : Td) (v : Nat) : Bool := (tU T).contains (16 + v)
def ce (T : Td) (p w : Nat) : Nat := (if us T 3 = true then p * 10 else 0) + (if us T 5 = true then w else 0)
def cM (T : Td) (I : Nat → Nat → Int32) : Prop := ∀ p w, p < 12 → w ≤ 9 → ¬ I 8 (ce T p w) = nI 0 → ∀ y, y < 12 → I 7 (ce T p w * 12 + y) = wv T p w y
def mi (T : Td) : Nat := ((if us T 0 = true then 1 else 0) ||| (if us T 2 = true then 2 else 0)) ||| (if us T 1 = true then 12 else 0)
theorem us_not {T : Td} {v : Nat} (h : us T v = false) : 16 + v ∉ tU T := fun q => by
  unfold us at h; rw [List.contains_iff_mem.mpr q] at h; exact Bool.noConfusion h
theorem lift_congr {T : Td} (hw : wf 6 (tU T) 0) {h h' : Bool} {b b' : Nat} {a a' : Bool} {k k' t t' w w' : Nat} (h0 : us T 0 = true → h = h') (h1 : us T 1 = true → b = b') (h2 : us T 2 = true → a = a') (h3 : us T 3 = true → k = k') (h4 : us T 4 = true → t = t') (h5 : us T 5 = true → w = w') : lift T h b a k t w = lift T h' b' a' k' t' w' := by
  unfold lift
  have hm : ∀ v, 16 + v ∈ tU T → us T v = true := fun v q => List.contains_iff_mem.mpr q
  rw [fw_congr (n0 := 6) (vs := uv h b a k t w) (vs' := uv h' b' a' k' t' w') (by omega) hw fun v hv hc => ?_]
  match v, hv, hc with
  | 0, _, hc => rw [h0 (hm 0 hc)]; rfl
  | 1, _, hc => rw [h1 (hm 1 hc)]; rfl
  | 2, _, hc => rw [h2 (hm 2 hc)]; rfl
  | 3, _, hc => rw [h3 (hm 3 hc)]; rfl
  | 4, _, hc => rw [h4 (hm 4 hc)]; rfl
  | 5, _, hc => rw [h5 (hm 5 hc)]; rfl
  | v + 6, hv, _ => exact absurd hv (by omega)
theorem li_all : ∀ u0 u2 u1 : Bool, ∀ y, y < 12 → (u0 = true → (y &&& (((if u0 = true then 1 else 0) ||| (if u2 = true then 2 else 0)) ||| (if u1 = true then 12 else 0))) % 2 = y % 2) ∧ (u2 = true → (y &&& (((if u0 = true then 1 else 0) ||| (if u2 = true then 2 else 0)) ||| (if u1 = true then 12 else 0))) / 2 % 2 = y / 2 % 2) ∧ (u1 = true → (y &&& (((if u0 = true then 1 else 0) ||| (if u2 = true then 2 else 0)) ||| (if u1 = true then 12 else 0))) / 4 = y / 4) := by
  intro u0 u2 u1
  cases u0 <;> cases u2 <;> cases u1 <;> decide
theorem wv_like {T : Td} (hw : wf 6 (tU T) 0) {k w y : Nat} (hy : y < 12) : wv T k w (y &&& mi T) = wv T k w y := by
  obtain ⟨a0, a2, a1⟩ := li_all (us T 0) (us T 2) (us T 1) y hy
  refine mk_congr fun t _ => lift_congr hw (fun h => ?_) (fun h => a1 h) (fun h => ?_) (fun _ => rfl) (fun _ => rfl) (fun _ => rfl)
  · unfold mi; rw [a0 h]
  · unfold mi; rw [a2 h]
theorem wv_cell {T : Td} (hw : wf 6 (tU T) 0) {k w k' w' : Nat} (h9 : w ≤ 9) (h9' : w' ≤ 9) (e : ce T k w = ce T k' w') (y : Nat) : wv T k w y = wv T k' w' y := by
  unfold ce at e
  refine mk_congr fun t _ => lift_congr hw (fun _ => rfl) (fun _ => rfl) (fun _ => rfl) (fun h => ?_) (fun _ => rfl) (fun h => ?_)
  · rw [if_pos h, if_pos h] at e
    split at e <;> omega
  · rw [if_pos h, if_pos h] at e
    split at e <;> omega
theorem way0 : ∀ y, y < 12 → nI y &&& nI 1 = bz (decide (y % 2 = 1)) := by decide +kernel
theorem way1 : ∀ y, y < 12 → (nI y >>> (nI 1 &&& 31)) &&& nI 1 = bz (decide (y / 2 % 2 = 1)) := by decide +kernel
theorem way2 : ∀ y, y < 12 → nI y >>> (nI 2 &&& 31) = nI (y / 4) := by decide +kernel
theorem mk_const (b : Bool) {n : Nat} (h : n < 32) : mk (fun _ => b) n = if b = true then al n else nI 0 := by
  cases b
  · exact mk_false n
  · exact mk_true h
theorem la_bt (x2 x3 l3 l2 l1 l0 : Int32) {i : Nat} (hi : i < 32) : bt ((x3 &&& ((x2 &&& l3) ||| ((x2 ^^^ (-1 : Int32)) &&& l2))) ||| ((x3 ^^^ (-1 : Int32)) &&& ((x2 &&& l1) ||| ((x2 ^^^ (-1 : Int32)) &&& l0)))) i = if bt x3 i = true then (if bt x2 i = true then bt l3 i else bt l2 i) else (if bt x2 i = true then bt l1 i else bt l0 i) := by
  rw [b_or, b_and, b_and, b_or, b_or, b_and, b_and, b_and, b_and, b_not x3 hi, b_not x2 hi]
  cases bt x3 i <;> cases bt x2 i <;> simp
section Spec
variable {d L : Nat} {fz t : Bool} {Q : pm_R → pm_H → Prop} {I : Nat → Nat → Int32} {J : Nat → Nat → Int64} {T : Td} {W : Wk} {a w : Nat}
theorem S_workOut {k v y : Nat} (ha : a = 55 ∨ a = 70) (hT : cT a T I) (oT : okT T) (hU : wf 6 (tU T) 0) (h3 : I 6 3 = nI k) (h5 : I 6 5 = nI v) (hy : y < 12)
    (hq : ∀ I', fr [6, a + 9 + 2] I I' → I' 6 3 = nI k → I' 6 5 = nI v → Q (.inl (some (.int (wv T k v y)))) (pm_hp L fz t I' J)) : pm_Ev (d + 3) 16 [.ref 3, .ref a, .int (nI y)] (pm_hp L fz t I J) Q := by
  have hn := oT.1
  refine e_X2_workOut ha ?_
  rw [way0 y hy, way1 y hy, way2 y hy]
  have hf1 : fr [6, a + 9 + 2] I (pm_u (pm_u (pm_u (pm_u I 6 0 (bz (decide (y % 2 = 1)))) 6 2 (bz (decide (y / 2 % 2 = 1)))) 6 1 (nI (y / 4))) 6 4 (nI 0)) := fr_u (by simp) (fr_u (by simp) (fr_u (by simp) (fr_u (by simp) fr_r)))
  have v0 : pm_u (pm_u (pm_u (pm_u I 6 0 (bz (decide (y % 2 = 1)))) 6 2 (bz (decide (y / 2 % 2 = 1)))) 6 1 (nI (y / 4))) 6 4 (nI 0) 6 0 = bz (decide (y % 2 = 1)) := by
    rw [pm_uk (by decide), pm_uk (by decide), pm_uk (by decide), pm_us]
  have v2 : pm_u (pm_u (pm_u (pm_u I 6 0 (bz (decide (y % 2 = 1)))) 6 2 (bz (decide (y / 2 % 2 = 1)))) 6 1 (nI (y / 4))) 6 4 (nI 0) 6 2 = bz (decide (y / 2 % 2 = 1)) := by
    rw [pm_uk (by decide), pm_uk (by decide), pm_us]
  have v1 : pm_u (pm_u (pm_u (pm_u I 6 0 (bz (decide (y % 2 = 1)))) 6 2 (bz (decide (y / 2 % 2 = 1)))) 6 1 (nI (y / 4))) 6 4 (nI 0) 6 1 = nI (y / 4) := by
    rw [pm_uk (by decide), pm_us]
  have v4 : pm_u (pm_u (pm_u (pm_u I 6 0 (bz (decide (y % 2 = 1)))) 6 2 (bz (decide (y / 2 % 2 = 1)))) 6 1 (nI (y / 4))) 6 4 (nI 0) 6 4 = nI 0 := pm_us
  have v3 : pm_u (pm_u (pm_u (pm_u I 6 0 (bz (decide (y % 2 = 1)))) 6 2 (bz (decide (y / 2 % 2 = 1)))) 6 1 (nI (y / 4))) 6 4 (nI 0) 6 3 = nI k := by
    rw [pm_uk (by decide), pm_uk (by decide), pm_uk (by decide), pm_uk (by decide), h3]
  have v5 : pm_u (pm_u (pm_u (pm_u I 6 0 (bz (decide (y % 2 = 1)))) 6 2 (bz (decide (y / 2 % 2 = 1)))) 6 1 (nI (y / 4))) 6 4 (nI 0) 6 5 = nI v := by
    rw [pm_uk (by decide), pm_uk (by decide), pm_uk (by decide), pm_uk (by decide), h5]
  generalize pm_u (pm_u (pm_u (pm_u I 6 0 (bz (decide (y % 2 = 1)))) 6 2 (bz (decide (y / 2 % 2 = 1)))) 6 1 (nI (y / 4))) 6 4 (nI 0) = I1 at hf1 v0 v1 v2 v3 v4 v5 ⊢
  have keep : ∀ I', fr [6, a + 9 + 2] I I' → cT a T I' := fun I' h => cT_fr hT h (by simp <;> omega) (by simp <;> omega) (by simp <;> omega) (by simp <;> omega) (by simp <;> omega) (by simp <;> omega) (by simp <;> omega) (by simp <;> omega) (by simp <;> omega) (by simp <;> omega)
  have hal : ∀ (I2 : Nat → Nat → Int32) (q : Nat), I2 6 0 = bz (decide (y % 2 = 1)) → I2 6 1 = nI (y / 4) → I2 6 2 = bz (decide (y / 2 % 2 = 1)) → I2 6 3 = nI k → I2 6 4 = nI q → I2 6 5 = nI v → fw (tU T) (I2 6) = fw (tU T) (uv (decide (y % 2 = 1)) (y / 4) (decide (y / 2 % 2 = 1)) k q v) := by
    intro I2 q w0 w1 w2 w3 w4 w5
    refine fw_congr (n0 := 6) (by omega) hU fun x hx _ => ?_
    match x, hx with
    | 0, _ => exact w0
    | 1, _ => exact w1
    | 2, _ => exact w2
    | 3, _ => exact w3
    | 4, _ => exact w4
    | 5, _ => exact w5
    | x + 6, hx => exact absurd hx (by omega)
  refine S_uses (a0 := a + 9) (v := 4) (by omega) (keep I1 hf1).2.2.2.2.1 (by omega) (kb_X2_workOut_44 ha ?_)
  refine q_b0' (fun h4 => ?_) (fun h4 => ?_)
  · have loop : ∀ (j i : Nat) (I' : Nat → Nat → Int32), i + j = tN T → fr [6, a + 9 + 2] I I' → I' 6 0 = bz (decide (y % 2 = 1)) → I' 6 1 = nI (y / 4) → I' 6 2 = bz (decide (y / 2 % 2 = 1)) → I' 6 3 = nI k → I' 6 5 = nI v → t_X2_workOut_75 (d + 2) L fz t Q a (mk (fun t => lift T (decide (y % 2 = 1)) (y / 4) (decide (y / 2 % 2 = 1)) k t v) i) (nI i) I' J := by
      intro j
      induction j with
      | zero =>
        intro i I' hi hf w0 w1 w2 w3 w5
        obtain rfl : i = tN T := by omega
        refine b_X2_workOut_75 ha ?_
        rw [(keep I' hf).1]
        exact q_t (nI_le (by omega) (by omega)) (hq I' hf w3 w5)
      | succ j ih =>
        intro i I' hi hf w0 w1 w2 w3 w5
        refine b_X2_workOut_75 ha ?_
        rw [(keep I' hf).1]
        refine q_f (nI_ge (by omega) (by omega)) ?_
        have hf2 : fr [6, a + 9 + 2] I (pm_u I' 6 4 (nI i)) := fr_u (by simp) hf
        refine S_worth (a0 := a + 9) (n0 := 6) (by omega) (by omega) (keep _ hf2).2.2.2.2.1 hU fun I2 g2 => ?_
        rw [hal (pm_u I' 6 4 (nI i)) i (by rw [pm_uk (by decide), w0]) (by rw [pm_uk (by decide), w1]) (by rw [pm_uk (by decide), w2]) (by rw [pm_uk (by decide), w3]) pm_us (by rw [pm_uk (by decide), w5])]
        refine kb_X2_workOut_103 ha ?_
        have hf3 : fr [6, a + 9 + 2] I I2 := fr_t hf2 (fr_m (fr_one g2) (by simp))
        have e6 : I2 6 = pm_u I' 6 4 (nI i) 6 := g2 6 (by omega)
        rw [nI_add]
        refine ⟨fun h => ?_, fun h => ?_⟩
        · have hb : lift T (decide (y % 2 = 1)) (y / 4) (decide (y / 2 % 2 = 1)) k i v = false := by
            unfold lift; rw [decide_eq_true h]; rfl
          rw [mk_Sf (f := fun t => lift T (decide (y % 2 = 1)) (y / 4) (decide (y / 2 % 2 = 1)) k t v) hb]
          exact ih (i + 1) I2 (by omega) hf3 (by rw [e6, pm_uk (by decide), w0]) (by rw [e6, pm_uk (by decide), w1]) (by rw [e6, pm_uk (by decide), w2]) (by rw [e6, pm_uk (by decide), w3]) (by rw [e6, pm_uk (by decide), w5])
        · have hb : lift T (decide (y % 2 = 1)) (y / 4) (decide (y / 2 % 2 = 1)) k i v = true := by
            unfold lift; rw [decide_eq_false h]; rfl
          rw [mk_St (f := fun t => lift T (decide (y % 2 = 1)) (y / 4) (decide (y / 2 % 2 = 1)) k t v) hb]
          exact ih (i + 1) I2 (by omega) hf3 (by rw [e6, pm_uk (by decide), w0]) (by rw [e6, pm_uk (by decide), w1]) (by rw [e6, pm_uk (by decide), w2]) (by rw [e6, pm_uk (by decide), w3]) (by rw [e6, pm_uk (by decide), w5])
    exact loop (tN T) 0 I1 (by omega) hf1 v0 v1 v2 v3 v5
  · refine S_worth (a0 := a + 9) (n0 := 6) (by omega) (by omega) (keep I1 hf1).2.2.2.2.1 hU fun I2 g2 => ?_
    rw [hal I1 0 v0 v1 v2 v3 v4 v5]
    refine kb_X2_workOut_58 ha ?_
    have hf3 : fr [6, a + 9 + 2] I I2 := fr_t hf1 (fr_m (fr_one g2) (by simp))
    have e6 : I2 6 = I1 6 := g2 6 (by omega)
    have ec : wv T k v y = if lift T (decide (y % 2 = 1)) (y / 4) (decide (y / 2 % 2 = 1)) k 0 v = true then al (tN T) else nI 0 := by
      rw [← mk_const _ (by omega)]
      exact mk_congr fun q _ => lift_congr hU (fun _ => rfl) (fun _ => rfl) (fun _ => rfl) (fun _ => rfl) (fun h => by unfold us at h; rw [h4] at h; cases h) (fun _ => rfl)
    have hz := hq I2 hf3 (by rw [e6]; exact v3) (by rw [e6]; exact v5)
    rw [ec] at hz
    rw [(keep I2 hf3).2.1]
    refine ⟨fun h => ?_, fun h => ?_⟩
    · have hb : lift T (decide (y % 2 = 1)) (y / 4) (decide (y / 2 % 2 = 1)) k 0 v = false := by
        unfold lift; rw [decide_eq_true h]; rfl
      rw [hb] at hz; exact hz
    · have hb : lift T (decide (y % 2 = 1)) (y / 4) (decide (y / 2 % 2 = 1)) k 0 v = true := by
        unfold lift; rw [decide_eq_false h]; rfl
      rw [hb] at hz; exact hz
theorem S_learn {c k v : Nat} (ha : a = 55 ∨ a = 70) (hT : cT a T I) (oT : okT T) (hU : wf 6 (tU T) 0) (hc : c < 120)
    (hq : ∀ I', fr [6, 7, 8, a + 9 + 2] I I' → (∀ y, y < 12 → I' 7 (c * 12 + y) = wv T k v y) → (∀ j, ¬ (c * 12 ≤ j ∧ j < c * 12 + 12) → I' 7 j = I 7 j) → I' 8 c = nI 1 → (∀ j, j ≠ c → I' 8 j = I 8 j) → Q (.inl none) (pm_hp L fz t I' J)) : pm_Ev (d + 4) 15 [.ref 3, .ref a, .int (nI c), .int (nI k), .int (nI v)] (pm_hp L fz t I J) Q := by
  have keep : ∀ I', fr [6, 7, 8, a + 9 + 2] I I' → cT a T I' := fun I' h => cT_fr hT h (by simp <;> omega) (by simp <;> omega) (by simp <;> omega) (by simp <;> omega) (by simp <;> omega) (by simp <;> omega) (by simp <;> omega) (by simp <;> omega) (by simp <;> omega) (by simp <;> omega)
  have loop : ∀ (j i : Nat) (I' : Nat → Nat → Int32), i + j = 12 → fr [6, 7, 8, a + 9 + 2] I I' → I' 6 3 = nI k → I' 6 5 = nI v → I' 8 = I 8 → (∀ y, y < i → I' 7 (c * 12 + y) = wv T k v y) → (∀ j, ¬ (c * 12 ≤ j ∧ j < c * 12 + 12) → I' 7 j = I 7 j) → t_X2_learn_71 (d + 3) L fz t Q a (nI c) (nI (mi T)) (nI i) I' J := by
    intro j
    induction j with
    | zero =>
      intro i I' hi hf w3 w5 h8 hk hj
      obtain rfl : i = 12 := by omega
      refine b_X2_learn_71 ha (q_t (nI_le (by omega) (by omega)) ⟨vp_in_nI hc (by omega), ?_⟩)
      rw [nI_clamp (by omega)]
      refine hq _ (fr_u (by simp) hf) (fun y hy => ?_) (fun j h => ?_) pm_us (fun j h => ?_)
      · rw [pm_ua (by decide)]; exact hk y hy
      · rw [pm_ua (by decide)]; exact hj j h
      · rw [pm_uk h, h8]
    | succ j ih =>
      intro i I' hi hf w3 w5 h8 hk hj
      have next : ∀ (I2 : Nat → Nat → Int32) (r : Int32), fr [6, 7, 8, a + 9 + 2] I I2 → I2 6 3 = nI k → I2 6 5 = nI v → I2 7 = I' 7 → I2 8 = I' 8 → r = wv T k v i → t_X2_learn_125 (d + 3) L fz t Q a (nI c) (nI (mi T)) (nI i) (nI c * nI 12 + nI i) r I2 J := by
        intro I2 r hf2 u3 u5 u7 u8 hr
        refine b_X2_learn_125 ha ?_
        rw [pk_mul, nI_add, nI_clamp (by omega), nI_add]
        refine ⟨vp_in_nI (by omega) (by omega), ?_⟩
        refine ih (i + 1) _ (by omega) (fr_u (by simp) hf2) (by rw [pm_ua (by decide)]; exact u3) (by rw [pm_ua (by decide)]; exact u5) (by rw [pm_ua (by decide), u8, h8]) (fun y hy => ?_) (fun j h => ?_)
        · by_cases e : y = i
          · rw [e, pm_us, hr]
          · rw [pm_uk (by omega), u7]; exact hk y (by omega)
        · rw [pm_uk (by omega), u7]; exact hj j h
      refine b_X2_learn_71 ha (q_f (nI_ge (by omega) (by omega)) ?_)
      rw [fa_and]
      have hle : i &&& mi T ≤ i := Nat.and_le_left
      refine q_le (by omega) (by omega) (fun h => ?_) (fun h => ?_)
      · refine S_workOut ha (keep I' hf) oT hU w3 w5 (by omega) fun I2 g2 u3 u5 => ?_
        exact next I2 _ (fr_t hf (fr_m g2 (by simp))) u3 u5 (g2 7 (by simp <;> omega)) (g2 8 (by simp <;> omega)) rfl
      · refine ⟨?_, ?_⟩
        · rw [pk_mul, nI_add]; exact vp_in_nI (by omega) (by omega)
        · refine next I' _ hf w3 w5 rfl rfl ?_
          rw [pk_mul, nI_add, nI_clamp (by omega), hk (i &&& mi T) h, wv_like hU (by omega)]
  have fin : ∀ (x5 : Int32), x5 = nI (mi T) → t_X2_learn_71 (d + 3) L fz t Q a (nI c) x5 (nI 0) (pm_u (pm_u I 6 3 (nI k)) 6 5 (nI v)) J := by
    intro x5 h
    rw [h]
    refine loop 12 0 _ (by omega) (fr_u (by simp) (fr_u (by simp) fr_r)) (by rw [pm_uk (by decide), pm_us]) pm_us (by rw [pm_ua (by decide), pm_ua (by decide)]) (fun y hy => absurd hy (by omega)) (fun j _ => by rw [pm_ua (by decide), pm_ua (by decide)])
  have hF := hT.2.2.2.2.1
  refine e_X2_learn ha (S_uses (a0 := a + 9) (v := 0) (by omega) hF (by omega) (kb_X2_learn_8 ha (q_b0 (fun h0 => ?_) (fun h0 => ?_))))
  all_goals refine S_uses (a0 := a + 9) (v := 2) (by omega) hF (by omega) (kb_X2_learn_24 ha (q_b0 (fun h2 => ?_) (fun h2 => ?_)))
  all_goals refine S_uses (a0 := a + 9) (v := 1) (by omega) hF (by omega) (kb_X2_learn_41 ha (q_b0 (fun h1 => ?_) (fun h1 => ?_)))
  all_goals
    refine fin _ ?_
    unfold mi us
    rw [h0, h2, h1]
    decide
theorem S_liftedAmong {q : Nat} {h x : Int32} (hq' : q + 4 ≤ 1440) (hq : Q (.inl (some (.int ((x &&& ((h &&& I 7 (q + 3)) ||| ((h ^^^ (-1 : Int32)) &&& I 7 (q + 2)))) ||| ((x ^^^ (-1 : Int32)) &&& ((h &&& I 7 (q + 1)) ||| ((h ^^^ (-1 : Int32)) &&& I 7 q))))))) (pm_hp L fz t I J)) : pm_Ev (d + 1) 14 [.ref 3, .int (nI q), .int h, .int x] (pm_hp L fz t I J) Q := by
  refine e_X2_liftedAmong ?_
  rw [nI_add, nI_add, nI_add, nI_clamp (by omega), nI_clamp (by omega), nI_clamp (by omega), nI_clamp (by omega)]
  exact ⟨vp_in_nI (by omega) (by omega), vp_in_nI (by omega) (by omega), vp_in_nI (by omega) (by omega), vp_in_nI (by omega) (by omega), hq⟩
theorem S_rowBy {q k v : Nat} {h x : Int32} (oT : okT T) (hU : wf 6 (tU T) 0) (hh : sm h (tN T)) (hq' : q + 12 ≤ 1440) (hl : ∀ y, y < 12 → I 7 (q + y) = wv T k v y) (hq : Q (.inl (some (.int (ups T h x k v)))) (pm_hp L fz t I J)) : pm_Ev (d + 2) 13 [.ref 3, .int (nI q), .int (al (tN T)), .int h, .int x] (pm_hp L fz t I J) Q := by
  have hn := oT.1
  refine e_X2_rowBy (S_liftedAmong (by omega) (kb_X2_rowBy_27 ?_))
  rw [nI_add]
  refine S_liftedAmong (by omega) (kb_X2_rowBy_43 ?_)
  rw [nI_add]
  refine S_liftedAmong (by omega) (kb_X2_rowBy_61 ?_)
  have hne : tU T ≠ [] := fun e => by rw [e] at hU; exact absurd hU (by unfold wf; omega)
  have e : ∀ r, r = ups T h x k v → Q (.inl (some (.int r))) (pm_hp L fz t I J) := fun r e => by rw [e]; exact hq
  refine e _ ?_
  apply b_ext
  intro i hi
  rw [b_or, b_or, b_and, b_and, b_and, la_bt _ _ _ _ _ _ hi, la_bt _ _ _ _ _ _ hi, la_bt _ _ _ _ _ _ hi, b_and, b_not _ hi, b_xor, b_or, b_and, b_shl 1 (by omega) h hi, b_sshr 1 (by omega) h hi, b_al (tN T) (by omega) i hi]
  have hr : (if 1 + i < 32 then bt h (1 + i) else bt h 31) = (decide (i + 1 < tN T) && bt h (i + 1)) := by
    by_cases c1 : i + 1 < tN T
    · rw [if_pos (by omega), decide_eq_true c1, Bool.true_and, Nat.add_comm]
    · rw [decide_eq_false c1, Bool.false_and]
      split
      · exact hh _ (by omega)
      · exact hh _ (by omega)
  rw [hr]
  have ix : ∀ y, y < 12 → ∀ z, z = q + y → bt (I 7 z) i = (decide (i < tN T) && lift T (decide (y % 2 = 1)) (y / 4) (decide (y / 2 % 2 = 1)) k i v) := by
    intro y hy z hz
    rw [hz, hl y hy]
    exact b_mk _ (tN T) (by omega) i hi
  rw [ix 0 (by omega) q (by omega), ix 1 (by omega) (q + 1) rfl, ix 2 (by omega) (q + 2) rfl, ix 3 (by omega) (q + 3) rfl, ix 4 (by omega) (q + 4) rfl, ix 5 (by omega) (q + 4 + 1) rfl, ix 6 (by omega) (q + 4 + 2) rfl, ix 7 (by omega) (q + 4 + 3) rfl, ix 8 (by omega) (q + 8) rfl, ix 9 (by omega) (q + 8 + 1) rfl, ix 10 (by omega) (q + 8 + 2) rfl, ix 11 (by omega) (q + 8 + 3) rfl]
  unfold ups
  rw [if_neg hne, b_mk _ (tN T) (by omega) i hi]
  by_cases hin : i < tN T
  · rw [decide_eq_true hin]
    unfold bes
    simp only [Bool.true_and, Bool.and_true]
    cases hl1 : (decide (1 ≤ i) && bt h (i - 1)) <;> cases hl2 : (decide (i + 1 < tN T) && bt h (i + 1)) <;> cases bt x i <;> cases bt h i <;> simp [hl1, hl2, Nat.lt_iff_add_one_le, show (decide (0 + 1 ≤ i) && bt h (i - 1)) = _ from hl1] <;> rfl
  · rw [decide_eq_false hin]
    simp
/-- the class's cloth, so many Sundays on -/
theorem S_weave {s : Nat} (ha : a = 55 ∨ a = 70) (hw : w = 23 ∨ w = 27 ∨ w = 31) (hT : cT a T I) (hW : cW w W I) (oT : okT T) (oW : okW T W) (hM : cM T I) (hs : s ≤ 30)
    (hq : ∀ I', fr [3, 4, 6, 7, 8, a + 9 + 2] I I' → cM T I' → I' 3 1 = nI (wp W) → (∀ k, k < wp W → I' 4 k = cl T (wag W s) (k + 1)) → Q (.inl none) (pm_hp L fz t I' J)) : pm_Ev (d + 5) 12 [.ref 3, .ref a, .ref w, .int (nI s)] (pm_hp L fz t I J) Q := by
  have hn := oT.1
  have h12 := oW.2.2.2
  have hm := oT.2.1
  have loop : ∀ (j i : Nat) (I' : Nat → Nat → Int32), i + j = wp W → fr [3, 4, 6, 7, 8, a + 9 + 2] I I' → cM T I' → I' 3 1 = nI (wp W) → (∀ k, k < i → I' 4 k = cl T (wag W s) (k + 1)) → t_X2_weave_14 (d + 4) L fz t Q a w (nI s) (cl T (wag W s) i) (nI i) I' J := by
    intro j
    induction j with
    | zero =>
      intro i I' hi hf hM' h31 hk
      obtain rfl : i = wp W := by omega
      refine b_X2_weave_14 ha hw ?_
      rw [h31]
      exact q_t (nI_le (by omega) (by omega)) (hq I' hf hM' h31 hk)
    | succ j ih =>
      intro i I' hi hf hM' h31 hk
      have hT' : cT a T I' := cT_fr hT hf (by simp <;> omega) (by simp <;> omega) (by simp <;> omega) (by simp <;> omega) (by simp <;> omega) (by simp <;> omega) (by simp <;> omega) (by simp <;> omega) (by simp <;> omega) (by simp <;> omega)
      have hW' : cW w W I' := cW_fr hW hf (by simp <;> omega) (by simp <;> omega) (by simp <;> omega) (by simp <;> omega)
      have h10 := oW.2.2.1 i (by omega)
      have h9 := oW.2.1 (wl W i) (by omega)
      have hF := hT'.2.2.2.2.1
      have hww : ww (wag W s) (wl W i) = min (ww W (wl W i) + s) 9 := ww_wag (by omega)
      -- the row laid down
      have lay : ∀ (I2 : Nat → Nat → Int32), fr [3, 4, 6, 7, 8, a + 9 + 2] I I2 → cM T I2 → I2 3 1 = nI (wp W) → I2 4 = I' 4 → t_X2_weave_14 (d + 4) L fz t Q a w (nI s) (cl T (wag W s) (i + 1)) (nI (i + 1)) (pm_u I2 4 i (cl T (wag W s) (i + 1))) J := by
        intro I2 f2 m2 u31 u4
        refine ih (i + 1) _ (by omega) (fr_u (by simp) f2) (fun p v h1 h2 => by rw [pm_ua (by decide), pm_ua (by decide)]; exact m2 p v h1 h2) (by rw [pm_ua (by decide)]; exact u31) fun k hk' => ?_
        by_cases e : k = i
        · rw [e, pm_us]
        · rw [pm_uk e, u4]; exact hk k (by omega)
      refine b_X2_weave_14 ha hw ?_
      rw [h31, nI_clamp (by omega), hW'.2.2.2.2.2 i (by omega), nI_clamp (by omega), hW'.2.2.2.2.1 (wl W i) (by omega), hW'.2.2.2.1 (wl W i) (by omega), nI_add]
      refine q_f (nI_ge (by omega) (by omega)) ⟨vp_in_nI (by omega) (by omega), vp_in_nI (by omega) (by omega), ?_⟩
      have hmin : (if nI 9 < nI (ww W (wl W i) + s) then nI 9 else nI (ww W (wl W i) + s)) = nI (ww (wag W s) (wl W i)) := by
        rw [hww]
        by_cases q : 9 < ww W (wl W i) + s
        · rw [if_pos (nI_lt q (by omega)), Nat.min_eq_right (by omega)]
        · rw [if_neg (nI_nlt (by omega) (by omega)), Nat.min_eq_left (by omega)]
      have hv9 : ww (wag W s) (wl W i) ≤ 9 := by rw [hww]; exact Nat.min_le_right _ _
      have hcl : cl T (wag W s) (i + 1) = ups T (eff T (wag W s) (wl W i)) (cl T (wag W s) i) i (ww (wag W s) (wl W i)) := rfl
      have hse : sm (eff T (wag W s) (wl W i)) (tN T) := sm_eff oT (okW_wag oW s) (by omega)
      rw [hmin]
      -- from the holes on
      have go : ∀ (x8 : Int32), x8 = eff T (wag W s) (wl W i) → pm_Ev (d + 4) 6 [.ref (a + 9), .int (nI 3)] (pm_hp L fz t I' J) (K_X2_weave_79 (d + 4) fz t Q a w (nI s) (cl T (wag W s) i) (nI i) (nI (ww (wag W s) (wl W i))) x8) := by
        intro x8 hx8
        generalize ww (wag W s) (wl W i) = v at hv9 hcl hx8 ⊢
        have e1 : ce T i v < 120 := by unfold ce; split <;> split <;> omega
        have last : ∀ (I2 : Nat → Nat → Int32) (x9 : Int32), x9 = nI (ce T i v) → fr [3, 4, 6, 7, 8, a + 9 + 2] I I2 → cM T I2 → I2 3 1 = nI (wp W) → I2 4 = I' 4 → (tU T ≠ [] → ¬ I2 8 (ce T i v) = nI 0) → t_X2_weave_142 (d + 4) L fz t Q a w (nI s) (cl T (wag W s) i) (nI i) x8 x9 I2 J := by
          intro I2 x9 h9' f2 m2 u31 u4 ukn
          have hT2 : cT a T I2 := cT_fr hT f2 (by simp <;> omega) (by simp <;> omega) (by simp <;> omega) (by simp <;> omega) (by simp <;> omega) (by simp <;> omega) (by simp <;> omega) (by simp <;> omega) (by simp <;> omega) (by simp <;> omega)
          refine b_X2_weave_142 ha hw (S_isTold (a0 := a + 9) (by omega) hT2.2.2.2.2.1 (kb_X2_weave_149 ha hw ?_))
          rw [h9', hT2.2.1, nI_clamp (by omega), pk_mul, nI_add]
          refine q_b0 (fun h => ⟨vp_in_nI (by omega) (by omega), ?_⟩) (fun h => ?_)
          · have hU : tU T = [] := by cases q : tU T; rfl; rw [q] at h; cases h
            have e2 : cl T (wag W s) (i + 1) = x8 := by rw [hcl, hx8]; unfold ups; rw [if_pos hU]
            rw [← e2]
            exact lay I2 f2 m2 u31 u4
          · have hne : tU T ≠ [] := fun q => by rw [q] at h; cases h
            have hU : wf 6 (tU T) 0 := by
              rcases oT.2.2.2.1 with q | q
              · exact absurd q hne
              · exact q
            refine S_rowBy (k := i) (v := v) oT hU (by rw [hx8]; exact hse) (by omega) (fun y hy => m2 i v (by omega) hv9 (ukn hne) y hy) (kb_X2_weave_169 ha hw ?_)
            rw [nI_clamp (by omega), nI_add, hx8, ← hcl]
            exact ⟨vp_in_nI (by omega) (by omega), lay I2 f2 m2 u31 u4⟩
        have known : ∀ (x9 : Int32), x9 = nI (ce T i v) → (vp_in x9 120 ∧ ((¬ (I' 8 (x9).toNatClampNeg) = (nI 0) → t_X2_weave_142 (d + 4) L fz t Q a w (nI s) (cl T (wag W s) i) (nI i) x8 x9 I' J) ∧ ((I' 8 (x9).toNatClampNeg) = (nI 0) → pm_Ev (d + 4) 5 [.ref (a + 9)] (pm_hp L fz t I' J) (K_X2_weave_128 (d + 4) fz t Q a w (nI s) (cl T (wag W s) i) (nI i) (nI v) x8 x9)))) := by
          intro x9 h9'
          rw [h9', nI_clamp (by omega)]
          refine ⟨vp_in_nI e1 (by omega), fun h => last I' _ rfl hf hM' h31 rfl (fun _ => h), fun h => ?_⟩
          refine S_isTold (a0 := a + 9) (by omega) hF (kb_X2_weave_128 ha hw (q_b0 (fun q => ?_) (fun q => ?_)))
          · refine last I' _ rfl hf hM' h31 rfl (fun hne => ?_)
            exact absurd (by cases z : tU T; rfl; rw [z] at q; cases q) hne
          · have hne : tU T ≠ [] := fun z => by rw [z] at q; cases q
            have hU : wf 6 (tU T) 0 := by
              rcases oT.2.2.2.1 with z | z
              · exact absurd z hne
              · exact z
            refine S_learn ha hT' oT hU e1 fun I2 g2 k1 k2 k3 k4 => ?_
            refine last I2 _ rfl (fr_t hf (fr_m g2 (by simp))) ?_ (by rw [g2 3 (by simp <;> omega)]; exact h31) (g2 4 (by simp <;> omega)) (fun _ => by rw [k3]; exact nI_01)
            intro p u hp hu hne2 y hy
            by_cases e : ce T p u = ce T i v
            · rw [e, k1 y hy]; exact wv_cell hU hv9 hu e.symm y
            · rw [k4 _ e] at hne2
              rw [k2 _ (by omega)]
              exact hM' p u hp hu hne2 y hy
        refine S_uses (a0 := a + 9) (v := 3) (by omega) hF (by omega) (kb_X2_weave_79 ha hw (q_b0 (fun h3 => ?_) (fun h3 => ?_)))
        all_goals refine S_uses (a0 := a + 9) (v := 5) (by omega) hF (by omega) (kb_X2_weave_99 ha hw (q_b0 (fun h5 => ?_) (fun h5 => ?_)))
        all_goals refine known _ ?_
        all_goals
          unfold ce us
          simp only [h3, h5, pk_mul, nI_add]
          simp
      refine q_lt (by omega) (by omega) (fun h => ⟨vp_in_nI (by omega) (by omega), go _ ?_⟩) (fun h => go _ ?_)
      · show wo W (wl W i) = _
        unfold eff; rw [if_neg (by omega)]; rfl
      · rw [hT'.2.1]; unfold eff; rw [if_pos (by omega)]
  exact e_X2_weave ha hw (loop (wp W) 0 _ (by omega) (fr_u (by simp) fr_r) (fun p v h1 h2 => by rw [pm_ua (by decide), pm_ua (by decide)]; exact hM p v h1 h2) (by rw [pm_us]; exact hW.1) (fun k hk => absurd hk (by omega)))
end Spec
