/-! what descent finds, the stack of waiting acts finds -/
theorem es_num (o v : Nat) : es o [32 + v] = [1, v] := by
  show ec o (32 + v) ++ [] = _
  unfold ec; rw [if_pos (by omega), show 32 + v - 32 = v by omega]; rfl
theorem es_val {o j : Nat} (h : o ≤ j) (hj : j < o + 16) : es o [16 + (j - o)] = [2, j] := by
  show ec o (16 + (j - o)) ++ [] = _
  unfold ec; rw [if_neg (by omega), if_pos (by omega), show 16 + (j - o) - 16 + o = j by omega]; rfl
theorem es_op {o c : Nat} (h : c < 16) : es o [c] = [mop c] := by
  show ec o c ++ [] = _
  rw [ec_op h]; rfl
theorem es_no (o : Nat) : ∀ k, es o (List.replicate k 0) = List.replicate k 3
  | 0 => rfl
  | k + 1 => by rw [List.replicate_succ, show es o (0 :: List.replicate k 0) = ec o 0 ++ es o (List.replicate k 0) from rfl, es_no o k, ec_op (by omega)]; rfl
theorem xf_0 {k : Tk} {b : Bool} : xf 0 k b := ⟨fun q => absurd q (by omega), fun q => absurd q (by omega), fun q => absurd q (by omega), fun q => absurd q (by omega), fun q => absurd q (by omega)⟩
theorem xf_mono {m m' : Nat} {k : Tk} {b b' : Bool} (h : xf m k b) (hm : m' ≤ m) (hb : 3 ≤ m' → b = true → b' = true) : xf m' k b' := ⟨fun q => h.1 (by omega), fun q => h.2.1 (by omega), fun q r => hb q (h.2.2.1 (by omega) r), fun q => h.2.2.2.1 (by omega), fun q => h.2.2.2.2 (by omega)⟩
section
variable {K : Nat → Tk} {nx : Nat → Nat} {lo n0 : Nat}
theorem Ys_nots : ∀ (k j p : Nat) (W C : List Nat) (D : List Bool) (o : Rs), (∀ i, i < k → K (it nx i p) = kW 18) → j + k ≤ 6 → Ys K nx lo n0 (some (true, j + k)) (it nx k p) (List.replicate k 3 ++ W) C D o → Ys K nx lo n0 (some (true, j)) p W C D o
  | 0, j, p, W, C, D, o, _, _, h => h
  | k + 1, j, p, W, C, D, o, hn, hk, h => by
    refine Ys_onot (hn 0 (by omega)) (by omega) (Ys_nots k (j + 1) (nx p) (3 :: W) C D o (fun i hi => hn (i + 1) (by omega)) (by omega) ?_)
    rw [show j + 1 + k = j + (k + 1) by omega]
    have e : List.replicate k 3 ++ 3 :: W = List.replicate (k + 1) 3 ++ W := by
      rw [List.replicate_succ', List.append_assoc]; rfl
    rw [e]
    exact h
theorem low_no {k : Nat} {W : List Nat} (h : low 3 W) : low 4 (List.replicate k 3 ++ W) := by
  cases k with
  | zero => exact low_up h (by omega)
  | succ k => exact low_cons (Or.inr (by decide))
/-- from a chain's rest on -/
theorem yR_chain {m : Nat} {En : Rs → Prop} {W C : List Nat} {b0 : Bool} {D : List Bool} {e : List Nat} {p' : Nat} {r : Rs} {w : Nat} (hm : isCh m) (hD : D.length = w) (hl : low (7 - m) W) (h : yR K nx lo n0 (m - 1) En W C b0 D (rok e p')) (hc : yM K nx lo n0 m w (some e) p' r) : yR K nx lo n0 m En W C b0 D r := by
  obtain ⟨Z, C', tb, h1, h2, h3, h4, h5⟩ := h
  have hm1 : 1 ≤ m := by rcases hm with rfl | rfl | rfl | rfl <;> omega
  have q := hc Z C' W C tb D hD hl (fun z hz => ⟨(h1 z hz).1, by have := (h1 z hz).2; omega⟩) h2 h3
  rcases r with ⟨e', q'⟩ | ⟨y, q'⟩
  · obtain ⟨Z', C'', tb', g1, g2, g3, g4, g5⟩ := q
    exact ⟨Z', C'', tb', g1, g2, g3, fun hq => (g4 hq).trans (h4 (by omega)), fun o ho => h5 o (g5 o ho)⟩
  · exact h5 _ q
/-- an act, its operand read: put to what was there -/
theorem yR_act {m w : Nat} {p c p' : Nat} {e e' Z C0 W C : List Nat} {b0 b1 : Bool} {D : List Bool} (hc : c < 16 ∧ mop c < 14 ∧ 7 - m ≤ stg (mop c)) {En : Rs → Prop} (hZ : es lo e = C0 ++ Z) {ms : Nat} (hms : ms ≤ m) (h : yR K nx lo n0 ms En (mop c :: W) (C ++ C0 ++ Z) b1 D (rok e' p')) :
    ∃ Z' C' tb, (∀ z, z ∈ Z' → z < 14 ∧ 7 - m ≤ stg z) ∧ es lo (e ++ e' ++ [c]) = C' ++ Z' ∧ xf ms (K p') tb ∧ (ms < 3 → tb = b1) ∧ ∀ o, Ys K nx lo n0 none p' (Z' ++ W) (C ++ C') (tb :: D) o → En o := by
  obtain ⟨Y, C', tb, h1, h2, h3, h4, h5⟩ := h
  refine ⟨Y ++ [mop c], C0 ++ Z ++ C', tb, fun z hz => ?_, ?_, h3, h4, fun o ho => h5 o ?_⟩
  · rcases List.mem_append.mp hz with q | q
    · exact ⟨(h1 z q).1, by have := (h1 z q).2; omega⟩
    · rw [List.mem_singleton.mp q]; exact hc.2
  · rw [es_app, es_app, hZ, h2, es_op hc.1]
    simp only [List.append_assoc]
  · simp only [List.append_assoc, List.cons_append, List.nil_append] at ho ⊢
    exact ho
set_option maxHeartbeats 1000000 in
theorem Dv_Ys (hn : n0 ≤ 16) (hl : lo + n0 ≤ 18) {m w : Nat} {a : Option (List Nat)} {p : Nat} {r : Rs} (h : Dv K nx lo n0 m w a p r) : yM K nx lo n0 m w a p r := by
  refine h (yM K nx lo n0) ⟨?_, ?_, ?_, ?_, ?_, ?_, ?_, ?_, ?_, ?_, ?_, ?_, ?_, ?_, ?_, ?_, ?_, ?_, ?_, ?_, ?_⟩
  · intro w p v hk
    exact ⟨fun _ q => absurd q (by omega), fun _ b k W C b0 D _ _ _ _ _ => ⟨[], [1, v], b0, fun z hz => (by cases hz), es_num lo v, xf_0, fun _ => rfl, fun o ho => Ys_onum hk ho⟩⟩
  · intro w p hk
    exact ⟨fun _ q => absurd q (by omega), fun _ b k W C b0 D _ _ _ _ _ => Ys_obig hk⟩
  · intro w p j hk h1 h2
    exact ⟨fun _ q => absurd q (by omega), fun _ b k W C b0 D _ _ _ _ _ => ⟨[], [2, j], b0, fun z hz => (by cases hz), es_val h1 (by omega), xf_0, fun _ => rfl, fun o ho => Ys_oval hk h1 h2 (by omega) ho⟩⟩
  · intro w p j hk h1
    exact ⟨fun _ q => absurd q (by omega), fun _ b k W C b0 D _ _ _ h5 _ => Ys_ounk hk h1 (fun q => h5 (by omega) q.1 (by rw [hk, q.2]))⟩
  · intro w p e p' hk hw ih hk'
    refine ⟨fun _ q => absurd q (by omega), fun _ b k W C b0 D hD _ _ _ _ => ?_⟩
    by_cases h5 : w + 1 = 6
    · cases ih.1 h5 rfl
    · obtain ⟨Z, C', tb, h1, h2, h3, -, h4⟩ := ih.2 (by omega) true 0 (14 :: W) C false (b0 :: D) (by simp [hD]) (low_cons (Or.inl (by omega))) (fun _ => ⟨rfl, rfl⟩) (fun q => absurd q (by omega)) (fun _ => rfl)
      refine ⟨[], C' ++ Z, b0, fun z hz => (by cases hz), by rw [h2, List.append_nil], xf_0, fun _ => rfl, fun o ho => Ys_opar hk (by simp [hD]; omega) (h4 o (Ys_eclose hk' (fun z hz => (h1 z hz).1) ?_))⟩
      rw [List.append_assoc]; exact ho
  · intro w p e p' hk hw ih hk'
    refine ⟨fun _ q => absurd q (by omega), fun _ b k W C b0 D hD _ _ _ _ => ?_⟩
    by_cases h5 : w + 1 = 6
    · cases ih.1 h5 rfl
    · obtain ⟨Z, C', tb, h1, h2, h3, -, h4⟩ := ih.2 (by omega) true 0 (14 :: W) C false (b0 :: D) (by simp [hD]) (low_cons (Or.inl (by omega))) (fun _ => ⟨rfl, rfl⟩) (fun q => absurd q (by omega)) (fun _ => rfl)
      exact Ys_opar hk (by simp [hD]; omega) (h4 _ (Ys_ebad (xf_6 h3).1 (xf_6 h3).2 hk' (by simp)))
  · intro w p y q hk hw ih
    refine ⟨fun _ q => absurd q (by omega), fun _ b k W C b0 D hD _ _ _ _ => ?_⟩
    by_cases h5 : w + 1 = 6
    · cases ih.1 h5 rfl
      exact Ys_odeep hk (by simp [hD]; omega)
    · exact Ys_opar hk (by simp [hD]; omega) (ih.2 (by omega) true 0 (14 :: W) C false (b0 :: D) (by simp [hD]) (low_cons (Or.inl (by omega))) (fun _ => ⟨rfl, rfl⟩) (fun q => absurd q (by omega)) (fun _ => rfl))
  · intro w p hk
    exact ⟨fun _ q => absurd q (by omega), fun _ b k W C b0 D _ _ _ _ _ => Ys_ounf hk⟩
  · intro p
    exact ⟨fun _ _ => rfl, fun q => absurd q (by omega)⟩
  · intro m w p e p' r hm hw ih1 ih2
    refine ⟨fun q => absurd q (by omega), fun _ b k W C b0 D hD hlw h4 h5 h3 => ?_⟩
    have hm1 : 1 ≤ m := by rcases hm with rfl | rfl | rfl | rfl <;> omega
    exact yR_chain hm hD hlw (ih1.2 hw b k W C b0 D hD (low_up hlw (by omega)) (fun q => h4 (by omega)) (fun q => by rcases hm with rfl | rfl | rfl | rfl <;> first | exact h5 (by omega) | omega) (fun q => h3 (by omega))) ih2
  · intro m w p y q hm hw ih1
    refine ⟨fun q => absurd q (by omega), fun _ b k W C b0 D hD hlw h4 h5 h3 => ?_⟩
    have hm1 : 1 ≤ m := by rcases hm with rfl | rfl | rfl | rfl <;> omega
    exact ih1.2 hw b k W C b0 D hD (low_up hlw (by omega)) (fun q => h4 (by omega)) (fun q => by rcases hm with rfl | rfl | rfl | rfl <;> first | exact h5 (by omega) | omega) (fun q => h3 (by omega))
  · intro m w p e hm ho Z C0 W C b0 D hD hlw hZ he hx
    exact ⟨Z, C0, b0, hZ, he, xf_next hm hx ho, fun _ => rfl, fun o q => q⟩
  · intro m w p e c e' p' r hm ho hw ih1 ih2 Z C0 W C b0 D hD hlw hZ he hx
    have hc := op_c hm ho
    have hm1 : 1 ≤ m := by rcases hm with rfl | rfl | rfl | rfl <;> omega
    have hlow : low (7 - (m - 1)) (mop c :: W) := low_cons (Or.inr (by rcases hm with rfl | rfl | rfl | rfl <;> omega))
    have key : ∃ b1, (m < 3 → b1 = b0) ∧ yR K nx lo n0 (m - 1) (Ys K nx lo n0 none p (Z ++ W) (C ++ C0) (b0 :: D)) (mop c :: W) (C ++ C0 ++ Z) b1 D (rok e' p') := by
      by_cases h3 : m < 3
      · exact ⟨b0, fun _ => rfl, yR_to (ih1.2 hw false 0 (mop c :: W) (C ++ C0 ++ Z) b0 D hD hlow (fun q => absurd q (by omega)) (fun _ q => by cases q) (fun q => absurd q (by omega))) (fun o q => Ys_ear (by rcases hm with rfl | rfl | rfl | rfl <;> omega) ho hZ hlw q)⟩
      · exact ⟨false, fun q => absurd q h3, yR_to (ih1.2 hw true 0 (mop c :: W) (C ++ C0 ++ Z) false D hD hlow (fun _ => ⟨rfl, rfl⟩) (fun q => by rcases hm with rfl | rfl | rfl | rfl <;> omega) (fun _ => rfl)) (fun o q => Ys_eand (by rcases hm with rfl | rfl | rfl | rfl <;> omega) ho hZ hlw q)⟩
    obtain ⟨b1, hb1, hk⟩ := key
    obtain ⟨Z', C', tb, g1, g2, g3, g4, g5⟩ := yR_act (m := m) (w := w) (p := p) (b0 := b0) ⟨hc.1, hc.2.1, by rw [hc.2.2]; exact Nat.le_refl _⟩ he (by omega) hk
    have q := ih2 Z' C' W C tb D hD hlw g1 g2 g3
    rcases r with ⟨e2, q'⟩ | ⟨y, q'⟩
    · obtain ⟨Z2, C2, tb2, k1, k2, k3, k4, k5⟩ := q
      exact ⟨Z2, C2, tb2, k1, k2, k3, fun h => (k4 h).trans ((g4 (by omega)).trans (hb1 h)), fun o ho => g5 o (k5 o ho)⟩
    · exact g5 _ q
  · intro m w p e c y q hm ho hw ih1 Z C0 W C b0 D hD hlw hZ he hx
    have hc := op_c hm ho
    have hlow : low (7 - (m - 1)) (mop c :: W) := low_cons (Or.inr (by rcases hm with rfl | rfl | rfl | rfl <;> omega))
    by_cases h3 : m < 3
    · exact Ys_ear (by rcases hm with rfl | rfl | rfl | rfl <;> omega) ho hZ hlw (ih1.2 hw false 0 (mop c :: W) (C ++ C0 ++ Z) b0 D hD hlow (fun q => absurd q (by omega)) (fun _ q => by cases q) (fun q => absurd q (by omega)))
    · exact Ys_eand (by rcases hm with rfl | rfl | rfl | rfl <;> omega) ho hZ hlw (ih1.2 hw true 0 (mop c :: W) (C ++ C0 ++ Z) false D hD hlow (fun _ => ⟨rfl, rfl⟩) (fun q => by rcases hm with rfl | rfl | rfl | rfl <;> omega) (fun _ => rfl))
  · intro w p e p' ih hc
    refine ⟨fun _ q => absurd q (by omega), fun hw b k W C b0 D hD hlw _ h5 h3 => ?_⟩
    obtain ⟨Z, C', tb, h1, h2, hx, h4, h6⟩ := ih.2 hw b k W C b0 D hD (low_up hlw (by omega)) (fun q => absurd q (by omega)) (fun _ => h5 (by omega)) (fun q => absurd q (by omega))
    exact ⟨Z, C', tb, fun z hz => ⟨(h1 z hz).1, by have := (h1 z hz).2; omega⟩, h2, ⟨fun _ => hx.1 (by omega), fun _ => hx.2.1 (by omega), fun _ q => absurd hc q, fun q => absurd q (by omega), fun q => absurd q (by omega)⟩, fun q => absurd q (by omega), h6⟩
  · intro w p e p' c e' q ih hc ih2
    refine ⟨fun _ q => absurd q (by omega), fun hw b k W C b0 D hD hlw _ h5 h3 => ?_⟩
    obtain ⟨Z, C', tb, h1, h2, hx, h4, h6⟩ := ih.2 hw b k W C b0 D hD (low_up hlw (by omega)) (fun q => absurd q (by omega)) (fun _ => h5 (by omega)) (fun q => absurd q (by omega))
    have hb : tb = false := (h4 (by omega)).trans (h3 (by omega))
    subst hb
    have cc := cmp_c hc
    have hk := yR_to (ih2.2 hw false 0 (mop c :: W) (C ++ C' ++ Z) true D hD (low_cons (Or.inr (by rw [cc.2.2]; omega))) (fun q => absurd q (by omega)) (fun _ q => by cases q) (fun q => absurd q (by omega))) (fun o q => Ys_ecmp (D := D) hc (fun z hz => ⟨(h1 z hz).1, by have := (h1 z hz).2; omega⟩) hlw q)
    obtain ⟨Z', C2, tb2, g1, g2, g3, g4, g5⟩ := yR_act (m := 3) (w := w) (p := p) (b0 := b0) ⟨cc.1, cc.2.1, by rw [cc.2.2]; omega⟩ h2 (by omega) hk
    exact ⟨Z', C2, tb2, g1, g2, ⟨fun _ => g3.1 (by omega), fun _ => g3.2.1 (by omega), fun _ _ => g4 (by omega), fun q => absurd q (by omega), fun q => absurd q (by omega)⟩, fun q => absurd q (by omega), fun o ho => h6 o (g5 o ho)⟩
  · intro w p e p' c y q ih hc ih2
    refine ⟨fun _ q => absurd q (by omega), fun hw b k W C b0 D hD hlw _ h5 h3 => ?_⟩
    obtain ⟨Z, C', tb, h1, h2, hx, h4, h6⟩ := ih.2 hw b k W C b0 D hD (low_up hlw (by omega)) (fun q => absurd q (by omega)) (fun _ => h5 (by omega)) (fun q => absurd q (by omega))
    have hb : tb = false := (h4 (by omega)).trans (h3 (by omega))
    subst hb
    have cc := cmp_c hc
    exact h6 _ (Ys_ecmp hc (fun z hz => ⟨(h1 z hz).1, by have := (h1 z hz).2; omega⟩) hlw (ih2.2 hw false 0 (mop c :: W) (C ++ C' ++ Z) true D hD (low_cons (Or.inr (by rw [cc.2.2]; omega))) (fun q => absurd q (by omega)) (fun _ q => by cases q) (fun q => absurd q (by omega))))
  · intro w p y q ih
    refine ⟨fun _ q => absurd q (by omega), fun hw b k W C b0 D hD hlw _ h5 h3 => ?_⟩
    exact ih.2 hw b k W C b0 D hD (low_up hlw (by omega)) (fun q => absurd q (by omega)) (fun _ => h5 (by omega)) (fun q => absurd q (by omega))
  · intro w p k e q hno hk hne ih
    refine ⟨fun _ q => absurd q (by omega), fun hw b k0 W C b0 D hD hlw h4 _ h3 => ?_⟩
    obtain ⟨rfl, rfl⟩ := h4 (by omega)
    obtain ⟨Z, C', tb, h1, h2, hx, h6, h7⟩ := ih.2 hw true k (List.replicate k 3 ++ W) C b0 D hD (low_no hlw) (fun q => absurd q (by omega)) (fun _ _ => hne) (fun _ => h3 (by omega))
    refine ⟨Z ++ List.replicate k 3, C', tb, fun z hz => ?_, by rw [es_app, es_no, h2, List.append_assoc], ⟨fun _ => hx.1 (by omega), fun _ => hx.2.1 (by omega), fun _ => hx.2.2.1 (by omega), fun q => absurd q (by omega), fun q => absurd q (by omega)⟩, fun q => absurd q (by omega), fun o ho => Ys_nots k 0 p W C (b0 :: D) o hno (by omega) ?_⟩
    · rcases List.mem_append.mp hz with q | q
      · exact ⟨(h1 z q).1, by have := (h1 z q).2; omega⟩
      · rw [(List.mem_replicate.mp q).2]; exact ⟨by decide, by decide⟩
    · rw [Nat.zero_add]
      refine h7 o ?_
      rw [List.append_assoc] at ho; exact ho
  · intro w p k y q hno hk hne ih
    refine ⟨fun _ q => absurd q (by omega), fun hw b k0 W C b0 D hD hlw h4 _ h3 => ?_⟩
    obtain ⟨rfl, rfl⟩ := h4 (by omega)
    refine Ys_nots k 0 p W C (b0 :: D) _ hno (by omega) ?_
    rw [Nat.zero_add]
    exact ih.2 hw true k (List.replicate k 3 ++ W) C b0 D hD (low_no hlw) (fun q => absurd q (by omega)) (fun _ _ => hne) (fun _ => h3 (by omega))
  · intro w p hno
    refine ⟨fun _ q => absurd q (by omega), fun hw b k0 W C b0 D hD hlw h4 _ h3 => ?_⟩
    obtain ⟨rfl, rfl⟩ := h4 (by omega)
    refine Ys_nots 6 0 p W C (b0 :: D) _ (fun i hi => hno i (by omega)) (by omega) ?_
    exact Ys_omax (hno 6 (by omega))
/-- a whole formula -/
theorem Dv_whole (hn : n0 ≤ 16) (hl : lo + n0 ≤ 18) {p : Nat} {C : List Nat} {r : Rs} (h : Dv K nx lo n0 6 0 none p r) : Ys K nx lo n0 (some (true, 0)) p [] C [false] (match r with | .inl (e, q) => rok (C ++ es lo e) q | .inr (y, q) => rbad y q) := by
  have q := (Dv_Ys hn hl h).2 (by omega) true 0 [] C false [] rfl (fun a ha => by cases ha) (fun _ => ⟨rfl, rfl⟩) (fun q => absurd q (by omega)) (fun _ => rfl)
  rcases r with ⟨e, p'⟩ | ⟨y, p'⟩
  · obtain ⟨Z, C', tb, h1, h2, h3, -, h4⟩ := q
    have := h4 _ (Ys_eend (xf_6 h3).1 (xf_6 h3).2 (fun z hz => (h1 z (by simpa using hz)).1))
    simp only [List.append_nil, List.append_assoc] at this
    show Ys K nx lo n0 (some (true, 0)) p [] C [false] (rok (C ++ es lo e) p')
    rw [h2]
    exact this
  · exact q
end
