/-! what is told (threads, cards, figures, UP, HARM, wants, figures' wants, widths, heights, rows), what acts alter (holes, wear, lace, picks, Sunday, grants) -/
abbrev Td := Nat × Nat × Nat × List Nat × List Nat × (Nat → Int32) × (Nat → Int32) × (Nat → Nat) × (Nat → Nat) × (Nat → Int32)
def tN (T : Td) : Nat := T.1
def tM (T : Td) : Nat := T.2.1
def tG (T : Td) : Nat := T.2.2.1
def tU (T : Td) : List Nat := T.2.2.2.1
def tH (T : Td) : List Nat := T.2.2.2.2.1
def tW (T : Td) : Nat → Int32 := T.2.2.2.2.2.1
def tF (T : Td) : Nat → Int32 := T.2.2.2.2.2.2.1
def tI (T : Td) : Nat → Nat := T.2.2.2.2.2.2.2.1
def tE (T : Td) : Nat → Nat := T.2.2.2.2.2.2.2.2.1
def tR (T : Td) : Nat → Int32 := T.2.2.2.2.2.2.2.2.2
abbrev Wk := (Nat → Int32) × (Nat → Nat) × (Nat → Nat) × Nat × Int32 × Int32
def wo (W : Wk) : Nat → Int32 := W.1
def ww (W : Wk) : Nat → Nat := W.2.1
def wl (W : Wk) : Nat → Nat := W.2.2.1
def wp (W : Wk) : Nat := W.2.2.2.1
def ws (W : Wk) : Int32 := W.2.2.2.2.1
def wg (W : Wk) : Int32 := W.2.2.2.2.2
def okT (T : Td) : Prop := (2 ≤ tN T ∧ tN T ≤ 12) ∧ tM T ≤ 10 ∧ tG T ≤ 5 ∧ (tU T = [] ∨ wf 6 (tU T) 0) ∧ (tH T = [] ∨ wf 4 (tH T) 0) ∧ ∀ f, f < tG T → 1 ≤ tI T f ∧ tI T f ≤ 4 ∧ 1 ≤ tE T f ∧ tE T f ≤ 3 ∧ ∀ r, r < 3 → sm (tR T (3 * f + r)) (tI T f)
def okW (T : Td) (W : Wk) : Prop := (∀ c, c < 10 → sm (wo W c) (tN T)) ∧ (∀ c, c < 10 → ww W c ≤ 9) ∧ (∀ k, k < wp W → wl W k < tM T) ∧ wp W ≤ 12
/-- the class's cells -/
def cT (a : Nat) (T : Td) (I : Nat → Nat → Int32) : Prop := I a 11 = nI (tN T) ∧ I a 12 = al (tN T) ∧ I a 13 = nI (tM T) ∧ I a 15 = nI (tG T) ∧ cF (a + 9) (tU T) I ∧ cF (a + 12) (tH T) I ∧ (∀ c, c < tM T → I (a + 2) c = tW T c) ∧ (∀ f, f < tG T → I (a + 5) f = tF T f ∧ I (a + 6) f = nI (tI T f) ∧ I (a + 7) f = nI (tE T f)) ∧ ∀ f, f < tG T → ∀ r, r < 3 → I (a + 8) (3 * f + r) = tR T (3 * f + r)
def cW (w : Nat) (W : Wk) (I : Nat → Nat → Int32) : Prop := I w 3 = nI (wp W) ∧ I w 4 = ws W ∧ I w 5 = wg W ∧ (∀ c, c < 10 → I (w + 1) c = wo W c) ∧ (∀ c, c < 10 → I (w + 2) c = nI (ww W c)) ∧ ∀ k, k < wp W → I (w + 3) k = nI (wl W k)
theorem cT_fr {a : Nat} {T : Td} {S : List Nat} {I I' : Nat → Nat → Int32} (h : cT a T I) (hf : fr S I I') (h0 : a ∉ S) (h2 : a + 2 ∉ S) (h5 : a + 5 ∉ S) (h6 : a + 6 ∉ S) (h7 : a + 7 ∉ S) (h8 : a + 8 ∉ S) (h9 : a + 9 ∉ S) (h10 : a + 9 + 1 ∉ S) (h12 : a + 12 ∉ S) (h13 : a + 12 + 1 ∉ S) : cT a T I' := by
  unfold cT at *
  rw [hf a h0, hf _ h2, hf _ h5, hf _ h6, hf _ h7, hf _ h8]
  exact ⟨h.1, h.2.1, h.2.2.1, h.2.2.2.1, cF_of (hf _ h9) (hf _ h10) h.2.2.2.2.1, cF_of (hf _ h12) (hf _ h13) h.2.2.2.2.2.1, h.2.2.2.2.2.2⟩
theorem cW_fr {w : Nat} {W : Wk} {S : List Nat} {I I' : Nat → Nat → Int32} (h : cW w W I) (hf : fr S I I') (h0 : w ∉ S) (h1 : w + 1 ∉ S) (h2 : w + 2 ∉ S) (h3 : w + 3 ∉ S) : cW w W I' := by
  unfold cW at *
  rw [hf _ h0, hf _ h1, hf _ h2, hf _ h3]
  exact h
/-- the reference's cells -/
def mF (o : Nat) (l : List Nat) (p : Int32) (f : Nat → Int32) : Prop := (l = [] ∧ p = -1) ∨ (l ≠ [] ∧ ∃ q, p = nI q ∧ mC f q (enc o l) ∧ q + (enc o l).length ≤ 1400)
def mT (T : Td) (I : Nat → Nat → Int32) : Prop := I 85 1 = nI (tN T) ∧ I 85 2 = nI (tM T) ∧ I 85 4 = nI (tG T) ∧ mF 0 (tU T) (I 85 5) (I 91) ∧ mF 6 (tH T) (I 85 6) (I 91) ∧ (∀ c, c < tM T → I 86 c = tW T c) ∧ (∀ f, f < tG T → I 87 f = tF T f ∧ I 88 f = nI (tI T f) ∧ I 89 f = nI (tE T f)) ∧ ∀ f, f < tG T → ∀ r, r < 3 → I 90 (3 * f + r) = tR T (3 * f + r)
def mR (f : Nat → Int32) (b : Nat) (m : Nat) (W : Wk) : Prop := f b = ws W ∧ f (b + 1) = wg W ∧ (∀ c, c < m → f (b + 2 + c) = wo W c ∧ f (b + 12 + c) = nI (ww W c)) ∧ ∀ k, k < wp W → f (b + 22 + k) = nI (wl W k)
theorem mR_of {f f' : Nat → Int32} {b b' m : Nat} {W : Wk} (h : mR f b m W) (hm : m ≤ 10) (hp : wp W ≤ 12) (e : ∀ k, k < 34 → f' (b' + k) = f (b + k)) : mR f' b' m W := by
  refine ⟨?_, ?_, fun c hc => ⟨?_, ?_⟩, fun k hk => ?_⟩
  · have := e 0 (by omega); rw [Nat.add_zero, Nat.add_zero] at this; rw [this]; exact h.1
  · rw [e 1 (by omega)]; exact h.2.1
  · rw [show b' + 2 + c = b' + (2 + c) by omega, e (2 + c) (by omega), show b + (2 + c) = b + 2 + c by omega]; exact (h.2.2.1 c hc).1
  · rw [show b' + 12 + c = b' + (12 + c) by omega, e (12 + c) (by omega), show b + (12 + c) = b + 12 + c by omega]; exact (h.2.2.1 c hc).2
  · rw [show b' + 22 + k = b' + (22 + k) by omega, e (22 + k) (by omega), show b + (22 + k) = b + 22 + k by omega]; exact h.2.2.2 k hk
/-- the holes that a card has -/
def eff (T : Td) (W : Wk) (c : Nat) : Int32 := if ww W c = 9 then al (tN T) else wo W c
theorem sm_eff {T : Td} {W : Wk} (hT : okT T) (hW : okW T W) {c : Nat} (hc : c < 10) : sm (eff T W c) (tN T) := by
  unfold eff; split
  · exact sm_al (by have := hT.1; omega)
  · exact hW.1 c hc
/-- the places of a card -/
def pl (W : Wk) (c : Nat) : Int32 := mk (fun k => decide (wl W k = c)) (wp W)
def lc (W : Wk) (c : Nat) : Bool := eB (fun k => decide (wl W k = c)) (wp W)
theorem pl_0 {W : Wk} (h : wp W ≤ 12) (c : Nat) : pl W c = nI 0 ↔ lc W c = false := (mk_eq0 (by omega)).trans eB_f.symm
/-- one Sunday's wear -/
def wn (W : Wk) : Wk := (wo W, (fun c => if lc W c = true then min (ww W c + 1) 9 else ww W c), wl W, wp W, ws W, wg W)
def wex (W : Wk) (i j : Nat) : Wk := (wo W, ww W, (fun k => if k = j then wl W i else if k = i then wl W j else wl W k), wp W, ws W, wg W)
def wlo (W : Wk) (i : Nat) : Wk := (wo W, ww W, (fun k => if k < i then wl W k else wl W (k + 1)), wp W - 1, ws W, wg W)
/-! wear in one long -/
def pn (f : Nat → Nat) : Nat → Nat
  | 0 => 0
  | j + 1 => 16 * pn f j + f (9 - j)
theorem pn_lt {f : Nat → Nat} (h : ∀ c, c < 10 → f c ≤ 9) : ∀ j, j ≤ 10 → pn f j < 16 ^ j
  | 0, _ => by simp [pn]
  | j + 1, hj => by
    have := pn_lt h j (by omega)
    have := h (9 - j) (by omega)
    rw [pn, Nat.pow_succ]
    omega
theorem pn_dig {f : Nat → Nat} (h : ∀ c, c < 10 → f c ≤ 9) : ∀ (j c : Nat), j ≤ 10 → c < j → pn f j / 16 ^ c % 16 = f (10 - j + c)
  | 0, c, _, hc => absurd hc (by omega)
  | j + 1, 0, hj, _ => by
    have := h (9 - j) (by omega)
    rw [pn, Nat.pow_zero, Nat.div_one, show 10 - (j + 1) + 0 = 9 - j by omega]
    omega
  | j + 1, c + 1, hj, hc => by
    have h9 := h (9 - j) (by omega)
    have ih := pn_dig h j c (by omega) (by omega)
    rw [pn, Nat.pow_succ, Nat.mul_comm (16 ^ c) 16, ← Nat.div_div_eq_div_mul, show (16 * pn f j + f (9 - j)) / 16 = pn f j by omega, ih, show 10 - j + c = 10 - (j + 1) + (c + 1) by omega]
theorem l_sh4 : (((nI 4).toInt64 &&& 63).toBitVec.smod 64).toNat = 4 := by decide +kernel
theorem l_sh : ∀ c, c < 10 → (((nI 4 * nI c).toInt64 &&& 63).toBitVec.smod 64).toNat = 4 * c := by decide +kernel
theorem l_tn {V : Nat} (h : V < 2 ^ 64) : (lN V).toBitVec.toNat = V := Nat.mod_eq_of_lt h
theorem l_ext {x y : Int64} (h : x.toBitVec.toNat = y.toBitVec.toNat) : x = y := Int64.toBitVec_inj.1 (BitVec.eq_of_toNat_eq h)
theorem l_pack {V w : Nat} (hV : V < 2 ^ 40) (hw : w ≤ 9) : (lN V <<< ((nI 4).toInt64 &&& 63)) ||| (nI w).toInt64 = lN (16 * V + w) := by
  apply l_ext
  rw [nI_l (n := w) (by omega), Int64.toBitVec_or, BitVec.toNat_or, l_tn (by omega), l_tn (by omega), Int64.toBitVec_shiftLeft]
  show ((lN V).toBitVec <<< (((nI 4).toInt64 &&& 63).toBitVec.smod 64).toNat).toNat ||| w = _
  rw [l_sh4, BitVec.toNat_shiftLeft, l_tn (by omega), Nat.shiftLeft_eq, Nat.mod_eq_of_lt (by omega), show V * 2 ^ 4 = 2 ^ 4 * V by omega, ← Nat.two_pow_add_eq_or_of_lt (by omega : w < 2 ^ 4)]
theorem l_unpack {V c : Nat} (hV : V < 2 ^ 40) (hc : c < 10) : Int64.toInt32 ((lN V >>> ((nI 4 * nI c).toInt64 &&& 63)) &&& (nI 15).toInt64) = nI (V / 16 ^ c % 16) := by
  rw [← lN_i (V / 16 ^ c % 16)]
  congr 1
  apply l_ext
  have hm : V / 16 ^ c % 16 < 16 := Nat.mod_lt _ (by omega)
  rw [nI_l (n := 15) (by omega), Int64.toBitVec_and, BitVec.toNat_and, l_tn (by omega), l_tn (by omega), Int64.toBitVec_shiftRight]
  show ((lN V).toBitVec.sshiftRight (((nI 4 * nI c).toInt64 &&& 63).toBitVec.smod 64).toNat).toNat &&& 15 = _
  have hmsb : (lN V).toBitVec.msb = false := by
    rw [BitVec.msb_eq_decide, decide_eq_false]
    rw [l_tn (by omega)]
    omega
  rw [l_sh c hc, BitVec.sshiftRight_eq_of_msb_false hmsb, BitVec.toNat_ushiftRight, l_tn (by omega), Nat.shiftRight_eq_div_pow, Nat.and_two_pow_sub_one_eq_mod _ 4, Nat.pow_mul]
section Spec
variable {d L : Nat} {fz t : Bool} {Q : pm_R → pm_H → Prop} {I : Nat → Nat → Int32} {J : Nat → Nat → Int64} {T : Td} {W : Wk} {a w : Nat}
theorem S_had {c : Nat} (ha : a = 55 ∨ a = 70) (hw : w = 23 ∨ w = 27 ∨ w = 31) (hT : cT a T I) (hW : cW w W I) (oW : okW T W) (hc : c < 10) (hq : Q (.inl (some (.int (eff T W c)))) (pm_hp L fz t I J)) : pm_Ev (d + 1) 72 [.ref a, .ref w, .int (nI c)] (pm_hp L fz t I J) Q := by
  refine e_X7_had ha hw ?_
  have h9 := oW.2.1 c hc
  rw [nI_clamp (by omega), hW.2.2.2.2.1 c hc, hW.2.2.2.1 c hc, hT.2.1]
  refine ⟨vp_in_nI hc (by omega), q_lt (by omega) (by omega) (fun h => ⟨vp_in_nI hc (by omega), ?_⟩) (fun h => ?_)⟩
  · unfold eff at hq; rw [if_neg (by omega)] at hq; exact hq
  · unfold eff at hq; rw [if_pos (by omega)] at hq; exact hq
theorem S_placesOf {c : Nat} (hw : w = 23 ∨ w = 27 ∨ w = 31) (hW : cW w W I) (oW : okW T W) (oT : okT T) (hc : c < 10) (hq : Q (.inl (some (.int (pl W c)))) (pm_hp L fz t I J)) : pm_Ev (d + 1) 79 [.ref w, .int (nI c)] (pm_hp L fz t I J) Q := by
  have h12 := oW.2.2.2
  have loop : ∀ (j i : Nat), i + j = wp W → t_X9_placesOf_4 d L fz t Q w (nI c) (mk (fun k => decide (wl W k = c)) i) (nI i) I J := by
    intro j
    induction j with
    | zero =>
      intro i hi
      obtain rfl : i = wp W := by omega
      refine b_X9_placesOf_4 hw ?_
      rw [hW.1]
      exact q_t (nI_le (by omega) (by omega)) hq
    | succ j ih =>
      intro i hi
      refine b_X9_placesOf_4 hw ?_
      have h10 := oW.2.2.1 i (by omega)
      have hm := oT.2.1
      rw [hW.1, nI_clamp (by omega), hW.2.2.2.2.2 i (by omega), nI_add]
      refine q_f (nI_ge (by omega) (by omega)) ⟨vp_in_nI (by omega) (by omega), q_ne (by omega) (by omega) (fun h => ?_) (fun h => ?_)⟩
      · rw [mk_Sf (decide_eq_false h)]; exact ih (i + 1) (by omega)
      · rw [mk_St (decide_eq_true h)]; exact ih (i + 1) (by omega)
  exact e_X9_placesOf hw (loop (wp W) 0 (by omega))
theorem S_wearOn (hw : w = 23 ∨ w = 27 ∨ w = 31) (hW : cW w W I) (oW : okW T W) (oT : okT T) (hq : ∀ I', fr [w + 2] I I' → cW w (wn W) I' → Q (.inl none) (pm_hp L fz t I' J)) : pm_Ev (d + 2) 80 [.ref w] (pm_hp L fz t I J) Q := by
  have loop : ∀ (j i : Nat) (I' : Nat → Nat → Int32), i + j = 10 → fr [w + 2] I I' → (∀ c, c < 10 → I' (w + 2) c = nI (if c < i then ww (wn W) c else ww W c)) → t_X9_wearOn_2 (d + 1) L fz t Q w (nI i) I' J := by
    intro j
    induction j with
    | zero =>
      intro i I' hi hf hk
      obtain rfl : i = 10 := by omega
      refine b_X9_wearOn_2 hw (q_t (nI_le (by omega) (by omega)) (hq I' hf ?_))
      refine ⟨?_, ?_, ?_, ?_, fun c hc => ?_, ?_⟩
      · rw [hf w (by simp)]; exact hW.1
      · rw [hf w (by simp)]; exact hW.2.1
      · rw [hf w (by simp)]; exact hW.2.2.1
      · rw [hf (w + 1) (by simp)]; exact hW.2.2.2.1
      · rw [hk c hc, if_pos hc]
      · rw [hf (w + 3) (by simp)]; exact hW.2.2.2.2.2
    | succ j ih =>
      intro i I' hi hf hk
      have h9 := oW.2.1 i (by omega)
      have next : ∀ I'', fr [w + 2] I I'' → (∀ c, c < 10 → c ≠ i → I'' (w + 2) c = I' (w + 2) c) → I'' (w + 2) i = nI (ww (wn W) i) → t_X9_wearOn_2 (d + 1) L fz t Q w (nI (i + 1)) I'' J := by
        intro I'' hf' h1 h2
        refine ih (i + 1) I'' (by omega) hf' fun c hc => ?_
        by_cases e : c = i
        · rw [e, h2, if_pos (by omega)]
        · rw [h1 c hc e, hk c hc]
          by_cases q : c < i
          · rw [if_pos q, if_pos (by omega)]
          · rw [if_neg q, if_neg (by omega)]
      have hi' := hk i (by omega)
      rw [if_neg (by omega)] at hi'
      have hW' : cW w W I → cW w W I' → True := fun _ _ => trivial
      refine b_X9_wearOn_2 hw (q_f (nI_ge (by omega) (by omega)) ⟨vp_in_nI (by omega) (by omega), ?_⟩)
      rw [nI_clamp (by omega), hi', nI_add]
      refine q_le (by omega) (by omega) (fun h => ?_) (fun h => ?_)
      · refine next I' hf (fun _ _ _ => rfl) ?_
        rw [hi']
        show _ = nI (if lc W i = true then min (ww W i + 1) 9 else ww W i)
        split
        · rw [show min (ww W i + 1) 9 = ww W i by omega]
        · rfl
      · -- its places, by the heap as it is
        have e3 : I' (w + 3) = I (w + 3) := hf (w + 3) (by simp)
        have e0 : I' w = I w := hf w (by simp)
        refine S_placesOf (W := (wo W, (fun c => if c < i then ww (wn W) c else ww W c), wl W, wp W, ws W, wg W)) (T := T) hw ⟨?_, ?_, ?_, ?_, hk, ?_⟩ ⟨oW.1, fun c hc => ?_, oW.2.2.1, oW.2.2.2⟩ oT (by omega) ?_
        · rw [e0]; exact hW.1
        · rw [e0]; exact hW.2.1
        · rw [e0]; exact hW.2.2.1
        · rw [hf (w + 1) (by simp)]; exact hW.2.2.2.1
        · rw [e3]; exact hW.2.2.2.2.2
        · show (if c < i then ww (wn W) c else ww W c) ≤ 9
          have := oW.2.1 c hc
          split
          · show (if lc W c = true then min (ww W c + 1) 9 else ww W c) ≤ 9
            split
            · exact Nat.min_le_right _ _
            · omega
          · omega
        · refine kb_X9_wearOn_24 hw ?_
          have hp0 : pl (wo W, (fun c => if c < i then ww (wn W) c else ww W c), wl W, wp W, ws W, wg W) i = nI 0 ↔ lc W i = false := pl_0 (W := W) oW.2.2.2 i
          rw [hp0, nI_clamp (by omega), hi', nI_add, nI_add]
          refine ⟨fun h1 => ?_, fun h1 => ⟨vp_in_nI (by omega) (by omega), vp_in_nI (by omega) (by omega), ?_⟩⟩
          · refine next I' hf (fun _ _ _ => rfl) ?_
            rw [hi']
            show _ = nI (if lc W i = true then min (ww W i + 1) 9 else ww W i)
            rw [if_neg (by rw [h1]; decide)]
          · refine next _ (fr_u List.mem_cons_self hf) (fun c _ hc => pm_uk hc) ?_
            rw [pm_us]
            show _ = nI (if lc W i = true then min (ww W i + 1) 9 else ww W i)
            rw [if_pos (by cases q : lc W i; exact absurd q h1; rfl), show min (ww W i + 1) 9 = ww W i + 1 by omega]
  refine e_X9_wearOn hw (loop 10 0 I rfl fr_r fun c hc => ?_)
  rw [if_neg (by omega)]
  exact hW.2.2.2.2.1 c hc
theorem S_exchange {i j : Nat} (hw : w = 23 ∨ w = 27 ∨ w = 31) (hW : cW w W I) (oW : okW T W) (hi : i < wp W) (hj : j < wp W) (hq : ∀ I', fr [w + 3] I I' → cW w (wex W i j) I' → Q (.inl none) (pm_hp L fz t I' J)) : pm_Ev (d + 1) 81 [.ref w, .int (nI i), .int (nI j)] (pm_hp L fz t I J) Q := by
  have h12 := oW.2.2.2
  refine e_X9_exchange hw ?_
  rw [nI_clamp (by omega), nI_clamp (by omega)]
  refine ⟨vp_in_nI (by omega) (by omega), vp_in_nI (by omega) (by omega), vp_in_nI (by omega) (by omega), vp_in_nI (by omega) (by omega), hq _ (fr_u List.mem_cons_self (fr_u List.mem_cons_self fr_r)) ?_⟩
  refine ⟨?_, ?_, ?_, ?_, ?_, fun k hk => ?_⟩
  · rw [pm_ua (by omega), pm_ua (by omega)]; exact hW.1
  · rw [pm_ua (by omega), pm_ua (by omega)]; exact hW.2.1
  · rw [pm_ua (by omega), pm_ua (by omega)]; exact hW.2.2.1
  · rw [pm_ua (by omega), pm_ua (by omega)]; exact hW.2.2.2.1
  · rw [pm_ua (by omega), pm_ua (by omega)]; exact hW.2.2.2.2.1
  · show _ = nI (if k = j then wl W i else if k = i then wl W j else wl W k)
    have hk' : k < wp W := hk
    by_cases e : k = j
    · rw [e, pm_us, if_pos rfl]; exact hW.2.2.2.2.2 i hi
    · rw [pm_uk e, if_neg e]
      by_cases e2 : k = i
      · rw [e2, pm_us, if_pos rfl]; exact hW.2.2.2.2.2 j hj
      · rw [pm_uk e2, if_neg e2]; exact hW.2.2.2.2.2 k hk'
theorem cpy_0 {f g : Nat → Int32} {n k : Nat} (h : k < n) : va_cpy f g 0 0 n k = f k := by rw [pk_cpy_in (by omega) (by omega)]; congr 1; omega
theorem S_wcopy {v : Nat} (hv : (w = 27 ∧ v = 23) ∨ (w = 31 ∧ v = 23) ∨ (w = 23 ∧ v = 31)) (hW : cW v W I) (h12 : wp W ≤ 12) (hq : ∀ I', fr [w, w + 1, w + 2, w + 3] I I' → cW w W I' → Q (.inl none) (pm_hp L fz t I' J)) : pm_Ev (d + 1) 78 [.ref w, .ref v] (pm_hp L fz t I J) Q := by
  refine e_X9_copy (by omega) (by omega) ?_
  refine hq _ (fr_u (by simp) (fr_u (by simp) (fr_u (by simp) (fr_ur (by simp) (fr_ur (by simp) (fr_ur (by simp) fr_r)))))) ?_
  have n0 : v ≠ w ∧ v ≠ w + 1 ∧ v ≠ w + 2 ∧ v ≠ w + 3 ∧ v + 1 ≠ w ∧ v + 1 ≠ w + 1 ∧ v + 1 ≠ w + 2 ∧ v + 1 ≠ w + 3 ∧ v + 2 ≠ w ∧ v + 2 ≠ w + 1 ∧ v + 2 ≠ w + 2 ∧ v + 2 ≠ w + 3 ∧ v + 3 ≠ w ∧ v + 3 ≠ w + 1 ∧ v + 3 ≠ w + 2 ∧ v + 3 ≠ w + 3 := by omega
  refine ⟨?_, ?_, ?_, fun c hc => ?_, fun c hc => ?_, fun k hk => ?_⟩
  · rw [pm_uk (by omega), pm_uk (by omega), pm_us]; exact hW.1
  · rw [pm_uk (by omega), pm_us, pm_ua n0.1, pm_ura n0.2.2.2.1, pm_ura n0.2.2.1, pm_ura n0.2.1]; exact hW.2.1
  · rw [pm_us, pm_ua n0.1, pm_ua n0.1, pm_ura n0.2.2.2.1, pm_ura n0.2.2.1, pm_ura n0.2.1]; exact hW.2.2.1
  · rw [pm_ua (by omega), pm_ua (by omega), pm_ua (by omega), pm_ura (by omega), pm_ura (by omega), pm_urs, cpy_0 hc]; exact hW.2.2.2.1 c hc
  · rw [pm_ua (by omega), pm_ua (by omega), pm_ua (by omega), pm_ura (by omega), pm_urs, cpy_0 hc]; exact hW.2.2.2.2.1 c hc
  · rw [pm_ua (by omega), pm_ua (by omega), pm_ua (by omega), pm_urs, cpy_0 (by omega)]; exact hW.2.2.2.2.2 k hk
theorem S_leaveOut {i : Nat} (hw : w = 23 ∨ w = 27 ∨ w = 31) (hW : cW w W I) (h12 : wp W ≤ 12) (hi : i < wp W) (hq : ∀ I', fr [w, w + 3] I I' → cW w (wlo W i) I' → Q (.inl none) (pm_hp L fz t I' J)) : pm_Ev (d + 1) 82 [.ref w, .int (nI i)] (pm_hp L fz t I J) Q := by
  have loop : ∀ (j q : Nat) (I' : Nat → Nat → Int32), q + 1 + j = wp W → i ≤ q → fr [w + 3] I I' → (∀ k, k < wp W → I' (w + 3) k = nI (if k < i ∨ q ≤ k then wl W k else wl W (k + 1))) → t_X9_leaveOut_2 d L fz t Q w (nI q) I' J := by
    intro j
    induction j with
    | zero =>
      intro q I' hj hq2 hf hk
      refine b_X9_leaveOut_2 hw ?_
      rw [hf w (by simp), hW.1, nI_add, pk_sub (by omega)]
      refine q_t (nI_le (by omega) (by omega)) (hq _ (fr_u (by simp) (fr_m hf (by simp))) ?_)
      refine ⟨?_, ?_, ?_, ?_, ?_, fun k h => ?_⟩
      · rw [pm_us]; rfl
      · rw [pm_uk (by omega), hf w (by simp)]; exact hW.2.1
      · rw [pm_uk (by omega), hf w (by simp)]; exact hW.2.2.1
      · rw [pm_ua (by omega), hf (w + 1) (by simp)]; exact hW.2.2.2.1
      · rw [pm_ua (by omega), hf (w + 2) (by simp)]; exact hW.2.2.2.2.1
      · have h' : k < wp W - 1 := h
        rw [pm_ua (by omega), hk k (by omega)]
        show _ = nI (if k < i then wl W k else wl W (k + 1))
        by_cases e : k < i
        · rw [if_pos (Or.inl e), if_pos e]
        · rw [if_neg (by omega), if_neg e]
    | succ j ih =>
      intro q I' hj hq2 hf hk
      refine b_X9_leaveOut_2 hw ?_
      rw [hf w (by simp), hW.1, nI_add, nI_clamp (by omega), nI_clamp (by omega), hk (q + 1) (by omega), if_pos (Or.inr (by omega))]
      refine q_f (nI_ge (by omega) (by omega)) ⟨vp_in_nI (by omega) (by omega), vp_in_nI (by omega) (by omega), ?_⟩
      refine ih (q + 1) _ (by omega) (by omega) (fr_u List.mem_cons_self hf) fun k h => ?_
      by_cases e : k = q
      · rw [e, pm_us, if_neg (by omega)]
      · rw [pm_uk e, hk k h]
        by_cases e2 : k < i ∨ q ≤ k
        · rw [if_pos e2, if_pos (by omega)]
        · rw [if_neg e2, if_neg (by omega)]
  refine e_X9_leaveOut hw (loop (wp W - 1 - i) i I (by omega) (by omega) fr_r fun k h => ?_)
  rw [if_pos (by omega)]
  exact hW.2.2.2.2.2 k h
theorem S_packedWear (hw : w = 23 ∨ w = 27 ∨ w = 31) (hW : cW w W I) (oW : okW T W) (hq : Q (.inl (some (.long (lN (pn (ww W) 10))))) (pm_hp L fz t I J)) : pm_Ev (d + 1) 83 [.ref w] (pm_hp L fz t I J) Q := by
  have loop : ∀ (j : Nat), j < 10 → t_X9_packedWear_5 d L fz t Q w (lN (pn (ww W) (9 - j))) (nI j) I J := by
    intro j
    induction j with
    | zero =>
      intro _
      refine b_X9_packedWear_5 hw ?_
      have hb : pn (ww W) (9 - 0) < 16 ^ 9 := pn_lt oW.2.1 9 (by omega)
      rw [nI_clamp (by omega), hW.2.2.2.2.1 0 (by omega), l_pack (by omega) (oW.2.1 0 (by omega))]
      refine q_f (nI_nlt (by omega) (by omega)) ⟨vp_in_nI (by omega) (by omega), ?_⟩
      refine b_X9_packedWear_5 hw ?_
      exact q_t (by decide) hq
    | succ j ih =>
      intro hj
      refine b_X9_packedWear_5 hw ?_
      have hb := pn_lt oW.2.1 (9 - (j + 1)) (by omega)
      have hb' : 16 ^ (9 - (j + 1)) ≤ 16 ^ 9 := Nat.pow_le_pow_right (by omega) (by omega)
      rw [nI_clamp (by omega), hW.2.2.2.2.1 (j + 1) (by omega), l_pack (by omega) (oW.2.1 (j + 1) (by omega)), pk_m1]
      refine q_f (nI_nlt (by omega) (by omega)) ⟨vp_in_nI (by omega) (by omega), ?_⟩
      have e : 16 * pn (ww W) (9 - (j + 1)) + ww W (j + 1) = pn (ww W) (9 - j) := by
        rw [show 9 - j = 9 - (j + 1) + 1 by omega, pn, show 9 - (9 - (j + 1)) = j + 1 by omega]
      rw [e]
      exact ih (by omega)
  exact e_X9_packedWear hw (loop 9 (by omega))
theorem S_unpackWear {f : Nat → Nat} (hw : w = 23 ∨ w = 27 ∨ w = 31) (hf9 : ∀ c, c < 10 → f c ≤ 9) (hq : ∀ I', fr [w + 2] I I' → (∀ c, c < 10 → I' (w + 2) c = nI (f c)) → Q (.inl none) (pm_hp L fz t I' J)) : pm_Ev (d + 1) 84 [.ref w, .long (lN (pn f 10))] (pm_hp L fz t I J) Q := by
  have hb := pn_lt hf9 10 (by omega)
  have loop : ∀ (j i : Nat) (I' : Nat → Nat → Int32), i + j = 10 → fr [w + 2] I I' → (∀ c, c < i → I' (w + 2) c = nI (f c)) → t_X9_unpackWear_2 d L fz t Q w (lN (pn f 10)) (nI i) I' J := by
    intro j
    induction j with
    | zero =>
      intro i I' hi hf hk
      obtain rfl : i = 10 := by omega
      exact b_X9_unpackWear_2 hw (q_t (nI_le (by omega) (by omega)) (hq I' hf hk))
    | succ j ih =>
      intro i I' hi hf hk
      refine b_X9_unpackWear_2 hw (q_f (nI_ge (by omega) (by omega)) ⟨vp_in_nI (by omega) (by omega), ?_⟩)
      rw [nI_clamp (by omega), l_unpack (by omega) (by omega), nI_add, pn_dig hf9 10 i (by omega) (by omega), show 10 - 10 + i = i by omega]
      refine ih (i + 1) _ (by omega) (fr_u List.mem_cons_self hf) fun c hc => ?_
      by_cases e : c = i
      · rw [e, pm_us]
      · rw [pm_uk e]; exact hk c (by omega)
  exact e_X9_unpackWear hw (loop 10 0 I (by omega) fr_r (fun c h => absurd h (by omega)))
end Spec
