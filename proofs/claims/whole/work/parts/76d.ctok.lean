/-! the class's tokens -/
def kd (k : Tk) : Nat := if k.1 = 5 then 2 else k.1
def cTp (g : Nat → Nat) (N : Nat) (I : Nat → Nat → Int32) : Prop := I 1 2 = nI N ∧ ∀ i, i < N → I 2 i = sby (g i)
def cTk (g : Nat → Nat) (N p : Nat) (I : Nat → Nat → Int32) : Prop := cTp g N I ∧ I 1 3 = nI (tst g N p) ∧ I 1 4 = nI (tnx g N p) ∧ I 1 5 = nI (kd (tK g N p)) ∧ (∀ v, tK g N p = kN v → I 1 6 = nI v) ∧ ((tK g N p).1 = 2 ∨ (tK g N p).1 = 5 → I 1 7 = nI (tnx g N p - tst g N p))
def aF (I I' : Nat → Nat → Int32) : Prop := (∀ a, a ≠ 1 → I' a = I a) ∧ ∀ k, (k < 3 ∨ 8 ≤ k) → I' 1 k = I 1 k
theorem aF_r {I : Nat → Nat → Int32} : aF I I := ⟨fun _ _ => rfl, fun _ _ => rfl⟩
theorem aF_t {I I' I'' : Nat → Nat → Int32} (h : aF I I') (h' : aF I' I'') : aF I I'' := ⟨fun a ha => (h'.1 a ha).trans (h.1 a ha), fun k hk => (h'.2 k hk).trans (h.2 k hk)⟩
theorem aF_u {I I' : Nat → Nat → Int32} {k : Nat} {v : Int32} (h : aF I I') (hk : 3 ≤ k ∧ k < 8) : aF I (pm_u I' 1 k v) := ⟨fun a ha => (pm_ua ha).trans (h.1 a ha), fun j hj => (pm_uk (by omega)).trans (h.2 j hj)⟩
theorem aF_p {g : Nat → Nat} {N : Nat} {I I' : Nat → Nat → Int32} (h : aF I I') (q : cTp g N I) : cTp g N I' := ⟨(h.2 2 (by omega)).trans q.1, fun i hi => by rw [h.1 2 (by omega)]; exact q.2 i hi⟩
section Spec
variable {d L : Nat} {fz t : Bool} {Q : pm_R → pm_H → Prop} {I : Nat → Nat → Int32} {J : Nat → Nat → Int64} {g : Nat → Nat} {N : Nat}
theorem S_isLetter (hg : ∀ i, g i < 256) (hN : N ≤ 700) (h : cTp g N I) {i : Nat} (hi : i ≤ N) (hq : Q (.inl (some (.int (bz (decide (i < N) && bL (g i)))))) (pm_hp L fz t I J)) : pm_Ev (d + 1) 29 [.ref 1, .int (nI i)] (pm_hp L fz t I J) Q := by
  refine e_X3_isLetter ?_
  rw [h.1]
  refine q_le (by omega) (by omega) (fun e => ?_) (fun e => ⟨vp_in_nI (by omega) (by omega), ?_⟩)
  · rw [show decide (i < N) = false from decide_eq_false (by omega)] at hq; exact hq
  · rw [nI_clamp (by omega), h.2 i e]
    rw [show decide (i < N) = true from decide_eq_true e, Bool.true_and] at hq
    have hb := hg i
    by_cases c1 : g i < 97 ∨ 128 ≤ g i
    · refine q_t ((sby_lt hb (by omega)).mpr c1) ?_
      rw [show bL (g i) = false from decide_eq_false (by omega)] at hq; exact hq
    · refine q_f (fun q => c1 ((sby_lt hb (by omega)).mp q)) ⟨vp_in_nI (by omega) (by omega), ?_⟩
      by_cases c2 : 122 < g i
      · refine q_t ((sby_gt hb (by omega)).mpr (by omega)) ?_
        rw [show bL (g i) = false from decide_eq_false (by omega)] at hq; exact hq
      · refine q_f (fun q => c2 ((sby_gt hb (by omega)).mp q).1) ?_
        rw [show bL (g i) = true from decide_eq_true (by omega)] at hq; exact hq
theorem S_isDigit (hg : ∀ i, g i < 256) (hN : N ≤ 700) (h : cTp g N I) {i : Nat} (hi : i ≤ N) (hq : Q (.inl (some (.int (bz (decide (i < N) && bD (g i)))))) (pm_hp L fz t I J)) : pm_Ev (d + 1) 30 [.ref 1, .int (nI i)] (pm_hp L fz t I J) Q := by
  refine e_X3_isDigit ?_
  rw [h.1]
  refine q_le (by omega) (by omega) (fun e => ?_) (fun e => ⟨vp_in_nI (by omega) (by omega), ?_⟩)
  · rw [show decide (i < N) = false from decide_eq_false (by omega)] at hq; exact hq
  · rw [nI_clamp (by omega), h.2 i e]
    rw [show decide (i < N) = true from decide_eq_true e, Bool.true_and] at hq
    have hb := hg i
    by_cases c1 : g i < 48 ∨ 128 ≤ g i
    · refine q_t ((sby_lt hb (by omega)).mpr c1) ?_
      rw [show bD (g i) = false from decide_eq_false (by omega)] at hq; exact hq
    · refine q_f (fun q => c1 ((sby_lt hb (by omega)).mp q)) ⟨vp_in_nI (by omega) (by omega), ?_⟩
      by_cases c2 : 57 < g i
      · refine q_t ((sby_gt hb (by omega)).mpr (by omega)) ?_
        rw [show bD (g i) = false from decide_eq_false (by omega)] at hq; exact hq
      · refine q_f (fun q => c2 ((sby_gt hb (by omega)).mp q).1) ?_
        rw [show bD (g i) = true from decide_eq_true (by omega)] at hq; exact hq
theorem S_scanWord (hg : ∀ i, g i < 256) (hN : N ≤ 700) (h : cTp g N I) {i : Nat} (hi : i ≤ N) (hq : Q (.inl (some (.int (nI (sc bL g N i))))) (pm_hp L fz t (pm_u I 1 5 (nI 1)) J)) : pm_Ev (d + 2) 31 [.ref 1, .int (nI i)] (pm_hp L fz t I J) Q := by
  refine e_X3_scanWord ?_
  suffices H : ∀ f i, N - i = f → i ≤ N → Q (.inl (some (.int (nI (sc bL g N i))))) (pm_hp L fz t (pm_u I 1 5 (nI 1)) J) → t_X3_scanWord_2 (d + 1) L fz t Q (nI i) I J from H _ i rfl hi hq
  intro f
  induction f with
  | zero =>
    intro i hf hi hq
    rw [sc_ge (by omega)] at hq
    refine b_X3_scanWord_2 ?_
    rw [h.1]
    exact q_t (nI_le (by omega) (by omega)) hq
  | succ f ih =>
    intro i hf hi hq
    refine b_X3_scanWord_2 ?_
    rw [h.1]
    refine q_f (nI_ge (by omega) (by omega)) (S_isLetter hg hN h hi (kb_X3_scanWord_15 ?_))
    rw [show decide (i < N) = true from decide_eq_true (by omega), Bool.true_and]
    refine q_b0 (fun e => ?_) (fun e => ?_)
    · rw [sc_f e] at hq; exact hq
    · rw [sc_t (by omega) e] at hq
      rw [nI_add]
      exact ih (i + 1) (by omega) (by omega) hq
theorem S_scanNumber (hg : ∀ i, g i < 256) (hN : N ≤ 700) (h : cTp g N I) {s : Nat} (hs : s ≤ N) (hq : ∀ I', aF I I' → I' 1 3 = I 1 3 → I' 1 5 = nI 2 → I' 1 7 = nI (sc bD g N s - s) → (sc bD g N s - s ≤ 4 → I' 1 6 = nI (dv g s (sc bD g N s - s))) → Q (.inl (some (.int (nI (sc bD g N s))))) (pm_hp L fz t I' J)) : pm_Ev (d + 2) 32 [.ref 1, .int (nI s)] (pm_hp L fz t I J) Q := by
  refine e_X3_scanNumber ?_
  suffices H : ∀ f k I', N - (s + k) = f → s + k ≤ N → sc bD g N (s + k) = sc bD g N s → (∀ i, i < k → bD (g (s + i)) = true) → aF I I' → I' 1 3 = I 1 3 → (k ≤ 4 → I' 1 6 = nI (dv g s k)) → t_X3_scanNumber_7 (d + 1) L fz t Q (nI s) (nI (s + k)) I' J from
    H _ 0 _ rfl hs rfl (fun i hi => absurd hi (by omega)) (aF_u aF_r (by omega)) (pm_uk (by omega)) (fun _ => pm_us)
  have fin : ∀ k I', s + k ≤ N → s + k = sc bD g N s → aF I I' → I' 1 3 = I 1 3 → (k ≤ 4 → I' 1 6 = nI (dv g s k)) → Q (.inl (some (.int (nI (s + k))))) (pm_hp L fz t (pm_u (pm_u I' 1 7 (nI (s + k) - nI s)) 1 5 (nI 2)) J) := by
    intro k I' hk he ha h3 h6
    rw [he]
    refine hq _ (aF_u (aF_u ha (by omega)) (by omega)) ?_ pm_us ?_ ?_
    · rw [pm_uk (by omega), pm_uk (by omega)]; exact h3
    · rw [pm_uk (by omega), pm_us, nI_subn (by omega)]
    · intro h4
      rw [pm_uk (by omega), pm_uk (by omega), h6 (by omega)]
      congr 2; omega
  intro f
  induction f with
  | zero =>
    intro k I' hf hk he hd ha h3 h6
    refine b_X3_scanNumber_7 ?_
    rw [(aF_p ha h).1]
    refine q_t (nI_le (by omega) (by omega)) (fin k I' hk ?_ ha h3 h6)
    rw [← he, sc_ge (by omega)]
  | succ f ih =>
    intro k I' hf hk he hd ha h3 h6
    refine b_X3_scanNumber_7 ?_
    rw [(aF_p ha h).1]
    refine q_f (nI_ge (by omega) (by omega)) (S_isDigit hg hN (aF_p ha h) hk (kb_X3_scanNumber_20 ?_))
    rw [show decide (s + k < N) = true from decide_eq_true (by omega), Bool.true_and]
    refine q_b0 (fun e => ?_) (fun e => ⟨vp_in_nI (by omega) (by omega), ?_⟩)
    · exact fin k I' hk (by rw [← he, sc_f e]) ha h3 h6
    · rw [show nI (s + k) + nI 1 = nI (s + (k + 1)) by rw [nI_add]; rfl]
      refine ih (k + 1) _ (by omega) (by omega) (by rw [← he, sc_t (by omega) e]; rfl) (fun i hi => ?_) (aF_u ha (by omega)) ((pm_uk (by omega)).trans h3) (fun h4 => ?_)
      · by_cases ei : i = k
        · rw [ei]; exact e
        · exact hd i (by omega)
      · rw [pm_us, h6 (by omega), nI_clamp (by omega), (aF_p ha h).2 (s + k) (by omega)]
        have e' := e
        unfold bD at e'; simp at e'
        rw [sby_lo _ (by omega), nI_mul, nI_add, nI_subn (by omega)]
        congr 1
        show _ = dv g s k * 10 + (g (s + k) - 48)
        omega
theorem S_advance (hg : ∀ i, g i < 256) (hN : N ≤ 700) (h : cTp g N I) {p : Nat} (hp : p ≤ N) (h4 : I 1 4 = nI p) (hq : ∀ I', cTk g N p I' → aF I I' → Q (.inl none) (pm_hp L fz t I' J)) : pm_Ev (d + 3) 28 [.ref 1] (pm_hp L fz t I J) Q := by
  refine e_X3_advance ?_
  rw [h4]
  suffices H : ∀ f i, N - i = f → i ≤ N → sc bW g N i = tst g N p → t_X3_advance_5 (d + 2) L fz t Q (nI i) I J from H _ p rfl hp rfl
  have one : ∀ i, i < N → i = tst g N p → pm_Ev (d + 2) 29 [.ref 1, .int (nI i)] (pm_hp L fz t (pm_u (pm_u I 1 3 (nI i)) 1 5 (nI 0)) J) (K_X3_advance_64 (d + 2) fz t Q (nI i)) := by
    intro i hi he
    have a0 : aF I (pm_u (pm_u I 1 3 (nI i)) 1 5 (nI 0)) := aF_u (aF_u aF_r (by omega)) (by omega)
    have c0 := aF_p a0 h
    have e3 : pm_u (pm_u I 1 3 (nI i)) 1 5 (nI 0) 1 3 = nI i := by rw [pm_uk (by omega), pm_us]
    have e5 : pm_u (pm_u I 1 3 (nI i)) 1 5 (nI 0) 1 5 = nI 0 := pm_us
    refine S_isLetter (d := d + 1) hg hN c0 (by omega) (kb_X3_advance_64 ?_)
    rw [show decide (i < N) = true from decide_eq_true hi, Bool.true_and]
    have tc := tk_cases (g := g) hp
    rw [← he] at tc
    refine q_b0 (fun b1 => S_isDigit (d := d + 1) hg hN c0 (by omega) (kb_X3_advance_80 ?_)) (fun b1 => S_scanWord hg hN c0 (by omega) (kb_X3_advance_72 ?_))
    · rw [show decide (i < N) = true from decide_eq_true hi, Bool.true_and]
      refine q_b0 (fun b2 => ?_) (fun b2 => S_scanNumber hg hN c0 (by omega) fun I' ha g3 g5 g7 g6 => kb_X3_advance_88 ?_)
      · rw [e5]
        refine q_f' rfl ?_
        rw [nI_add]
        rcases tc with ⟨q, _⟩ | ⟨_, q, _⟩ | ⟨_, _, q, _⟩ | ⟨_, _, _, e1, e2⟩
        · omega
        · rw [b1] at q; cases q
        · rw [b2] at q; cases q
        · have a1 : aF I (pm_u (pm_u (pm_u (pm_u I 1 3 (nI i)) 1 5 (nI 0)) 1 5 (nI 3)) 1 4 (nI (i + 1))) := aF_u (aF_u a0 (by omega)) (by omega)
          refine hq _ ⟨aF_p a1 h, ?_, ?_, ?_, fun v hv => ?_, fun hv => ?_⟩ a1
          · rw [pm_uk (by omega), pm_uk (by omega), e3, he]
          · rw [pm_us, e1]
          · rw [pm_uk (by omega), pm_us, e2]; rfl
          · rw [e2] at hv; cases hv
          · rw [e2] at hv; rcases hv with q | q <;> cases q
      · rw [g5]
        refine q_t' (by decide) ?_
        rcases tc with ⟨q, _⟩ | ⟨_, q, _⟩ | ⟨_, _, _, e1, e2⟩ | ⟨_, _, q, _⟩
        · omega
        · rw [b1] at q; cases q
        · have a1 : aF I (pm_u I' 1 4 (nI (sc bD g N i))) := aF_u (aF_t a0 ha) (by omega)
          refine hq _ ⟨aF_p a1 h, ?_, ?_, ?_, fun v hv => ?_, fun hv => ?_⟩ a1
          · rw [pm_uk (by omega), g3, e3, he]
          · rw [pm_us, e1]
          · rw [pm_uk (by omega), g5, e2]
            split <;> rfl
          · rw [pm_uk (by omega)]
            rw [e2] at hv
            rw [e1] at hv
            split at hv
            · rename_i h44
              cases hv
              exact g6 h44
            · cases hv
          · rw [pm_uk (by omega), g7, e1, ← he]
        · rw [b2] at q; cases q
    · rw [pm_us]
      refine q_t' (by decide) ?_
      rcases tc with ⟨q, _⟩ | ⟨_, _, _, e1, e2⟩ | ⟨_, q, _⟩ | ⟨_, q, _⟩
      · omega
      · have a1 : aF I (pm_u (pm_u (pm_u (pm_u I 1 3 (nI i)) 1 5 (nI 0)) 1 5 (nI 1)) 1 4 (nI (sc bL g N i))) := aF_u (aF_u a0 (by omega)) (by omega)
        refine hq _ ⟨aF_p a1 h, ?_, ?_, ?_, fun v hv => ?_, fun hv => ?_⟩ a1
        · rw [pm_uk (by omega), pm_uk (by omega), e3, he]
        · rw [pm_us, e1]
        · rw [pm_uk (by omega), pm_us, e2]; rfl
        · rw [e2] at hv; cases hv
        · rw [e2] at hv; rcases hv with q | q <;> cases q
      · rw [b1] at q; cases q
      · rw [b1] at q; cases q
  intro f
  induction f with
  | zero =>
    intro i hf hi he
    rw [sc_ge (by omega)] at he
    refine b_X3_advance_5 ?_
    rw [h.1]
    refine q_t (nI_le (by omega) (by omega)) ?_
    have tc := tk_cases (g := g) hp
    rw [← he] at tc
    rcases tc with ⟨_, e2, e1⟩ | ⟨q, _⟩ | ⟨q, _⟩ | ⟨q, _⟩
    · have a1 : aF I (pm_u (pm_u (pm_u I 1 3 (nI i)) 1 5 (nI 0)) 1 4 (nI i)) := aF_u (aF_u (aF_u aF_r (by omega)) (by omega)) (by omega)
      refine hq _ ⟨aF_p a1 h, ?_, ?_, ?_, fun v hv => ?_, fun hv => ?_⟩ a1
      · rw [pm_uk (by omega), pm_uk (by omega), pm_us, he]
      · rw [pm_us, e1]; congr 1
      · rw [pm_uk (by omega), pm_us, e2]; rfl
      · rw [e2] at hv; cases hv
      · rw [e2] at hv; rcases hv with q | q <;> cases q
    · omega
    · omega
    · omega
  | succ f ih =>
    intro i hf hi he
    refine b_X3_advance_5 ?_
    rw [h.1]
    refine q_f (nI_ge (by omega) (by omega)) ⟨vp_in_nI (by omega) (by omega), ?_⟩
    rw [nI_clamp (by omega), h.2 i (by omega), nI_add]
    by_cases c1 : g i = 32
    · exact q_t ((sby_eq (hg i) (by omega)).mpr c1) (ih (i + 1) (by omega) (by omega) ((sc_t (P := bW) (i := i) (by omega) (decide_eq_true (Or.inl c1))).symm.trans he))
    · refine q_f (fun q => c1 ((sby_eq (hg i) (by omega)).mp q)) ⟨vp_in_nI (by omega) (by omega), ?_⟩
      by_cases c2 : g i = 10
      · exact q_f' ((sby_eq (hg i) (by omega)).mpr c2) (ih (i + 1) (by omega) (by omega) ((sc_t (P := bW) (i := i) (by omega) (decide_eq_true (Or.inr c2))).symm.trans he))
      · exact q_t' (fun q => c2 ((sby_eq (hg i) (by omega)).mp q)) (one i (by omega) (by rw [← he, sc_f (decide_eq_false (by omega))]))
end Spec
