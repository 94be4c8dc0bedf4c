/-! the class's words and signs -/
def wk (j : Nat) : Nat := [10, 11, 12, 13, 14, 15, 17, 16, 18, 0, 1, 2, 3, 4, 5, 6, 7, 8, 9].getD (j - 14) 0
theorem sx_j : ∀ j, j < 33 → pm_sx (1000000 + j) = j := by decide +kernel
theorem wk_len : ∀ j, j < 33 → 14 ≤ j → pm_slen j = (wds.getD (wk j) []).length ∧ wk j < 19 := by decide +kernel
theorem wk_sb : ∀ j, j < 33 → 14 ≤ j → ∀ i, i < pm_slen j → pm_sb j i = nI ((wds.getD (wk j) []).getD i 0) ∧ (wds.getD (wk j) []).getD i 0 < 128 := by decide +kernel
theorem wds_id : ∀ k, k < 19 → wds.idxOf (wds.getD k []) = k := by decide +kernel
theorem wid_iff {k : Nat} (hk : k < 19) (w : List Nat) : wds.idxOf w = k ↔ w = wds.getD k [] := by
  constructor
  · intro h
    have hl : wds.idxOf w < wds.length := by rw [h]; exact hk
    have := List.getElem_idxOf hl
    rw [List.getD_eq_getElem?_getD, ← h, List.getElem?_eq_getElem hl, this]
    rfl
  · intro h; rw [h]; exact wds_id k hk
theorem wrd_iff {g : Nat → Nat} {s n : Nat} {ws : List Nat} : wrd g s n = ws ↔ n = ws.length ∧ ∀ i, i < n → g (s + i) = ws.getD i 0 := by
  constructor
  · intro h
    subst h
    refine ⟨by simp [wrd], fun i hi => ?_⟩
    simp [wrd, List.getD_eq_getElem?_getD, hi]
  · rintro ⟨h1, h2⟩
    refine List.ext_getElem (by simp [wrd, h1]) (fun i h3 h4 => ?_)
    have h5 : i < n := by simpa [wrd] using h3
    have := h2 i h5
    rw [List.getD_eq_getElem?_getD, List.getElem?_eq_getElem h4] at this
    simp only [wrd, List.getElem_map, List.getElem_range]
    exact this
theorem kW_inj {a b : Nat} : kW a = kW b ↔ a = b := ⟨fun h => by cases h; rfl, fun h => by rw [h]⟩
theorem tk_kd {g : Nat → Nat} {N p : Nat} (hp : p ≤ N) : (tK g N p).1 = 0 ∨ (tK g N p).1 = 1 ∨ (tK g N p).1 = 2 ∨ (tK g N p).1 = 3 ∨ (tK g N p).1 = 5 := by
  rcases tk_cases (g := g) hp with ⟨_, e, _⟩ | ⟨_, _, _, _, e⟩ | ⟨_, _, _, _, e⟩ | ⟨_, _, _, _, e⟩
  · rw [e]; exact Or.inl rfl
  · rw [e]; exact Or.inr (Or.inl rfl)
  · rw [e]; split
    · exact Or.inr (Or.inr (Or.inl rfl))
    · exact Or.inr (Or.inr (Or.inr (Or.inr rfl)))
  · rw [e]; exact Or.inr (Or.inr (Or.inr (Or.inl rfl)))
theorem kd_lt {g : Nat → Nat} {N p : Nat} (hp : p ≤ N) : kd (tK g N p) < 4 := by
  unfold kd
  have := tk_kd (g := g) hp
  split <;> omega
section Spec
variable {d L : Nat} {fz t : Bool} {Q : pm_R → pm_H → Prop} {I : Nat → Nat → Int32} {J : Nat → Nat → Int64} {g : Nat → Nat} {N p : Nat}
theorem S_isWord (hg : ∀ i, g i < 256) (hN : N ≤ 700) (hp : p ≤ N) (h : cTk g N p I) {j : Nat} (hj : 14 ≤ j ∧ j < 33) (hq : Q (.inl (some (.int (bz (decide (tK g N p = kW (wk j))))))) (pm_hp L fz t I J)) : pm_Ev (d + 1) 34 [.ref 1, .ref (1000000 + j)] (pm_hp L fz t I J) Q := by
  have ha1 : 1000000 + j = 1000014 ∨ 1000000 + j = 1000015 ∨ 1000000 + j = 1000016 ∨ 1000000 + j = 1000017 ∨ 1000000 + j = 1000018 ∨ 1000000 + j = 1000019 ∨ 1000000 + j = 1000020 ∨ 1000000 + j = 1000021 ∨ 1000000 + j = 1000022 ∨ 1000000 + j = 1000023 ∨ 1000000 + j = 1000024 ∨ 1000000 + j = 1000025 ∨ 1000000 + j = 1000026 ∨ 1000000 + j = 1000027 ∨ 1000000 + j = 1000028 ∨ 1000000 + j = 1000029 ∨ 1000000 + j = 1000030 ∨ 1000000 + j = 1000031 ∨ 1000000 + j = 1000032 := by omega
  obtain ⟨⟨h2, hT⟩, h3, h4, h5, -, -⟩ := h
  have no : ¬ tK g N p = kW (wk j) → Q (.inl (some (.int (nI 0)))) (pm_hp L fz t I J) := fun e => by
    rw [show decide (tK g N p = kW (wk j)) = false from decide_eq_false e] at hq; exact hq
  have yes : tK g N p = kW (wk j) → Q (.inl (some (.int (nI 1)))) (pm_hp L fz t I J) := fun e => by
    rw [show decide (tK g N p = kW (wk j)) = true from decide_eq_true e] at hq; exact hq
  have hw := wk_len j hj.2 hj.1
  have hsb := wk_sb j hj.2 hj.1
  have hsN := tst_N (g := g) hp
  have hnN := tnx_N (g := g) hp
  refine e_X3_isWord ha1 ?_
  rw [sx_j j hj.2, h3, h4, h5]
  by_cases hk : (tK g N p).1 = 1
  · rw [show kd (tK g N p) = 1 from by unfold kd; rw [if_neg (by omega)]; exact hk]
    refine q_f' rfl ?_
    have key : tK g N p = kW (wk j) ↔ wrd g (tst g N p) (tnx g N p - tst g N p) = wds.getD (wk j) [] := by
      rcases tk_cases (g := g) hp with ⟨_, e, _⟩ | ⟨_, _, _, _, e⟩ | ⟨_, _, _, _, e⟩ | ⟨_, _, _, _, e⟩
      · rw [e] at hk; cases hk
      · rw [e, kW_inj, wid_iff hw.2]
      · rw [e] at hk; split at hk <;> cases hk
      · rw [e] at hk; cases hk
    have hlt : tst g N p < tnx g N p := tnx_lt hp (fun q => by rw [q] at hk; cases hk)
    rw [nI_subn (by omega)]
    have hl10 : pm_slen j < 100 := by
      have : ∀ j, j < 33 → pm_slen j < 100 := by decide +kernel
      exact this j hj.2
    refine q_eq (by omega) (by omega) (fun e => ?_) (fun e => no (fun q => e ?_))
    · suffices H : ∀ f i, pm_slen j - i = f → i ≤ pm_slen j → (∀ i', i' < i → g (tst g N p + i') = (wds.getD (wk j) []).getD i' 0) → t_X3_isWord_28 d L fz t Q (1000000 + j) (nI i) I J from H _ 0 rfl (by omega) (fun i' hi => absurd hi (by omega))
      intro f
      induction f with
      | zero =>
        intro i hf hi hall
        refine b_X3_isWord_28 ha1 ?_
        rw [sx_j j hj.2]
        refine q_t (nI_le (by omega) (by omega)) (yes (key.mpr (wrd_iff.mpr ⟨by rw [e]; exact hw.1, fun i' hi' => hall i' (by omega)⟩)))
      | succ f ih =>
        intro i hf hi hall
        refine b_X3_isWord_28 ha1 ?_
        rw [sx_j j hj.2]
        refine q_f (nI_ge (by omega) (by omega)) ?_
        rw [h2, h3, nI_add]
        refine q_f (nI_ge (by omega) (by omega)) ⟨vp_in_nI (by omega) (by omega), vp_in_nI (by omega) (by omega), ?_⟩
        rw [nI_clamp (by omega), nI_clamp (by omega), hT _ (by omega), (hsb i (by omega)).1, nI_add]
        by_cases c : g (tst g N p + i) = (wds.getD (wk j) []).getD i 0
        · refine q_t ((sby_eq (hg _) (hsb i (by omega)).2).mpr c) (ih (i + 1) (by omega) (by omega) (fun i' hi' => ?_))
          by_cases ei : i' = i
          · rw [ei]; exact c
          · exact hall i' (by omega)
        · refine q_f (fun q => c ((sby_eq (hg _) (hsb i (by omega)).2).mp q)) (no (fun q => c ?_))
          exact (wrd_iff.mp (key.mp q)).2 i (by omega)
    · have := (wrd_iff.mp (key.mp q)).1
      rw [hw.1]; exact this
  · refine q_t' (fun q => ?_) (no (fun q => hk (by rw [q]; rfl)))
    rw [nI_eq (Nat.lt_trans (kd_lt hp) (by omega)) (by omega)] at q
    unfold kd at q
    split at q
    · omega
    · exact hk q
theorem S_isSign (hg : ∀ i, g i < 256) (hN : N ≤ 700) (hp : p ≤ N) (h : cTk g N p I) {c : Nat} (hc : c < 128) (hq : Q (.inl (some (.int (bz (decide (tK g N p = kS c)))))) (pm_hp L fz t I J)) : pm_Ev (d + 1) 33 [.ref 1, .int (nI c)] (pm_hp L fz t I J) Q := by
  obtain ⟨⟨h2, hT⟩, h3, h4, h5, -, -⟩ := h
  have no : ¬ tK g N p = kS c → Q (.inl (some (.int (nI 0)))) (pm_hp L fz t I J) := fun e => by
    rw [show decide (tK g N p = kS c) = false from decide_eq_false e] at hq; exact hq
  have yes : tK g N p = kS c → Q (.inl (some (.int (nI 1)))) (pm_hp L fz t I J) := fun e => by
    rw [show decide (tK g N p = kS c) = true from decide_eq_true e] at hq; exact hq
  have hsN := tst_N (g := g) hp
  refine e_X3_isSign ?_
  rw [h2, h3, h5]
  rcases tk_cases (g := g) hp with ⟨_, e, _⟩ | ⟨_, _, _, _, e⟩ | ⟨_, _, _, _, e⟩ | ⟨hs, _, _, _, e⟩
  · rw [e] at no ⊢
    exact q_t' (by decide) (no (fun q => by cases q))
  · rw [e] at no ⊢
    exact q_t' (show ¬ nI 1 = nI 3 by decide) (no (fun q => by cases q))
  · rw [e] at no ⊢
    refine q_t' ?_ (no (fun q => by split at q <;> cases q))
    split
    · exact (show ¬ nI 2 = nI 3 by decide)
    · exact (show ¬ nI 2 = nI 3 by decide)
  · rw [e] at no yes ⊢
    refine q_f' rfl (q_f (nI_ge (by omega) (by omega)) ⟨vp_in_nI (by omega) (by omega), ?_⟩)
    rw [nI_clamp (by omega), hT _ hs]
    by_cases cc : g (tst g N p) = c
    · exact q_f' ((sby_eq (hg _) hc).mpr cc) (yes (by rw [cc]))
    · exact q_t' (fun q => cc ((sby_eq (hg _) hc).mp q)) (no (fun q => cc (by cases q; rfl)))
end Spec
