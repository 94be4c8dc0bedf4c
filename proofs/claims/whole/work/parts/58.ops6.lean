/-! what stays as acts alter cells -/
def as' : List Nat := [20, 23, 24, 25, 26, 35, 36, 37, 38, 45, 46, 47, 48, 49]
theorem cS_keep {A : St} {t : Bool} {S : List Nat} {I I' : Nat → Nat → Int32} {J J' : Nat → Nat → Int64} (h : cS A t I J) (hf : fr S I I') (hs : ∀ a, a ∈ S → a ∈ qs t ∨ a ∈ as') (hJ : J' 44 = J 44) : cT (pm_td t) (sT A) I' ∧ cI (sI A) I' J' ∧ cB (sB A) I' ∧ (I' 0 18 = sF A ∧ wr I') := by
  have n : ∀ a, a = 0 ∨ a = 1 ∨ a = 2 ∨ (31 ≤ a ∧ a ≤ 34) ∨ (40 ≤ a ∧ a ≤ 44) ∨ (50 ≤ a ∧ a ≤ 54) → a ∉ S := by
    intro a ha q
    rcases hs a q with z | z
    · revert z; unfold qs; cases t <;> simp [pm_td] <;> omega
    · revert z; unfold as'; simp; omega
  have e : ∀ a, a = 0 ∨ a = 1 ∨ a = 2 ∨ (31 ≤ a ∧ a ≤ 34) ∨ (40 ≤ a ∧ a ≤ 44) ∨ (50 ≤ a ∧ a ≤ 54) → I' a = I a := fun a ha => hf a (n a ha)
  have n2 : ∀ a, a = 58 ∨ a = 73 → a ∉ S := by
    intro a ha q
    rcases hs a q with z | z
    · revert z; unfold qs; cases t <;> simp [pm_td] <;> omega
    · revert z; unfold as'; simp; omega
  have ntd : ∀ j, j ≤ 13 → j ≠ 11 → pm_td t + j ∉ S := by
    intro j h1 h2 q
    rcases hs _ q with z | z
    · revert z; unfold qs; cases t <;> simp [pm_td] <;> omega
    · revert z; unfold as'; cases t <;> simp [pm_td] <;> omega
  obtain ⟨h1, h2, -, h4, h5, ⟨h6, h6'⟩, ⟨h7, h7'⟩, h8, h9⟩ := h
  refine ⟨cT_fr h1 hf (ntd 0 (by omega) (by omega)) (ntd 2 (by omega) (by omega)) (ntd 5 (by omega) (by omega)) (ntd 6 (by omega) (by omega)) (ntd 7 (by omega) (by omega)) (ntd 8 (by omega) (by omega)) (ntd 9 (by omega) (by omega)) (ntd 10 (by omega) (by omega)) (ntd 12 (by omega) (by omega)) (ntd 13 (by omega) (by omega)), ⟨by rw [e 0 (by omega)]; exact h6, fun V k Bs q C hi => ?_⟩, ⟨by rw [e 1 (by omega)]; exact h7, by rw [e 2 (by omega)]; exact h7'⟩, ⟨by rw [e 0 (by omega)]; exact h8.1, wr_of h8.2 (hf 58 (n2 58 (Or.inl rfl))) (hf 73 (n2 73 (Or.inr rfl)))⟩⟩
  obtain ⟨g1, g2, g3⟩ := h6' V k Bs q C hi
  exact ⟨cW_fr g1 hf (n _ (by omega)) (n _ (by omega)) (n _ (by omega)) (n _ (by omega)), cA_of (e _ (by omega)) (e _ (by omega)) (e _ (by omega)) (e _ (by omega)) hJ g2, cN_of (e _ (by omega)) (e _ (by omega)) (e _ (by omega)) (e _ (by omega)) (e _ (by omega)) g3⟩
theorem cM_fr {T : Td} {S : List Nat} {I I' : Nat → Nat → Int32} (h : cM T I) (hf : fr S I I') (h7 : 7 ∉ S) (h8 : 8 ∉ S) : cM T I' := by
  intro p w a b
  rw [hf 7 h7, hf 8 h8]
  exact h p w a b
theorem wex2 (W : Wk) (i j : Nat) : wex (wex W i j) i j = W := by
  have e : wl (wex (wex W i j) i j) = wl W := funext fun k => by
    show (if k = j then (if i = j then wl W i else if i = i then wl W j else wl W i) else if k = i then (if j = j then wl W i else if j = i then wl W j else wl W j) else (if k = j then wl W i else if k = i then wl W j else wl W k)) = wl W k
    by_cases h1 : k = j
    · rw [if_pos h1]
      by_cases h2 : i = j
      · rw [if_pos h2, h1, h2]
      · rw [if_neg h2, if_pos rfl, h1]
    · rw [if_neg h1]
      by_cases h2 : k = i
      · rw [if_pos h2, if_pos rfl, h2]
      · rw [if_neg h2, if_neg h1, if_neg h2]
  exact Prod.ext rfl (Prod.ext rfl (Prod.ext e rfl))
theorem okW_wex {T : Td} {W : Wk} (h : okW T W) {i j : Nat} (hi : i < wp W) (hj : j < wp W) : okW T (wex W i j) := ⟨h.1, h.2.1, fun k hk => by
  show (if k = j then wl W i else if k = i then wl W j else wl W k) < tM T
  split
  · exact h.2.2.1 i hi
  · split
    · exact h.2.2.1 j hj
    · exact h.2.2.1 k hk, h.2.2.2⟩
/-! swap -/
def swI (g : Nat → Nat) (i : Nat) : Nat → Nat → Nat × Int32 → Nat × Int32
  | 0, _, a => a
  | j + 1, k, a => swI g i j (k + 1) (if g k < a.1 then (g k, nI (100 * i + k)) else a)
def swO (g : Nat → Nat → Nat) (p : Nat) : Nat → Nat → Nat × Int32 → Nat × Int32
  | 0, _, a => a
  | j + 1, i, a => swO g p j (i + 1) (swI (g i) i (p - (i + 1)) (i + 1) a)
def swG (T : Td) (W : Wk) (i k : Nat) : Nat := ls T W (wl (wex W i k)) (wp W - 1)
def swA (T : Td) (W : Wk) : Int32 := (swO (swG T W) (wp W) (wp W) 0 (ls T W (wl W) (wp W - 1), -1)).2
theorem ls_12 (T : Td) (W : Wk) (l : Nat → Nat) {k : Nat} (h : k ≤ 12) : ls T W l k ≤ 1188 := Nat.le_trans (ls_le T W l k) (by omega)
section Ops
variable {A : St}
theorem mR_wex {I : Nat → Nat → Int32} {m i j : Nat} {V : Wk} (h : mR (I 103) 0 m V) (hm : m ≤ 10) (hp : wp V ≤ 12) (hi : i < wp V) (hj : j < wp V) : mR (pm_u (pm_u I 103 (22 + i) (I 103 (22 + j))) 103 (22 + j) (I 103 (22 + i)) 103) 0 m (wex V i j) := by
  have hk : ∀ k, k < wp V → I 103 (22 + k) = nI (wl V k) := fun k hk => by have := h.2.2.2 k hk; rw [Nat.zero_add] at this; exact this
  refine ⟨?_, ?_, fun e he => ⟨?_, ?_⟩, fun k hk' => ?_⟩
  · rw [pm_uk (by omega), pm_uk (by omega)]; exact h.1
  · rw [pm_uk (by omega), pm_uk (by omega)]; exact h.2.1
  · rw [pm_uk (by omega), pm_uk (by omega)]; exact (h.2.2.1 e he).1
  · rw [pm_uk (by omega), pm_uk (by omega)]; exact (h.2.2.1 e he).2
  · have hk2 : k < wp V := hk'
    show _ = nI (if k = j then wl V i else if k = i then wl V j else wl V k)
    rw [Nat.zero_add]
    by_cases e : k = j
    · rw [e, pm_us, if_pos rfl]; exact hk i hi
    · rw [pm_uk (by omega), if_neg e]
      by_cases e2 : k = i
      · rw [e2, pm_us, if_pos rfl]; exact hk j hj
      · rw [pm_uk (by omega), if_neg e2]; exact hk k hk2
theorem S_swaps {d L : Nat} {fz t : Bool} {Q : pm_R → pm_H → Prop} {I : Nat → Nat → Int32} {J : Nat → Nat → Int64} {m i j : Nat} {V : Wk} (h : mR (I 103) 0 m V) (hm : m ≤ 10) (hp : wp V ≤ 12) (hi : i < wp V) (hj : j < wp V) (hq : ∀ I', fr [103] I I' → (∀ k, 34 ≤ k → I' 103 k = I 103 k) → mR (I' 103) 0 m (wex V i j) → Q (.inl none) (pm_hp L fz t I' J)) : pm_Ev (d + 1) 193 [.ref 85, .int (nI 0), .int (nI i), .int (nI j)] (pm_hp L fz t I J) Q := by
  refine e_X11_swaps ?_
  rw [nI_add, nI_add, nI_add, nI_clamp (by omega), nI_clamp (by omega)]
  simp only [Nat.zero_add]
  refine ⟨vp_in_nI (by omega) (by omega), vp_in_nI (by omega) (by omega), vp_in_nI (by omega) (by omega), vp_in_nI (by omega) (by omega), hq _ (fr_u (by simp) (fr_u (by simp) fr_r)) (fun k hk => by rw [pm_uk (by omega), pm_uk (by omega)]) (mR_wex h hm hp hi hj)⟩
theorem op_swap (ho : ok A) : op2 92 233 [] A 1 := by
  have h12 := ho.2.1.2.2.2
  have hm := ho.1.2.1
  refine ⟨0, by decide, swA (sT A) (sW A), ?_, ?_⟩
  · intro L fz t I J Q hS hk
    refine e_X10_swap (e_X6_bestExchange (td_or t) (Or.inl rfl) (S_tlearn (td_or t) (Or.inl rfl) hS.1 hS.2.1 ho.1 ho.2.1 fun I1 f1 p1 => kb_X6_bestExchange_6 (Or.inl rfl) ?_))
    have w1 : cw A t J I I1 := cw_fr (cw_0 hS) f1 (fun a ha => by
      simp at ha
      rcases ha with rfl | rfl | rfl
      · exact ⟨qs_lo (by omega), by omega, by omega⟩
      · exact ⟨qs_lo (by omega), by omega, by omega⟩
      · exact ⟨by unfold qs; simp, by have := td_or t; omega, by have := td_or t; omega⟩)
    refine S_sumOf (Or.inl rfl) w1.1.2.1 ho.1 ho.2.1 p1 (kb_X6_bestExchange_11 (Or.inl rfl) ?_)
    have w26 : ∀ I', cw A t J I I' → ∀ I'', fr [26] I' I'' → cW 23 (sW A) I'' → cw A t J I I'' := fun I' h' I'' hf hW => by
      obtain ⟨g1, g2, g3, g4⟩ := cS_keep (J' := J) h'.1 hf (fun a ha => Or.inr (by simp at ha; subst ha; decide)) rfl
      refine ⟨⟨g1, hW, cM_fr h'.1.2.2.1 hf (by decide) (by decide), cA_of (hf _ (by decide)) (hf _ (by decide)) (hf _ (by decide)) (hf _ (by decide)) rfl h'.1.2.2.2.1, cN_of (hf _ (by decide)) (hf _ (by decide)) (hf _ (by decide)) (hf _ (by decide)) (hf _ (by decide)) h'.1.2.2.2.2.1, g2, g3, g4, by rw [hf 20 (by decide)]; exact h'.1.2.2.2.2.2.2.2.2⟩, fun a ha => ?_⟩
      rw [hf a (by simp <;> omega)]; exact h'.2 a ha
    have outer : ∀ (j i : Nat) (a : Nat × Int32) (I' : Nat → Nat → Int32), i + j = wp (sW A) → a.1 ≤ 1188 → cw A t J I I' → cP (sT A) (sW A) I' → (swO (swG (sT A) (sW A)) (wp (sW A)) j i a).2 = swA (sT A) (sW A) → t_X6_bestExchange_18 57 L fz t (K_X10_swap_15 58 fz t Q) 23 (nI a.1) a.2 (nI i) I' J := by
      intro j
      induction j with
      | zero =>
        intro i a I' hi ha h' hP e
        obtain rfl : i = wp (sW A) := by omega
        refine b_X6_bestExchange_18 (Or.inl rfl) ?_
        rw [h'.1.2.1.1]
        refine q_t (nI_le (by omega) (by omega)) (kb_X10_swap_15 ?_)
        have := cw_e (fz' := fz) h' hk
        rw [← e] at this; exact this
      | succ j ih =>
        intro i a I' hi ha h' hP e
        refine b_X6_bestExchange_18 (Or.inl rfl) ?_
        rw [h'.1.2.1.1, nI_add]
        refine q_f (nI_ge (by omega) (by omega)) ?_
        rw [swO] at e
        have inner : ∀ (j' k : Nat) (a : Nat × Int32) (I' : Nat → Nat → Int32), k + j' = wp (sW A) → i < k → a.1 ≤ 1188 → cw A t J I I' → cP (sT A) (sW A) I' → (swO (swG (sT A) (sW A)) (wp (sW A)) j (i + 1) (swI (swG (sT A) (sW A) i) i j' k a)).2 = swA (sT A) (sW A) → t_X6_bestExchange_33 57 L fz t (K_X10_swap_15 58 fz t Q) 23 (nI a.1) a.2 (nI i) (nI k) I' J := by
          intro j'
          induction j' with
          | zero =>
            intro k a I' hk' hik ha h' hP e
            obtain rfl : k = wp (sW A) := by omega
            refine b_X6_bestExchange_33 (Or.inl rfl) ?_
            rw [h'.1.2.1.1, nI_add]
            exact q_t (nI_le (by omega) (by omega)) (ih (i + 1) a I' (by omega) ha h' hP e)
          | succ j' ih' =>
            intro k a I' hk' hik ha h' hP e
            refine b_X6_bestExchange_33 (Or.inl rfl) ?_
            rw [h'.1.2.1.1]
            refine q_f (nI_ge (by omega) (by omega)) (S_exchange (Or.inl rfl) h'.1.2.1 ho.2.1 (by omega) (by omega) fun I2 f2 c2 => kb_X6_bestExchange_50 (Or.inl rfl) ?_)
            have hP2 : cP (sT A) (sW A) I2 := fun c e h1 h2 => by rw [f2 14 (by decide)]; exact hP c e h1 h2
            refine S_sumOf (Or.inl rfl) c2 ho.1 (okW_wex ho.2.1 (by omega) (by omega)) hP2 (kb_X6_bestExchange_55 (Or.inl rfl) ?_)
            refine S_exchange (Or.inl rfl) c2 (okW_wex ho.2.1 (by omega) (by omega)) (by show i < wp (sW A); omega) (by show k < wp (sW A); omega) fun I3 f3 c3 => kb_X6_bestExchange_65 (Or.inl rfl) ?_
            rw [wex2] at c3
            have w3 := w26 I' h' I3 (fr_t f2 f3) c3
            have hP3 : cP (sT A) (sW A) I3 := fun c e h1 h2 => by rw [f3 14 (by decide)]; exact hP2 c e h1 h2
            have hl : ls (sT A) (sW A) (wl (wex (sW A) i k)) (wp (wex (sW A) i k) - 1) ≤ 1188 := ls_12 _ _ _ (by show wp (sW A) - 1 ≤ 12; omega)
            rw [swI] at e
            rw [pk_mul, nI_add, nI_add]
            refine q_le (by omega) (by omega) (fun q => ?_) (fun q => ?_)
            · rw [if_neg (by unfold swG; exact Nat.not_lt.mpr q)] at e
              exact ih' (k + 1) a I3 (by omega) (by omega) ha w3 hP3 e
            · rw [if_pos (by unfold swG; exact q)] at e
              exact ih' (k + 1) _ I3 (by omega) (by omega) hl w3 hP3 e
        exact inner (wp (sW A) - (i + 1)) (i + 1) a I' (by omega) (by omega) ha h' hP e
    exact outer (wp (sW A)) 0 (ls (sT A) (sW A) (wl (sW A)) (wp (sW A) - 1), -1) I1 (by omega) (ls_12 _ _ _ (by omega)) w1 p1 rfl
  · intro L fz t I J Q hS hk
    have hw := mw_0 ho hS
    have fsn : ∀ I' I'', mw A I I' → fr [105, 106] I' I'' → mw A I I'' := fun I' I'' h' hf => mw_f ho h' (mq_w hf (by simp <;> omega)) (by rw [hf 85 (by decide)]; exact h'.2.2)
    refine e_X11_swap (S_laceSnarl (W := sW A) hw.1.1 hw.1.2.1 hw.1.2.2.1 ho.1 ho.2.1 (fun _ _ => rfl) fun I1 f1 => kb_X11_swap_11 ?_)
    have outer : ∀ (j i : Nat) (a : Nat × Int32) (I' : Nat → Nat → Int32), i + j = wp (sW A) → a.1 ≤ 1188 → mw A I I' → (swO (swG (sT A) (sW A)) (wp (sW A)) j i a).2 = swA (sT A) (sW A) → t_X11_swap_14 59 L fz t Q a.2 (nI a.1) (nI i) I' J := by
      intro j
      induction j with
      | zero =>
        intro i a I' hi ha h' e
        obtain rfl : i = wp (sW A) := by omega
        refine b_X11_swap_14 ?_
        rw [h'.1.2.1]
        exact q_t (nI_le (by omega) (by omega)) (mw_e h' hk ⟨_, fun _ => by rw [← e]; rfl, rfl⟩)
      | succ j ih =>
        intro i a I' hi ha h' e
        refine b_X11_swap_14 ?_
        rw [h'.1.2.1, nI_add]
        refine q_f (nI_ge (by omega) (by omega)) ?_
        rw [swO] at e
        have inner : ∀ (j' k : Nat) (a : Nat × Int32) (I' : Nat → Nat → Int32), k + j' = wp (sW A) → i < k → a.1 ≤ 1188 → mw A I I' → (swO (swG (sT A) (sW A)) (wp (sW A)) j (i + 1) (swI (swG (sT A) (sW A) i) i j' k a)).2 = swA (sT A) (sW A) → t_X11_swap_27 59 L fz t Q a.2 (nI a.1) (nI i) (nI k) I' J := by
          intro j'
          induction j' with
          | zero =>
            intro k a I' hk' hik ha h' e
            obtain rfl : k = wp (sW A) := by omega
            refine b_X11_swap_27 ?_
            rw [h'.1.2.1, nI_add]
            exact q_t (nI_le (by omega) (by omega)) (ih (i + 1) a I' (by omega) ha h' e)
          | succ j' ih' =>
            intro k a I' hk' hik ha h' e
            refine b_X11_swap_27 ?_
            rw [h'.1.2.1]
            refine q_f (nI_ge (by omega) (by omega)) (S_swaps h'.1.2.2.1 hm h12 (by omega) (by omega) fun I2 f2 g2 c2 => kb_X11_swap_44 ?_)
            have e85 : I2 85 = I' 85 := f2 85 (by decide)
            have t2 : mT (sT A) I2 := mT_fr h'.1.1 f2 (fun j _ => by rw [e85]) (by decide) (by decide) (by decide) (by decide) (by decide) (by decide)
            refine S_laceSnarl (W := sW A) t2 (by rw [e85]; exact h'.1.2.1) c2 ho.1 (okW_wex ho.2.1 (by omega) (by omega)) (fun _ _ => rfl) fun I3 f3 => kb_X11_swap_48 ?_
            have c3 : mR (I3 103) 0 (tM (sT A)) (wex (sW A) i k) := by rw [f3 103 (by decide)]; exact c2
            refine S_swaps c3 hm h12 (by show i < wp (sW A); omega) (by show k < wp (sW A); omega) fun I4 f4 g4 c4 => kb_X11_swap_58 ?_
            rw [wex2] at c4
            have hf4 : fr [103, 105, 106] I' I4 := fr_t (fr_t (fr_m f2 (by simp)) (fr_m f3 (by simp <;> omega))) (fr_m f4 (by simp))
            have u4 : ∀ a, a ≠ 103 → a ≠ 105 → a ≠ 106 → I4 a = I' a := fun a h1 h2 h3 => hf4 a (by simp <;> omega)
            have w4 : mw A I I4 := by
              obtain ⟨⟨m1, m2, m3, ⟨m4, m4'⟩, ⟨m5, m5'⟩, ⟨m6, m6'⟩, ⟨m7, m7'⟩, m8, m9⟩, n1, n2⟩ := h'
              refine ⟨⟨mT_fr m1 hf4 (fun j _ => by rw [u4 85 (by decide) (by decide) (by decide)]) (by decide) (by decide) (by decide) (by decide) (by decide) (by decide), by rw [u4 85 (by decide) (by decide) (by decide)]; exact m2, c4, ⟨by rw [u4 85 (by decide) (by decide) (by decide)]; exact m4, by unfold mA; rw [u4 104 (by decide) (by decide) (by decide)]; exact m4'⟩, ⟨by rw [u4 85 (by decide) (by decide) (by decide)]; exact m5, by unfold mN; rw [u4 110 (by decide) (by decide) (by decide)]; exact m5'⟩, ⟨by rw [u4 85 (by decide) (by decide) (by decide)]; exact m6, fun V k Bs q C hi => ?_⟩, ⟨by rw [u4 85 (by decide) (by decide) (by decide)]; exact m7, by rw [u4 92 (by decide) (by decide) (by decide)]; exact m7'⟩, by rw [u4 85 (by decide) (by decide) (by decide)]; exact m8, by rw [u4 93 (by decide) (by decide) (by decide)]; exact m9⟩, fun a ha => ?_, ?_⟩
              · obtain ⟨g1, g2, g3, g4, g5⟩ := m6' V k Bs q C hi
                exact ⟨by rw [u4 114 (by decide) (by decide) (by decide)]; exact g1, by rw [u4 85 (by decide) (by decide) (by decide)]; exact g2, by unfold mA; rw [u4 115 (by decide) (by decide) (by decide)]; exact g3, by rw [u4 85 (by decide) (by decide) (by decide)]; exact g4, by unfold mN; rw [u4 116 (by decide) (by decide) (by decide)]; exact g5⟩
              · rw [u4 a (by omega) (by omega) (by omega)]; exact n1 a ha
              · rw [u4 85 (by decide) (by decide) (by decide)]; exact n2
            have hl : ls (sT A) (sW A) (wl (wex (sW A) i k)) (wp (wex (sW A) i k) - 1) ≤ 1188 := ls_12 _ _ _ (by show wp (sW A) - 1 ≤ 12; omega)
            rw [swI] at e
            rw [pk_mul, nI_add, nI_add]
            refine q_lt (by omega) (by omega) (fun q => ?_) (fun q => ?_)
            · rw [if_pos (by unfold swG; exact q)] at e
              exact ih' (k + 1) (_, _) I4 (by omega) (by omega) hl w4 e
            · rw [if_neg (by unfold swG; exact Nat.not_lt.mpr q)] at e
              exact ih' (k + 1) a I4 (by omega) (by omega) ha w4 e
        exact inner (wp (sW A) - (i + 1)) (i + 1) a I' (by omega) (by omega) ha h' e
    exact outer (wp (sW A)) 0 (ls (sT A) (sW A) (wl (sW A)) (wp (sW A) - 1), -1) I1 (by omega) (ls_12 _ _ _ (by omega)) (fsn _ _ hw f1) rfl
/-! a game -/
def hsd (T : Td) (W : Wk) (c x : Nat) : Int32 := if x = 1 then tu (tN T) (eff T W c) else eff T W c
def gN (T : Td) (W : Wk) (c e x y w : Nat) : Int32 := ((if w = 0 then nI (pc (hsd T W c x &&& (hsd T W e y ^^^ (-1 : Int32)))) - nI 2 * nI x else nI (pc (hsd T W e y &&& (hsd T W c x ^^^ (-1 : Int32)))) - nI 2 * nI y) - nI (snN T c e (hsd T W c x) (hsd T W e y)))
def rs (T : Td) (W : Wk) (c e k : Nat) : Bool := decide (¬ gN T W c e (k / 2) (k % 2) 0 < gN T W c e (1 - k / 2) (k % 2) 0) && decide (¬ gN T W c e (k / 2) (k % 2) 1 < gN T W c e (k / 2) (1 - k % 2) 1)
theorem sm_hsd (ho : ok A) {c x : Nat} (hc : c < 10) : sm (hsd (sT A) (sW A) c x) (tN (sT A)) := by
  unfold hsd; split
  · exact sm_tu (by have := ho.1.1; omega) _
  · exact sm_eff ho.1 ho.2.1 hc
def gI : Option Nat → Int32
  | none => -1
  | some k => nI (10 * (k / 2) + k % 2)
section Spec
variable {d L : Nat} {fz t : Bool} {Q : pm_R → pm_H → Prop} {I I0 : Nat → Nat → Int32} {J : Nat → Nat → Int64}
theorem cw_sideHoles {c x : Nat} (ho : ok A) (h : cw A t J I0 I) (hc : c < 10) (hx : x < 2) (hq : Q (.inl (some (.int (hsd (sT A) (sW A) c x)))) (pm_hp L fz t I J)) : pm_Ev (d + 2) 109 [.ref 0, .int (nI c), .int (nI x)] (pm_hp L fz t I J) Q := by
  refine e_X10_sideHoles (S_had (td_or t) (Or.inl rfl) h.1.1 h.1.2.1 ho.2.1 hc (kb_X10_sideHoles_12 ?_))
  unfold hsd at hq
  refine q_ne (by omega) (by omega) (fun q => ?_) (fun q => S_turned (td_or t) h.1.1.1 (by have := ho.1.1; omega) (kb_X10_sideHoles_26 ?_))
  · rw [if_neg q] at hq; exact hq
  · rw [if_pos q] at hq; exact hq
theorem cw_gainOf {c e x y w : Nat} (ho : ok A) (h : cw A t J I0 I) (hc : c < tM (sT A)) (he : e < tM (sT A)) (hx : x < 2) (hy : y < 2) (hw : w < 2) (hq : ∀ I', cw A t J I0 I' → Q (.inl (some (.int (gN (sT A) (sW A) c e x y w)))) (pm_hp L fz t I' J)) : pm_Ev (d + 4) 110 [.ref 0, .int (nI (1 - w)), .int (nI c), .int (nI e), .int (nI x), .int (nI y)] (pm_hp L fz t I J) Q := by
  have hm := ho.1.2.1
  have hn := ho.1.1
  have bet : ∀ (s0 : Int32), s0 - nI (snN (sT A) c e (hsd (sT A) (sW A) c x) (hsd (sT A) (sW A) e y)) = gN (sT A) (sW A) c e x y w → pm_Ev (d + 3) 59 [.ref 12, .ref (pm_td t), .int (nI c), .int (hsd (sT A) (sW A) c x), .int (nI e), .int (hsd (sT A) (sW A) e y)] (pm_hp L fz t I J) (K_X10_gainOf_76 (d + 3) fz t Q s0) := fun s0 hs => by
    refine S_between (td_or t) h.1.1 ho.1 hc he (sm_hsd ho (by omega)) (sm_hsd ho (by omega)) fun I' hf => kb_X10_gainOf_76 ?_
    rw [hs]
    refine hq I' (cw_fr h hf (fun a ha => ?_))
    simp at ha
    rcases ha with rfl | rfl
    · exact ⟨qs_lo (by omega), by omega, by omega⟩
    · exact ⟨by unfold qs; simp, by have := td_or t; omega, by have := td_or t; omega⟩
  refine e_X10_gainOf (cw_sideHoles ho h (by omega) hx (kb_X10_gainOf_7 (cw_sideHoles ho h (by omega) hy (kb_X10_gainOf_16 ?_))))
  have s1 : sm (hsd (sT A) (sW A) c x &&& (hsd (sT A) (sW A) e y ^^^ (-1 : Int32))) 12 := sm_mono (sm_and (sm_hsd ho (by omega))) (by omega)
  have s2 : sm (hsd (sT A) (sW A) e y &&& (hsd (sT A) (sW A) c x ^^^ (-1 : Int32))) 12 := sm_mono (sm_and (sm_hsd ho (by omega))) (by omega)
  refine q_eq (by omega) (by omega) (fun q => ?_) (fun q => ?_)
  · exact S_bitCount s2 (kb_X10_gainOf_50 (bet _ (by unfold gN; rw [if_neg (by omega)])))
  · exact S_bitCount s1 (kb_X10_gainOf_32 (bet _ (by unfold gN; rw [if_pos (by omega)])))
theorem mw_holesBy {c x : Nat} (ho : ok A) (h : mw A I0 I) (hc : c < tM (sT A)) (hx : x < 2) (hq : Q (.inl (some (.int (hsd (sT A) (sW A) c x)))) (pm_hp L fz t I J)) : pm_Ev (d + 3) 220 [.ref 85, .int (nI c), .int (nI x)] (pm_hp L fz t I J) Q := by
  unfold hsd at hq
  refine e_X11_holesBy (q_ne (by omega) (by omega) (fun q => ?_) (fun q => ?_))
  · rw [if_neg q] at hq
    exact S_holesOf (b := 0) (Or.inl rfl) h.1.1 h.1.2.2.1 ho.1 ho.2.1 hc (kb_X11_holesBy_24 hq)
  · rw [if_pos q] at hq
    exact S_holesOf (b := 0) (Or.inl rfl) h.1.1 h.1.2.2.1 ho.1 ho.2.1 hc (kb_X11_holesBy_12 (S_mturned h.1.1.1 (by have := ho.1.1; omega) (kb_X11_holesBy_15 (b_X11_holesBy_24 hq))))
theorem mw_gains {c e x y w : Nat} (ho : ok A) (h : mw A I0 I) (hc : c < tM (sT A)) (he : e < tM (sT A)) (hx : x < 2) (hy : y < 2) (hw : w < 2) (hq : ∀ I', mw A I0 I' → Q (.inl (some (.int (gN (sT A) (sW A) c e x y w)))) (pm_hp L fz t I' J)) : pm_Ev (d + 4) 221 [.ref 85, .int (nI c), .int (nI e), .int (nI x), .int (nI y), .int (nI w)] (pm_hp L fz t I J) Q := by
  have bet : ∀ (s0 : Int32), s0 - nI (snN (sT A) c e (hsd (sT A) (sW A) c x) (hsd (sT A) (sW A) e y)) = gN (sT A) (sW A) c e x y w → pm_Ev (d + 3) 165 [.ref 85, .int (nI c), .int (nI e), .int (hsd (sT A) (sW A) c x), .int (hsd (sT A) (sW A) e y)] (pm_hp L fz t I J) (K_X11_gains_68 (d + 3) fz t Q s0) := fun s0 hs => by
    refine S_snarlWith h.1.1 ho.1 hc he fun I' hf => kb_X11_gains_68 ?_
    rw [hs]
    exact hq I' (mw_f ho h (mq_w hf (by simp <;> omega)) (by rw [hf 85 (by decide)]; exact h.2.2))
  refine e_X11_gains (mw_holesBy ho h hc hx (kb_X11_gains_6 (mw_holesBy ho h he hy (kb_X11_gains_15 ?_))))
  refine q_ne (by omega) (by omega) (fun q => ?_) (fun q => ?_)
  · exact S_bits (kb_X11_gains_49 (bet _ (by unfold gN; rw [if_neg (by omega)])))
  · exact S_bits (kb_X11_gains_32 (bet _ (by unfold gN; rw [if_pos (by omega)])))
theorem cw_isAtRest {c e k : Nat} (ho : ok A) (h : cw A t J I0 I) (hc : c < tM (sT A)) (he : e < tM (sT A)) (hk : k < 4) (hq : ∀ I', cw A t J I0 I' → Q (.inl (some (.int (bz (rs (sT A) (sW A) c e k))))) (pm_hp L fz t I' J)) : pm_Ev (d + 5) 111 [.ref 0, .int (nI c), .int (nI e), .int (nI (k / 2)), .int (nI (k % 2))] (pm_hp L fz t I J) Q := by
  unfold rs at hq
  refine e_X10_isAtRest ?_
  rw [pk_sub (by omega)]
  refine cw_gainOf (w := 0) ho h hc he (by omega) (by omega) (by omega) fun I1 w1 => kb_X10_isAtRest_12 ?_
  refine cw_gainOf (w := 0) ho w1 hc he (by omega) (by omega) (by omega) fun I2 w2 => kb_X10_isAtRest_22 ⟨fun q => ?_, fun q => ?_⟩
  · have := hq I2 w2
    rw [decide_eq_false (fun z => z q), Bool.false_and] at this; exact this
  · rw [decide_eq_true q, Bool.true_and] at hq
    rw [pk_sub (by omega)]
    refine cw_gainOf (w := 1) ho w2 hc he (by omega) (by omega) (by omega) fun I3 w3 => kb_X10_isAtRest_37 ?_
    refine cw_gainOf (w := 1) ho w3 hc he (by omega) (by omega) (by omega) fun I4 w4 => kb_X10_isAtRest_47 ⟨fun q => ?_, fun q => ?_⟩
    · have := hq I4 w4
      rw [decide_eq_false (fun z => z q)] at this; exact this
    · have := hq I4 w4
      rw [decide_eq_true q] at this; exact this
end Spec
theorem way_x : ∀ k, k < 4 → nI k >>> (nI 1 &&& 31) = nI (k / 2) ∧ nI k &&& nI 1 = nI (k % 2) := by decide +kernel
theorem op_game (ho : ok A) (x y z : Int32) : op2 272 222 [.int x, .int y, .int z] A 1 := by
  have hm := ho.1.2.1
  cases h1 : inR x (tM (sT A)) with
  | true =>
    obtain ⟨c, hc, rfl⟩ := inR_t (by omega) h1
    cases h2 : inR y (tM (sT A)) with
    | true =>
      obtain ⟨e, he, rfl⟩ := inR_t (by omega) h2
      cases h3 : inR z 2 with
      | true =>
        obtain ⟨u, hu, rfl⟩ := inR_t (by omega) h3
        by_cases hce : c = e
        · refine ⟨2, by decide, 0, ?_, ?_⟩
          · intro L fz t I J Q hS hk
            exact e_X10_game (gCy hS.1.2.2.1 h1 (kb_X10_game_5 (gCy hS.1.2.2.1 h2 (kb_X10_game_10 (gWy (by omega) h3 (kb_X10_game_15 (q_f' (by rw [hce]) (cS_r hS hk))))))))
          · intro L fz t I J Q hS hk
            have hw := mw_0 ho hS
            refine e_X11_game (mCy hw h1 (kb_X11_game_10 (q_f nI_01 (mCy hw h2 (kb_X11_game_18 (q_f nI_01 (mWy hw (by omega) h3 (kb_X11_game_27 (q_f nI_01 (q_t (by rw [hce]) ?_))))))))))
            exact S_right0 hw.2.2 (by omega) (kb_X11_game_45 (q_f' rfl (mw_x ho hw hk (pv_e (by omega)))))
        · have hce' : ¬ nI c = nI e := fun q => hce ((nI_eq (by omega) (by omega)).mp q)
          refine ⟨0, by decide, if u = 1 then gI (ff (rs (sT A) (sW A) c e) 4 0) else nI (cn (rs (sT A) (sW A) c e) 4), ?_, ?_⟩
          · intro L fz t I J Q hS hk
            refine e_X10_game (gCy hS.1.2.2.1 h1 (kb_X10_game_5 (gCy hS.1.2.2.1 h2 (kb_X10_game_10 (gWy (by omega) h3 (kb_X10_game_15 (q_t' hce' ?_)))))))
            have fin : ∀ I' v, cw A t J I I' → v = (if u = 1 then gI (ff (rs (sT A) (sW A) c e) 4 0) else nI (cn (rs (sT A) (sW A) c e) 4)) → Q (.inl (some (.int v))) (pm_hp L true t I' J) := fun I' v w hv => by
              rw [hv]; exact cw_e w hk
            have loop : ∀ (j i : Nat) (I' : Nat → Nat → Int32), i + j = 4 → cw A t J I I' → (u = 1 → ff (rs (sT A) (sW A) c e) j i = ff (rs (sT A) (sW A) c e) 4 0) → t_X10_game_37 58 L true t Q (nI c) (nI e) (nI u) (nI (cn (rs (sT A) (sW A) c e) i)) (nI i) I' J := by
              intro j
              induction j with
              | zero =>
                intro i I' hi h' ef
                obtain rfl : i = 4 := by omega
                refine b_X10_game_37 (q_t (nI_le (by omega) (by omega)) (q_ne (by omega) (by omega) (fun q => fin I' _ h' (by rw [if_neg q])) (fun q => fin I' _ h' ?_)))
                rw [if_pos q, ← ef q]; rfl
              | succ j ih =>
                intro i I' hi h' ef
                refine b_X10_game_37 (q_f (nI_ge (by omega) (by omega)) ?_)
                rw [(way_x i (by omega)).1, (way_x i (by omega)).2]
                refine cw_isAtRest ho h' hc he (by omega) fun I2 w2 => kb_X10_game_65 ?_
                rw [nI_add, nI_add, pk_mul, nI_add]
                refine q_b0 (fun q => ?_) (fun q => q_ne (by omega) (by omega) (fun q2 => ?_) (fun q2 => ?_))
                · have := ih (i + 1) I2 (by omega) w2 (fun z => by rw [← ef z, ff, if_neg (by rw [q]; decide)])
                  rw [cn, q] at this; exact this
                · have := ih (i + 1) I2 (by omega) w2 (fun z => absurd z q2)
                  rw [cn, q] at this; exact this
                · refine fin I2 _ w2 ?_
                  rw [if_pos q2, ← ef q2, ff, if_pos q]; rfl
            exact loop 4 0 I (by omega) (cw_0 hS) (fun _ => rfl)
          · intro L fz t I J Q hS hk
            have hw := mw_0 ho hS
            refine e_X11_game (mCy hw h1 (kb_X11_game_10 (q_f nI_01 (mCy hw h2 (kb_X11_game_18 (q_f nI_01 (mWy hw (by omega) h3 (kb_X11_game_27 (q_f nI_01 (q_f hce' ?_))))))))))
            refine S_right1 hw.2.2 (by omega) (kb_X11_game_45 (q_t' nI_01 ?_))
            have loop : ∀ (j i : Nat) (I' : Nat → Nat → Int32), i + j = 4 → mw A I I' → t_X11_game_59 59 L fz t Q (nI c) (nI e) (nI u) (nI (cn (rs (sT A) (sW A) c e) i)) (gI (ff (rs (sT A) (sW A) c e) i 0)) (nI i) I' J := by
              intro j
              induction j with
              | zero =>
                intro i I' hi h'
                obtain rfl : i = 4 := by omega
                refine b_X11_game_59 (q_t (nI_le (by omega) (by omega)) (q_ne (by omega) (by omega) (fun q => ?_) (fun q => ?_)))
                · exact mw_e h' hk ⟨_, fun _ => by rw [if_pos (by omega)], rfl⟩
                · exact mw_e h' hk ⟨_, fun _ => by rw [if_neg (by omega)], rfl⟩
              | succ j ih =>
                intro i I' hi h'
                refine b_X11_game_59 (q_f (nI_ge (by omega) (by omega)) ?_)
                rw [pk_rem (by omega) (by omega) (by omega), pk_div (by omega) (by omega) (by omega), pk_sub (by omega)]
                have nx := fun I' h' => ih (i + 1) I' (by omega) h'
                refine mw_gains (w := 0) ho h' hc he (by omega) (by omega) (by omega) fun I1 w1 => kb_X11_game_90 ?_
                refine mw_gains (w := 0) ho w1 hc he (by omega) (by omega) (by omega) fun I2 w2 => kb_X11_game_101 ?_
                rw [nI_add]
                refine ⟨fun q => ?_, fun q => ?_⟩
                · have er : rs (sT A) (sW A) c e i = false := by unfold rs; rw [decide_eq_false (fun z => z q), Bool.false_and]
                  have := nx I2 w2
                  rw [ff_sn_f er, cn, er] at this; exact this
                · rw [pk_sub (by omega)]
                  refine mw_gains (w := 1) ho w2 hc he (by omega) (by omega) (by omega) fun I3 w3 => kb_X11_game_117 ?_
                  refine mw_gains (w := 1) ho w3 hc he (by omega) (by omega) (by omega) fun I4 w4 => kb_X11_game_128 ?_
                  rw [nI_add, nI_add, pk_mul, nI_add]
                  refine ⟨fun q2 => ?_, fun q2 => ?_⟩
                  · have er : rs (sT A) (sW A) c e i = true := by unfold rs; rw [decide_eq_true q, decide_eq_true (nlt_le.mpr q2)]; rfl
                    have := nx I4 w4
                    rw [cn, er] at this
                    cases hff : ff (rs (sT A) (sW A) c e) i 0 with
                    | none =>
                      rw [ff_sn_t hff er] at this
                      exact q_f' rfl this
                    | some k =>
                      rw [ff_sn_s hff] at this
                      have hk4 := (ff_some hff).2.1
                      exact q_t' (nI_ne_m1 (by omega)) this
                  · have er : rs (sT A) (sW A) c e i = false := by unfold rs; rw [decide_eq_true q, decide_eq_false (fun z => q2 (nlt_le.mp z))]; rfl
                    have := nx I4 w4
                    rw [ff_sn_f er, cn, er] at this; exact this
            exact loop 4 0 _ (by omega) hw
      | false =>
        refine ⟨1, by decide, 0, ?_, ?_⟩
        · intro L fz t I J Q hS hk
          exact e_X10_game (gCy hS.1.2.2.1 h1 (kb_X10_game_5 (gCy hS.1.2.2.1 h2 (kb_X10_game_10 (gWn (by omega) h3 (cS_r hS hk))))))
        · intro L fz t I J Q hS hk
          have hw := mw_0 ho hS
          exact e_X11_game (mCy hw h1 (kb_X11_game_10 (q_f nI_01 (mCy hw h2 (kb_X11_game_18 (q_f nI_01 (mWn hw (by omega) h3 (kb_X11_game_27 (q_t rfl (mw_x ho hw hk (pv_e (by omega))))))))))))
    | false =>
      refine ⟨1, by decide, 0, ?_, ?_⟩
      · intro L fz t I J Q hS hk
        exact e_X10_game (gCy hS.1.2.2.1 h1 (kb_X10_game_5 (gCn hS.1.2.2.1 h2 (cS_r hS hk))))
      · intro L fz t I J Q hS hk
        have hw := mw_0 ho hS
        exact e_X11_game (mCy hw h1 (kb_X11_game_10 (q_f nI_01 (mCn hw h2 (kb_X11_game_18 (q_t rfl (mw_x ho hw hk (pv_e (by omega)))))))))
  | false =>
    refine ⟨1, by decide, 0, ?_, ?_⟩
    · intro L fz t I J Q hS hk
      exact e_X10_game (gCn hS.1.2.2.1 h1 (cS_r hS hk))
    · intro L fz t I J Q hS hk
      exact e_X11_game (mCn (mw_0 ho hS) h1 (kb_X11_game_10 (q_t rfl (mw_x ho (mw_0 ho hS) hk (pv_e (by omega))))))
end Ops
