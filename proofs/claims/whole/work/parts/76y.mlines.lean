/-! the reference reads lines -/
def mF2 (o : Nat) (l : List Nat) (p : Int32) (C : List Nat) : Prop := (l = [] ∧ p = -1) ∨ (l ≠ [] ∧ ∃ A B, C = A ++ (enc o l ++ B) ∧ p = nI A.length)
/-- the draft in the reference's cells -/
def mD (D : Dr) (C : List Nat) (I : Nat → Nat → Int32) : Prop := I 85 26 = (if dB D then nI (tN (dT D)) else -1) ∧ (I 85 27 = nI (tM (dT D)) ∧ I 85 28 = nI (wp (dW D)) ∧ I 85 29 = nI (tG (dT D))) ∧ ((I 85 32 = nI C.length ∧ mC (I 100) 0 C) ∧ mF2 0 (tU (dT D)) (I 85 30) C ∧ mF2 6 (tH (dT D)) (I 85 31) C) ∧ (∀ c, c < tM (dT D) → I 94 c = tW (dT D) c) ∧ (∀ f, f < tG (dT D) → I 95 f = tF (dT D) f ∧ I 96 f = nI (tI (dT D) f) ∧ I 97 f = nI (tE (dT D) f)) ∧ (∀ f, f < tG (dT D) → ∀ r, r < 3 → I 98 (3 * f + r) = tR (dT D) (3 * f + r)) ∧ mR (I 99) 0 (tM (dT D)) (dW D)
/-- only the drafts' cells, the token's and the fault's -/
def nF (I I' : Nat → Nat → Int32) : Prop := (∀ b, b ≠ 85 → (b < 94 ∨ 103 ≤ b) → I' b = I b) ∧ ∀ k, (k < 15 ∨ k = 17 ∨ k = 18 ∨ 37 ≤ k ∨ ((k = 15 ∨ k = 16) ∧ I' 85 15 = nI 0)) → I' 85 k = I 85 k
def mAf (g : Nat → Nat) (N : Nat) (r : Lr) (I I' : Nat → Nat → Int32) (J' : Nat → Nat → Int64) : Prop := nF I I' ∧ match r with
  | .inl (D, p) => mG g N p I' J' ∧ ∃ C, C.length ≤ 2 * p ∧ mD D C I'
  | .inr (y, q) => mBd g N y q I'
section Base
variable {D : Dr} {C : List Nat} {I I' I'' : Nat → Nat → Int32} {J : Nat → Nat → Int64} {g : Nat → Nat} {N p : Nat}
theorem nF_r : nF I I := ⟨fun _ _ _ => rfl, fun _ _ => rfl⟩
theorem nF_t (h : nF I I') (h' : nF I' I'') : nF I I'' := ⟨fun b h1 h2 => (h'.1 b h1 h2).trans (h.1 b h1 h2), fun k hk => (h'.2 k hk).trans (h.2 k (by
  rcases hk with q | q | q | q | ⟨q, z⟩
  · exact Or.inl q
  · exact Or.inr (Or.inl q)
  · exact Or.inr (Or.inr (Or.inl q))
  · exact Or.inr (Or.inr (Or.inr (Or.inl q)))
  · exact Or.inr (Or.inr (Or.inr (Or.inr ⟨q, (h'.2 15 (Or.inr (Or.inr (Or.inr (Or.inr ⟨Or.inl rfl, z⟩))))).symm.trans z⟩)))))⟩
theorem nF_w (h : wF I I') : nF I I' := ⟨fun b h1 h2 => h.1 b h1 (by omega) (by omega) (by omega), fun k hk => h.2 k (by
  rcases hk with q | q | q | q | q
  · exact Or.inl q
  · exact Or.inr (Or.inl q)
  · exact Or.inr (Or.inr (Or.inl q))
  · exact Or.inr (Or.inr (Or.inr (Or.inr (Or.inl q))))
  · exact Or.inr (Or.inr (Or.inr (Or.inr (Or.inr q)))))⟩
theorem nF_g (h : gF I I') : nF I I' := nF_w (wF_g h)
theorem nF_c {b k : Nat} {v : Int32} (h : nF I I') (hb : 94 ≤ b ∧ b < 103) : nF I (pm_u I' b k v) := ⟨fun c h1 h2 => (pm_ua (by omega)).trans (h.1 c h1 h2), fun j hj => by
  have e : pm_u I' b k v 85 = I' 85 := pm_ua (by omega)
  rw [e] at hj ⊢
  exact h.2 j hj⟩
theorem nF_u {k : Nat} {v : Int32} (h : nF I I') (hk : 19 ≤ k ∧ k < 37) : nF I (pm_u I' 85 k v) := ⟨fun c h1 h2 => (pm_ua h1).trans (h.1 c h1 h2), fun j hj => by
  have e : pm_u I' 85 k v 85 15 = I' 85 15 := pm_uk (by omega)
  rw [e] at hj
  exact (pm_uk (by omega)).trans (h.2 j hj)⟩
theorem mG_u {b k : Nat} {v : Int32} (h : mG g N p I J) (hb : b ≠ 85) (hb' : b ≠ 92) : mG g N p (pm_u I b k v) J := ⟨mTk_c h.1 (fun k _ => by rw [pm_ua (Ne.symm hb)]) (pm_ua (Ne.symm hb')), by rw [pm_ua (Ne.symm hb)]; exact h.2⟩
theorem mG_k {k : Nat} {v : Int32} (h : mG g N p I J) (hk : 26 ≤ k) : mG g N p (pm_u I 85 k v) J := ⟨mTk_c h.1 (fun j _ => pm_uk (by omega)) (pm_ua (by omega)), by rw [pm_uk (by omega)]; exact h.2⟩
theorem mBd_u {b k y q : Nat} {v : Int32} (h : mBd g N y q I) (hb : b ≠ 85) : mBd g N y q (pm_u I b k v) := by
  unfold mBd at *
  rw [pm_ua (Ne.symm hb)]; exact h
theorem mBd_k {k y q : Nat} {v : Int32} (h : mBd g N y q I) (hk : 17 ≤ k) : mBd g N y q (pm_u I 85 k v) := by
  unfold mBd at *
  rw [pm_uk (by omega), pm_uk (by omega)]; exact h
theorem mD_of (h : mD D C I) (h85 : ∀ k, 26 ≤ k → k ≤ 32 → I' 85 k = I 85 k) (e : ∀ b, 94 ≤ b → b ≤ 100 → I' b = I b) : mD D C I' := by
  unfold mD at *
  rw [h85 26 (by omega) (by omega), h85 27 (by omega) (by omega), h85 28 (by omega) (by omega), h85 29 (by omega) (by omega), h85 30 (by omega) (by omega), h85 31 (by omega) (by omega), h85 32 (by omega) (by omega), e 94 (by omega) (by omega), e 95 (by omega) (by omega), e 96 (by omega) (by omega), e 97 (by omega) (by omega), e 98 (by omega) (by omega), e 99 (by omega) (by omega), e 100 (by omega) (by omega)]
  exact h
theorem mD_g (h : mD D C I) (hf : gF I I') : mD D C I' := mD_of h (fun k h1 _ => hf.2 k (by omega)) (fun b h1 _ => hf.1 b (by omega))
theorem mD_T {v : Nat} (h : mD D C I) (h85 : ∀ k, 26 < k → k ≤ 32 → I' 85 k = I 85 k) (h26 : I' 85 26 = nI v) (e : ∀ b, 94 ≤ b → b ≤ 100 → I' b = I b) : mD (uT D v) C I' := by
  unfold mD at *
  rw [h26, h85 27 (by omega) (by omega), h85 28 (by omega) (by omega), h85 29 (by omega) (by omega), h85 30 (by omega) (by omega), h85 31 (by omega) (by omega), h85 32 (by omega) (by omega), e 94 (by omega) (by omega), e 95 (by omega) (by omega), e 96 (by omega) (by omega), e 97 (by omega) (by omega), e 98 (by omega) (by omega), e 99 (by omega) (by omega), e 100 (by omega) (by omega)]
  exact ⟨rfl, h.2⟩
theorem mD_C {v w x : Nat} (h : mD D C I) (hM : tM (dT D) < 10) (h85 : ∀ k, 26 ≤ k → k ≤ 32 → k ≠ 27 → I' 85 k = I 85 k) (h27 : I' 85 27 = nI (tM (dT D) + 1)) (e : ∀ b, 95 ≤ b → b ≤ 100 → b ≠ 99 → I' b = I b) (e94 : I' 94 = fu (I 94) (tM (dT D)) (nI w)) (e99 : I' 99 = fu (fu (I 99) (2 + tM (dT D)) (nI v)) (12 + tM (dT D)) (nI x)) : mD (uC D v w x) C I' := by
  obtain ⟨h1, ⟨_, h3, h4⟩, h5, h6, h7, h8, m1, m2, m3, m4⟩ := h
  unfold mD
  rw [h85 26 (by omega) (by omega) (by omega), h27, h85 28 (by omega) (by omega) (by omega), h85 29 (by omega) (by omega) (by omega), h85 30 (by omega) (by omega) (by omega), h85 31 (by omega) (by omega) (by omega), h85 32 (by omega) (by omega) (by omega), e94, e 95 (by omega) (by omega) (by omega), e 96 (by omega) (by omega) (by omega), e 97 (by omega) (by omega) (by omega), e 98 (by omega) (by omega) (by omega), e99, e 100 (by omega) (by omega) (by omega)]
  refine ⟨h1, ⟨rfl, h3, h4⟩, h5, fun c hc => ?_, h7, h8, ?_, ?_, fun c hc => ?_, fun k hk => ?_⟩
  · have hc' : c < tM (dT D) + 1 := hc
    exact fu_e fun q => h6 c (by omega)
  · rw [fu_o (by omega), fu_o (by omega)]; exact m1
  · rw [fu_o (by omega), fu_o (by omega)]; exact m2
  · have hc' : c < tM (dT D) + 1 := hc
    show fu (fu (I 99) (2 + tM (dT D)) (nI v)) (12 + tM (dT D)) (nI x) (0 + 2 + c) = fu (wo (dW D)) (tM (dT D)) (nI v) c ∧ fu (fu (I 99) (2 + tM (dT D)) (nI v)) (12 + tM (dT D)) (nI x) (0 + 12 + c) = nI (fu (ww (dW D)) (tM (dT D)) x c)
    by_cases q : c = tM (dT D)
    · subst q
      rw [fu_o (show 0 + 2 + tM (dT D) ≠ 12 + tM (dT D) by omega), show 0 + 2 + tM (dT D) = 2 + tM (dT D) by omega, fu_s, show 0 + 12 + tM (dT D) = 12 + tM (dT D) by omega, fu_s, fu_s, fu_s]
      exact ⟨rfl, rfl⟩
    · rw [fu_o (show 0 + 2 + c ≠ 12 + tM (dT D) by omega), fu_o (show 0 + 2 + c ≠ 2 + tM (dT D) by omega), fu_o (show 0 + 12 + c ≠ 12 + tM (dT D) by omega), fu_o (show 0 + 12 + c ≠ 2 + tM (dT D) by omega), fu_o q, fu_o q]
      exact m3 c (by omega)
  · rw [fu_o (by omega), fu_o (by omega)]
    exact m4 k hk
theorem mD_L {W : Wk} {v : Nat} (h : mD (uW D W) C I) (hM : tM (dT D) ≤ 10) (hw : wp W < 12) (h85 : ∀ k, 26 ≤ k → k ≤ 32 → k ≠ 28 → I' 85 k = I 85 k) (h28 : I' 85 28 = nI (wp W + 1)) (e : ∀ b, 94 ≤ b → b ≤ 100 → b ≠ 99 → I' b = I b) (e99 : I' 99 = fu (I 99) (22 + wp W) (nI v)) : mD (uW D (uL W v)) C I' := by
  obtain ⟨h1, ⟨h2, _, h4⟩, h5, h6, h7, h8, m1, m2, m3, m4⟩ := h
  unfold mD
  rw [h85 26 (by omega) (by omega) (by omega), h85 27 (by omega) (by omega) (by omega), h28, h85 29 (by omega) (by omega) (by omega), h85 30 (by omega) (by omega) (by omega), h85 31 (by omega) (by omega) (by omega), h85 32 (by omega) (by omega) (by omega), e 94 (by omega) (by omega) (by omega), e 95 (by omega) (by omega) (by omega), e 96 (by omega) (by omega) (by omega), e 97 (by omega) (by omega) (by omega), e 98 (by omega) (by omega) (by omega), e99, e 100 (by omega) (by omega) (by omega)]
  refine ⟨h1, ⟨h2, rfl, h4⟩, h5, h6, h7, h8, ?_, ?_, fun c hc => ⟨?_, ?_⟩, fun k hk => ?_⟩
  · rw [fu_o (by omega)]; exact m1
  · rw [fu_o (by omega)]; exact m2
  · have hc' : c < tM (dT D) := hc
    rw [fu_o (by omega)]; exact (m3 c hc).1
  · have hc' : c < tM (dT D) := hc
    rw [fu_o (by omega)]; exact (m3 c hc).2
  · have hk' : k < wp W + 1 := hk
    show fu (I 99) (22 + wp W) (nI v) (0 + 22 + k) = nI (fu (wl W) (wp W) v k)
    by_cases q : k = wp W
    · subst q
      rw [show 0 + 22 + wp W = 22 + wp W by omega, fu_s, fu_s]
    · rw [fu_o (by omega), fu_o q]
      exact m4 k (show k < wp W by omega)
theorem mD_G {x w n : Nat} {R : Nat → Int32} (h : mD D C I) (h85 : ∀ k, 26 ≤ k → k ≤ 32 → k ≠ 29 → I' 85 k = I 85 k) (h29 : I' 85 29 = nI (tG (dT D) + 1)) (e : ∀ b, 94 ≤ b → b ≤ 100 → b < 95 ∨ 98 < b → I' b = I b) (e95 : I' 95 = fu (I 95) (tG (dT D)) (nI x)) (e96 : I' 96 = fu (I 96) (tG (dT D)) (nI w)) (e97 : I' 97 = fu (I 97) (tG (dT D)) (nI n)) (hR : ∀ y, y < 3 * tG (dT D) → R y = tR (dT D) y) (e98 : ∀ y, y < 3 * tG (dT D) → I' 98 y = I 98 y) (e98' : ∀ r, r < 3 → I' 98 (3 * tG (dT D) + r) = R (3 * tG (dT D) + r)) : mD (uG D x w n R) C I' := by
  obtain ⟨h1, ⟨h2, h3, _⟩, h5, h6, h7, h8, hm⟩ := h
  unfold mD
  rw [h85 26 (by omega) (by omega) (by omega), h85 27 (by omega) (by omega) (by omega), h85 28 (by omega) (by omega) (by omega), h29, h85 30 (by omega) (by omega) (by omega), h85 31 (by omega) (by omega) (by omega), h85 32 (by omega) (by omega) (by omega), e 94 (by omega) (by omega) (by omega), e95, e96, e97, e 99 (by omega) (by omega) (by omega), e 100 (by omega) (by omega) (by omega)]
  refine ⟨h1, ⟨h2, h3, rfl⟩, h5, h6, fun f hf => ?_, fun f hf r hr => ?_, hm⟩
  · have hf' : f < tG (dT D) + 1 := hf
    exact ⟨fu_e fun q => (h7 f (by omega)).1, (fu_e fun q => (h7 f (by omega)).2.1).trans nI_fu.symm, (fu_e fun q => (h7 f (by omega)).2.2).trans nI_fu.symm⟩
  · have hf' : f < tG (dT D) + 1 := hf
    show I' 98 (3 * f + r) = R (3 * f + r)
    by_cases q : f = tG (dT D)
    · rw [q]; exact e98' r hr
    · rw [e98 _ (by omega), hR _ (by omega)]; exact h8 f (by omega) r hr
theorem mF2_add {o : Nat} {l : List Nat} {p : Int32} {C C' : List Nat} (h : mF2 o l p C) : mF2 o l p (C ++ C') := by
  rcases h with h | ⟨h1, A, B, h2, h3⟩
  · exact Or.inl h
  · exact Or.inr ⟨h1, A, B ++ C', by rw [h2]; simp, h3⟩
theorem mF2_new {o : Nat} {l C : List Nat} (h : l ≠ []) : mF2 o l (nI C.length) (C ++ enc o l) := Or.inr ⟨h, C, [], by simp, rfl⟩
end Base
section Spec
variable {d L : Nat} {fz t : Bool} {Q : pm_R → pm_H → Prop} {I : Nat → Nat → Int32} {J : Nat → Nat → Int64} {g : Nat → Nat} {N p : Nat}
theorem nb_no {lo hi v y : Nat} {k : Tk} (hk : k = kN v) (h1 : lo ≤ v) (h2 : v ≤ hi) : ¬ nbad lo hi k y := by
  rintro (⟨h, _⟩ | ⟨h, _⟩ | ⟨v', h, h', _⟩)
  · rw [hk] at h; exact h rfl
  · rw [hk] at h; cases h
  · rw [hk] at h; cases h; exact h' ⟨h1, h2⟩
theorem nb_eq {lo hi y y' : Nat} {k : Tk} (h : nbad lo hi k y) (h' : nbad lo hi k y') : y' = y := by
  rcases h with ⟨h1, h2, rfl⟩ | ⟨h1, rfl⟩ | ⟨v, h1, h2, rfl⟩ <;> rcases h' with ⟨g1, g2, rfl⟩ | ⟨g1, rfl⟩ | ⟨v', g1, g2, rfl⟩ <;> first | rfl | (exfalso; subst h1; first | exact g1 rfl | exact g2 rfl) | (exfalso; subst g1; first | exact h1 rfl | exact h2 rfl)
theorem S_numT (hg : ∀ i, g i < 256) (hN : N ≤ 700) (hp : p ≤ N) (h : mG g N p I J) {lo hi v : Nat} (hl : lo < 10000 ∧ hi < 10000) (hk : tK g N p = kN v) (h1 : lo ≤ v) (h2 : v ≤ hi) (hq : ∀ I' J', mG g N (tnx g N p) I' J' → gF I I' → gJ J J' → Q (.inl (some (.int (nI v)))) (pm_hp L fz t I' J')) : pm_Ev (d + 3) 137 [.ref 85, .int (nI lo), .int (nI hi)] (pm_hp L fz t I J) Q :=
  S_number hg hN hp h hl (fun I' J' v' e _ _ a b c => by rw [hk] at e; cases e; exact hq I' J' a b c) (fun I' y x hn => absurd hn (nb_no hk h1 h2))
theorem S_numF (hg : ∀ i, g i < 256) (hN : N ≤ 700) (hp : p ≤ N) (h : mG g N p I J) {lo hi y : Nat} (hl : lo < 10000 ∧ hi < 10000) (hn : nbad lo hi (tK g N p) y) (hb : ∀ I' x, mBd g N y p I' → wF I I' → Q (.inl (some (.int x))) (pm_hp L fz t I' J)) : pm_Ev (d + 3) 137 [.ref 85, .int (nI lo), .int (nI hi)] (pm_hp L fz t I J) Q :=
  S_number hg hN hp h hl (fun I' J' v' e h1 h2 => absurd hn (nb_no e h1 h2)) (fun I' y' x hn' b f => by rw [nb_eq hn hn'] at b; exact hb I' x b f)
theorem ab_no {many v y : Nat} {k : Tk} (hk : k = kN v) (h1 : v < many) : ¬ abad many k y := by
  rintro (⟨h, _⟩ | ⟨h, _⟩ | ⟨v', h, h', _⟩)
  · rw [hk] at h; exact h rfl
  · rw [hk] at h; cases h
  · rw [hk] at h; cases h; omega
theorem ab_eq {many y y' : Nat} {k : Tk} (h : abad many k y) (h' : abad many k y') : y' = y := by
  rcases h with ⟨h1, h2, rfl⟩ | ⟨h1, rfl⟩ | ⟨v, h1, h2, rfl⟩ <;> rcases h' with ⟨g1, g2, rfl⟩ | ⟨g1, rfl⟩ | ⟨v', g1, g2, rfl⟩ <;> first | rfl | (exfalso; subst h1; first | exact g1 rfl | exact g2 rfl | cases g1) | (exfalso; subst g1; first | exact h1 rfl | exact h2 rfl)
theorem S_amoT (hg : ∀ i, g i < 256) (hN : N ≤ 700) (hp : p ≤ N) (h : mG g N p I J) {many v : Nat} (hl : many < 10000) (hk : tK g N p = kN v) (h1 : v < many) (hq : ∀ I' J', mG g N (tnx g N p) I' J' → gF I I' → gJ J J' → Q (.inl (some (.int (nI v)))) (pm_hp L fz t I' J')) : pm_Ev (d + 3) 138 [.ref 85, .int (nI many)] (pm_hp L fz t I J) Q :=
  S_among hg hN hp h hl (fun I' J' v' e _ a b c => by rw [hk] at e; cases e; exact hq I' J' a b c) (fun I' y x hn => absurd hn (ab_no hk h1))
theorem S_amoF (hg : ∀ i, g i < 256) (hN : N ≤ 700) (hp : p ≤ N) (h : mG g N p I J) {many y : Nat} (hl : many < 10000) (hn : abad many (tK g N p) y) (hb : ∀ I' x, mBd g N y p I' → wF I I' → Q (.inl (some (.int x))) (pm_hp L fz t I' J)) : pm_Ev (d + 3) 138 [.ref 85, .int (nI many)] (pm_hp L fz t I J) Q :=
  S_among hg hN hp h hl (fun I' J' v' e h1 => absurd hn (ab_no e h1)) (fun I' y' x hn' b f => by rw [ab_eq hn hn'] at b; exact hb I' x b f)
theorem S_begT (hg : ∀ i, g i < 256) (hN : N ≤ 700) (hp : p ≤ N) (h : mG g N p I J) (hq : ∀ I' J', mG g N (tnx g N p) I' J' → gF I I' → gJ J J' → Q (.inl (some (.int (nI 1)))) (pm_hp L fz t I' J')) : pm_Ev (d + 3) 153 [.ref 85, .int (nI 0)] (pm_hp L fz t I J) Q :=
  e_X11_begins (q_t rfl (b_X11_begins_9 (S_good (d := d + 1) h.2 (kb_X11_begins_13 (q_t' nI_01 (S_goesI (d := d) hg hN hp h fun I' J' a b c => kb_X11_begins_22 (hq I' J' a b c)))))))
theorem S_begF (h : mG g N p I J) (hb : ∀ I', mBd g N 5 p I' → wF I I' → Q (.inl (some (.int (nI 0)))) (pm_hp L fz t I' J)) : pm_Ev (d + 3) 153 [.ref 85, .int (nI 1)] (pm_hp L fz t I J) Q :=
  e_X11_begins (q_f nI_01 (S_wrong (d := d + 1) h (by omega) fun m1 m2 => kb_X11_begins_9 (S_goodB (d := d + 1) m1 (kb_X11_begins_13 (q_f' rfl (hb _ m1 m2))))))
/-- a whole formula behind codes that stand already -/
theorem S_exprC {lo n0 b : Nat} {C : List Nat} {I0 : Nat → Nat → Int32} {J0 : Nat → Nat → Int64} (hg : ∀ i, g i < 256) (hN : N ≤ 700) (hn : 1 ≤ n0 ∧ n0 ≤ 16 ∧ lo + n0 ≤ 18) {r : Rs} (hp : p ≤ N) (hG : mG g N p I0 J0) (h32 : I0 85 32 = nI (b + C.length)) (hC : mC (I0 100) b C) (hb : b + C.length + 2 ≤ 2 * p) (hD : Dv (tK g N) (tnx g N) lo n0 6 0 none p r)
    (hq : yQ L fz t Q I0 J0 g N b (match r with | .inl (e, q) => rok (C ++ es lo e) q | .inr (y, q) => rbad y q)) : pm_Ev (d + 6) 149 [.ref 85, .int (nI lo), .int (nI (lo + n0 - 1))] (pm_hp L fz t I0 J0) Q := by
  have hY := Dv_whole (C := C) hn.2.1 hn.2.2 hD
  refine e_X11_expression (S_good (d := d + 4) hG.2 (kb_X11_expression_4 (q_t' nI_01 ?_)))
  refine e_X11_deeper ?_
  rw [pm_us]
  refine q_f (by decide) ⟨by rw [nI_add]; exact vp_in_nI (by omega) (by omega), kb_X11_expression_32 ?_⟩
  have u85 : ∀ k, k ≠ 33 → k ≠ 34 → k ≠ 35 → k ≠ 36 → pm_u (pm_u (pm_u (pm_u (pm_u (pm_u I0 85 33 (nI lo)) 85 34 (nI (lo + n0 - 1))) 85 35 (nI 0)) 85 36 (nI 0)) 85 36 (nI 0 + nI 1)) 102 (nI 0 + nI 1).toNatClampNeg (vp_nar .boolean (nI 0)) 85 k = I0 85 k := fun k q1 q2 q3 q4 => by
    rw [pm_ua (by omega), pm_uk q4, pm_uk q4, pm_uk q3, pm_uk q2, pm_uk q1]
  have uo : ∀ a, a ≠ 85 → a ≠ 102 → pm_u (pm_u (pm_u (pm_u (pm_u (pm_u I0 85 33 (nI lo)) 85 34 (nI (lo + n0 - 1))) 85 35 (nI 0)) 85 36 (nI 0)) 85 36 (nI 0 + nI 1)) 102 (nI 0 + nI 1).toNatClampNeg (vp_nar .boolean (nI 0)) a = I0 a := fun a q1 q2 => by
    rw [pm_ua q2, pm_ua q1, pm_ua q1, pm_ua q1, pm_ua q1, pm_ua q1]
  have g1 : mG g N p (pm_u (pm_u (pm_u (pm_u (pm_u (pm_u I0 85 33 (nI lo)) 85 34 (nI (lo + n0 - 1))) 85 35 (nI 0)) 85 36 (nI 0)) 85 36 (nI 0 + nI 1)) 102 (nI 0 + nI 1).toNatClampNeg (vp_nar .boolean (nI 0))) J0 := ⟨mTk_c hG.1 (fun k hk => u85 k (by omega) (by omega) (by omega) (by omega)) (uo 92 (by omega) (by omega)), by rw [u85 15 (by omega) (by omega) (by omega) (by omega)]; exact hG.2⟩
  have w1 : yW lo n0 b [] C [false] (pm_u (pm_u (pm_u (pm_u (pm_u (pm_u I0 85 33 (nI lo)) 85 34 (nI (lo + n0 - 1))) 85 35 (nI 0)) 85 36 (nI 0)) 85 36 (nI 0 + nI 1)) 102 (nI 0 + nI 1).toNatClampNeg (vp_nar .boolean (nI 0))) := by
    refine ⟨⟨?_, ?_⟩, ⟨?_, ?_⟩, ⟨?_, fun i hi => absurd hi (Nat.not_lt_zero i)⟩, ⟨?_, fun i hi => ?_⟩⟩
    · rw [pm_ua (by omega), pm_uk (by omega), pm_uk (by omega), pm_uk (by omega), pm_uk (by omega), pm_us]
    · rw [pm_ua (by omega), pm_uk (by omega), pm_uk (by omega), pm_uk (by omega), pm_us]
    · rw [u85 32 (by omega) (by omega) (by omega) (by omega), h32]
    · rw [uo 100 (by omega) (by omega)]; exact hC
    · rw [pm_ua (by omega), pm_uk (by omega), pm_uk (by omega), pm_us]; rfl
    · rw [pm_ua (by omega), pm_us]; rfl
    · have : i = 0 := by simp at hi; exact hi
      subst this
      have e1 : (nI 0 + nI 1).toNatClampNeg = 1 := by decide
      rw [e1, pm_us, vn0]; rfl
  have wf1 : wF I0 (pm_u (pm_u (pm_u (pm_u (pm_u (pm_u I0 85 33 (nI lo)) 85 34 (nI (lo + n0 - 1))) 85 35 (nI 0)) 85 36 (nI 0)) 85 36 (nI 0 + nI 1)) 102 (nI 0 + nI 1).toNatClampNeg (vp_nar .boolean (nI 0))) := wF_c (wF_u (wF_u (wF_u (wF_u (wF_u wF_r (by omega)) (by omega)) (by omega)) (by omega)) (by omega)) (by omega)
  refine op_b (bb := true) rfl g1.2 (Ys_run hg hN ⟨hn.1, hn.2.2⟩ hY ?_ _ J0 ⟨g1, w1, by simpa using hb, Nat.zero_le _, hp, by simp, fun z hz => by cases hz⟩ wf1 (fun _ _ => rfl) rfl _ (fun I' J' h' => kb_X11_expression_37 h'))
  rcases r with ⟨e, q⟩ | ⟨y, q⟩
  · exact hq
  · exact hq
end Spec
