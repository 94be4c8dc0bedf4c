/-! the class reads lines -/
theorem fu_e {α : Type} {f f' : Nat → α} {k x : Nat} {v : α} (h : x ≠ k → f x = f' x) : fu f k v x = fu f' k v x := by
  by_cases q : x = k
  · rw [q, fu_s, fu_s]
  · rw [fu_o q, fu_o q]; exact h q
theorem nI_fu {f : Nat → Nat} {k x v : Nat} : nI (fu f k v x) = fu (fun x => nI (f x)) k (nI v) x := by
  by_cases q : x = k
  · rw [q, fu_s, fu_s]
  · rw [fu_o q, fu_o q]
theorem pm_fu {I : Nat → Nat → Int32} {a k : Nat} {v : Int32} : pm_u I a k v a = fu (I a) k v := funext fun x => by
  by_cases q : x = k
  · rw [q, fu_s, pm_us]
  · rw [fu_o q, pm_uk q]
/-- the draft in the class's cells -/
def cD (a : Nat) (D : Dr) (I : Nat → Nat → Int32) : Prop := I a 10 = bz (dB D) ∧ cT a (dT D) I ∧ I a 14 = nI (wp (dW D)) ∧ (∀ c, c < 10 → I (a + 1) c = wo (dW D) c) ∧ (∀ c, c < 10 → I (a + 3) c = nI (ww (dW D) c)) ∧ (∀ k, k < wp (dW D) → I (a + 4) k = nI (wl (dW D) k)) ∧ ∀ x, x < 15 → I (a + 8) x = tR (dT D) x
def wr1 (b : Nat) (I : Nat → Nat → Int32) : Prop := ∀ c, c < 10 → ∃ w, w ≤ 9 ∧ I b c = nI w
/-- only cell 1 (from 3 on) and the draft's cells -/
def lF (a : Nat) (I I' : Nat → Nat → Int32) : Prop := (∀ b, b ≠ 1 → (b < a ∨ a + 15 ≤ b) → I' b = I b) ∧ ∀ k, k < 3 → I' 1 k = I 1 k
def cAf (g : Nat → Nat) (N a : Nat) (r : Lr) (I I' : Nat → Nat → Int32) : Prop := lF a I I' ∧ match r with
  | .inl (D, p) => cG g N p I' ∧ cD a D I'
  | .inr (y, q) => cBd g N y q I' ∧ wr1 (a + 3) I'
section Base
variable {a : Nat} {D : Dr} {I I' I'' : Nat → Nat → Int32} {g : Nat → Nat} {N p : Nat}
theorem lF_r : lF a I I := ⟨fun _ _ _ => rfl, fun _ _ => rfl⟩
theorem lF_t (h : lF a I I') (h' : lF a I' I'') : lF a I I'' := ⟨fun b h1 h2 => (h'.1 b h1 h2).trans (h.1 b h1 h2), fun k hk => (h'.2 k hk).trans (h.2 k hk)⟩
theorem lF_f (h : fF I I') : lF a I I' := ⟨fun b h1 _ => h.1 b h1, h.2⟩
theorem lF_a (h : aF I I') : lF a I I' := lF_f (fF_a h)
theorem lF_u {b k : Nat} {v : Int32} (h : lF a I I') (ha : 2 ≤ a) (hb : a ≤ b) (hb' : b < a + 15) : lF a I (pm_u I' b k v) := ⟨fun c h1 h2 => (pm_ua (by omega)).trans (h.1 c h1 h2), fun j hj => by rw [pm_ua (by omega)]; exact h.2 j hj⟩
theorem cG_of (h : cG g N p I) (h1 : I' 1 = I 1) (h2 : I' 2 = I 2) : cG g N p I' := by
  unfold cG cTk cTp at *
  rw [h1, h2]; exact h
theorem cG_u {b k : Nat} {v : Int32} (h : cG g N p I) (hb : 3 ≤ b) : cG g N p (pm_u I b k v) := cG_of h (pm_ua (by omega)) (pm_ua (by omega))
theorem cBd_u {b k y q : Nat} {v : Int32} (h : cBd g N y q I) (hb : 3 ≤ b) : cBd g N y q (pm_u I b k v) := by
  unfold cBd at *
  rw [pm_ua (by omega)]; exact h
theorem wr1_u {b k w : Nat} (h : wr1 b I) (hw : w ≤ 9) : wr1 b (pm_u I b k (nI w)) := fun c hc => by
  by_cases q : c = k
  · rw [q, pm_us]; exact ⟨w, hw, rfl⟩
  · rw [pm_uk q]; exact h c hc
theorem wr1_o {b b' k : Nat} {v : Int32} (h : wr1 b I) (hb : b ≠ b') : wr1 b (pm_u I b' k v) := fun c hc => by rw [pm_ua hb]; exact h c hc
theorem wr1_f {b : Nat} (h : wr1 b I) (hf : ∀ a, a ≠ 1 → I' a = I a) (hb : b ≠ 1) : wr1 b I' := fun c hc => by rw [hf b hb]; exact h c hc
theorem cD_w (h : cD a D I) (ho : okD D) : wr1 (a + 3) I := fun c hc => ⟨ww (dW D) c, ho.2.1 c hc, h.2.2.2.2.1 c hc⟩
theorem cD_j (h : cD a D I) (e : ∀ j, j < 15 → I' (a + j) = I (a + j)) : cD a D I' := by
  obtain ⟨h1, ⟨t1, t2, t3, t4, t5, t6, t7, t8, t9⟩, h3, h4, h5, h6, h7⟩ := h
  have e0 : I' a = I a := e 0 (by omega)
  refine ⟨by rw [e0]; exact h1, ⟨by rw [e0]; exact t1, by rw [e0]; exact t2, by rw [e0]; exact t3, by rw [e0]; exact t4, cF_of (e 9 (by omega)) (e 10 (by omega)) t5, cF_of (e 12 (by omega)) (e 13 (by omega)) t6, by rw [e 2 (by omega)]; exact t7, by rw [e 5 (by omega), e 6 (by omega), e 7 (by omega)]; exact t8, by rw [e 8 (by omega)]; exact t9⟩, by rw [e0]; exact h3, by rw [e 1 (by omega)]; exact h4, by rw [e 3 (by omega)]; exact h5, by rw [e 4 (by omega)]; exact h6, by rw [e 8 (by omega)]; exact h7⟩
theorem cD_1 (ha : a = 55 ∨ a = 70) (h : cD a D I) (e : ∀ b, b ≠ 1 → I' b = I b) : cD a D I' := cD_j h fun j _ => e _ (by omega)
theorem cD_T {v : Nat} (h : cD a D I) (e : ∀ j, 0 < j → j < 15 → I' (a + j) = I (a + j)) (e0 : ∀ k, k ≠ 10 → k ≠ 11 → k ≠ 12 → I' a k = I a k) (e1 : I' a 10 = nI 1) (e2 : I' a 11 = nI v) (e3 : I' a 12 = al v) : cD a (uT D v) I' := by
  obtain ⟨h1, ⟨t1, t2, t3, t4, t5, t6, t7, t8, t9⟩, h3, h4, h5, h6, h7⟩ := h
  exact ⟨e1, ⟨e2, e3, (e0 13 (by omega) (by omega) (by omega)).trans t3, (e0 15 (by omega) (by omega) (by omega)).trans t4, cF_of (e 9 (by omega) (by omega)) (e 10 (by omega) (by omega)) t5, cF_of (e 12 (by omega) (by omega)) (e 13 (by omega) (by omega)) t6, by rw [e 2 (by omega) (by omega)]; exact t7, by rw [e 5 (by omega) (by omega), e 6 (by omega) (by omega), e 7 (by omega) (by omega)]; exact t8, by rw [e 8 (by omega) (by omega)]; exact t9⟩, (e0 14 (by omega) (by omega) (by omega)).trans h3, by rw [e 1 (by omega) (by omega)]; exact h4, by rw [e 3 (by omega) (by omega)]; exact h5, by rw [e 4 (by omega) (by omega)]; exact h6, by rw [e 8 (by omega) (by omega)]; exact h7⟩
theorem cD_C {v w x : Nat} (h : cD a D I) (e : ∀ j, 3 < j → j < 15 → I' (a + j) = I (a + j)) (e0 : ∀ k, k ≠ 13 → I' a k = I a k) (e13 : I' a 13 = nI (tM (dT D) + 1)) (e1 : I' (a + 1) = fu (I (a + 1)) (tM (dT D)) (nI v)) (e2 : I' (a + 2) = fu (I (a + 2)) (tM (dT D)) (nI w)) (e3 : I' (a + 3) = fu (I (a + 3)) (tM (dT D)) (nI x)) : cD a (uC D v w x) I' := by
  obtain ⟨h1, ⟨t1, t2, t3, t4, t5, t6, t7, t8, t9⟩, h3, h4, h5, h6, h7⟩ := h
  refine ⟨(e0 10 (by omega)).trans h1, ⟨(e0 11 (by omega)).trans t1, (e0 12 (by omega)).trans t2, e13, (e0 15 (by omega)).trans t4, cF_of (e 9 (by omega) (by omega)) (e 10 (by omega) (by omega)) t5, cF_of (e 12 (by omega) (by omega)) (e 13 (by omega) (by omega)) t6, fun c hc => ?_, by rw [e 5 (by omega) (by omega), e 6 (by omega) (by omega), e 7 (by omega) (by omega)]; exact t8, by rw [e 8 (by omega) (by omega)]; exact t9⟩, (e0 14 (by omega)).trans h3, fun c hc => ?_, fun c hc => ?_, by rw [e 4 (by omega) (by omega)]; exact h6, by rw [e 8 (by omega) (by omega)]; exact h7⟩
  · have hc' : c < tM (dT D) + 1 := hc
    rw [e2]
    exact fu_e fun q => t7 c (by omega)
  · rw [e1]
    exact fu_e fun _ => h4 c hc
  · rw [e3]
    exact (fu_e fun _ => h5 c hc).trans nI_fu.symm
theorem cD_L {W : Wk} {v : Nat} (h : cD a (uW D W) I) (e : ∀ j, 0 < j → j ≠ 4 → j < 15 → I' (a + j) = I (a + j)) (e0 : ∀ k, k ≠ 14 → I' a k = I a k) (e14 : I' a 14 = nI (wp W + 1)) (e4 : I' (a + 4) = fu (I (a + 4)) (wp W) (nI v)) : cD a (uW D (uL W v)) I' := by
  obtain ⟨h1, ⟨t1, t2, t3, t4, t5, t6, t7, t8, t9⟩, h3, h4, h5, h6, h7⟩ := h
  refine ⟨(e0 10 (by omega)).trans h1, ⟨(e0 11 (by omega)).trans t1, (e0 12 (by omega)).trans t2, (e0 13 (by omega)).trans t3, (e0 15 (by omega)).trans t4, cF_of (e 9 (by omega) (by omega) (by omega)) (e 10 (by omega) (by omega) (by omega)) t5, cF_of (e 12 (by omega) (by omega) (by omega)) (e 13 (by omega) (by omega) (by omega)) t6, by rw [e 2 (by omega) (by omega) (by omega)]; exact t7, by rw [e 5 (by omega) (by omega) (by omega), e 6 (by omega) (by omega) (by omega), e 7 (by omega) (by omega) (by omega)]; exact t8, by rw [e 8 (by omega) (by omega) (by omega)]; exact t9⟩, e14, by rw [e 1 (by omega) (by omega) (by omega)]; exact h4, by rw [e 3 (by omega) (by omega) (by omega)]; exact h5, fun k hk => ?_, by rw [e 8 (by omega) (by omega) (by omega)]; exact h7⟩
  have hk' : k < wp W + 1 := hk
  rw [e4]
  exact (fu_e fun q => h6 k (show k < wp W by omega)).trans nI_fu.symm
theorem cD_G {x w n : Nat} {R : Nat → Int32} (h : cD a D I) (hR : ∀ y, y < 3 * tG (dT D) → R y = tR (dT D) y) (hG : tG (dT D) < 5) (e : ∀ j, 0 < j → j < 5 ∨ 8 < j → j < 15 → I' (a + j) = I (a + j)) (e0 : ∀ k, k ≠ 15 → I' a k = I a k) (e15 : I' a 15 = nI (tG (dT D) + 1)) (e5 : I' (a + 5) = fu (I (a + 5)) (tG (dT D)) (nI x)) (e6 : I' (a + 6) = fu (I (a + 6)) (tG (dT D)) (nI w)) (e7 : ∀ f, f ≠ tG (dT D) → I' (a + 7) f = I (a + 7) f) (e7' : I' (a + 7) (tG (dT D)) = nI n) (e8 : ∀ y, y < 15 → I' (a + 8) y = R y) : cD a (uG D x w n R) I' := by
  obtain ⟨h1, ⟨t1, t2, t3, t4, t5, t6, t7, t8, t9⟩, h3, h4, h5, h6, h7⟩ := h
  refine ⟨(e0 10 (by omega)).trans h1, ⟨(e0 11 (by omega)).trans t1, (e0 12 (by omega)).trans t2, (e0 13 (by omega)).trans t3, e15, cF_of (e 9 (by omega) (by omega) (by omega)) (e 10 (by omega) (by omega) (by omega)) t5, cF_of (e 12 (by omega) (by omega) (by omega)) (e 13 (by omega) (by omega) (by omega)) t6, by rw [e 2 (by omega) (by omega) (by omega)]; exact t7, fun f hf => ?_, fun f hf r hr => e8 _ ?_⟩, (e0 14 (by omega)).trans h3, by rw [e 1 (by omega) (by omega) (by omega)]; exact h4, by rw [e 3 (by omega) (by omega) (by omega)]; exact h5, by rw [e 4 (by omega) (by omega) (by omega)]; exact h6, e8⟩
  · have hf' : f < tG (dT D) + 1 := hf
    rw [e5, e6]
    refine ⟨fu_e fun q => (t8 f (by omega)).1, (fu_e fun q => (t8 f (by omega)).2.1).trans nI_fu.symm, ?_⟩
    show _ = nI (fu (tE (dT D)) (tG (dT D)) n f)
    by_cases q : f = tG (dT D)
    · rw [q, fu_s]; exact e7'
    · rw [fu_o q, e7 f q]; exact (t8 f (by omega)).2.2
  · have hf' : f < tG (dT D) + 1 := hf
    omega
theorem cD_U {l : List Nat} (h : cD a D I) (e : ∀ j, j ≠ 9 → j ≠ 10 → j < 15 → I' (a + j) = I (a + j)) (hF : cF (a + 9) l I') : cD a (uU D l) I' := by
  obtain ⟨h1, ⟨t1, t2, t3, t4, t5, t6, t7, t8, t9⟩, h3, h4, h5, h6, h7⟩ := h
  have e0 : I' a = I a := e 0 (by omega) (by omega) (by omega)
  exact ⟨by rw [e0]; exact h1, ⟨by rw [e0]; exact t1, by rw [e0]; exact t2, by rw [e0]; exact t3, by rw [e0]; exact t4, hF, cF_of (e 12 (by omega) (by omega) (by omega)) (e 13 (by omega) (by omega) (by omega)) t6, by rw [e 2 (by omega) (by omega) (by omega)]; exact t7, by rw [e 5 (by omega) (by omega) (by omega), e 6 (by omega) (by omega) (by omega), e 7 (by omega) (by omega) (by omega)]; exact t8, by rw [e 8 (by omega) (by omega) (by omega)]; exact t9⟩, by rw [e0]; exact h3, by rw [e 1 (by omega) (by omega) (by omega)]; exact h4, by rw [e 3 (by omega) (by omega) (by omega)]; exact h5, by rw [e 4 (by omega) (by omega) (by omega)]; exact h6, by rw [e 8 (by omega) (by omega) (by omega)]; exact h7⟩
theorem cD_H {l : List Nat} (h : cD a D I) (e : ∀ j, j ≠ 12 → j ≠ 13 → j < 15 → I' (a + j) = I (a + j)) (hF : cF (a + 12) l I') : cD a (uH D l) I' := by
  obtain ⟨h1, ⟨t1, t2, t3, t4, t5, t6, t7, t8, t9⟩, h3, h4, h5, h6, h7⟩ := h
  have e0 : I' a = I a := e 0 (by omega) (by omega) (by omega)
  exact ⟨by rw [e0]; exact h1, ⟨by rw [e0]; exact t1, by rw [e0]; exact t2, by rw [e0]; exact t3, by rw [e0]; exact t4, cF_of (e 9 (by omega) (by omega) (by omega)) (e 10 (by omega) (by omega) (by omega)) t5, hF, by rw [e 2 (by omega) (by omega) (by omega)]; exact t7, by rw [e 5 (by omega) (by omega) (by omega), e 6 (by omega) (by omega) (by omega), e 7 (by omega) (by omega) (by omega)]; exact t8, by rw [e 8 (by omega) (by omega) (by omega)]; exact t9⟩, by rw [e0]; exact h3, by rw [e 1 (by omega) (by omega) (by omega)]; exact h4, by rw [e 3 (by omega) (by omega) (by omega)]; exact h5, by rw [e 4 (by omega) (by omega) (by omega)]; exact h6, by rw [e 8 (by omega) (by omega) (by omega)]; exact h7⟩
end Base
