/-! the call that reads: the reference -/
section Spec
variable {d L : Nat} {fz t : Bool} {Q : pm_R → pm_H → Prop} {I : Nat → Nat → Int32} {J : Nat → Nat → Int64} {g : Nat → Nat} {N p : Nat} {D : Dr} {C : List Nat} {r : Lr}
theorem sr_0 (hp : p ≤ N) (h : mG g N p I J) : I 85 20 = nI 0 ↔ tK g N p = kE := by
  have hs := srt_lt (g := g) hp
  rw [h.1.2.2.1, nI_eq (by omega) (by omega)]
  constructor
  · intro h
    rcases tk_cases (g := g) hp with ⟨_, e, _⟩ | ⟨_, _, _, _, e⟩ | ⟨_, _, _, _, e⟩ | ⟨_, _, _, _, e⟩
    · exact e
    · rw [e] at h; cases h
    · rw [e] at h; split at h <;> cases h
    · rw [e] at h
      rw [show srt (kS (g (tst g N p))) = (if g (tst g N p) ∈ ss then 3 else 4) from rfl] at h
      split at h <;> cases h
  · intro h; rw [h]; rfl
theorem M_lines (hg : ∀ i, g i < 256) (hN : N ≤ 700) (hy : ∀ I' J' D p C, r = .inl (D, p) → okD D → p ≤ N → C.length ≤ 2 * p → mG g N p I' J' → mD D C I' → nF I I' → gJ J J' → pm_Ev (d + 7) 134 [.ref 85] (pm_hp L fz t I' J') (K_X11_chapel_135 (d + 7) fz t Q))
    (hn : ∀ I' J' y q, r = .inr (y, q) → mBd g N y q I' → nF I I' → gJ J J' → Q (.inl (some (.int (I' 85 15)))) (pm_hp L fz t (pm_u I' 93 0 (I' 93 0 + nI 1)) J')) :
    ∀ f p D C I1 J1, Rd (tK g N) (tnx g N) f p D r → p ≤ N → okD D → C.length ≤ 2 * p → mG g N p I1 J1 → mD D C I1 → nF I I1 → gJ J J1 → t_X11_chapel_110 (d + 7) L fz t Q I1 J1 := by
  intro f
  induction f with
  | zero => intro p D C I1 J1 h; exact absurd h id
  | succ f ih =>
    intro p D C I1 J1 hR hp ho hC g1 c1 l1 j1
    have s0 := sr_0 hp g1
    refine b_X11_chapel_110 (S_good (d := d + 6) g1.2 (kb_X11_chapel_114 (q_f nI_01 ?_)))
    rcases hR with ⟨hE, hr⟩ | ⟨hE, hR⟩
    · exact q_t (s0.mpr hE) (hy I1 J1 D p C hr ho hp hC g1 c1 l1 j1)
    · refine q_f (fun q => hE (s0.mp q)) ?_
      rcases hR with ⟨⟨y, q⟩, hL, hr⟩ | ⟨D', p', hL, hR⟩
      · refine M_line (d := d) hg hN hp g1 c1 ho hC hE hL fun I2 J2 hA j2 => kb_X11_chapel_128 (b_X11_chapel_110 (S_goodB (d := d + 6) hA.2 (kb_X11_chapel_114 (q_t rfl (S_goodB (d := d + 6) hA.2 (kb_X11_chapel_135 (q_f' rfl ?_)))))))
        exact hn I2 J2 y q hr hA.2 (nF_t l1 hA.1) (gJ_t j1 j2)
      · obtain ⟨o1, o2, o3⟩ := Ln_ok hp ho hL
        refine M_line (d := d) hg hN hp g1 c1 ho hC hE hL fun I2 J2 hA j2 => kb_X11_chapel_128 ?_
        obtain ⟨l2, g2, C2, hC2, c2⟩ := hA
        exact ih p' D' C2 I2 J2 hR o3 o1 hC2 g2 c2 (nF_t l1 l2) (gJ_t j1 j2)
theorem mF2_mF {o : Nat} {l : List Nat} {x : Int32} {f f' : Nat → Int32} (h : mF2 o l x C) (hC : mC f 0 C) (hl : C.length ≤ 1400) (hf : ∀ k, k < 1400 → f' k = f k) : mF o l x f' := by
  rcases h with h | ⟨h1, A, B, h2, h3⟩
  · exact Or.inl h
  · have hlen : C.length = A.length + ((enc o l).length + B.length) := by rw [h2, List.length_append, List.length_append]
    refine Or.inr ⟨h1, A.length, h3, fun i hi => ?_, by omega⟩
    rw [hf _ (by omega)]
    have := hC (A.length + i) (by omega)
    rw [Nat.zero_add] at this
    rw [this, h2, List.getD_eq_getElem?_getD, List.getD_eq_getElem?_getD, List.getElem?_append_right (by omega), List.getElem?_append_left (by omega)]
    congr 3
    omega
theorem M_fill {I7 : Nat → Nat → Int32} (T7 : mT (dT D) I7) (hm : mR (I7 99) 0 (tM (dT D)) (dW D)) (ho : okD D) (x3 : I7 85 3 = nI (wp (dW D))) (hq : ∀ I', mT (dT D) I' → I' 85 3 = nI (wp (wB D)) → mR (I' 103) 0 (tM (dT D)) (wB D) → I' 85 48 = nI 0 → I' 85 55 = nI 0 → I' 85 61 = nI 0 → (∀ b, b ≠ 85 → b ≠ 103 → I' b = I7 b) → (∀ k, k < 48 → I' 85 k = I7 85 k) → Q (.inl (some (.int (nI 0)))) (pm_hp L fz t I' J)) : t_X11_chapel_288 (d + 2) L fz t Q (nI 0) I7 J := by
  obtain ⟨m1, m2, m3, m4⟩ := hm
  have hM := ho.1.2.1
  have hW := ho.2.2.2.1
  have mask : ∀ j i I9, i + j = tM (dT D) → fr [103] I7 I9 → (∀ k, k < 34 → (k < 2 ∨ 2 + i ≤ k) → I9 103 k = I7 99 k) → (∀ c, c < i → I9 103 (2 + c) = wo (dW D) c &&& al (tN (dT D))) → t_X11_chapel_314 (d + 2) L fz t Q (nI i) I9 J := by
    intro j
    induction j with
    | zero =>
      intro i I9 hi f9 k9 w9
      have f85 : I9 85 = I7 85 := f9 85 (by decide)
      have T9 : mT (dT D) I9 := mT_fr T7 f9 (fun j _ => by rw [f85]) (by decide) (by decide) (by decide) (by decide) (by decide) (by decide)
      refine b_X11_chapel_314 ?_
      rw [T9.2.1]
      have z : ∀ b, b ≠ 85 → pm_u (pm_u (pm_u I9 85 48 (nI 0)) 85 55 (nI 0)) 85 61 (nI 0) b = I9 b := fun b hb => by rw [pm_ua hb, pm_ua hb, pm_ua hb]
      have z85 : ∀ k, k < 48 → pm_u (pm_u (pm_u I9 85 48 (nI 0)) 85 55 (nI 0)) 85 61 (nI 0) 85 k = I7 85 k := fun k hk => by rw [pm_uk (by omega), pm_uk (by omega), pm_uk (by omega), f85]
      refine q_t (nI_le (by omega) (by omega)) (hq _ ?_ ?_ ?_ ?_ ?_ ?_ (fun b h1 h3 => ?_) z85)
      · exact mT_fr (S := [85]) T9 (fun b hb => z b (by simpa using hb)) (fun j hj => by rw [z85 j (by omega), f85]) (by decide) (by decide) (by decide) (by decide) (by decide) (by decide)
      · rw [z85 3 (by omega)]; exact x3
      · rw [z 103 (by omega)]
        refine ⟨?_, ?_, fun c hc => ⟨?_, ?_⟩, fun k hk => ?_⟩
        · rw [k9 0 (by omega) (by omega), m1]; exact ho.2.2.2.2.2.2.1
        · rw [k9 (0 + 1) (by omega) (by omega), m2]; exact ho.2.2.2.2.2.2.2
        · rw [show 0 + 2 + c = 2 + c by omega]; exact w9 c (by omega)
        · rw [k9 _ (by omega) (by omega)]; exact (m3 c hc).2
        · have hk' : k < wp (dW D) := hk
          rw [k9 _ (by omega) (by omega)]; exact m4 k hk
      · rw [pm_uk (by omega), pm_uk (by omega), pm_us]
      · rw [pm_uk (by omega), pm_us]
      · rw [pm_us]
      · rw [z b h1, f9 b (by simpa using h3)]
    | succ j ih =>
      intro i I9 hi f9 k9 w9
      have f85 : I9 85 = I7 85 := f9 85 (by decide)
      have T9 : mT (dT D) I9 := mT_fr T7 f9 (fun j _ => by rw [f85]) (by decide) (by decide) (by decide) (by decide) (by decide) (by decide)
      refine b_X11_chapel_314 ?_
      rw [T9.2.1, nI_add, nI_clamp (by omega)]
      refine q_f (nI_ge (by omega) (by omega)) ⟨vp_in_nI (by omega) (by omega), S_all (d := d + 1) T9 (kb_X11_chapel_341 ⟨vp_in_nI (by omega) (by omega), ?_⟩)⟩
      rw [nI_clamp (by omega), nI_add]
      refine ih (i + 1) _ (by omega) (fr_u (by simp) f9) (fun k hk h2 => ?_) (fun c hc => ?_)
      · rw [pm_uk (by omega)]; exact k9 k hk (by omega)
      · by_cases q : c = i
        · rw [q, pm_us, k9 (2 + i) (by omega) (by omega), show 2 + i = 0 + 2 + i by omega, (m3 i (by omega)).1]
        · rw [pm_uk (by omega)]; exact w9 c (by omega)
  suffices H : ∀ j i I8, i + j = 34 → fr [103] I7 I8 → (∀ k, k < i → I8 103 k = I7 99 k) → t_X11_chapel_288 (d + 2) L fz t Q (nI i) I8 J from H 34 0 I7 rfl fr_r (fun k hk => absurd hk (Nat.not_lt_zero k))
  intro j
  induction j with
  | zero =>
    intro i I8 hi f8 k8
    exact b_X11_chapel_288 (q_t (nI_le (by omega) (by omega)) (mask (tM (dT D)) 0 I8 (by omega) f8 (fun k hk _ => k8 k (by omega)) (fun c hc => absurd hc (Nat.not_lt_zero c))))
  | succ j ih =>
    intro i I8 hi f8 k8
    refine b_X11_chapel_288 (q_f (nI_ge (by omega) (by omega)) ⟨vp_in_nI (by omega) (by omega), vp_in_nI (by omega) (by omega), ?_⟩)
    rw [nI_clamp (by omega), nI_add]
    refine ih (i + 1) _ (by omega) (fr_u (by simp) f8) (fun k hk => ?_)
    by_cases q : k = i
    · rw [q, pm_us, f8 99 (by decide)]
    · rw [pm_uk q]; exact k8 k (by omega)
/-- the drafts are taken -/
theorem M_take {I0 : Nat → Nat → Int32} (hq : ∀ I', (∀ b, b < 86 ∨ 91 < b → I' b = I0 b) → (∀ k, k < 10 → I' 86 k = I0 94 k) → (∀ k, k < 5 → I' 87 k = I0 95 k) → (∀ k, k < 5 → I' 88 k = I0 96 k) → (∀ k, k < 5 → I' 89 k = I0 97 k) → (∀ k, k < 15 → I' 90 k = I0 98 k) → (∀ k, k < 1400 → I' 91 k = I0 100 k) → t_X11_chapel_288 (d + 2) L fz t Q (nI 0) I' J) : pm_Ev (d + 2) 122 [.ref 85, .ref 94, .ref 86] (pm_hp L fz t I0 J) (K_X11_chapel_226 (d + 2) fz t Q) := by
  refine S_copies (d := d + 1) (n0 := 10) (Or.inl ⟨rfl, rfl, rfl⟩) fun I2 f2 c2 => kb_X11_chapel_226 ?_
  refine S_copies (d := d + 1) (n0 := 5) (Or.inr (Or.inl ⟨rfl, rfl, rfl⟩)) fun I3 f3 c3 => kb_X11_chapel_238 ?_
  refine S_copies (d := d + 1) (n0 := 5) (Or.inr (Or.inr (Or.inl ⟨rfl, rfl, rfl⟩))) fun I4 f4 c4 => kb_X11_chapel_250 ?_
  refine S_copies (d := d + 1) (n0 := 5) (Or.inr (Or.inr (Or.inr (Or.inl ⟨rfl, rfl, rfl⟩)))) fun I5 f5 c5 => kb_X11_chapel_262 ?_
  refine S_copies (d := d + 1) (n0 := 15) (Or.inr (Or.inr (Or.inr (Or.inr (Or.inl ⟨rfl, rfl, rfl⟩))))) fun I6 f6 c6 => kb_X11_chapel_274 ?_
  refine S_copies (d := d + 1) (n0 := 1400) (Or.inr (Or.inr (Or.inr (Or.inr (Or.inr (Or.inl ⟨rfl, rfl, rfl⟩)))))) fun I7 f7 c7 => kb_X11_chapel_286 ?_
  have u2 : ∀ b, b ≠ 86 → I2 b = I0 b := fun b hb => f2 b (by simpa using hb)
  have u3 : ∀ b, b ≠ 87 → I3 b = I2 b := fun b hb => f3 b (by simpa using hb)
  have u4 : ∀ b, b ≠ 88 → I4 b = I3 b := fun b hb => f4 b (by simpa using hb)
  have u5 : ∀ b, b ≠ 89 → I5 b = I4 b := fun b hb => f5 b (by simpa using hb)
  have u6 : ∀ b, b ≠ 90 → I6 b = I5 b := fun b hb => f6 b (by simpa using hb)
  have u7 : ∀ b, b ≠ 91 → I7 b = I6 b := fun b hb => f7 b (by simpa using hb)
  refine hq I7 (fun b hb => ?_) (fun k hk => ?_) (fun k hk => ?_) (fun k hk => ?_) (fun k hk => ?_) (fun k hk => ?_) (fun k hk => ?_)
  · rw [u7 b (by omega), u6 b (by omega), u5 b (by omega), u4 b (by omega), u3 b (by omega), u2 b (by omega)]
  · rw [u7 86 (by decide), u6 86 (by decide), u5 86 (by decide), u4 86 (by decide), u3 86 (by decide), c2 k hk]
  · rw [u7 87 (by decide), u6 87 (by decide), u5 87 (by decide), u4 87 (by decide), c3 k hk, u2 95 (by decide)]
  · rw [u7 88 (by decide), u6 88 (by decide), u5 88 (by decide), c4 k hk, u3 96 (by decide), u2 96 (by decide)]
  · rw [u7 89 (by decide), u6 89 (by decide), c5 k hk, u4 97 (by decide), u3 97 (by decide), u2 97 (by decide)]
  · rw [u7 90 (by decide), c6 k hk, u5 98 (by decide), u4 98 (by decide), u3 98 (by decide), u2 98 (by decide)]
  · rw [c7 k hk, u6 100 (by decide), u5 100 (by decide), u4 100 (by decide), u3 100 (by decide), u2 100 (by decide)]
theorem M_tail (hD : mD D C I) (ho : okD D) (hC : C.length ≤ 1400) (h15 : I 85 15 = nI 0) (hq : ∀ I', mT (dT D) I' → I' 85 3 = nI (wp (wB D)) → mR (I' 103) 0 (tM (dT D)) (wB D) → I' 85 48 = nI 0 → I' 85 55 = nI 0 → I' 85 61 = nI 0 → (∀ b, b ≠ 85 → (b < 86 ∨ 91 < b) → b ≠ 103 → I' b = I b) → (∀ k, k = 0 ∨ (6 < k ∧ k < 48) → I' 85 k = I 85 k) → Q (.inl (some (.int (nI 0)))) (pm_hp L fz t I' J)) : pm_Ev (d + 2) 134 [.ref 85] (pm_hp L fz t I J) (K_X11_chapel_135 (d + 2) fz t Q) := by
  obtain ⟨h26, ⟨h27, h28, h29⟩, ⟨⟨h32, h100⟩, h30, h31⟩, h94, h95, h98, hm⟩ := hD
  have hM := ho.1.2.1
  have hG := ho.1.2.2.1
  have hN2 := ho.1.1
  refine S_good (d := d + 1) h15 (kb_X11_chapel_135 (q_t' nI_01 ?_))
  have key : ∀ v, v = nI (tN (dT D)) → pm_Ev (d + 2) 122 [.ref 85, .ref 94, .ref 86] (pm_hp L fz t (pm_u (pm_u (pm_u (pm_u (pm_u (pm_u I 85 1 v) 85 2 (I 85 27)) 85 3 (I 85 28)) 85 4 (I 85 29)) 85 5 (I 85 30)) 85 6 (I 85 31)) J) (K_X11_chapel_226 (d + 2) fz t Q) := by
    intro v hv
    have o1 : ∀ b, b ≠ 85 → pm_u (pm_u (pm_u (pm_u (pm_u (pm_u I 85 1 v) 85 2 (I 85 27)) 85 3 (I 85 28)) 85 4 (I 85 29)) 85 5 (I 85 30)) 85 6 (I 85 31) b = I b := fun b hb => by rw [pm_ua hb, pm_ua hb, pm_ua hb, pm_ua hb, pm_ua hb, pm_ua hb]
    have y1 : pm_u (pm_u (pm_u (pm_u (pm_u (pm_u I 85 1 v) 85 2 (I 85 27)) 85 3 (I 85 28)) 85 4 (I 85 29)) 85 5 (I 85 30)) 85 6 (I 85 31) 85 1 = nI (tN (dT D)) := by rw [pm_uk (by decide), pm_uk (by decide), pm_uk (by decide), pm_uk (by decide), pm_uk (by decide), pm_us, hv]
    have y2 : pm_u (pm_u (pm_u (pm_u (pm_u (pm_u I 85 1 v) 85 2 (I 85 27)) 85 3 (I 85 28)) 85 4 (I 85 29)) 85 5 (I 85 30)) 85 6 (I 85 31) 85 2 = nI (tM (dT D)) := by rw [pm_uk (by decide), pm_uk (by decide), pm_uk (by decide), pm_uk (by decide), pm_us, h27]
    have y3 : pm_u (pm_u (pm_u (pm_u (pm_u (pm_u I 85 1 v) 85 2 (I 85 27)) 85 3 (I 85 28)) 85 4 (I 85 29)) 85 5 (I 85 30)) 85 6 (I 85 31) 85 3 = nI (wp (dW D)) := by rw [pm_uk (by decide), pm_uk (by decide), pm_uk (by decide), pm_us, h28]
    have y4 : pm_u (pm_u (pm_u (pm_u (pm_u (pm_u I 85 1 v) 85 2 (I 85 27)) 85 3 (I 85 28)) 85 4 (I 85 29)) 85 5 (I 85 30)) 85 6 (I 85 31) 85 4 = nI (tG (dT D)) := by rw [pm_uk (by decide), pm_uk (by decide), pm_us, h29]
    have y5 : pm_u (pm_u (pm_u (pm_u (pm_u (pm_u I 85 1 v) 85 2 (I 85 27)) 85 3 (I 85 28)) 85 4 (I 85 29)) 85 5 (I 85 30)) 85 6 (I 85 31) 85 5 = I 85 30 := by rw [pm_uk (by decide), pm_us]
    have y6 : pm_u (pm_u (pm_u (pm_u (pm_u (pm_u I 85 1 v) 85 2 (I 85 27)) 85 3 (I 85 28)) 85 4 (I 85 29)) 85 5 (I 85 30)) 85 6 (I 85 31) 85 6 = I 85 31 := pm_us
    have yo : ∀ k, k = 0 ∨ 6 < k → pm_u (pm_u (pm_u (pm_u (pm_u (pm_u I 85 1 v) 85 2 (I 85 27)) 85 3 (I 85 28)) 85 4 (I 85 29)) 85 5 (I 85 30)) 85 6 (I 85 31) 85 k = I 85 k := fun k hk => by rw [pm_uk (by omega), pm_uk (by omega), pm_uk (by omega), pm_uk (by omega), pm_uk (by omega), pm_uk (by omega)]
    generalize pm_u (pm_u (pm_u (pm_u (pm_u (pm_u I 85 1 v) 85 2 (I 85 27)) 85 3 (I 85 28)) 85 4 (I 85 29)) 85 5 (I 85 30)) 85 6 (I 85 31) = I0 at *
    refine M_take fun I7 eo e86 e87 e88 e89 e90 e91 => ?_
    have e85 : I7 85 = I0 85 := eo 85 (by omega)
    refine M_fill (D := D) ⟨?_, ?_, ?_, ?_, ?_, fun c hc => ?_, fun f hf => ⟨?_, ?_, ?_⟩, fun f hf k hk => ?_⟩ ?_ ho ?_ fun I' a1 a2 a3 a4 a5 a6 a7 a8 => hq I' a1 a2 a3 a4 a5 a6 (fun b h1 h2 h3 => ?_) (fun k hk => ?_)
    · rw [e85]; exact y1
    · rw [e85]; exact y2
    · rw [e85]; exact y4
    · rw [e85, y5]; exact mF2_mF h30 h100 hC (fun k hk => by rw [e91 k hk, o1 100 (by decide)])
    · rw [e85, y6]; exact mF2_mF h31 h100 hC (fun k hk => by rw [e91 k hk, o1 100 (by decide)])
    · rw [e86 c (by omega), o1 94 (by decide)]; exact h94 c hc
    · rw [e87 f (by omega), o1 95 (by decide)]; exact (h95 f hf).1
    · rw [e88 f (by omega), o1 96 (by decide)]; exact (h95 f hf).2.1
    · rw [e89 f (by omega), o1 97 (by decide)]; exact (h95 f hf).2.2
    · rw [e90 _ (by omega), o1 98 (by decide)]; exact h98 f hf k hk
    · rw [eo 99 (by omega), o1 99 (by decide)]; exact hm
    · rw [e85]; exact y3
    · rw [a7 b h1 h3, eo b h2, o1 b h1]
    · rw [a8 k (by omega), e85]; exact yo k (by omega)
  refine ⟨fun q => key _ ?_, fun q => key _ ?_⟩
  · cases b : dB D with
    | true => rw [h26, b]; rfl
    | false => exact absurd (by rw [h26, b]; rfl) q
  · cases b : dB D with
    | true =>
      rw [h26, b] at q
      exact absurd q (nI_ne_m1 (by omega))
    | false => rw [ho.2.2.2.2.2.1 b]
end Spec
