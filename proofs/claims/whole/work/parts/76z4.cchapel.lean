/-! the class reads a chapel -/
def gB (B : List Nat) : Nat → Nat := fun i => B.getD i 0
theorem gB_lt {B : List Nat} (h : ∀ x, x ∈ B → x < 256) (i : Nat) : gB B i < 256 := by
  unfold gB
  by_cases q : i < B.length
  · rw [List.getD_eq_getElem?_getD, List.getElem?_eq_getElem q]
    exact h _ (List.getElem_mem q)
  · rw [List.getD_eq_getElem?_getD, List.getElem?_eq_none (by omega)]
    decide
/-- nothing is told yet -/
def s0 (D : Dr) : Prop := dB D = false ∧ tM (dT D) = 0 ∧ wp (dW D) = 0 ∧ tG (dT D) = 0 ∧ tU (dT D) = [] ∧ tH (dT D) = []
section Spec
variable {d L : Nat} {fz t : Bool} {Q : pm_R → pm_H → Prop} {I : Nat → Nat → Int32} {J : Nat → Nat → Int64} {g : Nat → Nat} {N p a : Nat} {D : Dr}
theorem Rd_ok {D' : Dr} {p' : Nat} : ∀ (f p : Nat) (D : Dr), p ≤ N → okD D → Rd (tK g N) (tnx g N) f p D (.inl (D', p')) → okD D' ∧ p' ≤ N
  | 0, _, _, _, _, h => absurd h id
  | f + 1, p, D, hp, ho, h => by
    rcases h with ⟨_, h⟩ | ⟨_, ⟨x, _, h⟩ | ⟨D1, p1, h1, h⟩⟩
    · cases h; exact ⟨ho, hp⟩
    · cases h
    · obtain ⟨o1, _, o3⟩ := Ln_ok hp ho h1
      exact Rd_ok f p1 D1 o3 o1 h
theorem kd_0 (hp : p ≤ N) : kd (tK g N p) = 0 ↔ tK g N p = kE := by
  constructor
  · intro h
    rcases tk_cases (g := g) hp with ⟨_, e, _⟩ | ⟨_, _, _, _, e⟩ | ⟨_, _, _, _, e⟩ | ⟨_, _, _, _, e⟩
    · exact e
    · rw [e] at h; cases h
    · rw [e] at h; split at h <;> cases h
    · rw [e] at h; cases h
  · intro h; rw [h]; rfl
theorem tk_end (hp : p ≤ N) (h : N ≤ p) : tK g N p = kE := if_pos (Nat.le_trans h tst_le)
theorem C_clear (ha : a = 55 ∨ a = 70) (hw : wr1 (a + 3) I) (hq : ∀ I' D, okD D → s0 D → cD a D I' → (∀ b, b < a ∨ a + 15 ≤ b → I' b = I b) → Q (.inl none) (pm_hp L fz t I' J)) : pm_Ev (d + 2) 69 [.ref a] (pm_hp L fz t I J) Q := by
  refine e_X7_clear ha (e_X7_useThreads ha (kb_X7_clear_11 ha (S_fill (d := d) (n0 := 15) (by omega) fun I1 f1 v1 => kb_X7_clear_34 ha (S_fill (d := d) (n0 := 5) (by omega) fun I2 f2 _ => kb_X7_clear_42 ha (e_X1_clear (by omega) (kb_X7_clear_49 ha (e_X1_clear (by omega) (kb_X7_clear_56 ?_))))))))
  have ea : ∀ k, I2 a k = pm_u (pm_u (pm_u (pm_u (pm_u (pm_u I a 10 (nI 0)) a 11 (nI 8)) a 12 ((nI 1 <<< (nI 8 &&& 31)) - nI 1)) a 13 (nI 0)) a 14 (nI 0)) a 15 (nI 0) a k := fun k => by rw [f2 a (by simp), f1 a (by simp)]
  have eo : ∀ b, b ≠ a → b ≠ a + 7 → b ≠ a + 8 → I2 b = I b := fun b h1 h2 h3 => by rw [f2 b (by simp; omega), f1 b (by simp; omega), pm_ua h1, pm_ua h1, pm_ua h1, pm_ua h1, pm_ua h1, pm_ua h1]
  refine hq _ (false, (8, 0, 0, [], [], (fun _ => 0), (fun _ => 0), (fun _ => 0), (fun _ => 0), (fun _ => nI 0)), (I (a + 1), (fun c => (I (a + 3) c).toNatClampNeg), (fun _ => 0), 0, nI 0, nI 0)) ?_ ⟨rfl, rfl, rfl, rfl, rfl, rfl⟩ ?_ (fun b hb => ?_)
  · refine ⟨⟨(show 2 ≤ 8 ∧ 8 ≤ 12 by decide), (show 0 ≤ 10 by decide), (show 0 ≤ 5 by decide), Or.inl rfl, Or.inl rfl, fun f hf => absurd hf (Nat.not_lt_zero f)⟩, fun c hc => ?_, fun k hk => absurd hk (Nat.not_lt_zero k), Nat.zero_le _, fun _ _ => rfl, fun _ => rfl, rfl, rfl⟩
    show (I (a + 3) c).toNatClampNeg ≤ 9
    obtain ⟨w, h9, e⟩ := hw c hc
    rw [e, nI_clamp (by omega)]; exact h9
  · have z : ∀ b k, b ≠ a + 9 → b ≠ a + 12 → pm_u (pm_u (pm_u (pm_u I2 (a + 9) 2 (nI 0)) (a + 9) 3 (nI 0)) (a + 12) 2 (nI 0)) (a + 12) 3 (nI 0) b k = I2 b k := fun b k h1 h2 => by rw [pm_ua h2, pm_ua h2, pm_ua h1, pm_ua h1]
    refine ⟨?_, ⟨?_, ?_, ?_, ?_, ⟨Nat.zero_le _, ?_, fun v _ => ?_, fun i hi => absurd hi (Nat.not_lt_zero i)⟩, ⟨Nat.zero_le _, ?_, fun v _ => ?_, fun i hi => absurd hi (Nat.not_lt_zero i)⟩, fun c hc => absurd hc (Nat.not_lt_zero c), fun c hc => absurd hc (Nat.not_lt_zero c), fun c hc => absurd hc (Nat.not_lt_zero c)⟩, ?_, fun c hc => ?_, fun c hc => ?_, fun k hk => absurd hk (Nat.not_lt_zero k), fun x hx => ?_⟩
    · rw [z a 10 (by omega) (by omega), ea, pm_uk (by omega), pm_uk (by omega), pm_uk (by omega), pm_uk (by omega), pm_uk (by omega), pm_us]; rfl
    · rw [z a 11 (by omega) (by omega), ea, pm_uk (by omega), pm_uk (by omega), pm_uk (by omega), pm_uk (by omega), pm_us]; rfl
    · rw [z a 12 (by omega) (by omega), ea, pm_uk (by omega), pm_uk (by omega), pm_uk (by omega), pm_us]; rfl
    · rw [z a 13 (by omega) (by omega), ea, pm_uk (by omega), pm_uk (by omega), pm_us]; rfl
    · rw [z a 15 (by omega) (by omega), ea, pm_us]; rfl
    · rw [pm_ua (by omega), pm_ua (by omega), pm_uk (by omega), pm_us]; rfl
    · rw [pm_ua (by omega), pm_ua (by omega), pm_us]; exact b_0 v
    · rw [pm_uk (by omega), pm_us]; rfl
    · rw [pm_us]; exact b_0 v
    · rw [z a 14 (by omega) (by omega), ea, pm_uk (by omega), pm_us]; rfl
    · rw [z (a + 1) c (by omega) (by omega), eo (a + 1) (by omega) (by omega) (by omega)]; rfl
    · rw [z (a + 3) c (by omega) (by omega), eo (a + 3) (by omega) (by omega) (by omega)]
      show I (a + 3) c = nI (I (a + 3) c).toNatClampNeg
      obtain ⟨w, h9, e⟩ := hw c hc
      rw [e, nI_clamp (by omega)]
    · rw [z (a + 8) x (by omega) (by omega), f2 (a + 8) (by simp), v1 x hx]; rfl
  · rw [pm_ua (by omega), pm_ua (by omega), pm_ua (by omega), pm_ua (by omega)]; exact eo b (by omega) (by omega) (by omega)
theorem C_lines {P : Lr → Prop} (hg : ∀ i, g i < 256) (hN : N ≤ 700) (ha : a = 55 ∨ a = 70) (hq : ∀ I' r, P r → cAf g N a r I I' → Q (.inl (some (.int (I' 1 8)))) (pm_hp L fz t I' J)) : ∀ j i p D I1, i + j = 700 → i ≤ p → p ≤ N → okD D → cG g N p I1 → cD a D I1 → lF a I I1 → (∀ r, Rd (tK g N) (tnx g N) (j + 1) p D r → P r) → t_X3_read_40 (d + 52) L fz t Q a (nI i) I1 J := by
  intro j
  induction j with
  | zero =>
    intro i p D I1 hj hi hp ho g1 c1 l1 hP
    exact b_X3_read_40 ha (q_t (nI_le (by omega) (by omega)) (hq I1 (.inl (D, p)) (hP _ (Or.inl ⟨tk_end hp (by omega), rfl⟩)) ⟨l1, g1, c1⟩))
  | succ j ih =>
    intro i p D I1 hj hi hp ho g1 c1 l1 hP
    have hkd := kd_lt (g := g) hp
    have h5 : I1 1 5 = nI 0 ↔ tK g N p = kE := by rw [g1.1.2.2.2.1, nI_eq (by omega) (by omega)]; exact kd_0 hp
    refine b_X3_read_40 ha (q_f (nI_ge (by omega) (by omega)) (q_f' g1.2 ⟨fun q => ?_, fun q => ?_⟩))
    · exact hq I1 (.inl (D, p)) (hP _ (Or.inl ⟨h5.mp q, rfl⟩)) ⟨l1, g1, c1⟩
    · have hE : tK g N p ≠ kE := fun h => q (h5.mpr h)
      refine C_line (d := d) hg hN ha hp g1 c1 ho fun I2 r hL hA => kb_X3_read_66 ha ?_
      rw [nI_add]
      rcases r with ⟨D', p'⟩ | ⟨y, q'⟩
      · obtain ⟨o1, o2, o3⟩ := Ln_ok hp ho hL
        exact ih (i + 1) p' D' I2 (by omega) (by omega) o3 o1 hA.2.1 hA.2.2 (lF_t l1 hA.1) (fun r hr => hP r (Or.inr ⟨hE, Or.inr ⟨D', p', hL, hr⟩⟩))
      · have := hq I2 (.inr (y, q')) (hP _ (Or.inr ⟨hE, Or.inl ⟨(y, q'), hL, rfl⟩⟩)) ⟨lF_t l1 hA.1, hA.2⟩
        exact b_X3_read_40 ha ⟨fun _ => this, fun _ => q_t' (bd_ne hA.2.1) this⟩
theorem C_read {B : List Nat} (hB : cB B I) (h256 : ∀ x, x ∈ B → x < 256) (hL : B.length ≤ 700) {n : Nat} (hn : n ≤ B.length) (ha : a = 55 ∨ a = 70) (hw : wr1 (a + 3) I)
    (hq : ∀ I' D0 r, okD D0 → s0 D0 → Rd (tK (gB B) n) (tnx (gB B) n) 701 0 D0 r → (∀ b, b ≠ 1 → (b < a ∨ a + 15 ≤ b) → I' b = I b) → (match r with | .inl (D, p) => cG (gB B) n p I' ∧ cD a D I' | .inr (y, q) => cBd (gB B) n y q I' ∧ wr1 (a + 3) I') → Q (.inl (some (.int (I' 1 8)))) (pm_hp L fz t I' J)) : pm_Ev (d + 53) 26 [.ref 1, .int (nI n), .ref a] (pm_hp L fz t I J) Q := by
  refine e_X3_read ha ?_
  have hc : (if nI 0 < (if nI 700 < nI n then nI 700 else nI n) then (if nI 700 < nI n then nI 700 else nI n) else nI 0) = nI n := by
    rw [if_neg (show ¬ nI 700 < nI n from fun q => by rw [nI_ltI (by omega) (by omega)] at q; omega)]
    by_cases h0 : n = 0
    · rw [h0]; exact ite_self _
    · rw [if_pos (nI_lt (by omega) (by omega))]
  rw [hc]
  have hg := gB_lt h256
  have u : ∀ b, b ≠ 1 → pm_u (pm_u (pm_u (pm_u I 1 2 (nI n)) 1 4 (nI 0)) 1 8 (nI 0)) 1 9 (-1 : Int32) b = I b := fun b hb => by rw [pm_ua hb, pm_ua hb, pm_ua hb, pm_ua hb]
  refine C_clear (d := d + 50) ha (fun c hc => by rw [u (a + 3) (by omega)]; exact hw c hc) fun I2 D0 o0 z0 c0 e2 => kb_X3_read_34 ha ?_
  have t2 : cTp (gB B) n I2 := by
    refine ⟨?_, fun i hi => ?_⟩
    · rw [e2 1 (by omega), pm_uk (by omega), pm_uk (by omega), pm_uk (by omega), pm_us]
    · rw [e2 2 (by omega), u 2 (by omega)]; exact hB.2 i (by omega)
  have a4 : I2 1 4 = nI 0 := by rw [e2 1 (by omega), pm_uk (by omega), pm_uk (by omega), pm_us]
  have a8 : I2 1 8 = nI 0 := by rw [e2 1 (by omega), pm_uk (by omega), pm_us]
  refine S_advance (d := d + 49) hg (by omega) t2 (p := 0) (Nat.zero_le _) a4 fun I3 k3 f3 => kb_X3_read_38 ha ?_
  refine C_lines (I := I2) (P := fun r => Rd (tK (gB B) n) (tnx (gB B) n) 701 0 D0 r) hg (by omega) ha (fun I' r hr hA => hq I' D0 r o0 z0 hr (fun b h1 h2 => ?_) hA.2) 700 0 0 D0 I3 rfl (Nat.le_refl _) (Nat.zero_le _) o0 ⟨k3, (f3.2 8 (by omega)).trans a8⟩ (cD_1 ha c0 f3.1) (lF_a f3) (fun r hr => hr)
  rw [hA.1.1 b h1 h2, e2 b h2, u b h1]
/-- the work as it begins -/
def wB (D : Dr) : Wk := ((fun c => wo (dW D) c &&& al (tN (dT D))), ww (dW D), wl (dW D), wp (dW D), nI 0, nI 0)
theorem C_begin (ha : a = 55 ∨ a = 70) (hD : cD a D I) (h12 : wp (dW D) ≤ 12) (hq : ∀ I', fr [23, 24, 25, 26] I I' → cW 23 (wB D) I' → Q (.inl none) (pm_hp L fz t I' J)) : pm_Ev (d + 1) 77 [.ref 23, .ref a] (pm_hp L fz t I J) Q := by
  refine e_X9_begin (Or.inl rfl) ha ?_
  obtain ⟨h1, ⟨t1, t2, t3, t4, t5, t6, t7, t8, t9⟩, h3, h4, h5, h6, h7⟩ := hD
  suffices H : ∀ j i I1, i + j = 10 → fr [24] I I1 → (∀ c, c < i → I1 24 c = wo (dW D) c &&& al (tN (dT D))) → t_X9_begin_2 d L fz t Q 23 a (nI i) I1 J from H 10 0 I rfl fr_r (fun c hc => absurd hc (Nat.not_lt_zero c))
  intro j
  induction j with
  | zero =>
    intro i I1 hi f1 e1
    refine b_X9_begin_2 (Or.inl rfl) ha (q_t (nI_le (by omega) (by omega)) (hq _ ?_ ⟨?_, ?_, ?_, fun c hc => ?_, fun c hc => ?_, fun k hk => ?_⟩))
    · exact fr_u (by simp) (fr_u (by simp) (fr_u (by simp) (fr_ur (by simp) (fr_ur (by simp) (fr_m f1 (by simp))))))
    · rw [pm_uk (by omega), pm_uk (by omega), pm_us, f1 a (by simp; omega)]; exact h3
    · rw [pm_uk (by omega), pm_us]; rfl
    · rw [pm_us]; rfl
    · rw [pm_ua (by omega), pm_ua (by omega), pm_ua (by omega), pm_ura (by omega), pm_ura (by omega)]; exact e1 c (by omega)
    · rw [pm_ua (by omega), pm_ua (by omega), pm_ua (by omega), pm_ura (by omega), pm_urs, cpy_0 hc, f1 (a + 3) (by simp; omega)]; exact h5 c hc
    · have hk' : k < wp (dW D) := hk
      rw [pm_ua (by omega), pm_ua (by omega), pm_ua (by omega), pm_urs, cpy_0 (by omega), f1 (a + 4) (by simp; omega)]; exact h6 k hk
  | succ j ih =>
    intro i I1 hi f1 e1
    refine b_X9_begin_2 (Or.inl rfl) ha (q_f (nI_ge (by omega) (by omega)) ⟨vp_in_nI (by omega) (by omega), vp_in_nI (by omega) (by omega), ?_⟩)
    rw [nI_clamp (by omega), nI_add, f1 a (by simp; omega), f1 (a + 1) (by simp; omega), h4 i (by omega), t2]
    refine ih (i + 1) _ (by omega) (fr_u (by simp) f1) (fun c hc => ?_)
    by_cases q : c = i
    · rw [q, pm_us]
    · rw [pm_uk q]; exact e1 c (by omega)
end Spec
