/-! the class reads lines: figures, rules, whole lines -/
def Fx (a f x w n : Nat) (R : Nat → Int32) (I I1 : Nat → Nat → Int32) : Prop := lF a I I1 ∧ (∀ j, j < 5 ∨ 8 < j → j < 15 → I1 (a + j) = I (a + j)) ∧ I1 (a + 5) = fu (I (a + 5)) f (nI x) ∧ I1 (a + 6) = fu (I (a + 6)) f (nI w) ∧ (∀ f', f' ≠ f → I1 (a + 7) f' = I (a + 7) f') ∧ (n ≠ 0 → I1 (a + 7) f = nI n) ∧ ∀ y, y < 15 → I1 (a + 8) y = R y
section Spec
variable {d L : Nat} {fz t : Bool} {Q : pm_R → pm_H → Prop} {I : Nat → Nat → Int32} {J : Nat → Nat → Int64} {g : Nat → Nat} {N p a : Nat} {D : Dr}
theorem C_fig {x w : Nat} {P : Lr → Prop} (hg : ∀ i, g i < 256) (hN : N ≤ 700) (ha : a = 55 ∨ a = 70) (hD : cD a D I) (ho : okD D) (hG5 : tG (dT D) < 5) (hw : 1 ≤ w ∧ w ≤ 4) (hq : ∀ I' r, P r → cAf g N a r I I' → Q (.inl none) (pm_hp L fz t I' J)) :
    ∀ m n p1 R I1, n + m = 3 → p1 ≤ N → cG g N p1 I1 → Fx a (tG (dT D)) x w n R I I1 → (∀ y, y < 3 * tG (dT D) → R y = tR (dT D) y) → (∀ r, Rw (tK g N) (tnx g N) (tG (dT D)) w (fun n p R r => r = .inl (uG D x w n R, p)) m n p1 R r → P r) → t_X3_readFigure_50 (d + 4) L fz t Q a (nI (tG (dT D))) (nI w) (nI n) I1 J := by
  have e15 : I a 15 = nI (tG (dT D)) := hD.2.1.2.2.2.1
  have fin : ∀ n p1 R I1, n ≠ 0 → cG g N p1 I1 → Fx a (tG (dT D)) x w n R I I1 → (∀ y, y < 3 * tG (dT D) → R y = tR (dT D) y) → P (.inl (uG D x w n R, p1)) → Q (.inl none) (pm_hp L fz t (pm_u I1 a 15 (I1 a 15 + nI 1)) J) := by
    intro n p1 R I1 hn g1 hF hR hP
    obtain ⟨l1, e1, e5, e6, e7, e7', e8⟩ := hF
    have e0 : I1 a = I a := e1 0 (by omega) (by omega)
    refine hq _ _ hP ⟨lF_u l1 (by omega) (by omega) (by omega), cG_u g1 (by omega), cD_G hD hR hG5 (fun j h1 h2 h3 => ?_) (fun k hk => ?_) ?_ ?_ ?_ (fun f' hf' => ?_) ?_ (fun y hy => ?_)⟩
    · rw [pm_ua (by omega)]; exact e1 j h2 h3
    · rw [pm_uk hk, e0]
    · rw [pm_us, e0, e15, nI_add]
    · rw [pm_ua (by omega)]; exact e5
    · rw [pm_ua (by omega)]; exact e6
    · rw [pm_ua (by omega)]; exact e7 f' hf'
    · rw [pm_ua (by omega)]; exact e7' hn
    · rw [pm_ua (by omega)]; exact e8 y hy
  have bad : ∀ k y q I1, cBd g N y q I1 → wr1 (a + 3) I1 → lF a I I1 → P (.inr (y, q)) → t_X3_readFigure_50 (d + 4) L fz t Q a (nI (tG (dT D))) (nI w) (nI k) I1 J := by
    intro k y q I1 b1 w1 l1 hP
    have := hq _ _ hP ⟨lF_u (k := 15) (v := I1 a 15 + nI 1) l1 (by omega) (Nat.le_refl a) (by omega), cBd_u b1 (by omega), wr1_o w1 (by omega)⟩
    exact b_X3_readFigure_50 ha ⟨fun _ => this, fun _ => q_t' (bd_ne b1) this⟩
  intro m
  induction m with
  | zero =>
    intro n p1 R I1 hm hp1 g1 hF hR hP
    exact b_X3_readFigure_50 ha (q_t (nI_le (by omega) (by omega)) (fin n p1 R I1 (by omega) g1 hF hR (hP _ rfl)))
  | succ m ih =>
    intro n p1 R I1 hm hp1 g1 hF hR hP
    have hkd := kd_lt (g := g) hp1
    have read : isn (tK g N p1) ∨ n = 0 → pm_Ev (d + 4) 36 [.ref 1, .int (nI 0), .int ((nI 1 <<< (nI w &&& 31)) - nI 1)] (pm_hp L fz t I1 J) (K_X3_readFigure_96 (d + 4) fz t Q a (nI (tG (dT D))) (nI w) (nI n) ((nI (tG (dT D)) * nI 3) + nI n)) := by
      intro hi
      have h2 : 2 ^ w ≤ 2 ^ 4 := Nat.pow_le_pow_right (by omega) hw.2
      rw [show (nI 1 <<< (nI w &&& 31)) - nI 1 = nI (2 ^ w - 1) from al_nI w (by omega), nI_mul, nI_add]
      obtain ⟨l1, e1, e5, e6, e7, e7', e8⟩ := hF
      refine S_readNumber (d := d) hg hN hp1 g1 (by omega) (fun I2 v k1 v1 v2 g2 f2 => kb_X3_readFigure_96 ha ⟨vp_in_nI (by omega) (by omega), vp_in_nI (by omega) (by omega), ?_⟩) (fun I2 y n1 b2 f2 => kb_X3_readFigure_96 ha ⟨vp_in_nI (by omega) (by omega), vp_in_nI (by omega) (by omega), ?_⟩)
      · rw [nI_clamp (by omega), nI_clamp (by omega), nI_add]
        refine ih (n + 1) (tnx g N p1) (fu R (3 * tG (dT D) + n) (nI v)) _ (by omega) (nx_le p1 hp1) (cG_u (cG_u g2 (by omega)) (by omega)) ⟨?_, fun j h1 h3 => ?_, ?_, ?_, fun f' hf' => ?_, fun _ => ?_, fun y hy => ?_⟩ (fun y hy => (fu_o (by omega)).trans (hR y hy)) (fun r hr => hP r (Or.inr ⟨hi, Or.inl ⟨v, k1, v1, v2, hr⟩⟩))
        · exact lF_u (lF_u (lF_t l1 (lF_a f2)) (by omega) (by omega) (by omega)) (by omega) (by omega) (by omega)
        · rw [pm_ua (by omega), pm_ua (by omega), f2.1 _ (by omega)]; exact e1 j h1 h3
        · rw [pm_ua (by omega), pm_ua (by omega), f2.1 _ (by omega)]; exact e5
        · rw [pm_ua (by omega), pm_ua (by omega), f2.1 _ (by omega)]; exact e6
        · rw [pm_uk hf', pm_ua (by omega), f2.1 _ (by omega)]; exact e7 f' hf'
        · rw [pm_us]
        · rw [pm_ua (by omega), pm_fu, f2.1 _ (by omega), show tG (dT D) * 3 + n = 3 * tG (dT D) + n by omega]
          exact fu_e fun _ => e8 y hy
      · rw [nI_clamp (by omega), nI_clamp (by omega), nI_add]
        refine bad (n + 1) y p1 _ (cBd_u (cBd_u b2 (by omega)) (by omega)) (wr1_o (wr1_o (wr1_f ?_ f2.1 (by omega)) (by omega)) (by omega)) ?_ (hP _ (Or.inr ⟨hi, Or.inr ⟨y, n1, rfl⟩⟩))
        · intro c hc
          rw [e1 3 (by omega) (by omega)]
          exact cD_w hD ho c hc
        · exact lF_u (lF_u (lF_t l1 (lF_f f2)) (by omega) (by omega) (by omega)) (by omega) (by omega) (by omega)
    refine b_X3_readFigure_50 ha (q_f (nI_ge (by omega) (by omega)) ?_)
    rw [g1.2, g1.1.2.2.2.1]
    refine q_f' rfl (q_eq (by omega) (by omega) (fun h0 => read (Or.inr h0)) (fun h0 => q_ne (by omega) (by omega) (fun hk => ?_) (fun hk => read (Or.inl ((kd_2 hp1).mp hk)))))
    exact fin n p1 R I1 h0 g1 hF hR (hP _ (Or.inl ⟨fun q => hk ((kd_2 hp1).mpr q), h0, rfl⟩))
theorem C_figure (hg : ∀ i, g i < 256) (hN : N ≤ 700) (ha : a = 55 ∨ a = 70) (hp : p ≤ N) (hG : cG g N p I) (hD : cD a D I) (ho : okD D) (hq : ∀ I' r, Bfi (tK g N) (tnx g N) p D r → cAf g N a r I I' → Q (.inl none) (pm_hp L fz t I' J)) : pm_Ev (d + 5) 42 [.ref 1, .ref a] (pm_hp L fz t I J) Q := by
  have hm := ho.1.2.2.1
  have e15 : I a 15 = nI (tG (dT D)) := hD.2.1.2.2.2.1
  refine e_X3_readFigure ha ?_
  rw [e15]
  refine q_lt (by omega) (by omega) (fun hM => ?_) (fun hM => ?_)
  · have n1 := nx_le (g := g) p hp
    have n2 := nx_le (g := g) _ n1
    have n3 := nx_le (g := g) _ n2
    have badQ : ∀ y q I1, cBd g N y q I1 → wr1 (a + 3) I1 → lF a I I1 → Bfi (tK g N) (tnx g N) p D (.inr (y, q)) → t_X3_readFigure_50 (d + 4) L fz t Q a (nI (tG (dT D))) (nI 1) (nI 0) I1 J := by
      intro y q I1 b1 w1 l1 hP
      have := hq _ _ hP ⟨lF_u (k := 15) (v := I1 a 15 + nI 1) l1 (by omega) (Nat.le_refl a) (by omega), cBd_u b1 (by omega), wr1_o w1 (by omega)⟩
      exact b_X3_readFigure_50 ha ⟨fun _ => this, fun _ => q_t' (bd_ne b1) this⟩
    refine S_adv (d := d + 1) hg hN hp hG fun I1 g1 f1 => kb_X3_readFigure_20 ha ?_
    refine S_readNumber (d := d) hg hN n1 (lo := 0) (hi := 9) g1 (by omega) (fun I2 v k1 v1 v2 g2 f2 => kb_X3_readFigure_32 ha ⟨vp_in_nI (by omega) (by omega), ?_⟩) (fun I2 y w1 b2 f2 => kb_X3_readFigure_32 ha ⟨vp_in_nI (by omega) (by omega), ?_⟩)
    · rw [nI_clamp (by omega)]
      refine S_readNumber (d := d) hg hN n2 (lo := 1) (hi := 4) (cG_u g2 (by omega)) (by omega) (fun I3 w k1' v1' v2' g3 f3 => kb_X3_readFigure_39 ha ⟨vp_in_nI (by omega) (by omega), ?_⟩) (fun I3 y w1 b3 f3 => kb_X3_readFigure_39 ha ⟨vp_in_nI (by omega) (by omega), ?_⟩)
      · rw [nI_clamp (by omega)]
        refine C_fig (x := v) (w := w) (P := fun r => Bfi (tK g N) (tnx g N) p D r) hg hN ha hD ho hM ⟨v1', v2'⟩ hq 3 0 _ (tR (dT D)) _ rfl n3 (cG_u g3 (by omega)) ⟨?_, fun j h1 h3 => ?_, ?_, ?_, fun f' hf' => ?_, fun h => absurd rfl h, fun y hy => ?_⟩ (fun _ _ => rfl) (fun r hr => Or.inr ⟨hM, Or.inl ⟨v, k1, v1, v2, Or.inl ⟨w, k1', v1', v2', hr⟩⟩⟩)
        · exact lF_u (lF_t (lF_u (lF_t (lF_a f1) (lF_a f2)) (by omega) (by omega) (by omega)) (lF_a f3)) (by omega) (by omega) (by omega)
        · rw [pm_ua (by omega), f3.1 _ (by omega), pm_ua (by omega), f2.1 _ (by omega), f1.1 _ (by omega)]
        · rw [pm_ua (by omega), f3.1 _ (by omega), pm_fu, f2.1 _ (by omega), f1.1 _ (by omega)]
        · rw [pm_fu, f3.1 _ (by omega), pm_ua (by omega), f2.1 _ (by omega), f1.1 _ (by omega)]
        · rw [pm_ua (by omega), f3.1 _ (by omega), pm_ua (by omega), f2.1 _ (by omega), f1.1 _ (by omega)]
        · rw [pm_ua (by omega), f3.1 _ (by omega), pm_ua (by omega), f2.1 _ (by omega), f1.1 _ (by omega)]
          exact hD.2.2.2.2.2.2 y hy
      · rw [nI_clamp (by omega)]
        refine badQ y _ _ (cBd_u b3 (by omega)) ?_ ?_ (Or.inr ⟨hM, Or.inl ⟨v, k1, v1, v2, Or.inr ⟨y, w1, rfl⟩⟩⟩)
        · exact wr1_o (wr1_f (wr1_o (wr1_f (wr1_f (cD_w hD ho) f1.1 (by omega)) f2.1 (by omega)) (by omega)) f3.1 (by omega)) (by omega)
        · exact lF_u (lF_t (lF_u (lF_t (lF_a f1) (lF_a f2)) (by omega) (by omega) (by omega)) (lF_f f3)) (by omega) (by omega) (by omega)
    · rw [nI_clamp (by omega)]
      refine S_readNumberB (d := d + 3) (cBd_u b2 (by omega)) (kb_X3_readFigure_39 ha ⟨vp_in_nI (by omega) (by omega), ?_⟩)
      rw [nI_clamp (by omega)]
      refine badQ y _ _ (cBd_u (cBd_u b2 (by omega)) (by omega)) ?_ ?_ (Or.inr ⟨hM, Or.inr ⟨y, w1, rfl⟩⟩)
      · exact wr1_o (wr1_o (wr1_f (wr1_f (cD_w hD ho) f1.1 (by omega)) f2.1 (by omega)) (by omega)) (by omega)
      · exact lF_u (lF_u (lF_t (lF_a f1) (lF_f f2)) (by omega) (by omega) (by omega)) (by omega) (by omega) (by omega)
  · exact S_fail (d := d + 3) hG (by omega) fun I1 b1 f1 => kb_X3_readFigure_15 (hq _ (.inr (2, p)) (Or.inl ⟨by omega, rfl⟩) ⟨lF_f f1, b1, wr1_f (cD_w hD ho) f1.1 (by omega)⟩)
theorem C_rule {b lo n0 : Nat} {x2 : Int32} {l : List Nat} (hg : ∀ i, g i < 256) (hN : N ≤ 700) (hb : fc b) (hn : n0 ≤ 16) (hx : (x2 = nI 0 ∧ lo = 6 ∧ n0 = 4) ∨ (¬ x2 = nI 0 ∧ lo = 0 ∧ n0 = 6)) (hp : p ≤ N) (hk : tK g N p ≠ kE) (hG : cG g N p I) (hF : cF b l I)
    (h1 : ∀ I', l ≠ [] → cBd g N 5 p I' → fF I I' → Q (.inl none) (pm_hp L fz t I' J))
    (h2 : ∀ I' r, l = [] → Dv (tK g N) (tnx g N) lo n0 6 0 none (tnx g N p) r → rF b I I' → (match r with | .inl (e, p') => cG g N p' I' ∧ cF b e I' | .inr (y, q) => cBd g N y q I') → Q (.inl none) (pm_hp L fz t I' J)) : pm_Ev (d + 51) 43 [.ref 1, .ref b, .int x2] (pm_hp L fz t I J) Q := by
  have hlt := nx_lt p hk
  have h7 := hF.1
  refine e_X3_readRule hb (e_X1_isTold hb ?_)
  rw [hF.2.1]
  refine q_le (by omega) (by omega) (fun h0 => kb_X3_readRule_4 hb (q_t rfl ?_)) (fun h0 => kb_X3_readRule_4 hb (q_f nI_01 ?_))
  · have hl : l = [] := List.length_eq_zero_iff.mp (by omega)
    subst hl
    refine S_adv (d := d + 47) hg hN hp hG fun I1 g1 f1 => kb_X3_readRule_17 hb (R_whole hg hN hn hb hx d L fz t _ I1 J (tnx g N p) [] (nx_le p hp) (by omega) (Nat.zero_le _) ⟨g1, cF_a hb f1.1 hF⟩ fun I2 r hd hA => kb_X3_readRule_24 (h2 I2 r rfl hd (rF_t (rF_f (fF_a f1)) hA.1) ?_))
    rcases r with ⟨e, p'⟩ | ⟨y, q⟩
    · exact ⟨hA.2.1, hA.2.2⟩
    · exact hA.2.1
  · exact S_fail (d := d + 49) hG (by omega) fun I1 b1 f1 => kb_X3_readRule_12 (h1 I1 (fun q => by rw [q] at h0; exact absurd h0 (by decide)) b1 f1)
theorem C_up (hg : ∀ i, g i < 256) (hN : N ≤ 700) (ha : a = 55 ∨ a = 70) (hp : p ≤ N) (hk : tK g N p ≠ kE) (hG : cG g N p I) (hD : cD a D I) (ho : okD D) (hq : ∀ I' r, Bup (tK g N) (tnx g N) p D r → cAf g N a r I I' → Q (.inl none) (pm_hp L fz t I' J)) : pm_Ev (d + 51) 43 [.ref 1, .ref (a + 9), .int (nI 1)] (pm_hp L fz t I J) Q := by
  refine C_rule (lo := 0) (n0 := 6) hg hN (by unfold fc; omega) (by omega) (Or.inr ⟨nI_01, rfl, rfl⟩) hp hk hG hD.2.1.2.2.2.2.1 (fun I1 hl b1 f1 => hq _ (.inr (5, p)) (Or.inl ⟨hl, rfl⟩) ⟨lF_f f1, b1, wr1_f (cD_w hD ho) f1.1 (by omega)⟩) (fun I1 r hl hd hr hm => hq _ (fR (uU D) r) (Or.inr ⟨hl, r, hd, rfl⟩) ⟨⟨fun b h1 h2 => hr.1 b h1 (by omega) (by omega), hr.2⟩, ?_⟩)
  rcases r with ⟨e, p'⟩ | ⟨y, q⟩
  · exact ⟨hm.1, cD_U hD (fun j h1 h2 h3 => hr.1 _ (by omega) (by omega) (by omega)) hm.2⟩
  · exact ⟨hm, fun c hc => by rw [hr.1 (a + 3) (by omega) (by omega) (by omega)]; exact cD_w hD ho c hc⟩
theorem C_harm (hg : ∀ i, g i < 256) (hN : N ≤ 700) (ha : a = 55 ∨ a = 70) (hp : p ≤ N) (hk : tK g N p ≠ kE) (hG : cG g N p I) (hD : cD a D I) (ho : okD D) (hq : ∀ I' r, Bha (tK g N) (tnx g N) p D r → cAf g N a r I I' → Q (.inl none) (pm_hp L fz t I' J)) : pm_Ev (d + 51) 43 [.ref 1, .ref (a + 12), .int (nI 0)] (pm_hp L fz t I J) Q := by
  refine C_rule (lo := 6) (n0 := 4) hg hN (by unfold fc; omega) (by omega) (Or.inl ⟨rfl, rfl, rfl⟩) hp hk hG hD.2.1.2.2.2.2.2.1 (fun I1 hl b1 f1 => hq _ (.inr (5, p)) (Or.inl ⟨hl, rfl⟩) ⟨lF_f f1, b1, wr1_f (cD_w hD ho) f1.1 (by omega)⟩) (fun I1 r hl hd hr hm => hq _ (fR (uH D) r) (Or.inr ⟨hl, r, hd, rfl⟩) ⟨⟨fun b h1 h2 => hr.1 b h1 (by omega) (by omega), hr.2⟩, ?_⟩)
  rcases r with ⟨e, p'⟩ | ⟨y, q⟩
  · exact ⟨hm.1, cD_H hD (fun j h1 h2 h3 => hr.1 _ (by omega) (by omega) (by omega)) hm.2⟩
  · exact ⟨hm, fun c hc => by rw [hr.1 (a + 3) (by omega) (by omega) (by omega)]; exact cD_w hD ho c hc⟩
theorem C_line (hg : ∀ i, g i < 256) (hN : N ≤ 700) (ha : a = 55 ∨ a = 70) (hp : p ≤ N) (hG : cG g N p I) (hD : cD a D I) (ho : okD D) (hq : ∀ I' r, Ln (tK g N) (tnx g N) p D r → cAf g N a r I I' → Q (.inl none) (pm_hp L fz t I' J)) : pm_Ev (d + 52) 37 [.ref 1, .ref a] (pm_hp L fz t I J) Q := by
  have fin : ∀ I1 r, Bo (tK g N) (tnx g N) p D r → cAf g N a r I I1 → t_X3_readLine_115 (d + 51) L fz t Q I1 J := by
    intro I1 r hB hA
    refine b_X3_readLine_115 ?_
    rcases r with ⟨D1, p1⟩ | ⟨y, q⟩
    · obtain ⟨o1, _, o3⟩ := Bo_ok hp ho hB
      obtain ⟨l1, g1, c1⟩ := hA
      refine S_needSign (d := d + 47) hg hN o3 g1 (by omega) (fun I2 k2 g2 f2 => kb_X3_readLine_121 (hq I2 (.inl (D1, tnx g N p1)) ⟨_, hB, Or.inl ⟨k2, rfl⟩⟩ ⟨lF_t l1 (lF_a f2), g2, cD_1 ha c1 f2.1⟩)) (fun I2 k2 b2 f2 => kb_X3_readLine_121 (hq I2 (.inr (1, p1)) ⟨_, hB, Or.inr ⟨k2, rfl⟩⟩ ⟨lF_t l1 (lF_f f2), b2, wr1_f (cD_w c1 o1) f2.1 (by omega)⟩))
    · obtain ⟨l1, b1, w1⟩ := hA
      exact S_needSignB (d := d + 50) b1 (kb_X3_readLine_121 (hq I1 (.inr (y, q)) ⟨_, hB, rfl⟩ ⟨l1, b1, w1⟩))
  refine e_X3_readLine ha (S_isWord (d := d + 50) hg hN hp hG.1 (j := 14) (by omega) (kb_X3_readLine_6 ha (q_b0 (fun n1 => ?_) (fun y1 => ?_))))
  · refine S_isWord (d := d + 50) hg hN hp hG.1 (j := 15) (by omega) (kb_X3_readLine_23 ha (q_b0 (fun n2 => ?_) (fun y2 => ?_)))
    · refine S_isWord (d := d + 50) hg hN hp hG.1 (j := 16) (by omega) (kb_X3_readLine_40 ha (q_b0 (fun n3 => ?_) (fun y3 => ?_)))
      · refine S_isWord (d := d + 50) hg hN hp hG.1 (j := 17) (by omega) (kb_X3_readLine_57 ha (q_b0 (fun n4 => ?_) (fun y4 => ?_)))
        · refine S_isWord (d := d + 50) hg hN hp hG.1 (j := 18) (by omega) (kb_X3_readLine_74 ha (q_b0 (fun n5 => ?_) (fun y5 => ?_)))
          · refine S_isWord (d := d + 50) hg hN hp hG.1 (j := 19) (by omega) (kb_X3_readLine_95 ha (q_b0 (fun n6 => ?_) (fun y6 => ?_)))
            · refine S_fail (d := d + 50) hG (by omega) fun I1 b1 f1 => ?_
              show t_X3_readLine_115 (d + 51) L fz t Q I1 J
              refine fin I1 (.inr (1, p)) (Or.inr (Or.inr (Or.inr (Or.inr (Or.inr (Or.inr ⟨fun j h1 h2 hj => ?_, rfl⟩)))))) ⟨lF_f f1, b1, wr1_f (cD_w hD ho) f1.1 (by omega)⟩
              have e : j = 10 ∨ j = 11 ∨ j = 12 ∨ j = 13 ∨ j = 14 ∨ j = 15 := by omega
              rcases e with rfl | rfl | rfl | rfl | rfl | rfl
              · exact of_decide_eq_false n1 hj
              · exact of_decide_eq_false n2 hj
              · exact of_decide_eq_false n3 hj
              · exact of_decide_eq_false n4 hj
              · exact of_decide_eq_false n5 hj
              · exact of_decide_eq_false n6 hj
            · exact C_harm hg hN ha hp (kW_nE (of_decide_eq_true y6)) hG hD ho fun I1 r hB hA => kb_X3_readLine_107 (fin I1 r (Or.inr (Or.inr (Or.inr (Or.inr (Or.inr (Or.inl ⟨of_decide_eq_true y6, hB⟩)))))) hA)
          · exact C_up hg hN ha hp (kW_nE (of_decide_eq_true y5)) hG hD ho fun I1 r hB hA => kb_X3_readLine_86 (fin I1 r (Or.inr (Or.inr (Or.inr (Or.inr (Or.inl ⟨of_decide_eq_true y5, hB⟩))))) hA)
        · exact C_figure (d := d + 46) hg hN ha hp hG hD ho fun I1 r hB hA => kb_X3_readLine_65 (fin I1 r (Or.inr (Or.inr (Or.inr (Or.inl ⟨of_decide_eq_true y4, hB⟩)))) hA)
      · exact C_lace (d := d + 46) hg hN ha hp hG hD ho fun I1 r hB hA => kb_X3_readLine_48 (fin I1 r (Or.inr (Or.inr (Or.inl ⟨of_decide_eq_true y3, hB⟩))) hA)
    · exact C_card (d := d + 46) hg hN ha hp hG hD ho fun I1 r hB hA => kb_X3_readLine_31 (fin I1 r (Or.inr (Or.inl ⟨of_decide_eq_true y2, hB⟩)) hA)
  · exact C_threads (d := d + 46) hg hN ha hp hG hD ho fun I1 r hB hA => kb_X3_readLine_14 (fin I1 r (Or.inl ⟨of_decide_eq_true y1, hB⟩) hA)
end Spec
