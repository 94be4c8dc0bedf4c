/-! calls that alter -/
def opx (kc km : Nat) (as : List Value) (A : St) (one : Nat) : Prop := ∃ A' e, e ≤ hiE kc ∧ ∃ v, ok A' ∧ CS 59 kc (.ref 0 :: as) A A' (er one e v) ∧ MS 60 km (.ref 85 :: as) A A' e (pv e v)
theorem opx_2 {kc km : Nat} {as : List Value} {A : St} {one : Nat} (ho : ok A) (h : op2 kc km as A one) : opx kc km as A one := by
  obtain ⟨e, he, v, h1, h2⟩ := h
  exact ⟨A, e, he, v, ho, h1, h2⟩
def kA (n : Nat) (As : Nat → Wk) (W : Wk) : Nat × (Nat → Wk) := if n < 40 then (n + 1, fun i => if i = n then W else As i) else (40, fun i => if i = 39 then W else As (i + 1))
theorem kA_le (n : Nat) (As : Nat → Wk) (W : Wk) : (kA n As W).1 ≤ 40 ∧ 1 ≤ (kA n As W).1 := by
  unfold kA; split
  · exact ⟨by dsimp only; omega, by dsimp only; omega⟩
  · exact ⟨Nat.le_refl _, by dsimp only; omega⟩
def sAct (A : St) (W' : Wk) : St := (sT A, W', kA (sNA A) (sA A) (sW A), (sNS A, sS A), sI A, sB A, sF A, sR A)
def sRef (A : St) (k : Nat) : St := (sT A, sW A, (sNA A, sA A), (sNS A, sS A), sI A, sB A, sF A, fun i => if i = k then sR A i + nI 1 else sR A i)
theorem ok_act {A : St} {W' : Wk} (ho : ok A) (hW : okW (sT A) W') (hp : wp W' = wp (sW A)) : ok (sAct A W') := by
  obtain ⟨h1, h2, ⟨h3, h3'⟩, ⟨h4, h4'⟩, h5, h6⟩ := ho
  refine ⟨h1, hW, ⟨(kA_le _ _ _).1, fun i hi => ?_⟩, ⟨h4, fun i hi => by show (sS A i).1 < wp W' ∧ _; rw [hp]; exact h4' i hi⟩, fun V k Bs q C hI => ?_, h6⟩
  · show okW (sT A) ((kA (sNA A) (sA A) (sW A)).2 i) ∧ wp ((kA (sNA A) (sA A) (sW A)).2 i) = wp W'
    have hi' : i < (kA (sNA A) (sA A) (sW A)).1 := hi
    rw [hp]
    unfold kA at hi' ⊢
    by_cases q : sNA A < 40
    · rw [if_pos q] at hi' ⊢
      dsimp only at hi' ⊢
      by_cases z : i = sNA A
      · rw [if_pos z]; exact ⟨h2, rfl⟩
      · rw [if_neg z]; exact h3' i (by omega)
    · rw [if_neg q] at hi' ⊢
      dsimp only at hi' ⊢
      by_cases z : i = 39
      · rw [if_pos z]; exact ⟨h2, rfl⟩
      · rw [if_neg z]; exact h3' (i + 1) (by omega)
  · obtain ⟨g1, g2, g3, g4⟩ := h5 V k Bs q C hI
    exact ⟨g1, g2.trans hp.symm, g3, g4⟩
theorem ok_ref {A : St} {k : Nat} (ho : ok A) : ok (sRef A k) := ho
theorem cS_ref {A : St} {t : Bool} {I : Nat → Nat → Int32} {J : Nat → Nat → Int64} {k : Nat} (h : cS A t I J) (hk : k < 3) : cS (sRef A k) t (pm_u I 20 k (I 20 k + nI 1)) J := by
  have hf : fr [20] I (pm_u I 20 k (I 20 k + nI 1)) := fr_u (by simp) fr_r
  obtain ⟨g1, g2, g3, g4⟩ := cS_keep (J' := J) h hf (fun a ha => Or.inr (by simp at ha; subst ha; decide)) rfl
  refine ⟨g1, cW_fr h.2.1 hf (by decide) (by decide) (by decide) (by decide), cM_fr h.2.2.1 hf (by decide) (by decide), cA_of (hf _ (by decide)) (hf _ (by decide)) (hf _ (by decide)) (hf _ (by decide)) rfl h.2.2.2.1, cN_of (hf _ (by decide)) (hf _ (by decide)) (hf _ (by decide)) (hf _ (by decide)) (hf _ (by decide)) h.2.2.2.2.1, g2, g3, g4, fun i hi => ?_⟩
  show _ = if i = k then sR A i + nI 1 else sR A i
  by_cases e : i = k
  · rw [e, pm_us, if_pos rfl, h.2.2.2.2.2.2.2.2 k hk]
  · rw [pm_uk e, if_neg e]; exact h.2.2.2.2.2.2.2.2 i hi
theorem mS_of {A A' : St} {I I' : Nat → Nat → Int32} {S : List Nat} (h : mS A I) (hf : fr S I I') (hT : sT A' = sT A) (h85 : ∀ j, j = 1 ∨ j = 2 ∨ j = 4 ∨ j = 5 ∨ j = 6 → I' 85 j = I 85 j) (h6 : 86 ∉ S) (h7 : 87 ∉ S) (h8 : 88 ∉ S) (h9 : 89 ∉ S) (h10 : 90 ∉ S) (h11 : 91 ∉ S)
    (e2 : I' 85 3 = nI (wp (sW A'))) (e3 : mR (I' 103) 0 (tM (sT A)) (sW A')) (e4 : I' 85 48 = nI (sNA A') ∧ mA 104 (sNA A') (tM (sT A)) (sA A') I') (e5 : I' 85 55 = nI (sNS A') ∧ mN 110 (sNS A') (sS A') I') (e6 : mI (tM (sT A)) (sI A') I') (e7 : mB (sB A') I') (e8 : I' 85 16 = sF A') (e9 : ∀ i, i < 3 → I' 93 i = sR A' i) : mS A' I' := by
  unfold mS
  rw [hT]
  exact ⟨mT_fr h.1 hf h85 h6 h7 h8 h9 h10 h11, e2, e3, e4, e5, e6, e7, e8, e9⟩
theorem mI_fr {m : Nat} {im : Option Ia} {S : List Nat} {I I' : Nat → Nat → Int32} (h : mI m im I) (hf : fr S I I') (h85 : ∀ j, j = 61 ∨ j = 62 ∨ j = 63 → I' 85 j = I 85 j) (h114 : 114 ∉ S) (h115 : 115 ∉ S) (h116 : 116 ∉ S) : mI m im I' := by
  obtain ⟨h6, h6'⟩ := h
  refine ⟨by rw [h85 61 (by omega)]; exact h6, fun V k Bs q C hi => ?_⟩
  obtain ⟨g1, g2, g3, g4, g5⟩ := h6' V k Bs q C hi
  exact ⟨by rw [hf 114 h114]; exact g1, by rw [h85 62 (by omega)]; exact g2, by unfold mA; rw [hf 115 h115]; exact g3, by rw [h85 63 (by omega)]; exact g4, by unfold mN; rw [hf 116 h116]; exact g5⟩
theorem mS_ref {A : St} {I : Nat → Nat → Int32} {k : Nat} (h : mS A I) (hk : k < 3) : mS (sRef A k) (pm_u I 93 k (I 93 k + nI 1)) := by
  have hf : fr [93] I (pm_u I 93 k (I 93 k + nI 1)) := fr_u (by simp) fr_r
  have e : ∀ a, a ≠ 93 → (pm_u I 93 k (I 93 k + nI 1)) a = I a := fun a ha => pm_ua ha
  refine mS_of (A' := sRef A k) h hf rfl (fun j _ => by rw [e 85 (by decide)]) (by decide) (by decide) (by decide) (by decide) (by decide) (by decide) (by rw [e 85 (by decide)]; exact h.2.1) (by rw [e 103 (by decide)]; exact h.2.2.1) ⟨by rw [e 85 (by decide)]; exact h.2.2.2.1.1, by unfold mA; rw [e 104 (by decide)]; exact h.2.2.2.1.2⟩ ⟨by rw [e 85 (by decide)]; exact h.2.2.2.2.1.1, by unfold mN; rw [e 110 (by decide)]; exact h.2.2.2.2.1.2⟩ (mI_fr h.2.2.2.2.2.1 hf (fun j _ => by rw [e 85 (by decide)]) (by decide) (by decide) (by decide)) ⟨by rw [e 85 (by decide)]; exact h.2.2.2.2.2.2.1.1, by rw [e 92 (by decide)]; exact h.2.2.2.2.2.2.1.2⟩ (by rw [e 85 (by decide)]; exact h.2.2.2.2.2.2.2.1) (fun i hi => ?_)
  show _ = if i = k then sR A i + nI 1 else sR A i
  by_cases e' : i = k
  · rw [e', pm_us, if_pos rfl, h.2.2.2.2.2.2.2.2 k hk]
  · rw [pm_uk e', if_neg e']; exact h.2.2.2.2.2.2.2.2 i hi
section Spec
variable {d L : Nat} {fz t : Bool} {Q : pm_R → pm_H → Prop} {I I0 : Nat → Nat → Int32} {J J0 : Nat → Nat → Int64} {A : St}
theorem S_refuses {k : Nat} (hk : k < 3) (hq : Q (.inl (some (.int (-1 : Int32)))) (pm_hp L fz t (pm_u I 93 k (I 93 k + nI 1)) J)) : pm_Ev (d + 1) 158 [.ref 85, .int (nI k)] (pm_hp L fz t I J) Q := by
  refine e_X11_refuses ?_
  rw [nI_clamp (by omega)]
  exact ⟨vp_in_nI (by omega) (by omega), vp_in_nI (by omega) (by omega), hq⟩
theorem S_keep {n : Nat} {As : Nat → Wk} {W : Wk} {kd x y : Int32} {l : Int64} (hA : cA 35 n As W I J) (hn : n ≤ 40)
    (hq : ∀ I' J', fr [35, 36, 37, 38] I I' → (∀ a, a ≠ 39 → J' a = J a) → (∀ W', dl kd x y l W W' → cA 35 (kA n As W).1 (kA n As W).2 W' I' J') → Q (.inl none) (pm_hp L fz t I' J')) : pm_Ev (d + 2) 0 [.ref 35, .int kd, .int x, .int y, .long l] (pm_hp L fz t I J) Q := by
  refine e_X0_keep (Or.inl rfl) ?_
  rw [hA.1]
  have put : ∀ (n0 : Nat) (B : Nat → Wk) (I1 : Nat → Nat → Int32) (J1 : Nat → Nat → Int64), n0 < 40 → fr [35, 36, 37, 38] I I1 → (∀ a, a ≠ 39 → J1 a = J a) → I1 35 4 = nI n0 → (∀ i, i < n0 → dl (I1 36 i) (I1 37 i) (I1 38 i) (J1 39 i) (B i) (nx n0 B W i)) → kA n As W = (n0 + 1, fun i => if i = n0 then W else B i) → t_X0_keep_13 (d + 1) L fz t Q 35 kd x y l I1 J1 := by
    intro n0 B I1 J1 h0 f1 g1 e1 d1 ek
    refine b_X0_keep_13 (Or.inl rfl) ?_
    rw [e1, nI_clamp (by omega), nI_add]
    have v : vp_in (nI n0) 40 := vp_in_nI (by omega) (by omega)
    refine ⟨v, v, v, v, hq _ _ (fr_u (by simp) (fr_u (by simp) (fr_u (by simp) (fr_u (by simp) f1)))) (fun a ha => by rw [pm_ua ha]; exact g1 a ha) fun W' hW' => ?_⟩
    rw [ek]
    refine ⟨by rw [pm_us], fun i hi => ?_⟩
    have hi' : i < n0 + 1 := hi
    show dl (pm_u (pm_u (pm_u (pm_u I1 36 n0 kd) 37 n0 x) 38 n0 y) 35 4 (nI (n0 + 1)) 36 i) (pm_u (pm_u (pm_u (pm_u I1 36 n0 kd) 37 n0 x) 38 n0 y) 35 4 (nI (n0 + 1)) 37 i) (pm_u (pm_u (pm_u (pm_u I1 36 n0 kd) 37 n0 x) 38 n0 y) 35 4 (nI (n0 + 1)) 38 i) (pm_u J1 39 n0 l 39 i) (if i = n0 then W else B i) (nx (n0 + 1) (fun i => if i = n0 then W else B i) W' i)
    have q36 : pm_u (pm_u (pm_u (pm_u I1 36 n0 kd) 37 n0 x) 38 n0 y) 35 4 (nI (n0 + 1)) 36 i = pm_u I1 36 n0 kd 36 i := by rw [pm_ua (by decide), pm_ua (by decide), pm_ua (by decide)]
    have q37 : pm_u (pm_u (pm_u (pm_u I1 36 n0 kd) 37 n0 x) 38 n0 y) 35 4 (nI (n0 + 1)) 37 i = pm_u I1 37 n0 x 37 i := by
      rw [pm_ua (by decide), pm_ua (by decide)]
      by_cases z : i = n0
      · rw [z, pm_us, pm_us]
      · rw [pm_uk z, pm_uk z, pm_ua (by decide)]
    have q38 : pm_u (pm_u (pm_u (pm_u I1 36 n0 kd) 37 n0 x) 38 n0 y) 35 4 (nI (n0 + 1)) 38 i = pm_u I1 38 n0 y 38 i := by
      rw [pm_ua (by decide)]
      by_cases z : i = n0
      · rw [z, pm_us, pm_us]
      · rw [pm_uk z, pm_uk z, pm_ua (by decide), pm_ua (by decide)]
    rw [q36, q37, q38]
    by_cases e : i = n0
    · have : nx (n0 + 1) (fun i => if i = n0 then W else B i) W' i = W' := if_neg (by omega)
      rw [this, e, pm_us, pm_us, pm_us, pm_us, if_pos rfl]; exact hW'
    · have : nx (n0 + 1) (fun i => if i = n0 then W else B i) W' i = nx n0 B W i := by
        unfold nx
        rw [if_pos (by omega)]
        show (if i + 1 = n0 then W else B (i + 1)) = _
        by_cases z : i + 1 = n0
        · rw [if_pos z, if_neg (by omega)]
        · rw [if_neg z, if_pos (by omega)]
      rw [pm_uk e, pm_uk e, pm_uk e, pm_uk e, if_neg e, this]
      exact d1 i (by omega)
  refine q_lt (by omega) (by omega) (fun h => ?_) (fun h => ?_)
  · exact put n As I J h fr_r (fun _ _ => rfl) hA.1 hA.2 (if_pos h)
  · obtain rfl : n = 40 := by omega
    refine e_X0_dropOldest (Or.inl rfl) ?_
    refine put 39 (fun i => As (i + 1)) _ _ (by omega) (fr_u (by simp) (fr_ur (by simp) (fr_ur (by simp) (fr_ur (by simp) fr_r)))) (fun a ha => by rw [pm_ura ha]) (by rw [pm_us]) (fun i hi => ?_) ?_
    · have hd := hA.2 (i + 1) (by omega)
      have c36 : pm_u (pm_ur (pm_ur (pm_ur I (35 + 1) (va_cpy (I (35 + 1)) (I (35 + 1)) 1 0 39)) (35 + 2) (va_cpy (I (35 + 2)) (I (35 + 2)) 1 0 39)) (35 + 3) (va_cpy (I (35 + 3)) (I (35 + 3)) 1 0 39)) 35 4 (nI 39) 36 i = I 36 (i + 1) := by
        rw [pm_ua (by decide), pm_ura (by decide), pm_ura (by decide), pm_urs, pk_cpy_in (by omega) (by omega), show 1 + (i - 0) = i + 1 by omega]
      have c37 : pm_u (pm_ur (pm_ur (pm_ur I (35 + 1) (va_cpy (I (35 + 1)) (I (35 + 1)) 1 0 39)) (35 + 2) (va_cpy (I (35 + 2)) (I (35 + 2)) 1 0 39)) (35 + 3) (va_cpy (I (35 + 3)) (I (35 + 3)) 1 0 39)) 35 4 (nI 39) 37 i = I 37 (i + 1) := by
        rw [pm_ua (by decide), pm_ura (by decide), pm_urs, pk_cpy_in (by omega) (by omega), show 1 + (i - 0) = i + 1 by omega]
      have c38 : pm_u (pm_ur (pm_ur (pm_ur I (35 + 1) (va_cpy (I (35 + 1)) (I (35 + 1)) 1 0 39)) (35 + 2) (va_cpy (I (35 + 2)) (I (35 + 2)) 1 0 39)) (35 + 3) (va_cpy (I (35 + 3)) (I (35 + 3)) 1 0 39)) 35 4 (nI 39) 38 i = I 38 (i + 1) := by
        rw [pm_ua (by decide), pm_urs, pk_cpy_in (by omega) (by omega), show 1 + (i - 0) = i + 1 by omega]
      have c39 : pm_ur J (35 + 4) (va_cpy (J (35 + 4)) (J (35 + 4)) 1 0 39) 39 i = J 39 (i + 1) := by
        rw [pm_urs, pk_cpy_in (by omega) (by omega), show 1 + (i - 0) = i + 1 by omega]
      rw [c36, c37, c38, c39]
      have en : nx 39 (fun i => As (i + 1)) W i = nx 40 As W (i + 1) := by
        unfold nx
        by_cases z : i + 1 < 39
        · rw [if_pos z, if_pos (by omega)]
        · rw [if_neg z, if_neg (by omega)]
      rw [en]; exact hd
    · unfold kA
      rw [if_neg (by omega)]
theorem S_keeps {n m : Nat} {As : Nat → Wk} {W : Wk} (hn : I 85 48 = nI n) (hA : mA 104 n m As I) (hn40 : n ≤ 40) (hm : m ≤ 10) (hW : mR (I 103) 0 m W) (hp : wp W ≤ 12) (hpA : ∀ i, i < n → wp (As i) ≤ 12)
    (hq : ∀ I', fr [85, 104] I I' → (∀ j, j ≠ 48 → I' 85 j = I 85 j) → I' 85 48 = nI (kA n As W).1 → mA 104 (kA n As W).1 m (kA n As W).2 I' → Q (.inl none) (pm_hp L fz t I' J)) : pm_Ev (d + 1) 157 [.ref 85] (pm_hp L fz t I J) Q := by
  have put : ∀ (n0 : Nat) (B : Nat → Wk) (I1 : Nat → Nat → Int32), n0 < 40 → fr [85, 104] I I1 → (∀ j, j ≠ 48 → I1 85 j = I 85 j) → I1 85 48 = nI n0 → mA 104 n0 m B I1 → (∀ i, i < n0 → wp (B i) ≤ 12) → kA n As W = (n0 + 1, fun i => if i = n0 then W else B i) → t_X11_keeps_52 d L fz t Q (nI 0) I1 J := by
    intro n0 B I1 h0 f1 g1 e1 a1 p1 ek
    have loop : ∀ (j i : Nat) (I2 : Nat → Nat → Int32), i + j = 34 → fr [104] I1 I2 → (∀ k, k < 34 * n0 → I2 104 k = I1 104 k) → (∀ k, k < i → I2 104 (34 * n0 + k) = I 103 k) → t_X11_keeps_52 d L fz t Q (nI i) I2 J := by
      intro j
      induction j with
      | zero =>
        intro i I2 hi f2 lo hk
        obtain rfl : i = 34 := by omega
        refine b_X11_keeps_52 (q_t (nI_le (by omega) (by omega)) ?_)
        have e85 : I2 85 = I1 85 := f2 85 (by decide)
        rw [e85, e1, nI_add]
        refine hq _ (fr_u (by simp) (fr_t f1 (fr_m f2 (by simp)))) (fun j hj => by rw [pm_uk hj, e85]; exact g1 j hj) (by rw [pm_us, ek]) ?_
        rw [ek]
        intro i hi
        have hi' : i < n0 + 1 := hi
        show mR (pm_u I2 85 48 (nI (n0 + 1)) 104) (34 * i) m (if i = n0 then W else B i)
        rw [pm_ua (by decide)]
        by_cases z : i = n0
        · rw [if_pos z, z]
          exact mR_of hW hm hp (fun k hk' => by rw [hk k hk', Nat.zero_add])
        · rw [if_neg z]
          exact mR_of (a1 i (by omega)) hm (p1 i (by omega)) (fun k hk' => lo _ (by omega))
      | succ j ih =>
        intro i I2 hi f2 lo hk
        refine b_X11_keeps_52 (q_f (nI_ge (by omega) (by omega)) ⟨vp_in_nI (by omega) (by omega), ?_⟩)
        rw [f2 85 (by decide), e1, pk_mul, nI_add, nI_add, nI_clamp (by omega), nI_clamp (by omega), f2 103 (by decide), f1 103 (by decide)]
        refine ⟨vp_in_nI (by omega) (by omega), ih (i + 1) _ (by omega) (fr_u (by simp) f2) (fun k hk' => by rw [pm_uk (by omega)]; exact lo k hk') (fun k hk' => ?_)⟩
        by_cases z : k = i
        · rw [z, pm_us]
        · rw [pm_uk (by omega)]; exact hk k (by omega)
    exact loop 34 0 I1 (by omega) fr_r (fun _ _ => rfl) (fun k h => absurd h (by omega))
  refine e_X11_keeps ?_
  rw [hn]
  refine q_ne (by omega) (by omega) (fun h => ?_) (fun h => ?_)
  · exact put n As I (by omega) fr_r (fun _ _ => rfl) hn hA hpA (if_pos (by omega))
  · obtain rfl : n = 40 := h
    have shift : ∀ (j i : Nat) (I2 : Nat → Nat → Int32), i + j = 1326 → fr [104] I I2 → (∀ k, k < i → I2 104 k = I 104 (k + 34)) → (∀ k, i ≤ k → I2 104 k = I 104 k) → t_X11_keeps_12 d L fz t Q (nI (i + 34)) I2 J := by
      intro j
      induction j with
      | zero =>
        intro i I2 hi f2 lo hi2
        obtain rfl : i = 1326 := by omega
        refine b_X11_keeps_12 (q_t (nI_le (by omega) (by omega)) ?_)
        have e85 : I2 85 = I 85 := f2 85 (by decide)
        rw [e85, hn, pk_sub (by omega)]
        refine put 39 (fun i => As (i + 1)) _ (by omega) (fr_u (by simp) (fr_m f2 (by simp))) (fun j hj => by rw [pm_uk hj, e85]) (by rw [pm_us]) (fun i hi => ?_) (fun i hi => hpA (i + 1) (by omega)) ?_
        · rw [pm_ua (by decide)]
          exact mR_of (hA (i + 1) (by omega)) hm (hpA (i + 1) (by omega)) (fun k hk' => by rw [lo _ (by omega), show 34 * i + k + 34 = 34 * (i + 1) + k by omega])
        · unfold kA
          rw [if_neg (by omega)]
      | succ j ih =>
        intro i I2 hi f2 lo hi2
        refine b_X11_keeps_12 (q_f (nI_ge (by omega) (by omega)) ⟨vp_in_nI (by omega) (by omega), ?_⟩)
        rw [pk_sub (by omega), nI_add, nI_clamp (by omega), nI_clamp (by omega), show i + 34 - 34 = i by omega, hi2 (i + 34) (by omega), show i + 34 + 1 = i + 1 + 34 by omega]
        refine ⟨vp_in_nI (by omega) (by omega), ih (i + 1) _ (by omega) (fr_u (by simp) f2) (fun k hk' => ?_) (fun k hk' => by rw [pm_uk (by omega)]; exact hi2 k (by omega))⟩
        by_cases z : k = i
        · rw [z, pm_us]
        · rw [pm_uk z]; exact lo k (by omega)
    exact shift 1326 0 I (by omega) fr_r (fun k h => absurd h (by omega)) (fun _ _ => rfl)
theorem wHo_back (W : Wk) (c : Nat) (h : Int32) : W = wHo (wHo W c h) c (wo W c) := by
  have e : wo W = wo (wHo (wHo W c h) c (wo W c)) := funext fun x => by
    show wo W x = if x = c then wo W c else (if x = c then h else wo W x)
    by_cases z : x = c
    · rw [if_pos z, z]
    · rw [if_neg z, if_neg z]
  exact Prod.ext e rfl
theorem wWe_back (W : Wk) (c v : Nat) : W = wWe (wWe W c v) c (ww W c) := by
  have e : ww W = ww (wWe (wWe W c v) c (ww W c)) := funext fun x => by
    show ww W x = if x = c then ww W c else (if x = c then v else ww W x)
    by_cases z : x = c
    · rw [if_pos z, z]
    · rw [if_neg z, if_neg z]
  exact Prod.ext rfl (Prod.ext e rfl)
/-- the class behind an act -/
theorem cS_act {A : St} {W' : Wk} {S : List Nat} {I' : Nat → Nat → Int32} {J' : Nat → Nat → Int64} (h : cS A t I J) (hf : fr S I I') (hs : ∀ a, a ∈ S → a ∈ qs t ∨ a ∈ as') (h20 : 20 ∉ S) (h45 : ∀ a, 45 ≤ a → a ≤ 49 → a ∉ S) (hJ : ∀ a, a ≠ 39 → J' a = J a) (hM : cM (sT A) I') (hW : cW 23 W' I') (hA : cA 35 (kA (sNA A) (sA A) (sW A)).1 (kA (sNA A) (sA A) (sW A)).2 W' I' J') : cS (sAct A W') t I' J' := by
  obtain ⟨g1, g2, g3, g4⟩ := cS_keep (J' := J') h hf hs (hJ 44 (by decide))
  exact ⟨g1, hW, hM, hA, cN_of (hf _ (h45 _ (by omega) (by omega))) (hf _ (h45 _ (by omega) (by omega))) (hf _ (h45 _ (by omega) (by omega))) (hf _ (h45 _ (by omega) (by omega))) (hf _ (h45 _ (by omega) (by omega))) h.2.2.2.2.1, g2, g3, g4, by rw [hf 20 h20]; exact h.2.2.2.2.2.2.2.2⟩
/-- the reference behind an act -/
theorem mS_act {A : St} {W' : Wk} {I' : Nat → Nat → Int32} (h : mS A I) (hp : wp W' = wp (sW A)) (hf : fr [85, 103, 104, 105, 106, 107] I I') (h85 : ∀ j, j ≠ 0 → j ≠ 48 → j ≠ 52 → I' 85 j = I 85 j) (hR : mR (I' 103) 0 (tM (sT A)) W') (h48 : I' 85 48 = nI (kA (sNA A) (sA A) (sW A)).1) (hA : mA 104 (kA (sNA A) (sA A) (sW A)).1 (tM (sT A)) (kA (sNA A) (sA A) (sW A)).2 I') : mS (sAct A W') I' :=
  mS_of (A' := sAct A W') h hf rfl (fun j hj => h85 j (by omega) (by omega) (by omega)) (by decide) (by decide) (by decide) (by decide) (by decide) (by decide) (by rw [h85 3 (by omega) (by omega) (by omega), h.2.1]; show nI _ = nI (wp W'); rw [hp]) hR ⟨h48, hA⟩ ⟨by rw [h85 55 (by omega) (by omega) (by omega)]; exact h.2.2.2.2.1.1, by unfold mN; rw [hf 110 (by decide)]; exact h.2.2.2.2.1.2⟩ (mI_fr h.2.2.2.2.2.1 hf (fun j hj => h85 j (by omega) (by omega) (by omega)) (by decide) (by decide) (by decide)) ⟨by rw [h85 14 (by omega) (by omega) (by omega)]; exact h.2.2.2.2.2.2.1.1, by rw [hf 92 (by decide)]; exact h.2.2.2.2.2.2.1.2⟩ (by rw [h85 16 (by omega) (by omega) (by omega)]; exact h.2.2.2.2.2.2.2.1) (by rw [hf 93 (by decide)]; exact h.2.2.2.2.2.2.2.2)
end Spec
