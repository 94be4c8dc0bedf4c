/-! the reference's tokens -/
def ss : List Nat := [59, 40, 41, 43, 45, 42, 47, 60, 61]
def srt (k : Tk) : Nat := if k.1 = 5 then 2 else if k.1 = 3 then (if k.2 ∈ ss then 3 else 4) else k.1
def pkn (g : Nat → Nat) (s : Nat) : Nat → Nat
  | 0 => 0
  | k + 1 => pkn g s k * 32 + (g (s + k) - 96)
def mTp (g : Nat → Nat) (N : Nat) (I : Nat → Nat → Int32) : Prop := I 85 18 = nI N ∧ ∀ i, i < N → I 92 i = nI (g i)
def mTk (g : Nat → Nat) (N p : Nat) (I : Nat → Nat → Int32) (J : Nat → Nat → Int64) : Prop := mTp g N I ∧ I 85 19 = nI (tnx g N p) ∧ I 85 20 = nI (srt (tK g N p)) ∧ I 85 21 = nI (tst g N p) ∧ I 85 22 = nI (tnx g N p - tst g N p) ∧ (∀ v, tK g N p = kN v → I 85 23 = nI v) ∧ (∀ c, tK g N p = kS c → I 85 24 = nI c) ∧ ((tK g N p).1 = 1 → tnx g N p - tst g N p ≤ 7 → J 85 25 = lN (pkn g (tst g N p) (tnx g N p - tst g N p)))
def gF (I I' : Nat → Nat → Int32) : Prop := (∀ a, a ≠ 85 → I' a = I a) ∧ ∀ k, (k < 19 ∨ 25 ≤ k) → I' 85 k = I 85 k
def gJ (J J' : Nat → Nat → Int64) : Prop := ∀ a, a ≠ 85 → J' a = J a
theorem gF_r {I : Nat → Nat → Int32} : gF I I := ⟨fun _ _ => rfl, fun _ _ => rfl⟩
theorem gF_t {I I' I'' : Nat → Nat → Int32} (h : gF I I') (h' : gF I' I'') : gF I I'' := ⟨fun a ha => (h'.1 a ha).trans (h.1 a ha), fun k hk => (h'.2 k hk).trans (h.2 k hk)⟩
theorem gF_u {I I' : Nat → Nat → Int32} {k : Nat} {v : Int32} (h : gF I I') (hk : 19 ≤ k ∧ k < 25) : gF I (pm_u I' 85 k v) := ⟨fun a ha => (pm_ua ha).trans (h.1 a ha), fun j hj => (pm_uk (by omega)).trans (h.2 j hj)⟩
theorem gF_p {g : Nat → Nat} {N : Nat} {I I' : Nat → Nat → Int32} (h : gF I I') (q : mTp g N I) : mTp g N I' := ⟨(h.2 18 (by omega)).trans q.1, fun i hi => by rw [h.1 92 (by omega)]; exact q.2 i hi⟩
theorem pkn_lt {g : Nat → Nat} (s : Nat) : ∀ k, (∀ i, i < k → bL (g (s + i)) = true) → pkn g s k < 32 ^ k
  | 0, _ => by unfold pkn; omega
  | k + 1, h => by
    have h1 := pkn_lt s k (fun i hi => h i (by omega))
    have h2 := h k (by omega)
    unfold bL at h2; simp at h2
    unfold pkn
    rw [Nat.pow_succ]
    omega
theorem l_sh5 : (((nI 5).toInt64 &&& 63).toBitVec.smod 64).toNat = 5 := by decide +kernel
theorem l_pk5 {V w : Nat} (hV : V < 2 ^ 40) (hw : w < 32) : (lN V <<< ((nI 5).toInt64 &&& 63)) ||| (nI w).toInt64 = lN (V * 32 + w) := by
  apply l_ext
  rw [nI_l (n := w) (by omega), Int64.toBitVec_or, BitVec.toNat_or, l_tn (by omega), l_tn (by omega), Int64.toBitVec_shiftLeft]
  show ((lN V).toBitVec <<< (((nI 5).toInt64 &&& 63).toBitVec.smod 64).toNat).toNat ||| w = _
  rw [l_sh5, BitVec.toNat_shiftLeft, l_tn (by omega), Nat.shiftLeft_eq, Nat.mod_eq_of_lt (by omega), show V * 2 ^ 5 = 2 ^ 5 * V by omega, ← Nat.two_pow_add_eq_or_of_lt (by omega : w < 2 ^ 5)]
section Spec
variable {d L : Nat} {fz t : Bool} {Q : pm_R → pm_H → Prop} {I : Nat → Nat → Int32} {J : Nat → Nat → Int64} {g : Nat → Nat} {N : Nat}
theorem S_byteAt (hN : N ≤ 700) (h : mTp g N I) {i : Nat} (hi : i ≤ N) (hq : Q (.inl (some (.int (nI (if i < N then g i else 0))))) (pm_hp L fz t I J)) : pm_Ev (d + 1) 126 [.ref 85, .int (nI i)] (pm_hp L fz t I J) Q := by
  refine e_X11_byteAt ?_
  rw [h.1]
  refine q_le (by omega) (by omega) (fun e => ?_) (fun e => ⟨vp_in_nI (by omega) (by omega), ?_⟩)
  · rw [if_neg (by omega)] at hq; exact hq
  · rw [nI_clamp (by omega), h.2 i e]
    rw [if_pos e] at hq; exact hq
theorem S_mLetter {c : Nat} (hc : c < 256) (hq : Q (.inl (some (.int (bz (bL c))))) (pm_hp L fz t I J)) : pm_Ev (d + 1) 127 [.int (nI c)] (pm_hp L fz t I J) Q := by
  refine e_X11_isLetter (q_lt (by omega) (by omega) (fun e => ?_) (fun e => q_lt (by omega) (by omega) (fun e2 => ?_) (fun e2 => ?_)))
  · rw [show bL c = false from decide_eq_false (by omega)] at hq; exact hq
  · rw [show bL c = false from decide_eq_false (by omega)] at hq; exact hq
  · rw [show bL c = true from decide_eq_true (by omega)] at hq; exact hq
theorem S_mDigit {c : Nat} (hc : c < 256) (hq : Q (.inl (some (.int (bz (bD c))))) (pm_hp L fz t I J)) : pm_Ev (d + 1) 128 [.int (nI c)] (pm_hp L fz t I J) Q := by
  refine e_X11_isDigit (q_lt (by omega) (by omega) (fun e => ?_) (fun e => q_lt (by omega) (by omega) (fun e2 => ?_) (fun e2 => ?_)))
  · rw [show bD c = false from decide_eq_false (by omega)] at hq; exact hq
  · rw [show bD c = false from decide_eq_false (by omega)] at hq; exact hq
  · rw [show bD c = true from decide_eq_true (by omega)] at hq; exact hq
theorem if_256 (hg : ∀ i, g i < 256) (i : Nat) : (if i < N then g i else 0) < 256 := by split; exact hg i; omega
/-- the letters of a word -/
theorem T_word (hg : ∀ i, g i < 256) (hN : N ≤ 700) {s : Nat} (hs : s ≤ N) (hq : ∀ I' J', gF I I' → gJ J J' → I' 85 21 = nI s → I' 85 19 = nI (sc bL g N s) → I' 85 20 = nI 1 → I' 85 22 = nI (sc bL g N s - s) → (sc bL g N s - s ≤ 7 → J' 85 25 = lN (pkn g s (sc bL g N s - s))) → Q (.inl none) (pm_hp L fz t I' J')) :
    ∀ f k I1 J1, N - (s + k) = f → s + k ≤ N → sc bL g N (s + k) = sc bL g N s → (∀ i, i < k → bL (g (s + i)) = true) → mTp g N I1 → gF I I1 → gJ J J1 → I1 85 21 = nI s → I1 85 19 = nI (s + k) → (k ≤ 7 → J1 85 25 = lN (pkn g s k)) → t_X11_goes_108 (d + 1) L fz t Q I1 J1 := by
  have fin : ∀ k I1 J1, s + k ≤ N → s + k = sc bL g N s → gF I I1 → gJ J J1 → I1 85 21 = nI s → I1 85 19 = nI (s + k) → (k ≤ 7 → J1 85 25 = lN (pkn g s k)) → Q (.inl none) (pm_hp L fz t (pm_u (pm_u I1 85 20 (nI 1)) 85 22 (I1 85 19 - I1 85 21)) J1) := by
    intro k I1 J1 hk he hF hJ h21 h19 h25
    refine hq _ _ (gF_u (gF_u hF (by omega)) (by omega)) hJ ?_ ?_ ?_ ?_ ?_
    · rw [pm_uk (by omega), pm_uk (by omega)]; exact h21
    · rw [pm_uk (by omega), pm_uk (by omega), h19, he]
    · rw [pm_uk (by omega), pm_us]
    · rw [pm_us, h19, h21, nI_subn (by omega), he]
    · intro h7
      rw [h25 (by omega)]
      congr 2; omega
  intro f
  induction f with
  | zero =>
    intro k I1 J1 hf hk he hl hT hF hJ h21 h19 h25
    refine b_X11_goes_108 ?_
    rw [h19]
    refine S_byteAt (d := d) hN hT hk (kb_X11_goes_116 (S_mLetter (d := d) (if_256 hg _) (kb_X11_goes_119 ?_)))
    rw [if_neg (by omega)]
    exact q_t rfl (fin k I1 J1 hk (by rw [← he, sc_ge (by omega)]) hF hJ h21 h19 h25)
  | succ f ih =>
    intro k I1 J1 hf hk he hl hT hF hJ h21 h19 h25
    refine b_X11_goes_108 ?_
    rw [h19]
    refine S_byteAt (d := d) hN hT hk (kb_X11_goes_116 (S_mLetter (d := d) (if_256 hg _) (kb_X11_goes_119 ?_)))
    rw [if_pos (by omega)]
    refine q_b0 (fun e => ?_) (fun e => ?_)
    · exact fin k I1 J1 hk (by rw [← he, sc_f e]) hF hJ h21 h19 h25
    · have e' := e
      unfold bL at e'; simp at e'
      have hl' : ∀ i, i < k + 1 → bL (g (s + i)) = true := fun i hi => by
        by_cases ei : i = k
        · rw [ei]; exact e
        · exact hl i (by omega)
      have he' : sc bL g N (s + (k + 1)) = sc bL g N s := by rw [← he, sc_t (by omega) e]; rfl
      rw [h19, h21, nI_subn (by omega), show s + k - s = k by omega, nI_add, show s + k + 1 = s + (k + 1) by omega]
      refine q_le (by omega) (by omega) (fun c => ?_) (fun c => ?_)
      · refine ih (k + 1) _ J1 (by omega) (by omega) he' hl' (gF_p (gF_u gF_r (by omega)) hT) (gF_u hF (by omega)) hJ ?_ pm_us (fun q => absurd q (by omega))
        rw [pm_uk (by omega)]; exact h21
      · refine S_byteAt (d := d) hN hT hk (kb_X11_goes_151 ?_)
        rw [if_pos (by omega), nI_subn (by omega), h19, nI_add, show s + k + 1 = s + (k + 1) by omega]
        refine ih (k + 1) _ _ (by omega) (by omega) he' hl' (gF_p (gF_u gF_r (by omega)) hT) (gF_u hF (by omega)) (fun b hb => (pm_ua hb).trans (hJ b hb)) ?_ pm_us (fun q => ?_)
        · rw [pm_uk (by omega)]; exact h21
        · rw [pm_us, h25 (by omega)]
          have hlt := pkn_lt (g := g) s k hl
          have h40 : pkn g s k < 2 ^ 40 := Nat.lt_of_lt_of_le hlt (Nat.le_trans (Nat.pow_le_pow_right (by omega) (show k ≤ 6 by omega)) (by decide))
          exact l_pk5 h40 (by omega)
/-- the digits of a number -/
theorem T_numb (hg : ∀ i, g i < 256) (hN : N ≤ 700) {s : Nat} (hs : s ≤ N) (hq : ∀ I', gF I I' → I' 85 21 = nI s → I' 85 19 = nI (sc bD g N s) → I' 85 20 = nI 2 → I' 85 22 = nI (sc bD g N s - s) → (sc bD g N s - s ≤ 4 → I' 85 23 = nI (dv g s (sc bD g N s - s))) → Q (.inl none) (pm_hp L fz t I' J)) :
    ∀ f k I1, N - (s + k) = f → s + k ≤ N → sc bD g N (s + k) = sc bD g N s → mTp g N I1 → gF I I1 → I1 85 21 = nI s → I1 85 19 = nI (s + k) → (k ≤ 4 → I1 85 23 = nI (dv g s k)) → t_X11_goes_187 (d + 1) L fz t Q I1 J := by
  have fin : ∀ k I1, s + k ≤ N → s + k = sc bD g N s → gF I I1 → I1 85 21 = nI s → I1 85 19 = nI (s + k) → (k ≤ 4 → I1 85 23 = nI (dv g s k)) → Q (.inl none) (pm_hp L fz t (pm_u (pm_u I1 85 20 (nI 2)) 85 22 (I1 85 19 - I1 85 21)) J) := by
    intro k I1 hk he hF h21 h19 h25
    refine hq _ (gF_u (gF_u hF (by omega)) (by omega)) ?_ ?_ ?_ ?_ ?_
    · rw [pm_uk (by omega), pm_uk (by omega)]; exact h21
    · rw [pm_uk (by omega), pm_uk (by omega), h19, he]
    · rw [pm_uk (by omega), pm_us]
    · rw [pm_us, h19, h21, nI_subn (by omega), he]
    · intro h7
      rw [pm_uk (by omega), pm_uk (by omega), h25 (by omega)]
      congr 2; omega
  intro f
  induction f with
  | zero =>
    intro k I1 hf hk he hT hF h21 h19 h25
    refine b_X11_goes_187 ?_
    rw [h19]
    refine S_byteAt (d := d) hN hT hk (kb_X11_goes_195 (S_mDigit (d := d) (if_256 hg _) (kb_X11_goes_198 ?_)))
    rw [if_neg (by omega)]
    exact q_t rfl (fin k I1 hk (by rw [← he, sc_ge (by omega)]) hF h21 h19 h25)
  | succ f ih =>
    intro k I1 hf hk he hT hF h21 h19 h25
    refine b_X11_goes_187 ?_
    rw [h19]
    refine S_byteAt (d := d) hN hT hk (kb_X11_goes_195 (S_mDigit (d := d) (if_256 hg _) (kb_X11_goes_198 ?_)))
    rw [if_pos (by omega)]
    refine q_b0 (fun e => ?_) (fun e => ?_)
    · exact fin k I1 hk (by rw [← he, sc_f e]) hF h21 h19 h25
    · have e' := e
      unfold bD at e'; simp at e'
      have he' : sc bD g N (s + (k + 1)) = sc bD g N s := by rw [← he, sc_t (by omega) e]; rfl
      rw [h19, h21, nI_subn (by omega), show s + k - s = k by omega, nI_add, show s + k + 1 = s + (k + 1) by omega]
      refine q_le (by omega) (by omega) (fun c => ?_) (fun c => ?_)
      · refine ih (k + 1) _ (by omega) (by omega) he' (gF_p (gF_u gF_r (by omega)) hT) (gF_u hF (by omega)) ?_ pm_us (fun q => absurd q (by omega))
        rw [pm_uk (by omega)]; exact h21
      · refine S_byteAt (d := d) hN hT hk (kb_X11_goes_230 ?_)
        rw [if_pos (by omega), h19, nI_add (s + k) 1, show s + k + 1 = s + (k + 1) by omega, h25 (by omega), nI_mul, nI_add, nI_subn (by omega)]
        refine ih (k + 1) _ (by omega) (by omega) he' (gF_p (gF_u (gF_u gF_r (by omega)) (by omega)) hT) (gF_u (gF_u hF (by omega)) (by omega)) ?_ pm_us (fun q => ?_)
        · rw [pm_uk (by omega), pm_uk (by omega)]; exact h21
        · rw [pm_uk (by omega), pm_us]
          congr 1
          show _ = dv g s k * 10 + (g (s + k) - 48)
          omega
theorem S_goes (hg : ∀ i, g i < 256) (hN : N ≤ 700) (h : mTp g N I) {p : Nat} (hp : p ≤ N) (h4 : I 85 19 = nI p) (hq : ∀ I' J', mTk g N p I' J' → gF I I' → gJ J J' → Q (.inl none) (pm_hp L fz t I' J')) : pm_Ev (d + 2) 129 [.ref 85] (pm_hp L fz t I J) Q := by
  have tc := tk_cases (g := g) hp
  have behind : ∀ I1, mTp g N I1 → gF I I1 → I1 85 19 = nI (tst g N p) → pm_Ev (d + 1) 126 [.ref 85, .int (I1 85 19)] (pm_hp L fz t (pm_u (pm_u I1 85 21 (I1 85 19)) 85 23 (nI 0)) (pm_u J 85 25 (Int64.ofNat 0))) (K_X11_goes_76 (d + 1) fz t Q) := by
    intro I1 hT1 hF1 h19
    have hs := tst_N (g := g) hp
    rw [h19]
    have f2 : gF I1 (pm_u (pm_u I1 85 21 (nI (tst g N p))) 85 23 (nI 0)) := gF_u (gF_u gF_r (by omega)) (by omega)
    refine S_byteAt (d := d) hN (gF_p f2 hT1) hs (kb_X11_goes_76 ?_)
    have e19 : pm_u (pm_u I1 85 21 (nI (tst g N p))) 85 23 (nI 0) 85 19 = nI (tst g N p) := by rw [pm_uk (by omega), pm_uk (by omega)]; exact h19
    have e21 : pm_u (pm_u I1 85 21 (nI (tst g N p))) 85 23 (nI 0) 85 21 = nI (tst g N p) := by rw [pm_uk (by omega), pm_us]
    have e23 : pm_u (pm_u I1 85 21 (nI (tst g N p))) 85 23 (nI 0) 85 23 = nI 0 := pm_us
    have ej : gJ J (pm_u J 85 25 (Int64.ofNat 0)) := fun b hb => pm_ua hb
    rw [e19, e21, (gF_p f2 hT1).1]
    refine q_lt (by omega) (by omega) (fun hlt => ?_) (fun hge => ?_)
    · rw [if_pos hlt]
      have f3 : gF I1 (pm_u (pm_u (pm_u I1 85 21 (nI (tst g N p))) 85 23 (nI 0)) 85 24 (nI (g (tst g N p)))) := gF_u f2 (by omega)
      refine S_mLetter (d := d) (hg _) (kb_X11_goes_105 (q_b0 (fun b1 => S_mDigit (d := d) (hg _) (kb_X11_goes_184 (q_b0 (fun b2 => ?_) (fun b2 => ?_)))) (fun b1 => ?_)))
      · rcases tc with ⟨q, _⟩ | ⟨_, q, _⟩ | ⟨_, _, q, _⟩ | ⟨_, _, _, e1, e2⟩
        · omega
        · rw [b1] at q; cases q
        · rw [b2] at q; cases q
        · have fin : ∀ x, x = srt (tK g N p) → Q (.inl none) (pm_hp L fz t (pm_u (pm_u (pm_u (pm_u (pm_u (pm_u I1 85 21 (nI (tst g N p))) 85 23 (nI 0)) 85 24 (nI (g (tst g N p)))) 85 19 (nI (tst g N p + 1))) 85 20 (nI x)) 85 22 (nI (tst g N p + 1) - nI (tst g N p))) (pm_u J 85 25 (Int64.ofNat 0))) := by
            intro x hx
            have f4 : gF I1 (pm_u (pm_u (pm_u (pm_u (pm_u (pm_u I1 85 21 (nI (tst g N p))) 85 23 (nI 0)) 85 24 (nI (g (tst g N p)))) 85 19 (nI (tst g N p + 1))) 85 20 (nI x)) 85 22 (nI (tst g N p + 1) - nI (tst g N p))) := gF_u (gF_u (gF_u f3 (by omega)) (by omega)) (by omega)
            refine hq _ _ ⟨gF_p f4 hT1, ?_, ?_, ?_, ?_, fun v hv => ?_, fun c hc => ?_, fun q => ?_⟩ (gF_t hF1 f4) ej
            · rw [pm_uk (by omega), pm_uk (by omega), pm_us, e1]
            · rw [pm_uk (by omega), pm_us, hx]
            · rw [pm_uk (by omega), pm_uk (by omega), pm_uk (by omega), pm_uk (by omega)]; exact e21
            · rw [pm_us, nI_subn (by omega), e1]
            · rw [e2] at hv; cases hv
            · rw [e2] at hc; cases hc
              rw [pm_uk (by omega), pm_uk (by omega), pm_uk (by omega), pm_us]
            · rw [e2] at q; cases q
          have hgs := hg (tst g N p)
          have s3 : g (tst g N p) ∈ ss → 3 = srt (tK g N p) := fun hm => by rw [e2]; exact (if_pos hm).symm
          have s4 : ¬ g (tst g N p) ∈ ss → 4 = srt (tK g N p) := fun hm => by rw [e2]; exact (if_neg hm).symm
          have k19 : pm_u (pm_u (pm_u I1 85 21 (nI (tst g N p))) 85 23 (nI 0)) 85 24 (nI (g (tst g N p))) 85 19 = nI (tst g N p) := by rw [pm_uk (by omega)]; exact e19
          have k21 : pm_u (pm_u (pm_u I1 85 21 (nI (tst g N p))) 85 23 (nI 0)) 85 24 (nI (g (tst g N p))) 85 21 = nI (tst g N p) := by rw [pm_uk (by omega)]; exact e21
          rw [k19, k21, nI_add (tst g N p) 1]
          exact q_eq (by omega) (by omega) (fun q => fin 3 (s3 (by rw [q]; decide))) (fun n0 => q_eq (by omega) (by omega) (fun q => fin 3 (s3 (by rw [q]; decide))) (fun n1 => q_eq (by omega) (by omega) (fun q => fin 3 (s3 (by rw [q]; decide))) (fun n2 => q_eq (by omega) (by omega) (fun q => fin 3 (s3 (by rw [q]; decide))) (fun n3 => q_eq (by omega) (by omega) (fun q => fin 3 (s3 (by rw [q]; decide))) (fun n4 => q_eq (by omega) (by omega) (fun q => fin 3 (s3 (by rw [q]; decide))) (fun n5 => q_eq (by omega) (by omega) (fun q => fin 3 (s3 (by rw [q]; decide))) (fun n6 => q_eq (by omega) (by omega) (fun q => fin 3 (s3 (by rw [q]; decide))) (fun n7 => q_ne (by omega) (by omega) (fun n8 => fin 4 (s4 (by unfold ss; simp; omega))) (fun q => fin 3 (s3 (by rw [q]; decide)))))))))))
      · rcases tc with ⟨q, _⟩ | ⟨_, q, _⟩ | ⟨_, _, _, e1, e2⟩ | ⟨_, _, q, _⟩
        · omega
        · rw [b1] at q; cases q
        · refine T_numb (I := I) hg hN (s := tst g N p) hs (fun I' hF h21 h19' h20 h22 h23 => ?_) _ 0 _ rfl hs rfl (gF_p f3 hT1) (gF_t hF1 f3) ((pm_uk (by omega)).trans e21) ((pm_uk (by omega)).trans e19) (fun _ => (pm_uk (by omega)).trans e23)
          refine hq _ _ ⟨gF_p hF h, by rw [h19', e1], ?_, h21, by rw [h22, e1], fun v hv => ?_, fun c hc => ?_, fun q => ?_⟩ hF ej
          · rw [h20, e2]; split <;> rfl
          · rw [e2, e1] at hv
            split at hv
            · rename_i h44; cases hv; exact h23 h44
            · cases hv
          · rw [e2] at hc; split at hc <;> cases hc
          · rw [e2] at q; split at q <;> cases q
        · rw [b2] at q; cases q
      · rcases tc with ⟨q, _⟩ | ⟨_, _, _, e1, e2⟩ | ⟨_, q, _⟩ | ⟨_, q, _⟩
        · omega
        · refine T_word (I := I) (J := J) hg hN (s := tst g N p) hs (fun I' J' hF hJ h21 h19' h20 h22 h25 => ?_) _ 0 _ _ rfl hs rfl (fun i hi => absurd hi (by omega)) (gF_p f3 hT1) (gF_t hF1 f3) ej ((pm_uk (by omega)).trans e21) ((pm_uk (by omega)).trans e19) (fun _ => pm_us)
          refine hq _ _ ⟨gF_p hF h, by rw [h19', e1], by rw [h20, e2]; rfl, h21, by rw [h22, e1], fun v hv => ?_, fun c hc => ?_, fun _ q => ?_⟩ hF hJ
          · rw [e2] at hv; cases hv
          · rw [e2] at hc; cases hc
          · rw [e1] at q ⊢; exact h25 q
        · rw [b1] at q; cases q
        · rw [b1] at q; cases q
    · rcases tc with ⟨es, e2, e1⟩ | ⟨q, _⟩ | ⟨q, _⟩ | ⟨q, _⟩
      · have f4 : gF I1 (pm_u (pm_u (pm_u (pm_u (pm_u I1 85 21 (nI (tst g N p))) 85 23 (nI 0)) 85 24 (nI (if tst g N p < N then g (tst g N p) else 0))) 85 20 (nI 0)) 85 22 (nI (tst g N p) - nI (tst g N p))) := gF_u (gF_u (gF_u f2 (by omega)) (by omega)) (by omega)
        refine hq _ _ ⟨gF_p f4 hT1, ?_, ?_, ?_, ?_, fun v hv => ?_, fun c hc => ?_, fun q => ?_⟩ (gF_t hF1 f4) ej
        · rw [pm_uk (by omega), pm_uk (by omega), pm_uk (by omega), e19, es, e1]
        · rw [pm_uk (by omega), pm_us, e2]; rfl
        · rw [pm_uk (by omega), pm_uk (by omega), pm_uk (by omega)]; exact e21
        · rw [pm_us, nI_subn (by omega), e1, es]
        · rw [e2] at hv; cases hv
        · rw [e2] at hc; cases hc
        · rw [e2] at q; cases q
      · omega
      · omega
      · omega
  suffices H : ∀ f i I1, N - i = f → i ≤ N → sc bW g N i = tst g N p → mTp g N I1 → gF I I1 → I1 85 19 = nI i → t_X11_goes_0 (d + 1) L fz t Q I1 J from pm_Ev_in rfl (H _ p I rfl hp rfl h gF_r h4)
  intro f
  induction f with
  | zero =>
    intro i I1 hf hi he hT hF h19
    rw [sc_ge (by omega)] at he
    refine b_X11_goes_0 ?_
    have hb := behind I1 hT hF (by rw [h19, he])
    rw [h19] at hb ⊢
    rw [hT.1]
    exact q_t (nI_le (by omega) (by omega)) hb
  | succ f ih =>
    intro i I1 hf hi he hT hF h19
    refine b_X11_goes_0 ?_
    have hb := behind I1 hT hF
    rw [h19] at hb ⊢
    rw [hT.1]
    refine q_f (nI_ge (by omega) (by omega)) (S_byteAt (d := d) hN hT hi (kb_X11_goes_19 ?_))
    rw [if_pos (by omega), h19, nI_add]
    have on : bW (g i) = true → t_X11_goes_0 (d + 1) L fz t Q (pm_u I1 85 19 (nI (i + 1))) J := fun hw => ih (i + 1) _ (by omega) (by omega) ((sc_t (P := bW) (i := i) (by omega) hw).symm.trans he) (gF_p (gF_u gF_r (by omega)) hT) (gF_u hF (by omega)) pm_us
    have hgi := hg i
    refine q_eq (by omega) (by omega) (fun c1 => on (decide_eq_true (Or.inl c1))) (fun c1 => S_byteAt (d := d) hN hT hi (kb_X11_goes_32 ?_))
    rw [if_pos (by omega), h19, nI_add]
    exact q_ne (by omega) (by omega) (fun c2 => hb (by rw [← he, sc_f (decide_eq_false (by omega))])) (fun c2 => on (decide_eq_true (Or.inr c2)))
end Spec
