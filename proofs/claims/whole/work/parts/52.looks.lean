/-! calls that look: states that are carried along -/
def cw (A : St) (t : Bool) (J : Nat → Nat → Int64) (I0 I : Nat → Nat → Int32) : Prop := cS A t I J ∧ co I0 I
def mw (A : St) (I0 I : Nat → Nat → Int32) : Prop := mS A I ∧ mo I0 I ∧ I 85 0 = nI 0
theorem cw_0 {A : St} {t : Bool} {J : Nat → Nat → Int64} {I : Nat → Nat → Int32} (h : cS A t I J) : cw A t J I I := ⟨h, fun _ _ => rfl⟩
theorem cw_f {A : St} {t : Bool} {J : Nat → Nat → Int64} {I0 I I' : Nat → Nat → Int32} (h : cw A t J I0 I) (hf : fr (qs t) I I') (hM : cM (sT A) I') : cw A t J I0 I' := ⟨cS_q h.1 hf hM, fun a ha => (co_q hf a ha).trans (h.2 a ha)⟩
theorem cw_e {A : St} {t : Bool} {J : Nat → Nat → Int64} {I0 I : Nat → Nat → Int32} {L : Nat} {Q : pm_R → pm_H → Prop} {r : pm_R} (h : cw A t J I0 I) (hk : ∀ (fz' t' : Bool) (I' : Nat → Nat → Int32) (J' : Nat → Nat → Int64), cS A t' I' J' → co I0 I' → (∀ a, 85 ≤ a → J' a = J a) → Q r (pm_hp L fz' t' I' J')) {fz' : Bool} : Q r (pm_hp L fz' t I J) := hk fz' t I J h.1 h.2 (fun _ _ => rfl)
theorem mw_0 {A : St} {I : Nat → Nat → Int32} (ho : ok A) (h : mS A I) : mw A I (pm_u I 85 0 (nI 0)) := ⟨mS_q ho h m0_q, mo_q m0_q, m0_0⟩
theorem mw_f {A : St} {I0 I I' : Nat → Nat → Int32} (ho : ok A) (h : mw A I0 I) (hq : mq I I') (h0 : I' 85 0 = nI 0) : mw A I0 I' := ⟨mS_q ho h.1 hq, fun a ha => (mo_q hq a ha).trans (h.2.1 a ha), h0⟩
theorem mw_e {A : St} {I0 I : Nat → Nat → Int32} {J : Nat → Nat → Int64} {L : Nat} {fz t : Bool} {Q : pm_R → pm_H → Prop} {P : pm_R → Prop} {r : pm_R} (h : mw A I0 I) (hk : ∀ (I' : Nat → Nat → Int32) (J' : Nat → Nat → Int64) (r : pm_R), mS A I' → mo I0 I' → (∀ a, a < 85 ∨ 117 ≤ a → J' a = J a) → I' 85 0 = nI 0 → P r → Q r (pm_hp L fz t I' J')) (hP : P r) : Q r (pm_hp L fz t I J) := hk I J r h.1 h.2.1 (fun _ _ => rfl) h.2.2 hP
theorem mw_x {A : St} {I0 I : Nat → Nat → Int32} {J : Nat → Nat → Int64} {L : Nat} {fz t : Bool} {Q : pm_R → pm_H → Prop} {P : pm_R → Prop} {r : pm_R} {e : Nat} (ho : ok A) (h : mw A I0 I) (hk : ∀ (I' : Nat → Nat → Int32) (J' : Nat → Nat → Int64) (r : pm_R), mS A I' → mo I0 I' → (∀ a, a < 85 ∨ 117 ≤ a → J' a = J a) → I' 85 0 = nI e → P r → Q r (pm_hp L fz t I' J')) (hP : P r) : Q r (pm_hp L fz t (pm_u I 85 0 (nI e)) J) :=
  hk _ J r (mS_q ho h.1 (mq_th mq_r)) (fun a ha => (mo_q (mq_th mq_r) a ha).trans (h.2.1 a ha)) (fun _ _ => rfl) pm_us hP
section Guards
variable {d L : Nat} {fz t : Bool} {Q : pm_R → pm_H → Prop} {I I0 : Nat → Nat → Int32} {J : Nat → Nat → Int64} {A : St}
theorem gCy {x : Int32} {m : Nat} (he : I (pm_td t) 13 = nI m) (h : inR x m = true) (hy : Q (.inl none) (pm_hp L fz t I J)) : pm_Ev (d + 1) 281 [.ref 0, .int x] (pm_hp L fz t I J) Q := S_needCard he (fun _ => hy) (fun q => by rw [h] at q; cases q)
theorem gCn {x : Int32} {m : Nat} (he : I (pm_td t) 13 = nI m) (h : inR x m = false) (hn : Q (.inr 1) (pm_hp L true t I J)) : pm_Ev (d + 1) 281 [.ref 0, .int x] (pm_hp L fz t I J) Q := S_needCard he (fun q => by rw [h] at q; cases q) (fun _ => hn)
theorem gFy {x : Int32} {m : Nat} (he : I (pm_td t) 15 = nI m) (h : inR x m = true) (hy : Q (.inl none) (pm_hp L fz t I J)) : pm_Ev (d + 1) 283 [.ref 0, .int x] (pm_hp L fz t I J) Q := S_needFigure he (fun _ => hy) (fun q => by rw [h] at q; cases q)
theorem gFn {x : Int32} {m : Nat} (he : I (pm_td t) 15 = nI m) (h : inR x m = false) (hn : Q (.inr 1) (pm_hp L true t I J)) : pm_Ev (d + 1) 283 [.ref 0, .int x] (pm_hp L fz t I J) Q := S_needFigure he (fun q => by rw [h] at q; cases q) (fun _ => hn)
theorem gPy {x : Int32} {m : Nat} (he : I 23 3 = nI m) (h : inR x m = true) (hy : Q (.inl none) (pm_hp L fz t I J)) : pm_Ev (d + 2) 282 [.ref 0, .int x] (pm_hp L fz t I J) Q := S_needPick he (fun _ => hy) (fun q => by rw [h] at q; cases q)
theorem gPn {x : Int32} {m : Nat} (he : I 23 3 = nI m) (h : inR x m = false) (hn : Q (.inr 1) (pm_hp L true t I J)) : pm_Ev (d + 2) 282 [.ref 0, .int x] (pm_hp L fz t I J) Q := S_needPick he (fun q => by rw [h] at q; cases q) (fun _ => hn)
theorem gWy {x : Int32} {m : Nat} (hm : m + 1 < 2 ^ 31) (h : inR x (m + 1) = true) (hy : Q (.inl none) (pm_hp L fz t I J)) : pm_Ev (d + 1) 284 [.int x, .int (nI m)] (pm_hp L fz t I J) Q := S_needWhat hm (fun _ => hy) (fun q => by rw [h] at q; cases q)
theorem gWn {x : Int32} {m : Nat} (hm : m + 1 < 2 ^ 31) (h : inR x (m + 1) = false) (hn : Q (.inr 1) (pm_hp L true t I J)) : pm_Ev (d + 1) 284 [.int x, .int (nI m)] (pm_hp L fz t I J) Q := S_needWhat hm (fun q => by rw [h] at q; cases q) (fun _ => hn)
theorem mCy {x : Int32} (hw : mw A I0 I) (h : inR x (tM (sT A)) = true) (hq : Q (.inl (some (.int (nI 1)))) (pm_hp L fz t I J)) : pm_Ev (d + 2) 180 [.ref 85, .int x] (pm_hp L fz t I J) Q :=
  S_isIn (m := tM (sT A)) (Or.inl ⟨rfl, rfl⟩) hw.1.1.2.1 hw.2.2 (by rw [h, rt_t rfl]; exact hq)
theorem mCn {x : Int32} (hw : mw A I0 I) (h : inR x (tM (sT A)) = false) (hq : Q (.inl (some (.int (nI 0)))) (pm_hp L fz t (pm_u I 85 0 (nI 1)) J)) : pm_Ev (d + 2) 180 [.ref 85, .int x] (pm_hp L fz t I J) Q :=
  S_isIn (m := tM (sT A)) (Or.inl ⟨rfl, rfl⟩) hw.1.1.2.1 hw.2.2 (by rw [h, rt_f rfl]; exact hq)
theorem mPy {x : Int32} (hw : mw A I0 I) (h : inR x (wp (sW A)) = true) (hq : Q (.inl (some (.int (nI 1)))) (pm_hp L fz t I J)) : pm_Ev (d + 2) 181 [.ref 85, .int x] (pm_hp L fz t I J) Q :=
  S_isIn (m := wp (sW A)) (Or.inr (Or.inl ⟨rfl, rfl⟩)) hw.1.2.1 hw.2.2 (by rw [h, rt_t rfl]; exact hq)
theorem mPn {x : Int32} (hw : mw A I0 I) (h : inR x (wp (sW A)) = false) (hq : Q (.inl (some (.int (nI 0)))) (pm_hp L fz t (pm_u I 85 0 (nI 1)) J)) : pm_Ev (d + 2) 181 [.ref 85, .int x] (pm_hp L fz t I J) Q :=
  S_isIn (m := wp (sW A)) (Or.inr (Or.inl ⟨rfl, rfl⟩)) hw.1.2.1 hw.2.2 (by rw [h, rt_f rfl]; exact hq)
theorem mFy {x : Int32} (hw : mw A I0 I) (h : inR x (tG (sT A)) = true) (hq : Q (.inl (some (.int (nI 1)))) (pm_hp L fz t I J)) : pm_Ev (d + 2) 182 [.ref 85, .int x] (pm_hp L fz t I J) Q :=
  S_isIn (m := tG (sT A)) (Or.inr (Or.inr ⟨rfl, rfl⟩)) hw.1.1.2.2.1 hw.2.2 (by rw [h, rt_t rfl]; exact hq)
theorem mFn {x : Int32} (hw : mw A I0 I) (h : inR x (tG (sT A)) = false) (hq : Q (.inl (some (.int (nI 0)))) (pm_hp L fz t (pm_u I 85 0 (nI 1)) J)) : pm_Ev (d + 2) 182 [.ref 85, .int x] (pm_hp L fz t I J) Q :=
  S_isIn (m := tG (sT A)) (Or.inr (Or.inr ⟨rfl, rfl⟩)) hw.1.1.2.2.1 hw.2.2 (by rw [h, rt_f rfl]; exact hq)
theorem mWy {x : Int32} {m : Nat} (hw : mw A I0 I) (hm : m + 1 < 2 ^ 31) (h : inR x (m + 1) = true) (hq : Q (.inl (some (.int (nI 1)))) (pm_hp L fz t I J)) : pm_Ev (d + 2) 183 [.ref 85, .int x, .int (nI m)] (pm_hp L fz t I J) Q :=
  S_isWhat hm hw.2.2 (by rw [h, rt_t rfl]; exact hq)
theorem mWn {x : Int32} {m : Nat} (hw : mw A I0 I) (hm : m + 1 < 2 ^ 31) (h : inR x (m + 1) = false) (hq : Q (.inl (some (.int (nI 0)))) (pm_hp L fz t (pm_u I 85 0 (nI 1)) J)) : pm_Ev (d + 2) 183 [.ref 85, .int x, .int (nI m)] (pm_hp L fz t I J) Q :=
  S_isWhat hm hw.2.2 (by rw [h, rt_f rfl]; exact hq)
theorem mSy {x : Int32} {lo v : Nat} (hw : mw A I0 I) (hv : 0 < v ∧ v < 3) (h : inS x lo = true) (hq : Q (.inl (some (.int (nI 1)))) (pm_hp L fz t I J)) : pm_Ev (d + 2) 195 [.ref 85, .int x, .int (nI lo), .int (nI v)] (pm_hp L fz t I J) Q :=
  S_isSundays hv hw.2.2 (by rw [h, rt_t rfl]; exact hq)
theorem mSn {x : Int32} {lo v : Nat} (hw : mw A I0 I) (hv : 0 < v ∧ v < 3) (h : inS x lo = false) (hq : Q (.inl (some (.int (nI 0)))) (pm_hp L fz t (pm_u I 85 0 (nI v)) J)) : pm_Ev (d + 2) 195 [.ref 85, .int x, .int (nI lo), .int (nI v)] (pm_hp L fz t I J) Q :=
  S_isSundays hv hw.2.2 (by rw [h, rt_f rfl]; exact hq)
theorem mq_w {S : List Nat} {I' : Nat → Nat → Int32} (hf : fr S I I') (hs : ∀ a, a ∈ S → a = 105 ∨ a = 106 ∨ a = 108 ∨ a = 109 ∨ a = 111 ∨ a = 112 ∨ a = 113 ∨ a = 107) : mq I I' :=
  ⟨fr_m hf (fun a ha => by have := hs a ha; unfold ms; simp; omega), fun j _ _ _ => by rw [hf 85 (fun q => by have := hs _ q; omega)], fun k _ => by rw [hf 103 (fun q => by have := hs _ q; omega)]⟩
/-- the class weaves what is now -/
theorem cw_weave {s : Nat} (ho : ok A) (h : cw A t J I0 I) (hs : s ≤ 30) (hq : ∀ I', cw A t J I0 I' → fr [3, 4, 6, 7, 8, pm_td t + 9 + 2] I I' → I' 3 1 = nI (wp (sW A)) → (∀ k, k < wp (sW A) → I' 4 k = clR (sT A) (wag (sW A) s) k) → Q (.inl none) (pm_hp L fz t I' J)) : pm_Ev (d + 5) 12 [.ref 3, .ref (pm_td t), .ref 23, .int (nI s)] (pm_hp L fz t I J) Q :=
  S_weave (td_or t) (Or.inl rfl) h.1.1 h.1.2.1 ho.1 ho.2.1 h.1.2.2.1 hs fun I' hf hM h1 h2 => hq I' (cw_f h (fr_m hf (fun a ha => by unfold qs; simp at ha ⊢ <;> omega)) hM) hf h1 h2
/-- now, woven, by its own name -/
theorem cw_weave0 (ho : ok A) (h : cw A t J I0 I) (hq : ∀ I', cw A t J I0 I' → fr [3, 4, 6, 7, 8, pm_td t + 9 + 2] I I' → I' 3 1 = nI (wp (sW A)) → (∀ k, k < wp (sW A) → I' 4 k = clR (sT A) (sW A) k) → Q (.inl none) (pm_hp L fz t I' J)) : pm_Ev (d + 5) 12 [.ref 3, .ref (pm_td t), .ref 23, .int (nI 0)] (pm_hp L fz t I J) Q :=
  cw_weave ho h (by omega) fun I' h1 h2 h3 h4 => hq I' h1 h2 h3 fun k hk => by rw [h4 k hk]; exact cl_wag0 ho.2.1 ho.1 (by omega)
/-- the reference weaves what is now -/
theorem mw_weaves (ho : ok A) (h : mw A I0 I) (hq : ∀ I', mw A I0 I' → fr [85, 105, 106, 107] I I' → I' 85 52 = nI (wp (sW A)) → (∀ k, k < wp (sW A) → I' 107 k = clR (sT A) (sW A) k) → Q (.inl none) (pm_hp L fz t I' J)) : pm_Ev (d + 5) 169 [.ref 85, .int (nI 0)] (pm_hp L fz t I J) Q :=
  S_weaves (Or.inl rfl) h.1.1 h.1.2.1 h.1.2.2.1 ho.1 ho.2.1 fun I' hf h85 h1 h2 => hq I' (mw_f ho h (mq_f hf (fun a ha => by unfold ms; simp at ha ⊢ <;> omega) h85 (fun k _ => by rw [hf 103 (by decide)])) (by rw [h85 0 (by omega)]; exact h.2.2)) hf h1 h2
end Guards
def lsr (a b : Nat) : Nat := if b < a then b else a
theorem min_c {a b : Nat} (ha : a < 2 ^ 31) (hb : b < 2 ^ 31) : (if nI b < nI a then nI b else nI a) = nI (min a b) := by
  by_cases h : b < a
  · rw [if_pos (nI_lt h ha), Nat.min_eq_right (by omega)]
  · rw [if_neg (nI_nlt (by omega) hb), Nat.min_eq_left (by omega)]
theorem S_lesser {d L : Nat} {fz t : Bool} {Q : pm_R → pm_H → Prop} {I : Nat → Nat → Int32} {J : Nat → Nat → Int64} {a b : Nat} (ha : a < 2 ^ 31) (hb : b < 2 ^ 31) (hq : Q (.inl (some (.int (nI (min a b))))) (pm_hp L fz t I J)) : pm_Ev (d + 1) 121 [.int (nI a), .int (nI b)] (pm_hp L fz t I J) Q :=
  e_X11_lesser (q_le hb ha (fun h => by rw [Nat.min_eq_right h] at hq; exact hq) (fun h => by rw [Nat.min_eq_left (by omega)] at hq; exact hq))
theorem tI_out {y : Int32} {m : Nat} (hm : m + 1 < 2 ^ 31) (h : inR y (m + 1) = false) : y.toInt < 0 ∨ (m : Int) < y.toInt := by
  apply Classical.byContradiction
  intro q
  have : inR y (m + 1) = true := by
    refine inR_in (fun z => ?_) (fun z => ?_)
    · rw [fa_lt, nI_toInt (by omega)] at z; omega
    · rw [fa_le, nI_toInt (by omega)] at z; omega
  rw [this] at h; cases h
