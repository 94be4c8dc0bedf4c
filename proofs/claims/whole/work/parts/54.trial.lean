/-! trials, Sundays on them -/
theorem okW_ho {T : Td} {V : Wk} (h : okW T V) {c : Nat} {x : Int32} (hx : sm x (tN T)) : okW T (wHo V c x) := ⟨fun e he => by
  show sm (if e = c then x else wo V e) (tN T)
  split
  · exact hx
  · exact h.1 e he, h.2.1, h.2.2.1, h.2.2.2⟩
theorem okW_we {T : Td} {V : Wk} (h : okW T V) {c v : Nat} (hv : v ≤ 9) : okW T (wWe V c v) := ⟨h.1, fun e he => by
  show (if e = c then v else ww V e) ≤ 9
  split
  · exact hv
  · exact h.2.1 e he, h.2.2.1, h.2.2.2⟩
theorem mR_ho {I : Nat → Nat → Int32} {b m c : Nat} {V : Wk} {x : Int32} (h : mR (I 103) b m V) (hm : m ≤ 10) (_hp : wp V ≤ 12) (hc : c < 10) : mR (pm_u I 103 (b + 2 + c) x 103) b m (wHo V c x) := by
  refine ⟨?_, ?_, fun e he => ⟨?_, ?_⟩, fun k hk => ?_⟩
  · rw [pm_uk (by omega)]; exact h.1
  · rw [pm_uk (by omega)]; exact h.2.1
  · show _ = if e = c then x else wo V e
    by_cases q : e = c
    · rw [q, pm_us, if_pos rfl]
    · rw [pm_uk (by omega), if_neg q]; exact (h.2.2.1 e he).1
  · rw [pm_uk (by omega)]; exact (h.2.2.1 e he).2
  · rw [pm_uk (by omega)]; exact h.2.2.2 k hk
theorem mR_we {I : Nat → Nat → Int32} {b m c v : Nat} {V : Wk} (h : mR (I 103) b m V) (hm : m ≤ 10) (_hp : wp V ≤ 12) (hc : c < 10) : mR (pm_u I 103 (b + 12 + c) (nI v) 103) b m (wWe V c v) := by
  refine ⟨?_, ?_, fun e he => ⟨?_, ?_⟩, fun k hk => ?_⟩
  · rw [pm_uk (by omega)]; exact h.1
  · rw [pm_uk (by omega)]; exact h.2.1
  · rw [pm_uk (by omega)]; exact (h.2.2.1 e he).1
  · show _ = nI (if e = c then v else ww V e)
    by_cases q : e = c
    · rw [q, pm_us, if_pos rfl]
    · rw [pm_uk (by omega), if_neg q]; exact (h.2.2.1 e he).2
  · rw [pm_uk (by omega)]; exact h.2.2.2 k hk
theorem cW_ho {I : Nat → Nat → Int32} {w c : Nat} {V : Wk} {x : Int32} (h : cW w V I) : cW w (wHo V c x) (pm_u I (w + 1) c x) := by
  refine ⟨?_, ?_, ?_, fun e he => ?_, fun e he => ?_, fun k hk => ?_⟩
  · rw [pm_ua (by omega)]; exact h.1
  · rw [pm_ua (by omega)]; exact h.2.1
  · rw [pm_ua (by omega)]; exact h.2.2.1
  · show _ = if e = c then x else wo V e
    by_cases q : e = c
    · rw [q, pm_us, if_pos rfl]
    · rw [pm_uk q, if_neg q]; exact h.2.2.2.1 e he
  · rw [pm_ua (by omega)]; exact h.2.2.2.2.1 e he
  · rw [pm_ua (by omega)]; exact h.2.2.2.2.2 k hk
theorem cW_we {I : Nat → Nat → Int32} {w c v : Nat} {V : Wk} (h : cW w V I) : cW w (wWe V c v) (pm_u I (w + 2) c (nI v)) := by
  refine ⟨?_, ?_, ?_, fun e he => ?_, fun e he => ?_, fun k hk => ?_⟩
  · rw [pm_ua (by omega)]; exact h.1
  · rw [pm_ua (by omega)]; exact h.2.1
  · rw [pm_ua (by omega)]; exact h.2.2.1
  · rw [pm_ua (by omega)]; exact h.2.2.2.1 e he
  · show _ = nI (if e = c then v else ww V e)
    by_cases q : e = c
    · rw [q, pm_us, if_pos rfl]
    · rw [pm_uk q, if_neg q]; exact h.2.2.2.2.1 e he
  · rw [pm_ua (by omega)]; exact h.2.2.2.2.2 k hk
section Trial
variable {d L : Nat} {fz t : Bool} {Q : pm_R → pm_H → Prop} {I I0 : Nat → Nat → Int32} {J : Nat → Nat → Int64} {A : St} {V : Wk}
theorem cw_fr {S : List Nat} {I' : Nat → Nat → Int32} (h : cw A t J I0 I) (hf : fr S I I') (hs : ∀ a, a ∈ S → a ∈ qs t ∧ a ≠ 7 ∧ a ≠ 8) : cw A t J I0 I' := by
  refine cw_f h (fr_m hf fun a ha => (hs a ha).1) ?_
  intro p w a b
  rw [hf 7 (fun q => (hs 7 q).2.1 rfl), hf 8 (fun q => (hs 8 q).2.2 rfl)]
  exact h.1.2.2.1 p w a b
theorem cw_u {a k : Nat} {v : Int32} (h : cw A t J I0 I) (ha : a ∈ qs t) (h7 : a ≠ 7) (h8 : a ≠ 8) : cw A t J I0 (pm_u I a k v) :=
  cw_fr (S := [a]) h (fr_u List.mem_cons_self fr_r) (fun b hb => by simp at hb; subst hb; exact ⟨ha, h7, h8⟩)
theorem qs_lo {a : Nat} (h : (3 ≤ a ∧ a ≤ 19) ∨ a = 21 ∨ a = 22 ∨ (27 ≤ a ∧ a ≤ 30)) : a ∈ qs t := by unfold qs; simp; omega
theorem cw_copy (ho : ok A) (h : cw A t J I0 I) (hq : ∀ I', cw A t J I0 I' → fr [27, 28, 29, 30] I I' → cW 27 (sW A) I' → Q (.inl none) (pm_hp L fz t I' J)) : pm_Ev (d + 1) 78 [.ref 27, .ref 23] (pm_hp L fz t I J) Q :=
  S_wcopy (w := 27) (Or.inl ⟨rfl, rfl⟩) h.1.2.1 ho.2.1.2.2.2 fun I' hf hW => hq I' (cw_fr h hf (fun a ha => by simp at ha; exact ⟨qs_lo (by omega), by omega, by omega⟩)) hf hW
theorem cw_weaveT {s : Nat} (ho : ok A) (h : cw A t J I0 I) (hV : cW 27 V I) (oV : okW (sT A) V) (hs : s ≤ 30) (hq : ∀ I', cw A t J I0 I' → fr [3, 4, 6, 7, 8, pm_td t + 9 + 2] I I' → cW 27 V I' → I' 3 1 = nI (wp V) → (∀ k, k < wp V → I' 4 k = clR (sT A) (wag V s) k) → Q (.inl none) (pm_hp L fz t I' J)) : pm_Ev (d + 5) 12 [.ref 3, .ref (pm_td t), .ref 27, .int (nI s)] (pm_hp L fz t I J) Q :=
  S_weave (td_or t) (Or.inr (Or.inl rfl)) h.1.1 hV ho.1 oV h.1.2.2.1 hs fun I' hf hM h1 h2 => hq I' (cw_f h (fr_m hf (fun a ha => by unfold qs; simp at ha ⊢ <;> omega)) hM) hf (cW_fr hV hf (by cases t <;> simp [pm_td]) (by cases t <;> simp [pm_td]) (by cases t <;> simp [pm_td]) (by cases t <;> simp [pm_td])) h1 h2
theorem cw_weaveT0 (ho : ok A) (h : cw A t J I0 I) (hV : cW 27 V I) (oV : okW (sT A) V) (hq : ∀ I', cw A t J I0 I' → fr [3, 4, 6, 7, 8, pm_td t + 9 + 2] I I' → cW 27 V I' → I' 3 1 = nI (wp V) → (∀ k, k < wp V → I' 4 k = clR (sT A) V k) → Q (.inl none) (pm_hp L fz t I' J)) : pm_Ev (d + 5) 12 [.ref 3, .ref (pm_td t), .ref 27, .int (nI 0)] (pm_hp L fz t I J) Q :=
  cw_weaveT ho h hV oV (by omega) fun I' h1 h2 h3 h4 h5 => hq I' h1 h2 h3 h4 fun k hk => by rw [h5 k hk]; exact cl_wag0 oV ho.1 (by omega)
theorem cw_tryTurned {c : Nat} (ho : ok A) (h : cw A t J I0 I) (hc : c < 10) (hq : ∀ I', cw A t J I0 I' → fr [27, 28, 29, 30] I I' → cW 27 (wHo (sW A) c (tu (tN (sT A)) (wo (sW A) c))) I' → Q (.inl none) (pm_hp L fz t I' J)) : pm_Ev (d + 2) 103 [.ref 0, .int (nI c)] (pm_hp L fz t I J) Q := by
  refine e_X10_tryTurned (cw_copy ho h fun I' h' hf hW => kb_X10_tryTurned_11 ⟨vp_in_nI (by omega) (by omega), ?_⟩)
  rw [nI_clamp (by omega), h'.1.2.1.2.2.2.1 c hc]
  refine S_turned (td_or t) h'.1.1.1 (by have := ho.1.1; omega) (kb_X10_tryTurned_35 ⟨vp_in_nI (by omega) (by omega), ?_⟩)
  rw [nI_clamp (by omega)]
  exact hq _ (cw_u h' (qs_lo (by omega)) (by omega) (by omega)) (fr_u (by simp) hf) (cW_ho hW)
theorem sm_wHo (ho : ok A) (c : Nat) : okW (sT A) (wHo (sW A) c (tu (tN (sT A)) (wo (sW A) c))) := okW_ho ho.2.1 (sm_tu (by have := ho.1.1; omega) _)
/-! the reference -/
theorem mw_tries (ho : ok A) (h : mw A I0 I) (hq : ∀ I', mw A I0 I' → fr [103] I I' → mR (I' 103) 34 (tM (sT A)) (sW A) → Q (.inl none) (pm_hp L fz t I' J)) : pm_Ev (d + 1) 160 [.ref 85] (pm_hp L fz t I J) Q := by
  have loop : ∀ (j i : Nat) (I' : Nat → Nat → Int32), i + j = 34 → fr [103] I I' → (∀ k, k < 34 → I' 103 k = I 103 k) → (∀ k, k < i → I' 103 (34 + k) = I 103 k) → t_X11_tries_2 d L fz t Q (nI i) I' J := by
    intro j
    induction j with
    | zero =>
      intro i I' hi hf hlo hk
      obtain rfl : i = 34 := by omega
      refine b_X11_tries_2 (q_t (nI_le (by omega) (by omega)) (hq I' (mw_f ho h ⟨fr_m hf (by decide), fun j _ _ _ => by rw [hf 85 (by decide)], hlo⟩ (by rw [hf 85 (by decide)]; exact h.2.2)) hf ?_))
      exact mR_of h.1.2.2.1 ho.1.2.1 ho.2.1.2.2.2 (fun k q => by rw [hk k q, Nat.zero_add])
    | succ j ih =>
      intro i I' hi hf hlo hk
      refine b_X11_tries_2 (q_f (nI_ge (by omega) (by omega)) ⟨vp_in_nI (by omega) (by omega), ?_⟩)
      rw [nI_add, nI_add, nI_clamp (by omega), nI_clamp (by omega)]
      refine ⟨vp_in_nI (by omega) (by omega), ih (i + 1) _ (by omega) (fr_u List.mem_cons_self hf) (fun k q => by rw [pm_uk (by omega)]; exact hlo k q) fun k q => ?_⟩
      by_cases e : k = i
      · rw [e, pm_us]; exact hlo i (by omega)
      · rw [pm_uk (by omega)]; exact hk k (by omega)
  exact e_X11_tries (loop 34 0 I (by omega) fr_r (fun _ _ => rfl) (fun k q => absurd q (by omega)))
theorem mw_103 {I' : Nat → Nat → Int32} (ho : ok A) (h : mw A I0 I) (hf : fr [85, 103, 105, 106, 107] I I') (h85 : ∀ j, j ≠ 52 → I' 85 j = I 85 j) (hlo : ∀ k, k < 34 → I' 103 k = I 103 k) : mw A I0 I' :=
  mw_f ho h (mq_f hf (fun a ha => by unfold ms; simp at ha ⊢ <;> omega) h85 hlo) (by rw [h85 0 (by omega)]; exact h.2.2)
theorem mw_u {k : Nat} {v : Int32} (ho : ok A) (h : mw A I0 I) (hk : 34 ≤ k) : mw A I0 (pm_u I 103 k v) :=
  mw_103 ho h (fr_u (by simp) fr_r) (fun j _ => by rw [pm_ua (by omega)]) (fun i hi => by rw [pm_uk (by omega)])
theorem mw_sun (ho : ok A) (h : mw A I0 I) (hV : mR (I 103) 34 (tM (sT A)) V) (oV : okW (sT A) V) (hp : wp V = wp (sW A)) (hq : ∀ I', mw A I0 I' → fr [85, 103, 105, 106, 107] I I' → (∀ j, j ≠ 52 → I' 85 j = I 85 j) → mR (I' 103) 34 (tM (sT A)) (sun (sT A) V) → Q (.inl none) (pm_hp L fz t I' J)) : pm_Ev (d + 6) 174 [.ref 85, .int (nI 34)] (pm_hp L fz t I J) Q :=
  S_sundayGoes (Or.inr rfl) h.1.1 (by rw [hp]; exact h.1.2.1) hV ho.1 oV fun I' hf h85 h103 hR => hq I' (mw_103 ho h hf h85 (fun k hk => h103 k (by omega))) hf h85 hR
theorem mw_weavesT (ho : ok A) (h : mw A I0 I) (hV : mR (I 103) 34 (tM (sT A)) V) (oV : okW (sT A) V) (hp : wp V = wp (sW A)) (hq : ∀ I', mw A I0 I' → fr [85, 105, 106, 107] I I' → (∀ j, j ≠ 52 → I' 85 j = I 85 j) → mR (I' 103) 34 (tM (sT A)) V → I' 85 52 = nI (wp V) → (∀ k, k < wp V → I' 107 k = clR (sT A) V k) → Q (.inl none) (pm_hp L fz t I' J)) : pm_Ev (d + 5) 169 [.ref 85, .int (nI 34)] (pm_hp L fz t I J) Q :=
  S_weaves (Or.inr rfl) h.1.1 (by rw [hp]; exact h.1.2.1) hV ho.1 oV fun I' hf h85 h1 h2 => hq I' (mw_103 ho h (fr_m hf (by simp <;> omega)) h85 (fun k _ => by rw [hf 103 (by decide)])) hf h85 (by rw [hf 103 (by decide)]; exact hV) h1 h2
theorem mw_sunN {n : Nat} (ho : ok A) (h : mw A I0 I) (hV : mR (I 103) 34 (tM (sT A)) V) (oV : okW (sT A) V) (hp : wp V = wp (sW A)) (hn : n < 2 ^ 31) (hq : ∀ I', mw A I0 I' → fr [85, 103, 105, 106, 107] I I' → mR (I' 103) 34 (tM (sT A)) (sn (sT A) V n) → Q (.inl none) (pm_hp L fz t I' J)) : pm_Ev (d + 7) 175 [.ref 85, .int (nI n)] (pm_hp L fz t I J) Q := by
  have loop : ∀ (j i : Nat) (I' : Nat → Nat → Int32), i + j = n → mw A I0 I' → fr [85, 103, 105, 106, 107] I I' → mR (I' 103) 34 (tM (sT A)) (sn (sT A) V i) → t_X11_sundaysGo_2 (d + 6) L fz t Q (nI n) (nI i) I' J := by
    intro j
    induction j with
    | zero =>
      intro i I' hi h' hf hR
      obtain rfl : i = n := by omega
      exact b_X11_sundaysGo_2 (q_t (nI_le (by omega) (by omega)) (hq I' h' hf hR))
    | succ j ih =>
      intro i I' hi h' hf hR
      obtain ⟨h1, h2, h3, h4, h5⟩ := sn_eq oV ho.1 i
      refine b_X11_sundaysGo_2 (q_f (nI_ge (by omega) (by omega)) (mw_sun ho h' hR h5 (by rw [h3]; exact hp) fun I'' h'' hf' _ hR' => kb_X11_sundaysGo_13 ?_))
      rw [nI_add]
      exact ih (i + 1) I'' (by omega) h'' (fr_t hf hf') hR'
  exact e_X11_sundaysGo (loop n 0 I (by omega) h fr_r hV)
theorem mw_triesTurned {c : Nat} (ho : ok A) (h : mw A I0 I) (hc : c < tM (sT A)) (hq : ∀ I', mw A I0 I' → fr [103] I I' → mR (I' 103) 34 (tM (sT A)) (wHo (sW A) c (tu (tN (sT A)) (wo (sW A) c))) → Q (.inl none) (pm_hp L fz t I' J)) : pm_Ev (d + 2) 212 [.ref 85, .int (nI c)] (pm_hp L fz t I J) Q := by
  have hm := ho.1.2.1
  refine e_X11_triesTurned (mw_tries ho h fun I' h' hf hR => kb_X11_triesTurned_4 ?_)
  have hh := (h'.1.2.2.1.2.2.1 c hc).1
  rw [Nat.zero_add] at hh
  rw [nI_add, nI_clamp (by omega), hh]
  refine ⟨vp_in_nI (by omega) (by omega), S_mturned h'.1.1.1 (by have := ho.1.1; omega) (kb_X11_triesTurned_24 ?_)⟩
  rw [nI_add, nI_clamp (by omega)]
  refine ⟨vp_in_nI (by omega) (by omega), hq _ (mw_u ho h' (by omega)) (fr_u (by simp) hf) ?_⟩
  exact mR_ho (b := 34) hR hm ho.2.1.2.2.2 (by omega)
/-! granted -/
def gr (T : Td) (W : Wk) : Nat → Int32
  | 0 => wg W
  | n + 1 => gr T W n + nI (pc (sta T (clR T (wag W n)) (wp W)))
theorem gr_sn {T : Td} {W : Wk} (oW : okW T W) (oT : okT T) : ∀ n, wg (sn T W n) = gr T W n
  | 0 => rfl
  | n + 1 => by
    obtain ⟨h1, h2, h3, h4, h5⟩ := sn_eq oW oT n
    show wg (sn T W n) + nI (pc (sta T (clR T (sn T W n)) (wp (sn T W n)))) = gr T W n + nI (pc (sta T (clR T (wag W n)) (wp W)))
    rw [gr_sn oW oT n, h3, sta_congr (R := clR T (sn T W n)) (R' := clR T (wag W n)) (fun k _ => cl_sn oW oT n (k + 1))]
theorem S_grantsBehind {T : Td} {W : Wk} {w n : Nat} (hw : w = 23 ∨ w = 27) (hT : cT (pm_td t) T I) (hW : cW w W I) (oT : okT T) (oW : okW T W) (hM : cM T I) (hn : n ≤ 30) (hq : ∀ I', fr [3, 4, 6, 7, 8, pm_td t + 9 + 2] I I' → cM T I' → Q (.inl (some (.int (gr T W n)))) (pm_hp L fz t I' J)) : pm_Ev (d + 6) 102 [.ref 0, .ref w, .int (nI n)] (pm_hp L fz t I J) Q := by
  have hw' : w = 23 ∨ w = 27 ∨ w = 31 := by omega
  have loop : ∀ (j i : Nat) (I' : Nat → Nat → Int32) (x : Int32), i + j = n → fr [3, 4, 6, 7, 8, pm_td t + 9 + 2] I I' → cM T I' → (10 ≤ i → x = nI (pc (sta T (clR T (wag W 9)) (wp W)))) → t_X10_grantsBehind_11 (d + 5) L fz t Q w (nI n) (gr T W i) x (nI i) I' J := by
    intro j
    induction j with
    | zero =>
      intro i I' x hi hf hM' hx
      obtain rfl : i = n := by omega
      exact b_X10_grantsBehind_11 hw' (q_t (nI_le (by omega) (by omega)) (hq I' hf hM'))
    | succ j ih =>
      intro i I' x hi hf hM' hx
      have hT' : cT (pm_td t) T I' := cT_fr hT hf (by cases t <;> simp [pm_td]) (by cases t <;> simp [pm_td]) (by cases t <;> simp [pm_td]) (by cases t <;> simp [pm_td]) (by cases t <;> simp [pm_td]) (by cases t <;> simp [pm_td]) (by cases t <;> simp [pm_td]) (by cases t <;> simp [pm_td]) (by cases t <;> simp [pm_td]) (by cases t <;> simp [pm_td])
      have hW' : cW w W I' := cW_fr hW hf (by cases t <;> simp [pm_td] <;> omega) (by cases t <;> simp [pm_td] <;> omega) (by cases t <;> simp [pm_td] <;> omega) (by cases t <;> simp [pm_td] <;> omega)
      refine b_X10_grantsBehind_11 hw' (q_f (nI_ge (by omega) (by omega)) (q_lt (by omega) (by omega) (fun q => ?_) (fun q => ?_)))
      · rw [hx (by omega), nI_add]
        have e : gr T W i + nI (pc (sta T (clR T (wag W 9)) (wp W))) = gr T W (i + 1) := by
          show _ = gr T W i + nI (pc (sta T (clR T (wag W i)) (wp W)))
          rw [sta_congr (R := clR T (wag W i)) (R' := clR T (wag W 9)) (fun k hk => cl_wag_late (by omega) (by omega) (by omega))]
        rw [e]
        exact ih (i + 1) I' _ (by omega) hf hM' (fun _ => rfl)
      · refine S_weave (td_or t) hw' hT' hW' oT oW hM' (by omega) fun I'' hf' hM'' h1 h2 => kb_X10_grantsBehind_38 hw' ?_
        have hT'' : cT (pm_td t) T I'' := cT_fr hT' hf' (by cases t <;> simp [pm_td]) (by cases t <;> simp [pm_td]) (by cases t <;> simp [pm_td]) (by cases t <;> simp [pm_td]) (by cases t <;> simp [pm_td]) (by cases t <;> simp [pm_td]) (by cases t <;> simp [pm_td]) (by cases t <;> simp [pm_td]) (by cases t <;> simp [pm_td]) (by cases t <;> simp [pm_td])
        refine S_cstanding (R := clR T (wag W i)) (p := wp W) (td_or t) hT'' oT h1 h2 oW.2.2.2 (kb_X10_grantsBehind_49 hw' ?_)
        refine S_bitCount (sm_sta oT _ _) (kb_X10_grantsBehind_52 hw' ?_)
        rw [nI_add]
        exact ih (i + 1) I'' _ (by omega) (fr_t hf hf') hM'' (fun z => by rw [show i = 9 by omega])
  refine e_X10_grantsBehind hw' ?_
  rw [hW.2.2.1]
  exact loop n 0 I _ (by omega) fr_r hM (fun z => absurd z (by omega))
end Trial
