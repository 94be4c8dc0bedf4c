/-! what is caught, what is thrown -/
theorem pm_castw {x : Nat} (h : x = 1 ∨ x = 2) : Cond.castable (pm_xn x) (pm_xn x) ∈ lw_tbl := by
  rcases h with rfl | rfl <;> decide +kernel
section Catch
variable {p : Program} {l : Launch} {e : Env} {Rm : Room} {s : State} {m : MethodId} {args : Array Value} {below : List Frame} {meth : Method} {c : Code}
variable {base : Nat} {D : va_G} {cy : Nat → ClassId} {sad sav : Nat → Nat} {b L : Nat} {xs : Nat → Int32} {k d : Nat} {Z : State → Prop} {E : pm_E} {Q : pm_R → pm_H → Prop}
theorem pm_catch1 (C : pm_cx p l Rm s m args meth c k d base D cy sad sav b L xs) {h : Nat × Nat × Nat × Nat} {q : Nat × Nat × Nat} {lv : pm_L} {H1 : Heap} {locs1 : List Loc} {ls : Array Slot} {c1 z1 : Nat} {a : Addr}
    (hk : ((decide (decode (pm_by k) h.2.2.1 = .ok (.astore q.2.1, 2)) && Nat.beq q.2.2 (h.2.2.1 + 2) || (Nat.beq q.2.1 3 && decide (decode (pm_by k) h.2.2.1 = .ok (.astore_n 3, 1)) && Nat.beq q.2.2 (h.2.2.1 + 1))) = true)) (hj : q.2.1 < pm_ml k) (hl : lv_has ls (pm_ml k) (pm_lm (pm_ad base sad b) lv))
    (kk : ∀ ls' : Array Slot, lv_has ls' (pm_ml k) (pm_lm (pm_ad base sad b) (pm_f1 lv q.2.1)) → W p l e Rm s m args below meth c H1 locs1 c1 z1 Z (F0 m q.2.2 ls' [])) :
    W p l e Rm s m args below meth c H1 locs1 c1 z1 Z (F0 m h.2.2.1 ls [.ref a]) := by
  obtain ⟨hx, hb, hml, hown, hts, hnm, hC, hRm, hk9, hst, hlk, htb, hrt⟩ := C
  simp only [Bool.or_eq_true, Bool.and_eq_true, decide_eq_true_eq] at hk
  have sub : ∀ ls' : Array Slot, lv_has ls' (pm_ml k) ((q.2.1, Value.ref a) :: (pm_lm (pm_ad base sad b) lv).filter (fun z => !(z.1 == q.2.1) && !(z.1 + 1 == q.2.1 && z.2.category == 2))) → lv_has ls' (pm_ml k) (pm_lm (pm_ad base sad b) (pm_f1 lv q.2.1)) := fun ls' h' => pm_lv_sub h' fun z hz => List.mem_cons_of_mem _ (pm_f1_mem hz)
  rcases hk with ⟨h1, h2⟩ | ⟨⟨h0, h1⟩, h2⟩
  · have e2 := Nat.eq_of_beq_eq_true h2
    refine lv_astore (nL := pm_ml k) hx hb h1 hl hj rfl (fun ls' hl' => ?_)
    rw [← e2]
    exact kk ls' (sub ls' hl')
  · have e2 := Nat.eq_of_beq_eq_true h2
    have e0 := Nat.eq_of_beq_eq_true h0
    refine lv_astore_n (nL := pm_ml k) (i := q.2.1) hx hb h1 (by rw [e0]; rfl) hl hj rfl (fun ls' hl' => ?_)
    rw [← e2]
    exact kk ls' (sub ls' hl')
theorem pm_catch_ok (C : pm_cx p l Rm s m args meth c k d base D cy sad sav b L xs) : pm_catch p l e Rm s m args below meth c k (pm_ad base sad b) Z := by
  have C0 := C
  obtain ⟨hx, hb, hml, hown, hts, hnm, hC, hRm, hk, hst, hlk, htb, hrt⟩ := C
  intro pc x j t c1 z1 lv H1 locs1 ls rest q ce hh hcov hce hcv hcl hl kk
  have hk' : k < 318 := by
    by_cases hq : k < 318
    · exact hq
    · exfalso
      have : k = 318 := by omega
      subst this
      have hh' : pm_hnd x [] = some (j, t) := hh
      cases hh'
  obtain ⟨-, -, -, -, -, -, -, -, w9, w10, w11, w12, w13⟩ := pm_mw hk'
  have htb := htb hk'
  cases e1 : pm_hd k with
  | nil => rw [e1] at hh; cases hh
  | cons q1 t1 =>
    cases e2 : pm_hh k with
    | nil => rw [e1, e2] at w9; cases w9
    | cons h1 hs =>
      rw [e1, e2] at w9
      rw [e1] at hh w10 w11 w12 w13
      rw [e2] at hcov
      rw [e2] at htb
      simp only [pm_hk, Bool.and_eq_true] at w9
      obtain ⟨g1, g2, g3, g4, g5, g6⟩ := w9
      have g3' : q1.1 = 1 ∨ q1.1 = 2 := by
        simp only [Bool.or_eq_true] at g3
        rcases g3 with z | z
        · exact Or.inl (Nat.eq_of_beq_eq_true z)
        · exact Or.inr (Nat.eq_of_beq_eq_true z)
      have g4' : h1.2.2.2 ≠ 0 := by
        intro z
        rw [z] at g4
        cases g4
      have hl1 : (Cond.classLink (pm_cn (pm_ow k)) h1.2.2.2 (pm_xn q1.1)).before args s = true := hts _ (List.mem_filter.mpr ⟨of_decide_eq_true g5, rfl⟩)
      simp only [List.all_cons, Bool.and_eq_true] at hcov
      obtain ⟨⟨v1, v2⟩, v3⟩ := hcov
      have hc1 : covers ⟨h1.1, h1.2.1, h1.2.2.1, h1.2.2.2⟩ pc = true := by
        simp only [covers, Bool.and_eq_true, decide_eq_true_eq]
        exact ⟨Nat.le_of_ble_eq_true v1, Nat.le_of_ble_eq_true v2⟩
      unfold pm_hnd at hh
      cases hb1 : Nat.beq x q1.1 with
      | true =>
        rw [hb1] at hh
        have ex := Nat.eq_of_beq_eq_true hb1
        have ejt := Option.some.inj hh
        have ej : q1.2.1 = j := congrArg Prod.fst ejt
        have et : q1.2.2 = t := congrArg Prod.snd ejt
        refine vx_catch (E := pm_xn x) (name := pm_xn q1.1) hown [] ⟨h1.1, h1.2.1, h1.2.2.1, h1.2.2.2⟩ (tableOf hs) htb (fun z hz => nomatch hz) hc1 g4' hl1 ?_ hce hcv hcl ?_
        · rw [ex]
          exact va_Nw.use rfl (hC.2.2.2.2.2.2.2.2.2.1 _ (pm_castw g3') rfl)
        · refine pm_catch1 (h := h1) (q := q1) C0 g1 (Nat.le_of_ble_eq_true g2) hl ?_
          rw [ej, et]
          exact kk
      | false =>
        rw [hb1] at hh
        simp only [cond_false] at hh
        cases e3 : t1 with
        | nil => rw [e3] at hh; cases hh
        | cons q2 t2 =>
          cases e4 : hs with
          | nil => rw [e3, e4] at g6; cases g6
          | cons h2 hs2 =>
            rw [e3] at hh w10 w11 w12 w13
            rw [e3, e4] at g6
            rw [e4] at htb v3
            have ht2 : t2 = [] := by
              cases t2 with
              | nil => rfl
              | cons a r => simp at w10
            subst ht2
            simp only [pm_hk, Bool.and_eq_true] at g6
            obtain ⟨f1, f2, f3, f4, f5, f6⟩ := g6
            have f3' : q2.1 = 1 ∨ q2.1 = 2 := by
              simp only [Bool.or_eq_true] at f3
              rcases f3 with z | z
              · exact Or.inl (Nat.eq_of_beq_eq_true z)
              · exact Or.inr (Nat.eq_of_beq_eq_true z)
            have f4' : h2.2.2.2 ≠ 0 := by
              intro z
              rw [z] at f4
              cases f4
            have hl2 : (Cond.classLink (pm_cn (pm_ow k)) h2.2.2.2 (pm_xn q2.1)).before args s = true := hts _ (List.mem_filter.mpr ⟨of_decide_eq_true f5, rfl⟩)
            simp only [List.all_cons, Bool.and_eq_true] at v3
            obtain ⟨⟨u1, u2⟩, u3⟩ := v3
            have hc2 : covers ⟨h2.1, h2.2.1, h2.2.2.1, h2.2.2.2⟩ pc = true := by
              simp only [covers, Bool.and_eq_true, decide_eq_true_eq]
              exact ⟨Nat.le_of_ble_eq_true u1, Nat.le_of_ble_eq_true u2⟩
            unfold pm_hnd at hh
            cases hb2 : Nat.beq x q2.1 with
            | false => rw [hb2] at hh; cases hh
            | true =>
              rw [hb2] at hh
              have ex := Nat.eq_of_beq_eq_true hb2
              have ejt := Option.some.inj hh
              have ej : q2.2.1 = j := congrArg Prod.fst ejt
              have et : q2.2.2 = t := congrArg Prod.snd ejt
              have h12 : q1.1 = 1 ∧ q2.1 = 2 := by
                simp only [List.map_cons, List.map_nil] at w11 w12 w13
                rcases g3' with z1 | z1 <;> rcases f3' with z2 | z2
                · rw [z1, z2] at w12; exact absurd rfl w12
                · exact ⟨z1, z2⟩
                · rw [z1, z2] at w11; exact absurd rfl w11
                · rw [z1, z2] at w13; exact absurd rfl w13
              refine vx_catch (E := pm_xn x) (name := pm_xn q2.1) hown [⟨h1.1, h1.2.1, h1.2.2.1, h1.2.2.2⟩] ⟨h2.1, h2.2.1, h2.2.2.1, h2.2.2.2⟩ (tableOf hs2) htb (fun z hz => Or.inr ?_) hc2 f4' hl2 ?_ hce hcv hcl ?_
              · have hz := List.mem_singleton.mp hz
                subst hz
                refine ⟨g4', pm_xn q1.1, hl1, ?_⟩
                rw [ex, h12.1, h12.2]
                exact hC.2.2.2.2.2.2.2.2.2.2
              · rw [ex]
                exact va_Nw.use rfl (hC.2.2.2.2.2.2.2.2.2.1 _ (pm_castw f3') rfl)
              · refine pm_catch1 (h := h2) (q := q2) C0 f1 (Nat.le_of_ble_eq_true f2) hl ?_
                rw [ej, et]
                exact kk
end Catch
