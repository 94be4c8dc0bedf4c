section Ops
variable {A : St}
def tV (A : St) (c : Nat) : Wk := wHo (sW A) c (tu (tN (sT A)) (wo (sW A) c))
/-- the cloths of cards that may be backwards -/
def gf (A : St) : Nat → Nat → Nat → Int32
  | 0 => fun _ _ => 0
  | i + 1 => if sk A i = true then (fun j k => if j = cn (sk A) i then clR (sT A) (tV A i) k else gf A i j k) else gf A i
def ur (G : Nat → Nat → Int32) (p i : Nat) : Bool := !eB (fun j => decide (G j p = G i p)) i
def nb (G : Nat → Nat → Int32) (n : Nat) : Nat → Nat × Int32
  | 0 => (0, -1)
  | p + 1 => if cn (ur G p) n ≤ (nb G n p).1 then nb G n p else (cn (ur G p) n, nI p)
theorem nb_le (G : Nat → Nat → Int32) (n : Nat) : ∀ p, (nb G n p).1 ≤ n
  | 0 => Nat.zero_le _
  | p + 1 => by
    have := nb_le G n p
    have := cn_le (ur G p) n
    rw [nb]; split <;> simp <;> omega
section Spec
variable {d L : Nat} {fz t : Bool} {Q : pm_R → pm_H → Prop} {I I0 : Nat → Nat → Int32} {J : Nat → Nat → Int64}
theorem cw_gather (ho : ok A) (h : cw A t J I0 I) (hq : ∀ I', cw A t J I0 I' → (∀ j k, j < cn (sk A) (tM (sT A)) → k < wp (sW A) → I' 21 (12 * j + k) = gf A (tM (sT A)) j k) → Q (.inl (some (.int (nI (cn (sk A) (tM (sT A))))))) (pm_hp L fz t I' J)) : pm_Ev (d + 7) 106 [.ref 0] (pm_hp L fz t I J) Q := by
  have hm := ho.1.2.1
  have h12 := ho.2.1.2.2.2
  have loop : ∀ (j i : Nat) (I' : Nat → Nat → Int32), i + j = tM (sT A) → cw A t J I0 I' → (∀ j k, j < cn (sk A) i → k < wp (sW A) → I' 21 (12 * j + k) = gf A i j k) → t_X10_gatherTurned_4 (d + 6) L fz t Q (nI (cn (sk A) i)) (nI i) I' J := by
    intro j
    induction j with
    | zero =>
      intro i I' hi h' hG
      obtain rfl : i = tM (sT A) := by omega
      refine b_X10_gatherTurned_4 ?_
      rw [h'.1.1.2.2.1]
      exact q_t (nI_le (by omega) (by omega)) (hq I' h' hG)
    | succ j ih =>
      intro i I' hi h' hG
      have hle := cn_le (sk A) i
      refine b_X10_gatherTurned_4 ?_
      rw [h'.1.1.2.2.1]
      refine q_f (nI_ge (by omega) (by omega)) (cw_tryTurned ho h' (by omega) fun I2 w2 f2 c2 => kb_X10_gatherTurned_20 ?_)
      refine cw_notAsSeen ho w2 (Or.inr rfl) c2 (sm_wHo ho i) rfl fun I3 w3 f3 => kb_X10_gatherTurned_28 ?_
      have e3 : I3 21 = I' 21 := by rw [f3 21 (by cases t <;> simp [pm_td]), f2 21 (by decide)]
      rw [nas_0 (s12 ho), nI_add]
      refine ⟨fun z => ?_, fun z => ?_⟩
      · have z' : sk A i = false := by cases y : sk A i; rfl; exact absurd y z
        have := ih (i + 1) I3 (by omega) w3 (fun j k hj hk => by
          rw [cn, z'] at hj
          rw [e3, gf, z', if_neg (by decide)]; exact hG j k hj hk)
        rw [cn, z'] at this; exact this
      · have z' : sk A i = true := z
        have c3 : cW 27 (tV A i) I3 := cW_fr c2 f3 (by cases t <;> simp [pm_td]) (by cases t <;> simp [pm_td]) (by cases t <;> simp [pm_td]) (by cases t <;> simp [pm_td])
        refine cw_weaveT0 ho w3 c3 (sm_wHo ho i) fun I4 w4 f4 _ p4 c4 => kb_X10_gatherTurned_47 ?_
        have e4 : I4 21 = I' 21 := by rw [f4 21 (by cases t <;> simp [pm_td])]; exact e3
        rw [pk_mul, nI_clamp (by omega), nI_add, nI_add]
        refine ⟨⟨by decide, nI_pos (by omega), by decide, by omega, by omega⟩, ?_⟩
        have := ih (i + 1) (pm_ur I4 21 (va_cpy (I4 4) (I4 21) 0 (cn (sk A) i * 12) 12)) (by omega) (cw_fr (S := [21]) w4 (fr_ur List.mem_cons_self fr_r) (fun a ha => by simp at ha; exact ⟨qs_lo (by omega), by omega, by omega⟩)) (fun j k hj hk => by
          rw [cn, z'] at hj
          have hj' : j < cn (sk A) i + 1 := hj
          rw [pm_urs, gf, z', if_pos rfl]
          by_cases e : j = cn (sk A) i
          · rw [e, if_pos rfl, pk_cpy_in (by omega) (by omega), show 0 + (12 * cn (sk A) i + k - cn (sk A) i * 12) = k by omega]
            exact c4 k hk
          · rw [if_neg e, pk_cpy_out (by omega), e4]
            exact hG j k (by omega) hk)
        rw [cn, z'] at this; exact this
  exact e_X10_gatherTurned (loop (tM (sT A)) 0 I (by omega) h (fun j k hj _ => absurd hj (by simp [cn])))
theorem cw_unlikeRows {p n : Nat} {G : Nat → Nat → Int32} (hn : n ≤ 10) (hp : p < 12) (hG : ∀ j, j < n → I 21 (12 * j + p) = G j p) (hq : Q (.inl (some (.int (nI (cn (ur G p) n))))) (pm_hp L fz t I J)) : pm_Ev (d + 1) 107 [.ref 0, .int (nI p), .int (nI n)] (pm_hp L fz t I J) Q := by
  have loop : ∀ (j i : Nat), i + j = n → t_X10_unlikeRowsAt_5 d L fz t Q (nI p) (nI n) (nI (cn (ur G p) i)) (nI i) I J := by
    intro j
    induction j with
    | zero =>
      intro i hi
      obtain rfl : i = n := by omega
      exact b_X10_unlikeRowsAt_5 (q_t (nI_le (by omega) (by omega)) hq)
    | succ j ih =>
      intro i hi
      refine b_X10_unlikeRowsAt_5 (q_f (nI_ge (by omega) (by omega)) ?_)
      have inner : ∀ (j' k : Nat), k + j' = i → t_X10_unlikeRowsAt_17 d L fz t Q (nI p) (nI n) (nI (cn (ur G p) i)) (nI i) (bz (!eB (fun j => decide (G j p = G i p)) k)) (nI k) I J := by
        intro j'
        induction j' with
        | zero =>
          intro k hk
          obtain rfl : k = i := by omega
          refine b_X10_unlikeRowsAt_17 (q_t (nI_le (by omega) (by omega)) ?_)
          have nx := ih (k + 1) (by omega)
          rw [cn] at nx
          rw [nI_add, nI_add]
          refine q_b0 (fun q => ?_) (fun q => ?_)
          · have : ur G p k = false := q
            rw [this] at nx; exact nx
          · have : ur G p k = true := q
            rw [this] at nx; exact nx
        | succ j' ih' =>
          intro k hk
          have nx := ih' (k + 1) (by omega)
          rw [eB] at nx
          refine b_X10_unlikeRowsAt_17 (q_f (nI_ge (by omega) (by omega)) ?_)
          rw [pk_mul, pk_mul, nI_add, nI_add, nI_add, nI_clamp (by omega), nI_clamp (by omega), show k * 12 + p = 12 * k + p by omega, show i * 12 + p = 12 * i + p by omega, hG k (by omega), hG i (by omega)]
          refine ⟨vp_in_nI (by omega) (by omega), vp_in_nI (by omega) (by omega), fun q => ?_, fun q => ?_⟩
          · rw [decide_eq_false q, Bool.or_false] at nx; exact nx
          · rw [decide_eq_true q, Bool.or_true] at nx; exact nx
      exact inner i 0 (by omega)
  exact e_X10_unlikeRowsAt (loop n 0 (by omega))
end Spec
theorem op_next (ho : ok A) (x : Int32) : op2 269 215 [.int x] A 1 := by
  have hm := ho.1.2.1
  have h12 := ho.2.1.2.2.2
  have hcn := cn_le (sk A) (tM (sT A))
  cases h1 : inR x 2 with
  | true =>
    obtain ⟨u, hu, rfl⟩ := inR_t (by omega) h1
    have nle := fun p => nb_le (gf A (tM (sT A))) (cn (sk A) (tM (sT A))) p
    refine ⟨0, by decide, if u = 0 then (nb (gf A (tM (sT A))) (cn (sk A) (tM (sT A))) (wp (sW A))).2 else nI (nb (gf A (tM (sT A))) (cn (sk A) (tM (sT A))) (wp (sW A))).1, ?_, ?_⟩
    · intro L fz t I J Q hS hk
      refine e_X10_next (gWy (by omega) h1 (kb_X10_next_5 (cw_gather ho (cw_0 hS) fun I1 w1 G1 => kb_X10_next_9 ?_)))
      have loop : ∀ (j p : Nat), p + j = wp (sW A) → t_X10_next_18 58 L true t Q (nI u) (nI (cn (sk A) (tM (sT A)))) (nb (gf A (tM (sT A))) (cn (sk A) (tM (sT A))) p).2 (nI (nb (gf A (tM (sT A))) (cn (sk A) (tM (sT A))) p).1) (nI p) I1 J := by
        intro j
        induction j with
        | zero =>
          intro p hp
          obtain rfl : p = wp (sW A) := by omega
          have fin := cw_e (fz' := true) w1 hk
          refine b_X10_next_18 ?_
          rw [w1.1.2.1.1]
          refine q_t (nI_le (by omega) (by omega)) (q_ne (by omega) (by omega) (fun q => ?_) (fun q => ?_))
          · rw [if_neg q] at fin; exact fin
          · rw [if_pos q] at fin; exact fin
        | succ j ih =>
          intro p hp
          have nx := ih (p + 1) (by omega)
          rw [nb] at nx
          have l1 := nle p
          have l2 := cn_le (ur (gf A (tM (sT A))) p) (cn (sk A) (tM (sT A)))
          refine b_X10_next_18 ?_
          rw [w1.1.2.1.1]
          refine q_f (nI_ge (by omega) (by omega)) (cw_unlikeRows (by omega) (by omega) (fun j hj => G1 j p hj (by omega)) (kb_X10_next_37 ?_))
          rw [nI_add]
          refine q_le (by omega) (by omega) (fun q => ?_) (fun q => ?_)
          · rw [if_pos q] at nx; exact nx
          · rw [if_neg (by omega)] at nx; exact nx
      exact loop (wp (sW A)) 0 (by omega)
    · intro L fz t I J Q hS hk
      have hw := mw_0 ho hS
      refine e_X11_next (mWy hw (by omega) h1 (kb_X11_next_11 (q_t' nI_01 ?_)))
      have u111 : ∀ I' k v, mw A I I' → mw A I (pm_u I' 111 k v) := fun I' k v h' => mw_f ho h' (mq_w (S := [111]) (fr_u (by simp) fr_r) (by simp)) (by rw [pm_ua (by omega)]; exact h'.2.2)
      -- the picks
      have picks : ∀ (I1 : Nat → Nat → Int32), mw A I I1 → (∀ j k, j < cn (sk A) (tM (sT A)) → k < wp (sW A) → I1 111 (12 * j + k) = gf A (tM (sT A)) j k) → ∀ (j p : Nat), p + j = wp (sW A) → t_X11_next_108 59 L fz t Q (nI u) (nI (cn (sk A) (tM (sT A)))) (nb (gf A (tM (sT A))) (cn (sk A) (tM (sT A))) p).2 (nI (nb (gf A (tM (sT A))) (cn (sk A) (tM (sT A))) p).1) (nI p) I1 J := by
        intro I1 w1 G1 j
        induction j with
        | zero =>
          intro p hp
          obtain rfl : p = wp (sW A) := by omega
          refine b_X11_next_108 ?_
          rw [w1.1.2.1]
          refine q_t (nI_le (by omega) (by omega)) (q_ne (by omega) (by omega) (fun q => ?_) (fun q => ?_))
          · exact mw_e w1 hk ⟨_, fun _ => by rw [if_neg q], rfl⟩
          · exact mw_e w1 hk ⟨_, fun _ => by rw [if_pos q], rfl⟩
        | succ j ih =>
          intro p hp
          have nx := ih (p + 1) (by omega)
          rw [nb] at nx
          have l1 := nle p
          have l2 := cn_le (ur (gf A (tM (sT A))) p) (cn (sk A) (tM (sT A)))
          refine b_X11_next_108 ?_
          rw [w1.1.2.1]
          refine q_f (nI_ge (by omega) (by omega)) ?_
          have lp : ∀ (j i : Nat), i + j = cn (sk A) (tM (sT A)) → t_X11_next_123 59 L fz t Q (nI u) (nI (cn (sk A) (tM (sT A)))) (nb (gf A (tM (sT A))) (cn (sk A) (tM (sT A))) p).2 (nI (nb (gf A (tM (sT A))) (cn (sk A) (tM (sT A))) p).1) (nI p) (nI (cn (ur (gf A (tM (sT A))) p) i)) (nI i) I1 J := by
            intro j
            induction j with
            | zero =>
              intro i hi
              obtain rfl : i = cn (sk A) (tM (sT A)) := by omega
              refine b_X11_next_123 (q_t (nI_le (by omega) (by omega)) ?_)
              rw [nI_add]
              refine q_lt (by omega) (by omega) (fun q => ?_) (fun q => ?_)
              · rw [if_neg (by omega)] at nx; exact nx
              · rw [if_pos (by omega)] at nx; exact nx
            | succ j ih2 =>
              intro i hi
              have nx2 := ih2 (i + 1) (by omega)
              rw [cn] at nx2
              refine b_X11_next_123 (q_f (nI_ge (by omega) (by omega)) ?_)
              have inner : ∀ (j' k : Nat), k + j' = i → t_X11_next_135 59 L fz t Q (nI u) (nI (cn (sk A) (tM (sT A)))) (nb (gf A (tM (sT A))) (cn (sk A) (tM (sT A))) p).2 (nI (nb (gf A (tM (sT A))) (cn (sk A) (tM (sT A))) p).1) (nI p) (nI (cn (ur (gf A (tM (sT A))) p) i)) (nI i) (bz (!eB (fun j => decide (gf A (tM (sT A)) j p = gf A (tM (sT A)) i p)) k)) (nI k) I1 J := by
                intro j'
                induction j' with
                | zero =>
                  intro k hk'
                  obtain rfl : k = i := by omega
                  refine b_X11_next_135 (q_t (nI_le (by omega) (by omega)) ?_)
                  rw [nI_add, nI_add, nI_add]
                  refine q_b0 (fun q => ?_) (fun q => ?_)
                  · have : ur (gf A (tM (sT A))) p k = false := q
                    rw [this] at nx2; exact nx2
                  · have : ur (gf A (tM (sT A))) p k = true := q
                    rw [this] at nx2; exact nx2
                | succ j' ih' =>
                  intro k hk'
                  have nx3 := ih' (k + 1) (by omega)
                  rw [eB] at nx3
                  refine b_X11_next_135 (q_f (nI_ge (by omega) (by omega)) (q_b0 (fun q => ?_) (fun q => ?_)))
                  · have : ur (gf A (tM (sT A))) p i = false := by
                      have q' : eB (fun j => decide (gf A (tM (sT A)) j p = gf A (tM (sT A)) i p)) k = true := by simpa using q
                      obtain ⟨a, ha, e⟩ := eB_t.mp q'
                      unfold ur
                      rw [eB_t.mpr ⟨a, by omega, e⟩]; rfl
                    rw [nI_add, nI_add]
                    rw [this] at nx2; exact nx2
                  · rw [pk_mul, pk_mul, nI_add, nI_add, nI_add, nI_clamp (by omega), nI_clamp (by omega), G1 i p (by omega) (by omega), G1 k p (by omega) (by omega)]
                    have q' : eB (fun j => decide (gf A (tM (sT A)) j p = gf A (tM (sT A)) i p)) k = false := by simpa using q
                    refine ⟨vp_in_nI (by omega) (by omega), vp_in_nI (by omega) (by omega), fun z => ?_, fun z => ?_⟩
                    · rw [q', decide_eq_true z.symm] at nx3; exact nx3
                    · rw [q', decide_eq_false (fun y => z y.symm)] at nx3; exact nx3
              exact inner i 0 (by omega)
          exact lp (cn (sk A) (tM (sT A))) 0 (by omega)
      have loop : ∀ (j i : Nat) (I' : Nat → Nat → Int32), i + j = tM (sT A) → mw A I I' → (∀ j k, j < cn (sk A) i → k < wp (sW A) → I' 111 (12 * j + k) = gf A i j k) → t_X11_next_20 59 L fz t Q (nI u) (nI (cn (sk A) i)) (nI i) I' J := by
        intro j
        induction j with
        | zero =>
          intro i I' hi h' hG
          obtain rfl : i = tM (sT A) := by omega
          refine b_X11_next_20 ?_
          rw [h'.1.1.2.1]
          exact q_t (nI_le (by omega) (by omega)) (picks I' h' hG (wp (sW A)) 0 (by omega))
        | succ j ih =>
          intro i I' hi h' hG
          have hle := cn_le (sk A) i
          refine b_X11_next_20 ?_
          rw [h'.1.1.2.1]
          refine q_f (nI_ge (by omega) (by omega)) (mw_triesTurned ho h' (by omega) fun I2 w2 f2 r2 => kb_X11_next_33 ?_)
          refine mw_isSeen ho w2 r2 (sm_wHo ho i) rfl fun I3 w3 f3 => kb_X11_next_37 (q_b0' (fun z => ?_) (fun z => ?_))
          · have z' : sk A i = true := z
            refine mw_triesTurned ho w3 (by omega) fun I4 w4 f4 r4 => kb_X11_next_48 ?_
            refine mw_weavesT ho w4 r4 (sm_wHo ho i) rfl fun I5 w5 f5 _ _ _ c5 => kb_X11_next_54 ?_
            have e5 : I5 111 = I' 111 := by rw [f5 111 (by decide), f4 111 (by decide), f3 111 (by decide), f2 111 (by decide)]
            have lay : ∀ (j' k : Nat) (I6 : Nat → Nat → Int32), k + j' = wp (sW A) → mw A I I6 → fr [111] I5 I6 → (∀ j k, j < cn (sk A) i → k < wp (sW A) → I6 111 (12 * j + k) = gf A i j k) → (∀ k', k' < k → I6 111 (12 * cn (sk A) i + k') = clR (sT A) (tV A i) k') → t_X11_next_57 59 L fz t Q (nI u) (nI (cn (sk A) i)) (nI i) (nI k) I6 J := by
              intro j'
              induction j' with
              | zero =>
                intro k I6 hk' w6 f6 g6 c6
                obtain rfl : k = wp (sW A) := by omega
                refine b_X11_next_57 ?_
                rw [w6.1.2.1, nI_add, nI_add]
                refine q_t (nI_le (by omega) (by omega)) ?_
                have := ih (i + 1) I6 (by omega) w6 (fun j k hj hk => by
                  rw [cn, z'] at hj
                  have hj' : j < cn (sk A) i + 1 := hj
                  rw [gf, z', if_pos rfl]
                  by_cases e : j = cn (sk A) i
                  · rw [e, if_pos rfl]; exact c6 k hk
                  · rw [if_neg e]; exact g6 j k (by omega) hk)
                rw [cn, z'] at this; exact this
              | succ j' ih' =>
                intro k I6 hk' w6 f6 g6 c6
                refine b_X11_next_57 ?_
                rw [w6.1.2.1, pk_mul, nI_add, nI_add, nI_add, nI_clamp (n := k) (by omega), nI_clamp (by omega), f6 107 (by decide), c5 k (by show k < wp (sW A); omega)]
                refine q_f (nI_ge (by omega) (by omega)) ⟨vp_in_nI (by omega) (by omega), vp_in_nI (by omega) (by omega), ?_⟩
                rw [nI_add]
                refine ih' (k + 1) _ (by omega) (u111 I6 _ _ w6) (fr_u (by simp) f6) (fun j k' hj hk => ?_) (fun k' hk => ?_)
                · rw [pm_uk (by omega)]; exact g6 j k' hj hk
                · by_cases e : k' = k
                  · rw [e, pm_us]; rfl
                  · rw [pm_uk (by omega)]; exact c6 k' (by omega)
            exact lay (wp (sW A)) 0 I5 (by omega) w5 fr_r (fun j k hj hk => by rw [e5]; exact hG j k hj hk) (fun k' h => absurd h (by omega))
          · have z' : sk A i = false := z
            have e3 : I3 111 = I' 111 := by rw [f3 111 (by decide), f2 111 (by decide)]
            rw [nI_add]
            have := ih (i + 1) I3 (by omega) w3 (fun j k hj hk => by
              rw [cn, z'] at hj
              rw [e3, gf, z', if_neg (by decide)]; exact hG j k hj hk)
            rw [cn, z'] at this; exact this
      exact loop (tM (sT A)) 0 _ (by omega) hw (fun j k hj _ => absurd hj (by simp [cn]))
  | false =>
    refine ⟨1, by decide, 0, ?_, ?_⟩
    · intro L fz t I J Q hS hk
      exact e_X10_next (gWn (by omega) h1 (cS_r hS hk))
    · intro L fz t I J Q hS hk
      exact e_X11_next (mWn (mw_0 ho hS) (by omega) h1 (kb_X11_next_11 (q_f' rfl (mw_x ho (mw_0 ho hS) hk (pv_e (by omega))))))
end Ops
