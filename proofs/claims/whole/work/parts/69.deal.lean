theorem kO_pos {ow : Nat → Option Nat} {o : Nat} : 0 < kO ow o ↔ eB (fun k => decide (ow k = some o)) 12 = true := by
  constructor
  · intro h
    obtain ⟨j, hj, hf⟩ := cn_pos h
    exact eB_t.mpr ⟨j, hj, hf⟩
  · intro h
    obtain ⟨j, hj, hf⟩ := eB_t.mp h
    cases q : kO ow o with
    | zero => rw [cn_0 q j hj] at hf; cases hf
    | succ n => omega
def mt (ow : Nat → Option Nat) (o : Nat) : Bool := eB (fun k => decide (ow k = some o)) 12
theorem mt_f {ow : Nat → Option Nat} {o : Nat} : mt ow o = false ↔ kO ow o = 0 := by
  constructor
  · intro h
    cases q : kO ow o with
    | zero => rfl
    | succ n => have := kO_pos.mp (by omega : 0 < kO ow o); rw [show mt ow o = _ from this] at h; cases h
  · intro h
    cases q : mt ow o with
    | false => rfl
    | true => have := kO_pos.mpr q; omega
theorem cnr_flip {f g : Nat → Bool} {m c j : Nat} (hj : c ≤ j) (hm : j < m) (h1 : f j = true) (h2 : g j = false) (h3 : ∀ k, k ≠ j → f k = g k) : cnr f m c = cnr g m c + 1 := by
  unfold cnr
  refine cn_flip (j := j - c) (by omega) ?_ ?_ (fun k hk => h3 _ (by omega))
  · rw [show c + (j - c) = j by omega]; exact h1
  · rw [show c + (j - c) = j by omega]; exact h2
theorem cn_two {f g h : Nat → Bool} : ∀ {n : Nat}, (∀ k, k < n → (f k).toNat + (g k).toNat ≤ (h k).toNat) → cn f n + cn g n ≤ cn h n
  | 0, _ => Nat.le_refl _
  | n + 1, q => by
    have := cn_two (n := n) (fun k hk => q k (by omega))
    have := q n (by omega)
    rw [cn, cn, cn]; omega
theorem cn_split (f : Nat → Bool) : ∀ (a b : Nat), cn f (a + b) = cn f a + cn (fun i => f (a + i)) b
  | a, 0 => by simp [cn]
  | a, b + 1 => by rw [show a + (b + 1) = a + b + 1 by omega, cn, cn_split f a b, cn]; omega
theorem cn_zero {f : Nat → Bool} : ∀ {n : Nat}, (∀ k, k < n → f k = false) → cn f n = 0
  | 0, _ => rfl
  | n + 1, h => by rw [cn, cn_zero (fun k hk => h k (by omega)), h n (by omega)]; rfl
/-- the search's end: so many as can be -/
theorem mv_done {E : Nat → Nat → Bool} {p m c0 s : Nat} {ow : Nat → Option Nat} {D : Nat → Bool} (hp : p ≤ 12) (hc0 : c0 ≤ m) (hE : ∀ c k, E c k = true → k < p) (hv : vO E m s ow) (hK : ∀ o, kO ow o ≤ 1) (hlo : ∀ o, o < c0 → kO ow o = 0) (hD : clo E s ow D) (hfail : ∀ o, c0 ≤ o → o < m → kO ow o = 0 → ∀ r, r < 12 → cn2 E s o r = true → D r = true) : mv E p m c0 s = cnr (mt ow) m c0 := by
  refine Nat.le_antisymm ?_ ?_
  · have h1 := mv_high (E := E) (p := p) (m := m) hp (D := D) (X := fun o => eB (fun k => decide (ow k = some o) && !D k) 12) (m - c0) c0 s (by omega) (fun o k ho hm hX hk hf hE' => by
      have hcan : cn2 E s o k = true := by unfold cn2; rw [hE', hf]; rfl
      by_cases q : kO ow o = 0
      · exact hfail o ho hm q k (by omega) hcan
      · obtain ⟨k0, hk0, e0⟩ := eB_t.mp (kO_pos.mp (by omega : 0 < kO ow o))
        have e0' := of_decide_eq_true e0
        have hD0 : D k0 = true := by
          cases y : D k0 with
          | true => rfl
          | false =>
            have := eB_f.mp hX k0 hk0
            rw [e0, y] at this; cases this
        obtain ⟨o', v1, v2⟩ := hD k0 hk0 hD0
        rw [e0'] at v1
        cases v1
        exact v2 k (by omega) hcan)
    have h2 : cn (fun k => D k && fe s k) 12 ≤ cn D 12 := cn_sub fun k q => by rw [Bool.and_eq_true] at q; exact q.1
    have h3 := cn_own (m := m) (D := D) hK 12 (by omega) (fun k hk hDk => by
      obtain ⟨o, v1, -⟩ := hD k hk hDk
      exact ⟨o, (hv k o hk v1).1, v1⟩)
    have h4 : cn (fun o => eB (fun k => D k && decide (ow k = some o)) 12) m = cnr (fun o => eB (fun k => D k && decide (ow k = some o)) 12) m c0 := by
      unfold cnr
      have := cn_split (fun o => eB (fun k => D k && decide (ow k = some o)) 12) c0 (m - c0)
      rw [show c0 + (m - c0) = m by omega] at this
      rw [this, cn_zero (fun o ho => eB_f.mpr fun k hk => ?_), Nat.zero_add]
      cases y : decide (ow k = some o) with
      | false => rw [Bool.and_false]
      | true =>
        have := kO_pos.mpr (eB_t.mpr ⟨k, hk, y⟩)
        rw [hlo o ho] at this; omega
    have h5 : cnr (fun o => eB (fun k => decide (ow k = some o) && !D k) 12) m c0 + cnr (fun o => eB (fun k => D k && decide (ow k = some o)) 12) m c0 ≤ cnr (mt ow) m c0 := by
      unfold cnr
      refine cn_two fun i _ => ?_
      show (eB (fun k => decide (ow k = some (c0 + i)) && !D k) 12).toNat + (eB (fun k => D k && decide (ow k = some (c0 + i))) 12).toNat ≤ (mt ow (c0 + i)).toNat
      cases y1 : eB (fun k => decide (ow k = some (c0 + i)) && !D k) 12 with
      | false =>
        cases y2 : eB (fun k => D k && decide (ow k = some (c0 + i))) 12 with
        | false => exact Nat.zero_le _
        | true =>
          obtain ⟨k, hk, e⟩ := eB_t.mp y2
          rw [Bool.and_eq_true] at e
          rw [show mt ow (c0 + i) = true from eB_t.mpr ⟨k, hk, e.2⟩]; simp
      | true =>
        obtain ⟨k, hk, e⟩ := eB_t.mp y1
        rw [Bool.and_eq_true] at e
        rw [show mt ow (c0 + i) = true from eB_t.mpr ⟨k, hk, e.1⟩]
        cases y2 : eB (fun k => D k && decide (ow k = some (c0 + i))) 12 with
        | false => simp
        | true =>
          exfalso
          obtain ⟨k', hk', e'⟩ := eB_t.mp y2
          rw [Bool.and_eq_true] at e'
          have hne : k' ≠ k := fun z => by
            rw [z] at e'
            have := e.2
            rw [e'.1] at this; cases this
          have h2 : 2 ≤ kO ow (c0 + i) := by
            have a1 := cn_flip (f := fun x => decide (ow x = some (c0 + i))) (g := fun x => decide (ow x = some (c0 + i)) && !decide (x = k)) (j := k) (n := 12) (by omega) e.1 (by simp) (fun x hx => by simp [hx])
            have a2 := cn_flip (f := fun x => decide (ow x = some (c0 + i)) && !decide (x = k)) (g := fun x => (decide (ow x = some (c0 + i)) && !decide (x = k)) && !decide (x = k')) (j := k') (n := 12) (by omega) (by rw [e'.2, decide_eq_false hne]; rfl) (by simp) (fun x hx => by simp [hx])
            unfold kO
            omega
          have := hK (c0 + i); omega
    omega
  · exact mv_low (E := E) (p := p) (m := m) (m - c0) c0 s (by omega) (fun k o hk ho _ => by
      have := (hv k o hk ho).2
      unfold cn2 at this
      rw [Bool.and_eq_true] at this
      exact ⟨hE o k this.1, this.2, this.1⟩)
section Spec
variable {d L : Nat} {fz t : Bool} {Q : pm_R → pm_H → Prop} {J : Nat → Nat → Int64} {E : Nat → Nat → Bool} {m s p : Nat} {I : Nat → Nat → Int32}
theorem wd_fr {I' : Nat → Nat → Int32} (h : wd E m I) (h16 : I' 16 3 = I 16 3) (h17 : I' 17 = I 17) : wd E m I' := ⟨by rw [h16]; exact h.1, fun c hc => by rw [h17]; exact h.2 c hc⟩
theorem S_mostFrom {c0 : Nat} (hm : m ≤ 10) (hp : p ≤ 12) (hE : ∀ c k, E c k = true → k < p) (hW : wd E m I) (hc0 : c0 ≤ m) (hq : ∀ I', fr [16, 19] I I' → wd E m I' → Q (.inl (some (.int (nI (mv E p m c0 s))))) (pm_hp L fz t I' J)) : pm_Ev (d + 12) 75 [.ref 16, .int (nI c0), .int (mk (fe s) 12)] (pm_hp L fz t I J) Q := by
  refine e_X8_mostFrom (S_fill (a0 := 19) (n0 := 12) (by omega) fun I1 f1 g1 => kb_X8_mostFrom_8 ?_)
  have loop : ∀ (j c : Nat) (I' : Nat → Nat → Int32) (ow : Nat → Option Nat) (D : Nat → Bool), c + j = m → c0 ≤ c → fr [16, 19] I I' → wd E m I' → wO ow I' → vO E m s ow → (∀ o, kO ow o ≤ 1) → (∀ o, o < c0 ∨ c ≤ o → kO ow o = 0) → nO ow ≤ c - c0 → clo E s ow D → (∀ o, c0 ≤ o → o < c → kO ow o = 0 → ∀ r, r < 12 → cn2 E s o r = true → D r = true) → t_X8_mostFrom_13 (d + 11) L fz t Q (mk (fe s) 12) (nI (cnr (mt ow) m c0)) (nI c) I' J := by
    intro j
    induction j with
    | zero =>
      intro c I' ow D hc hcc hf hW' hO hv hK hlo hn hD hfail
      obtain rfl : c = m := by omega
      refine b_X8_mostFrom_13 ?_
      rw [hW'.1]
      refine q_t (nI_le (by omega) (by omega)) ?_
      have := hq I' hf hW'
      rw [mv_done hp hc0 hE hv hK (fun o ho => hlo o (Or.inl ho)) hD hfail] at this
      exact this
    | succ j ih =>
      intro c I' ow D hc hcc hf hW' hO hv hK hlo hn hD hfail
      refine b_X8_mostFrom_13 ?_
      rw [hW'.1]
      refine q_f (nI_ge (by omega) (by omega)) ?_
      refine S_findCoat (E := E) (m := m) (s := s) hm 11 0 c (pm_u I' 16 4 (nI 0)) (fun _ => false) ow _ (by omega) (by omega) (wd_fr hW' (by rw [pm_uk (by decide)]) (by rw [pm_ua (by decide)])) (by rw [pm_us]; exact (mk_false 12).symm) (fun k hk => by rw [pm_ua (by decide)]; exact hO k hk) hv (fun k _ h => by cases h) (Nat.zero_le _) (by omega) ?_
      intro b I2 t2 o2 f2 W2 h42 O2 m2 hno hyes
      refine kb_X8_mostFrom_35 ?_
      have f2' : fr [16, 19] I I2 := fr_t (fr_u (by simp) hf) f2
      rw [nI_add, nI_add]
      refine q_b0 (fun y => ?_) (fun y => ?_)
      · obtain ⟨n1, n2, n3⟩ := hno y
        have ek : ∀ o, kO o2 o = kO ow o := fun o => cn_congr fun k hk => by rw [n1 k hk]
        have em : cnr (mt o2) m c0 = cnr (mt ow) m c0 := cn_congr fun i _ => eB_congr fun k hk => by rw [n1 k hk]
        have := ih (c + 1) I2 o2 (fun r => D r || t2 r) (by omega) (by omega) f2' W2 O2 (fun k o hk ho => hv k o hk (by rw [← n1 k hk]; exact ho)) (fun o => by rw [ek]; exact hK o) (fun o ho => by rw [ek]; exact hlo o (by omega)) (by
          have : nO o2 = nO ow := cn_congr fun k hk => by rw [n1 k hk]
          omega) (fun k hk hk2 => ?_) (fun o h1 h2 h3 r hr hcan => ?_)
        · rw [em] at this; exact this
        · rw [Bool.or_eq_true] at hk2
          rcases hk2 with z | z
          · obtain ⟨o, v1, v2⟩ := hD k hk z
            exact ⟨o, by rw [n1 k hk]; exact v1, fun r hr hcan => by show (D r || t2 r) = true; rw [v2 r hr hcan]; rfl⟩
          · rcases n3 k hk z with w | ⟨o, v1, v2⟩
            · cases w
            · exact ⟨o, by rw [n1 k hk]; exact v1, fun r hr hcan => by show (D r || t2 r) = true; rw [v2 r hr hcan, Bool.or_true]⟩
        · by_cases z : o = c
          · rw [z] at hcan; rw [n2 r hr hcan, Bool.or_true]
          · rw [ek] at h3
            rw [hfail o h1 (by omega) h3 r hr hcan]; rfl
      · obtain ⟨y1, y2, y3, y4, y5⟩ := hyes y
        obtain ⟨d1, -⟩ := y5 D hD
        have hc0' := hlo c (Or.inr (Nat.le_refl _))
        have ek : ∀ o, o ≠ c → kO o2 o = kO ow o := fun o ho => by rw [y3, decide_eq_false ho]; rfl
        have ec : kO o2 c = 1 := by rw [y3, hc0', decide_eq_true rfl]; rfl
        have em : cnr (mt o2) m c0 = cnr (mt ow) m c0 + 1 := by
          refine cnr_flip (j := c) hcc (by omega) ?_ (mt_f.mpr hc0') (fun k hk => ?_)
          · cases q : mt o2 c with
            | true => rfl
            | false => have := mt_f.mp q; omega
          · cases q : mt ow k with
            | false => exact mt_f.mpr (by rw [ek k hk]; exact mt_f.mp q)
            | true =>
              cases q2 : mt o2 k with
              | true => rfl
              | false =>
                have := mt_f.mp q2
                rw [ek k hk] at this
                rw [mt_f.mpr this] at q; cases q
        have := ih (c + 1) I2 o2 D (by omega) (by omega) f2' W2 O2 y2 (fun o => by
          by_cases z : o = c
          · rw [z, ec]; omega
          · rw [ek o z]; exact hK o) (fun o ho => by rw [ek o (by omega)]; exact hlo o (by omega)) (by omega) (fun k hk hk2 => ?_) (fun o h1 h2 h3 r hr hcan => ?_)
        · rw [em] at this; exact this
        · obtain ⟨o, v1, v2⟩ := hD k hk hk2
          exact ⟨o, by rw [d1 k hk hk2]; exact v1, v2⟩
        · by_cases z : o = c
          · rw [z, ec] at h3; cases h3
          · rw [ek o z] at h3
            exact hfail o h1 (by omega) h3 r hr hcan
  have k0 : ∀ o, kO (fun _ => none) o = 0 := fun o => cn_zero fun k _ => decide_eq_false (by intro z; cases z)
  have := loop (m - c0) c0 I1 (fun _ => none) (fun _ => false) (by omega) (Nat.le_refl _) (fr_m f1 (by simp)) (wd_fr hW (by rw [f1 16 (by decide)]) (f1 17 (by decide))) (fun k hk => g1 k hk) (fun k o hk ho => by cases ho) (fun o => by rw [k0]; omega) (fun o _ => k0 o) (by
    have : nO (fun _ => none) = 0 := cn_zero fun k _ => rfl
    omega) (fun k _ h => by cases h) (fun o h1 h2 => absurd h2 (by omega))
  have e0 : cnr (mt (fun _ => none)) m c0 = 0 := cn_zero fun k _ => mt_f.mpr (k0 _)
  rw [e0] at this
  exact this
/-! the walk over cards -/
def itF (E : Nat → Nat → Bool) (p m c s : Nat) : Nat → Bool := fun k => cf E s c k && decide (1 + mv E p m (c + 1) (s ||| 2 ^ k) = mv E p m c s)
def itc (E : Nat → Nat → Bool) (p m c s : Nat) : Option Nat := ff (itF E p m c s) p 0
def tkn (E : Nat → Nat → Bool) (p m : Nat) : Nat → Nat
  | 0 => 0
  | c + 1 => match itc E p m c (tkn E p m c) with
    | none => tkn E p m c
    | some k => tkn E p m c ||| 2 ^ k
theorem tkn_lt {E : Nat → Nat → Bool} {p m : Nat} : ∀ c, tkn E p m c < 2 ^ p
  | 0 => Nat.two_pow_pos p
  | c + 1 => by
    have ih := tkn_lt (E := E) (p := p) (m := m) c
    rw [tkn]
    cases q : itc E p m c (tkn E p m c) with
    | none => exact ih
    | some k => exact set_lt ih (by have := (ff_some q).2.1; omega)
theorem it_none {E : Nat → Nat → Bool} {p m c s : Nat} (hc : c < m) (h : itc E p m c s = none) : mv E p m c s = mv E p m (c + 1) s := by
  rcases mxk_eq (f := cf E s c) (F := fun k => 1 + mv E p m (c + 1) (s ||| 2 ^ k)) (a := mv E p m (c + 1) s) (n := p) with q | ⟨k, hk, h1, h2⟩
  · rw [mv_step hc]; exact q
  · have := ff_none.mp h k (by omega) (by omega)
    unfold itF at this
    rw [h1, decide_eq_true (by rw [mv_step hc]; exact h2.symm)] at this
    cases this
theorem nI_pm {r a : Nat} (hr : r < 2 ^ 30) (ha : a < 2 ^ 30) : nI r = nI a - nI 1 ↔ r + 1 = a := by
  cases a with
  | zero => exact ⟨fun h => absurd (h.trans (by decide : nI 0 - nI 1 = -1)) (nI_ne_m1 (by omega)), fun h => absurd h (by omega)⟩
  | succ a => rw [pk_sub (by omega), nI_eq (by omega) (by omega)]; omega
theorem S_deal (hm : m ≤ 10) (hp : p ≤ 12) (hE : ∀ c k, E c k = true → k < p) (hW : wd E m I) (h18 : ∀ c, c < 10 → I 18 c = -1) (hq : ∀ I', fr [16, 18, 19] I I' → (∀ c, c < m → I' 18 c = oI (itc E p m c (tkn E p m c))) → Q (.inl (some (.int (nI (mv E p m 0 0))))) (pm_hp L fz t I' J)) : pm_Ev (d + 13) 74 [.ref 16] (pm_hp L fz t I J) Q := by
  have e4095 : nI 4095 = mk (fe 0) 12 := by
    have : mk (fe 0) 12 = mk (fun _ => true) 12 := mk_congr fun k _ => by unfold fe; simp
    rw [this, mk_true (by omega), al_nI 12 (by omega)]
  refine e_X8_deal ?_
  rw [e4095]
  refine S_mostFrom (c0 := 0) hm hp hE hW (by omega) fun I1 f1 W1 => kb_X8_deal_10 ?_
  have loop : ∀ (j c : Nat) (I' : Nat → Nat → Int32), c + j = m → fr [16, 18, 19] I I' → wd E m I' → (∀ c', c' < 10 → I' 18 c' = if c' < c then oI (itc E p m c' (tkn E p m c')) else -1) → t_X8_deal_16 (d + 12) L fz t Q (mk (fe (tkn E p m c)) 12) (nI (mv E p m 0 0)) (nI (mv E p m c (tkn E p m c))) (nI c) I' J := by
    intro j
    induction j with
    | zero =>
      intro c I' hc hf hW' h18'
      obtain rfl : c = m := by omega
      refine b_X8_deal_16 ?_
      rw [hW'.1]
      exact q_t (nI_le (by omega) (by omega)) (hq I' hf fun c' hc' => by rw [h18' c' (by omega), if_pos hc'])
    | succ j ih =>
      intro c I' hc hf hW' h18'
      refine b_X8_deal_16 ?_
      rw [hW'.1]
      refine q_f (nI_ge (by omega) (by omega)) ?_
      have nx := fun I' => ih (c + 1) I' (by omega)
      rw [tkn] at nx
      generalize hs : tkn E p m c = s at *
      have hmv := mv_le (E := E) (p := p) (m := m) (c := c) (s := s)
      have inner : ∀ (j' q : Nat) (I' : Nat → Nat → Int32), q + j' = 12 → fr [16, 18, 19] I I' → wd E m I' → (∀ c', c' < 10 → I' 18 c' = if c' < c then oI (itc E p m c' (tkn E p m c')) else -1) → (∀ k, k < q → itF E p m c s k = false) → t_X8_deal_28 (d + 12) L fz t Q (mk (fe s) 12) (nI (mv E p m 0 0)) (nI (mv E p m c s)) (nI c) (nI q) I' J := by
        intro j'
        induction j' with
        | zero =>
          intro q I' hq' hf hW' h18' hnone
          obtain rfl : q = 12 := by omega
          refine b_X8_deal_28 (q_t (nI_le (by omega) (by omega)) ?_)
          have hn : itc E p m c s = none := ff_none.mpr fun k _ hk => hnone k (by omega)
          have := nx I' hf hW' (fun c' hc' => by
            rw [h18' c' hc']
            by_cases z : c' = c
            · rw [z, if_neg (by omega), if_pos (by omega), hs, hn]; rfl
            · by_cases y : c' < c
              · rw [if_pos y, if_pos (by omega)]
              · rw [if_neg y, if_neg (by omega)])
          rw [hn] at this
          rw [nI_add, it_none (by omega) hn]
          exact this
        | succ j' ih' =>
          intro q I' hq' hf hW' h18' hnone
          refine b_X8_deal_28 (q_f (nI_ge (by omega) (by omega)) ?_)
          have h0 := h18' c (by omega)
          rw [if_neg (by omega)] at h0
          rw [nI_clamp (by omega), h0]
          refine ⟨vp_in_nI (by omega) (by omega), q_f' rfl ⟨vp_in_nI (by omega) (by omega), ?_⟩⟩
          have hbit : bt (I' 17 c &&& mk (fe s) 12) q = cf E s c q := by
            rw [b_and, hW'.2 c (by omega), bt_mk (by omega) (by omega), bt_mk (by omega) (by omega)]
            unfold cf; rw [Bool.and_comm]
          rw [and0 (y := 0) (by omega), hbit, nI_add, nI_add]
          refine ⟨fun z => ?_, fun z => ?_⟩
          · refine ih' (q + 1) I' (by omega) hf hW' h18' (fun k hk => ?_)
            by_cases y : k = q
            · rw [y]; unfold itF; rw [z, Bool.false_and]
            · exact hnone k (by omega)
          · have z' : cf E s c q = true := by cases y : cf E s c q; exact absurd y z; rfl
            have hqp : q < p := by
              unfold cf at z'
              rw [Bool.and_eq_true] at z'
              exact hE c q z'.2
            have hset : mk (fe s) 12 &&& ((nI 1 <<< (nI q &&& 31)) ^^^ (-1 : Int32)) = mk (fe (s ||| 2 ^ q)) 12 := by
              refine sm_ext (n := 12) (sm_and (sm_mk _ (by omega))) (sm_mk _ (by omega)) fun i hi => ?_
              rw [b_and, b_not _ (by omega), bt_mk (by omega) hi, bt_mk (by omega) hi, show nI 1 <<< (nI q &&& 31) = pw q from rfl, b_pw q (by omega) i (by omega)]
              unfold fe
              rw [tb_set, Bool.not_or]
              congr 2
              exact decide_eq_decide.mpr ⟨fun e => e.symm, fun e => e.symm⟩
            rw [hset]
            have hmv2 := mv_le (E := E) (p := p) (m := m) (c := c + 1) (s := s ||| 2 ^ q)
            refine S_mostFrom hm hp hE hW' (by omega) fun I2 f2 W2 => kb_X8_deal_95 ?_
            have f2' : fr [16, 18, 19] I I2 := fr_t hf (fr_m f2 (by simp <;> omega))
            have e18 : I2 18 = I' 18 := f2 18 (by decide)
            rw [nI_pm (by omega) (by omega), nI_add]
            refine ⟨fun y => ?_, fun y => ⟨vp_in_nI (by omega) (by omega), ?_⟩⟩
            · refine ih' (q + 1) I2 (by omega) f2' W2 (fun c' hc' => by rw [e18]; exact h18' c' hc') (fun k hk => ?_)
              by_cases w : k = q
              · rw [w]; unfold itF; rw [z', decide_eq_false (by omega)]; rfl
              · exact hnone k (by omega)
            · have hit : itc E p m c s = some q := ff_is hqp (by unfold itF; rw [z', decide_eq_true (by omega)]; rfl) hnone
              rw [nI_clamp (by omega)]
              have := nx (pm_u I2 18 c (nI q)) (fr_u (by simp) f2') (wd_fr W2 (by rw [pm_ua (by decide)]) (by rw [pm_ua (by decide)])) (fun c' hc' => by
                by_cases w : c' = c
                · rw [w, pm_us, if_pos (by omega), hs, hit]; rfl
                · rw [pm_uk w, e18, h18' c' hc']
                  by_cases v : c' < c
                  · rw [if_pos v, if_pos (by omega)]
                  · rw [if_neg v, if_neg (by omega)])
              rw [hit] at this
              have el : nI (mv E p m c s) + (-1 : Int32) = nI (mv E p m (c + 1) (s ||| 2 ^ q)) := by rw [← y]; exact pk_m1 _
              rw [el]
              -- the row is left at once
              by_cases w : q + 1 = 12
              · refine b_X8_deal_28 (q_t (nI_le (by omega) (by omega)) ?_)
                rw [nI_add]; exact this
              · refine b_X8_deal_28 (q_f (nI_ge (by omega) (by omega)) ?_)
                rw [nI_clamp (by omega), pm_us, nI_add]
                exact ⟨vp_in_nI (by omega) (by omega), q_t' (nI_ne_m1 (by omega)) this⟩
      exact inner 12 0 I' (by omega) hf hW' h18' (fun k h => absurd h (by omega))
  exact loop m 0 I1 (by omega) (fr_m f1 (by simp <;> omega)) W1 (fun c' hc' => by rw [f1 18 (by decide), h18 c' hc', if_neg (by omega)])
end Spec
