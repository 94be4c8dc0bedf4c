/-! the whole state: what is told, now, acts (each with what was ahead of it), what was seen, the image, the tape, the fault's place, refused calls -/
abbrev Se := Nat × Nat × Nat × Bool
abbrev Ia := Wk × Nat × (Nat → Wk) × Nat × (Nat → Se)
abbrev St := Td × Wk × (Nat × (Nat → Wk)) × (Nat × (Nat → Se)) × Option Ia × List Nat × Int32 × (Nat → Int32)
def sT (A : St) : Td := A.1
def sW (A : St) : Wk := A.2.1
def sNA (A : St) : Nat := A.2.2.1.1
def sA (A : St) : Nat → Wk := A.2.2.1.2
def sNS (A : St) : Nat := A.2.2.2.1.1
def sS (A : St) : Nat → Se := A.2.2.2.1.2
def sI (A : St) : Option Ia := A.2.2.2.2.1
def sB (A : St) : List Nat := A.2.2.2.2.2.1
def sF (A : St) : Int32 := A.2.2.2.2.2.2.1
def sR (A : St) : Nat → Int32 := A.2.2.2.2.2.2.2
/-- what one act altered, taken back -/
def wHo (V : Wk) (c : Nat) (h : Int32) : Wk := ((fun x => if x = c then h else wo V x), ww V, wl V, wp V, ws V, wg V)
def wWe (V : Wk) (c v : Nat) : Wk := (wo V, (fun x => if x = c then v else ww V x), wl V, wp V, ws V, wg V)
def dl (kd a b : Int32) (l : Int64) (U V : Wk) : Prop :=
  (kd = nI 1 ∧ ∃ c, c < 10 ∧ a = nI c ∧ U = wHo V c b) ∨ (kd = nI 2 ∧ ∃ c v, c < 10 ∧ a = nI c ∧ b = nI v ∧ U = wWe V c v) ∨
  (kd = nI 3 ∧ ∃ i j, i < wp V ∧ j < wp V ∧ a = nI i ∧ b = nI j ∧ U = wex V i j) ∨
  (kd = nI 0 ∧ a = ws U ∧ b = wg U ∧ l = lN (pn (ww U) 10) ∧ wo U = wo V ∧ wl U = wl V ∧ wp U = wp V)
def nx (n : Nat) (As : Nat → Wk) (W : Wk) (i : Nat) : Wk := if i + 1 < n then As (i + 1) else W
def cA (b n : Nat) (As : Nat → Wk) (W : Wk) (I : Nat → Nat → Int32) (J : Nat → Nat → Int64) : Prop := I b 4 = nI n ∧ ∀ i, i < n → dl (I (b + 1) i) (I (b + 2) i) (I (b + 3) i) (J (b + 4) i) (As i) (nx n As W i)
def cN (b m : Nat) (S : Nat → Se) (I : Nat → Nat → Int32) : Prop := I b 4 = nI m ∧ ∃ C : Nat → Se, (∀ i, i < m → ∃ j, j < m ∧ C j = S i) ∧ (∀ i, i < m → ∃ j, j < m ∧ S j = C i) ∧ ∀ i, i < m → I (b + 1) i = nI (C i).1 ∧ I (b + 2) i = nI (C i).2.1 ∧ I (b + 3) i = nI (C i).2.2.1 ∧ I (b + 4) i = bz (C i).2.2.2
def sby (x : Nat) : Int32 := Int8.toInt32 (Int32.toInt8 (nI x))
def cI (im : Option Ia) (I : Nat → Nat → Int32) (J : Nat → Nat → Int64) : Prop := I 0 17 = bz im.isSome ∧ ∀ V k Bs q C, im = some (V, k, Bs, q, C) → cW 31 V I ∧ cA 40 k Bs V I J ∧ cN 50 q C I
def cB (B : List Nat) (I : Nat → Nat → Int32) : Prop := I 1 1 = nI B.length ∧ ∀ i, i < B.length → I 2 i = sby (B.getD i 0)
/-- the wear of cards that were told, in both drafts -/
def wr (I : Nat → Nat → Int32) : Prop := ∀ a, a = 58 ∨ a = 73 → ∀ c, c < 10 → ∃ w, w ≤ 9 ∧ I a c = nI w
theorem wr_of {I I' : Nat → Nat → Int32} (h : wr I) (h1 : I' 58 = I 58) (h2 : I' 73 = I 73) : wr I' := by
  intro a ha c hc
  rcases ha with rfl | rfl
  · rw [h1]; exact h 58 (Or.inl rfl) c hc
  · rw [h2]; exact h 73 (Or.inr rfl) c hc
def cS (A : St) (t : Bool) (I : Nat → Nat → Int32) (J : Nat → Nat → Int64) : Prop :=
  cT (pm_td t) (sT A) I ∧ cW 23 (sW A) I ∧ cM (sT A) I ∧ cA 35 (sNA A) (sA A) (sW A) I J ∧ cN 45 (sNS A) (sS A) I ∧ cI (sI A) I J ∧ cB (sB A) I ∧ (I 0 18 = sF A ∧ wr I) ∧ ∀ i, i < 3 → I 20 i = sR A i
def mA (c n : Nat) (m : Nat) (As : Nat → Wk) (I : Nat → Nat → Int32) : Prop := ∀ i, i < n → mR (I c) (34 * i) m (As i)
def mN (c m : Nat) (S : Nat → Se) (I : Nat → Nat → Int32) : Prop := ∀ i, i < m → I c (4 * i) = nI (S i).1 ∧ I c (4 * i + 1) = nI (S i).2.1 ∧ I c (4 * i + 2) = nI (S i).2.2.1 ∧ I c (4 * i + 3) = bz (S i).2.2.2
def mI (m : Nat) (im : Option Ia) (I : Nat → Nat → Int32) : Prop := I 85 61 = bz im.isSome ∧ ∀ V k Bs q C, im = some (V, k, Bs, q, C) → mR (I 114) 0 m V ∧ I 85 62 = nI k ∧ mA 115 k m Bs I ∧ I 85 63 = nI q ∧ mN 116 q C I
def mB (B : List Nat) (I : Nat → Nat → Int32) : Prop := I 85 14 = nI B.length ∧ ∀ i, i < B.length → I 92 i = nI (B.getD i 0)
def mS (A : St) (I : Nat → Nat → Int32) : Prop :=
  mT (sT A) I ∧ I 85 3 = nI (wp (sW A)) ∧ mR (I 103) 0 (tM (sT A)) (sW A) ∧ (I 85 48 = nI (sNA A) ∧ mA 104 (sNA A) (tM (sT A)) (sA A) I) ∧ (I 85 55 = nI (sNS A) ∧ mN 110 (sNS A) (sS A) I) ∧ mI (tM (sT A)) (sI A) I ∧ mB (sB A) I ∧ I 85 16 = sF A ∧ ∀ i, i < 3 → I 93 i = sR A i
def okS (T : Td) (W : Wk) (m : Nat) (S : Nat → Se) : Prop := m ≤ 8 ∧ ∀ i, i < m → (S i).1 < wp W ∧ (S i).2.1 < tN T ∧ (S i).2.2.1 ≤ 20
def okA (T : Td) (W : Wk) (n : Nat) (As : Nat → Wk) : Prop := n ≤ 40 ∧ ∀ i, i < n → okW T (As i) ∧ wp (As i) = wp W
def ok (A : St) : Prop := okT (sT A) ∧ okW (sT A) (sW A) ∧ okA (sT A) (sW A) (sNA A) (sA A) ∧ okS (sT A) (sW A) (sNS A) (sS A) ∧ (∀ V k Bs q C, sI A = some (V, k, Bs, q, C) → okW (sT A) V ∧ wp V = wp (sW A) ∧ okA (sT A) V k Bs ∧ okS (sT A) V q C) ∧ (sB A).length ≤ 700 ∧ ∀ x, x ∈ sB A → x < 256
/-! a call that only looks -/
def qs (t : Bool) : List Nat := [3, 4, 5, 6, 7, 8, 9, 10, 11, 12, 13, 14, 15, 16, 17, 18, 19, 21, 22, 27, 28, 29, 30, pm_td t + 9 + 2, pm_td t + 12 + 2]
theorem cA_of {b n : Nat} {As : Nat → Wk} {W : Wk} {I I' : Nat → Nat → Int32} {J J' : Nat → Nat → Int64} (h0 : I' b = I b) (h1 : I' (b + 1) = I (b + 1)) (h2 : I' (b + 2) = I (b + 2)) (h3 : I' (b + 3) = I (b + 3)) (h4 : J' (b + 4) = J (b + 4)) (h : cA b n As W I J) : cA b n As W I' J' := by
  unfold cA at *; rw [h0, h1, h2, h3, h4]; exact h
theorem cN_of {b m : Nat} {S : Nat → Se} {I I' : Nat → Nat → Int32} (h0 : I' b = I b) (h1 : I' (b + 1) = I (b + 1)) (h2 : I' (b + 2) = I (b + 2)) (h3 : I' (b + 3) = I (b + 3)) (h4 : I' (b + 4) = I (b + 4)) (h : cN b m S I) : cN b m S I' := by
  unfold cN at *; rw [h0, h1, h2, h3, h4]; exact h
theorem cS_q {A : St} {t : Bool} {I I' : Nat → Nat → Int32} {J : Nat → Nat → Int64} (h : cS A t I J) (hf : fr (qs t) I I') (hM : cM (sT A) I') : cS A t I' J := by
  have n : ∀ a, a = 0 ∨ a = 1 ∨ a = 2 ∨ a = 20 ∨ a = 23 ∨ a = 24 ∨ a = 25 ∨ a = 26 ∨ (31 ≤ a ∧ a ≤ 54) → a ∉ qs t := by
    intro a ha
    unfold qs
    cases t <;> simp [pm_td] <;> omega
  have e : ∀ a, a = 0 ∨ a = 1 ∨ a = 2 ∨ a = 20 ∨ a = 23 ∨ a = 24 ∨ a = 25 ∨ a = 26 ∨ (31 ≤ a ∧ a ≤ 54) → I' a = I a := fun a ha => hf a (n a ha)
  have td := td_or t
  have ntd : ∀ j, j ≤ 13 → j ≠ 11 → pm_td t + j ∉ qs t := by
    intro j h1 h2
    unfold qs
    cases t <;> simp [pm_td] <;> omega
  obtain ⟨h1, h2, -, h4, h5, ⟨h6, h6'⟩, ⟨h7, h7'⟩, h8, h9⟩ := h
  refine ⟨cT_fr h1 hf (ntd 0 (by omega) (by omega)) (ntd 2 (by omega) (by omega)) (ntd 5 (by omega) (by omega)) (ntd 6 (by omega) (by omega)) (ntd 7 (by omega) (by omega)) (ntd 8 (by omega) (by omega)) (ntd 9 (by omega) (by omega)) (ntd 10 (by omega) (by omega)) (ntd 12 (by omega) (by omega)) (ntd 13 (by omega) (by omega)), cW_fr h2 hf (n _ (by omega)) (n _ (by omega)) (n _ (by omega)) (n _ (by omega)), hM, cA_of (e _ (by omega)) (e _ (by omega)) (e _ (by omega)) (e _ (by omega)) rfl h4, cN_of (e _ (by omega)) (e _ (by omega)) (e _ (by omega)) (e _ (by omega)) (e _ (by omega)) h5, ⟨by rw [e 0 (by omega)]; exact h6, fun V k Bs q C hi => ?_⟩, ⟨by rw [e 1 (by omega)]; exact h7, by rw [e 2 (by omega)]; exact h7'⟩, ⟨by rw [e 0 (by omega)]; exact h8.1, wr_of h8.2 (hf 58 (by cases t <;> decide)) (hf 73 (by cases t <;> decide))⟩, by rw [e 20 (by omega)]; exact h9⟩
  obtain ⟨g1, g2, g3⟩ := h6' V k Bs q C hi
  exact ⟨cW_fr g1 hf (n _ (by omega)) (n _ (by omega)) (n _ (by omega)) (n _ (by omega)), cA_of (e _ (by omega)) (e _ (by omega)) (e _ (by omega)) (e _ (by omega)) rfl g2, cN_of (e _ (by omega)) (e _ (by omega)) (e _ (by omega)) (e _ (by omega)) (e _ (by omega)) g3⟩
def ms : List Nat := [85, 103, 105, 106, 107, 108, 109, 111, 112, 113]
/-- the reference has only looked -/
def mq (I I' : Nat → Nat → Int32) : Prop := fr ms I I' ∧ (∀ j, j ≠ 0 → j ≠ 52 → j ≠ 60 → I' 85 j = I 85 j) ∧ ∀ k, k < 34 → I' 103 k = I 103 k
theorem mS_q {A : St} {I I' : Nat → Nat → Int32} (ho : ok A) (h : mS A I) (hq : mq I I') : mS A I' := by
  obtain ⟨hf, h85, h103⟩ := hq
  obtain ⟨h1, h2, h3, ⟨h4, h4'⟩, ⟨h5, h5'⟩, ⟨h6, h6'⟩, ⟨h7, h7'⟩, h8, h9⟩ := h
  have e : ∀ j, j ≠ 0 → j ≠ 52 → j ≠ 60 → I' 85 j = I 85 j := h85
  have u : ∀ a, a ∉ ms → I' a = I a := hf
  refine ⟨mT_fr h1 hf (fun j hj => e j (by omega) (by omega) (by omega)) (by decide) (by decide) (by decide) (by decide) (by decide) (by decide), by rw [e 3 (by omega) (by omega) (by omega)]; exact h2, mR_of h3 ho.1.2.1 ho.2.1.2.2.2 (fun k hk => by rw [Nat.zero_add]; exact h103 k hk), ⟨by rw [e 48 (by omega) (by omega) (by omega)]; exact h4, by unfold mA; rw [u 104 (by decide)]; exact h4'⟩, ⟨by rw [e 55 (by omega) (by omega) (by omega)]; exact h5, by unfold mN; rw [u 110 (by decide)]; exact h5'⟩, ⟨by rw [e 61 (by omega) (by omega) (by omega)]; exact h6, fun V k Bs q C hi => ?_⟩, ⟨by rw [e 14 (by omega) (by omega) (by omega)]; exact h7, by rw [u 92 (by decide)]; exact h7'⟩, by rw [e 16 (by omega) (by omega) (by omega)]; exact h8, by rw [u 93 (by decide)]; exact h9⟩
  obtain ⟨g1, g2, g3, g4, g5⟩ := h6' V k Bs q C hi
  exact ⟨by rw [u 114 (by decide)]; exact g1, by rw [e 62 (by omega) (by omega) (by omega)]; exact g2, by unfold mA; rw [u 115 (by decide)]; exact g3, by rw [e 63 (by omega) (by omega) (by omega)]; exact g4, by unfold mN; rw [u 116 (by decide)]; exact g5⟩
theorem mq_r {I : Nat → Nat → Int32} : mq I I := ⟨fr_r, fun _ _ _ _ => rfl, fun _ _ => rfl⟩
theorem mq_t {I I' I'' : Nat → Nat → Int32} (h : mq I I') (h' : mq I' I'') : mq I I'' := ⟨fr_t h.1 h'.1, fun j a b c => (h'.2.1 j a b c).trans (h.2.1 j a b c), fun k hk => (h'.2.2 k hk).trans (h.2.2 k hk)⟩
theorem mq_th {I I' : Nat → Nat → Int32} {v : Int32} (h : mq I I') : mq I (pm_u I' 85 0 v) := ⟨fr_u (by decide) h.1, fun j a b c => by rw [pm_uk a]; exact h.2.1 j a b c, fun k hk => by rw [pm_ua (by decide)]; exact h.2.2 k hk⟩
theorem mq_rt {I : Nat → Nat → Int32} {b : Bool} {v : Nat} : mq I (rt b v I) := by
  unfold rt; split
  · exact mq_r
  · exact mq_th mq_r
/-- frames of inner calls as looks -/
theorem mq_f {I I' : Nat → Nat → Int32} {S : List Nat} (hf : fr S I I') (hs : ∀ a, a ∈ S → a ∈ ms) (h85 : ∀ j, j ≠ 52 → I' 85 j = I 85 j) (h103 : ∀ k, k < 34 → I' 103 k = I 103 k) : mq I I' := ⟨fr_m hf hs, fun j _ b _ => h85 j b, h103⟩
/-- outside of the reference's cells -/
def mo (I I' : Nat → Nat → Int32) : Prop := ∀ a, a < 85 ∨ 117 ≤ a → I' a = I a
def co (I I' : Nat → Nat → Int32) : Prop := ∀ a, 85 ≤ a → I' a = I a
theorem mo_q {I I' : Nat → Nat → Int32} (h : mq I I') : mo I I' := fun a ha => h.1 a (by unfold ms; simp; omega)
theorem co_q {I I' : Nat → Nat → Int32} {t : Bool} (h : fr (qs t) I I') : co I I' := fun a ha => h a (by unfold qs; cases t <;> simp [pm_td] <;> omega)
theorem cS_co {A : St} {t : Bool} {I I' : Nat → Nat → Int32} {J J' : Nat → Nat → Int64} (h : cS A t I J) (hI : mo I I') (hJ : ∀ a, a < 85 → J' a = J a) : cS A t I' J' := by
  have e : ∀ a, a < 85 → I' a = I a := fun a ha => hI a (Or.inl ha)
  have hf : fr (List.range' 85 32) I I' := fun a ha => hI a (by rw [List.mem_range'_1] at ha; omega)
  have hn : ∀ a, a < 85 → a ∉ List.range' 85 32 := fun a ha q => by rw [List.mem_range'_1] at q; omega
  have td := td_or t
  obtain ⟨h1, h2, h3, h4, h5, ⟨h6, h6'⟩, ⟨h7, h7'⟩, h8, h9⟩ := h
  refine ⟨cT_fr h1 hf (hn _ (by omega)) (hn _ (by omega)) (hn _ (by omega)) (hn _ (by omega)) (hn _ (by omega)) (hn _ (by omega)) (hn _ (by omega)) (hn _ (by omega)) (hn _ (by omega)) (hn _ (by omega)), cW_fr h2 hf (hn _ (by omega)) (hn _ (by omega)) (hn _ (by omega)) (hn _ (by omega)), ?_, cA_of (e _ (by omega)) (e _ (by omega)) (e _ (by omega)) (e _ (by omega)) (hJ _ (by omega)) h4, cN_of (e _ (by omega)) (e _ (by omega)) (e _ (by omega)) (e _ (by omega)) (e _ (by omega)) h5, ⟨by rw [e 0 (by omega)]; exact h6, fun V k Bs q C hi => ?_⟩, ⟨by rw [e 1 (by omega)]; exact h7, by rw [e 2 (by omega)]; exact h7'⟩, ⟨by rw [e 0 (by omega)]; exact h8.1, wr_of h8.2 (e 58 (by omega)) (e 73 (by omega))⟩, by rw [e 20 (by omega)]; exact h9⟩
  · intro p w a b
    rw [e 7 (by omega), e 8 (by omega)]
    exact h3 p w a b
  · obtain ⟨g1, g2, g3⟩ := h6' V k Bs q C hi
    exact ⟨cW_fr g1 hf (hn _ (by omega)) (hn _ (by omega)) (hn _ (by omega)) (hn _ (by omega)), cA_of (e _ (by omega)) (e _ (by omega)) (e _ (by omega)) (e _ (by omega)) (hJ _ (by omega)) g2, cN_of (e _ (by omega)) (e _ (by omega)) (e _ (by omega)) (e _ (by omega)) (e _ (by omega)) g3⟩
theorem mS_co {A : St} {I I' : Nat → Nat → Int32} (h : mS A I) (hI : co I I') : mS A I' := by
  have e : ∀ a, 85 ≤ a → I' a = I a := hI
  obtain ⟨h1, h2, h3, ⟨h4, h4'⟩, ⟨h5, h5'⟩, ⟨h6, h6'⟩, ⟨h7, h7'⟩, h8, h9⟩ := h
  have e85 := e 85 (by omega)
  refine ⟨mT_fr (S := List.range 85) h1 (fun a ha => e a (by rw [List.mem_range] at ha; omega)) (fun j _ => by rw [e85]) (by decide) (by decide) (by decide) (by decide) (by decide) (by decide), by rw [e85]; exact h2, by rw [e 103 (by omega)]; exact h3, ⟨by rw [e85]; exact h4, by unfold mA; rw [e 104 (by omega)]; exact h4'⟩, ⟨by rw [e85]; exact h5, by unfold mN; rw [e 110 (by omega)]; exact h5'⟩, ⟨by rw [e85]; exact h6, fun V k Bs q C hi => ?_⟩, ⟨by rw [e85]; exact h7, by rw [e 92 (by omega)]; exact h7'⟩, by rw [e85]; exact h8, by rw [e 93 (by omega)]; exact h9⟩
  obtain ⟨g1, g2, g3, g4, g5⟩ := h6' V k Bs q C hi
  exact ⟨by rw [e 114 (by omega)]; exact g1, by rw [e85]; exact g2, by unfold mA; rw [e 115 (by omega)]; exact g3, by rw [e85]; exact g4, by unfold mN; rw [e 116 (by omega)]; exact g5⟩
