/-! the law's wrappers and its loop -/
def Lw (kL : Nat) (as : List Value) (A A' : St) (e : Nat) (v : Int32) : Prop := ∀ (L : Nat) (fz t : Bool) (I : Nat → Nat → Int32) (J : Nat → Nat → Int64) (Q : pm_R → pm_H → Prop), cS A t I J → (∀ (fz' t' : Bool) (I' : Nat → Nat → Int32) (J' : Nat → Nat → Int64), cS A' t' I' J' → co I I' → (e = 0 → J' 117 0 = v.toInt64) → Q (.inl (some (.int (nI e)))) (pm_hp L fz' t' I' J')) → pm_Ev 60 kL as (pm_hp L fz t I J) Q
def lb (v : Int32) : Int64 := if v = nI 0 then Int64.ofNat 0 else Int64.ofNat 1
def Lwb (kL : Nat) (as : List Value) (A A' : St) (e : Nat) (v : Int32) : Prop := ∀ (L : Nat) (fz t : Bool) (I : Nat → Nat → Int32) (J : Nat → Nat → Int64) (Q : pm_R → pm_H → Prop), cS A t I J → (∀ (fz' t' : Bool) (I' : Nat → Nat → Int32) (J' : Nat → Nat → Int64), cS A' t' I' J' → co I I' → (e = 0 → J' 117 0 = lb v) → Q (.inl (some (.int (nI e)))) (pm_hp L fz' t' I' J')) → pm_Ev 60 kL as (pm_hp L fz t I J) Q
theorem cS_J {A : St} {t : Bool} {I : Nat → Nat → Int32} {J J' : Nat → Nat → Int64} (h : cS A t I J) (hJ : ∀ a, a < 85 → J' a = J a) : cS A t I J' := cS_co h (fun _ _ => rfl) hJ
theorem CS_up {D kc : Nat} {as : List Value} {A A' : St} {r : pm_R} (h : CS D kc as A A' r) : CS (D + 1) kc as A A' r := fun L fz t I J Q hS hk => pm_Ev_up _ _ _ _ _ (h L fz t I J Q hS hk)
theorem lg0 (x : Int64) : lg_cmp x x = nI 0 := by
  unfold lg_cmp
  rw [if_neg (by show ¬ x < x; rw [fa_lt64]; omega), if_pos rfl]
  rfl
section Wrap
variable {A A' : St} {e : Nat} {v : Int32}
theorem LW_chapel (x1 : Int32) {Rel : St → Nat → Int32 → Prop} (hR : ∀ A' e v, Rel A' e v → e ≤ 1) (h : CSr 59 249 [.ref 0, .int x1] A 2 Rel) : ∀ (L : Nat) (fz t : Bool) (I : Nat → Nat → Int32) (J : Nat → Nat → Int64) (Q : pm_R → pm_H → Prop), cS A t I J → (∀ (A' : St) (e : Nat) (v : Int32), Rel A' e v → ∀ (fz' t' : Bool) (I' : Nat → Nat → Int32) (J' : Nat → Nat → Int64), cS A' t' I' J' → co I I' → (e = 0 → J' 117 0 = v.toInt64) → Q (.inl (some (.int (nI e)))) (pm_hp L fz' t' I' J')) → pm_Ev 60 286 [.ref 0, .int x1, .ref 117] (pm_hp L fz t I J) Q := by
  intro L fz t I J Q hS hk
  refine e_L_chapel (h L fz t I J _ hS fun A' e v hr fz' t' I' J' hS' hco hJ => ?_)
  have he2 := hR A' e v hr
  have h01 : e = 0 ∨ e = 1 := by omega
  rcases h01 with rfl | rfl
  · exact kb_L_chapel_7 (t := t') ⟨vp_in_nI (n := 0) (by omega) (by omega), hk A' 0 v hr true t' I' _ (cS_J hS' (fun a ha => pm_ua (by omega))) hco (fun _ => pm_us)⟩
  · show t_L_chapel_13 59 L true t' Q I' J'
    exact b_L_chapel_13 (hk A' 1 v hr true t' I' J' hS' hco (fun q => absurd q (by omega)))
theorem LW_count (x1 : Int32) (h : CS 59 250 [.ref 0, .int x1] A A' (er 1 e v)) (he : e ≤ hiE 250) : Lw 287 [.ref 0, .int x1, .ref 117] A A' e v := by
  have he2 : e ≤ 1 := Nat.le_trans he (by decide)
  intro L fz t I J Q hS hk
  refine e_L_count (h L fz t I J _ hS fun fz' t' I' J' hS' hco hJ => ?_)
  match e, he2, h, hk with
  | 0, _, h, hk => exact kb_L_count_7 (t := t') ⟨vp_in_nI (n := 0) (by omega) (by omega), hk true t' I' _ (cS_J hS' (fun a ha => pm_ua (by omega))) hco (fun _ => pm_us)⟩
  | 1, _, h, hk =>
    show t_L_count_13 59 L true t' Q I' J'
    exact b_L_count_13 (hk true t' I' J' hS' hco (fun q => absurd q (by omega)))
  | e + 2, h0, _, _ => exact absurd h0 (by omega)
theorem LW_card (x1 : Int32) (x2 : Int32) (h : CS 59 251 [.ref 0, .int x1, .int x2] A A' (er 1 e v)) (he : e ≤ hiE 251) : Lw 288 [.ref 0, .int x1, .int x2, .ref 117] A A' e v := by
  have he2 : e ≤ 1 := Nat.le_trans he (by decide)
  intro L fz t I J Q hS hk
  refine e_L_card (h L fz t I J _ hS fun fz' t' I' J' hS' hco hJ => ?_)
  match e, he2, h, hk with
  | 0, _, h, hk => exact kb_L_card_8 (t := t') ⟨vp_in_nI (n := 0) (by omega) (by omega), hk true t' I' _ (cS_J hS' (fun a ha => pm_ua (by omega))) hco (fun _ => pm_us)⟩
  | 1, _, h, hk =>
    show t_L_card_15 59 L true t' Q I' J'
    exact b_L_card_15 (hk true t' I' J' hS' hco (fun q => absurd q (by omega)))
  | e + 2, h0, _, _ => exact absurd h0 (by omega)
theorem LW_lace (x1 : Int32) (h : CS 59 252 [.ref 0, .int x1] A A' (er 1 e v)) (he : e ≤ hiE 252) : Lw 289 [.ref 0, .int x1, .ref 117] A A' e v := by
  have he2 : e ≤ 1 := Nat.le_trans he (by decide)
  intro L fz t I J Q hS hk
  refine e_L_lace (h L fz t I J _ hS fun fz' t' I' J' hS' hco hJ => ?_)
  match e, he2, h, hk with
  | 0, _, h, hk => exact kb_L_lace_7 (t := t') ⟨vp_in_nI (n := 0) (by omega) (by omega), hk true t' I' _ (cS_J hS' (fun a ha => pm_ua (by omega))) hco (fun _ => pm_us)⟩
  | 1, _, h, hk =>
    show t_L_lace_13 59 L true t' Q I' J'
    exact b_L_lace_13 (hk true t' I' J' hS' hco (fun q => absurd q (by omega)))
  | e + 2, h0, _, _ => exact absurd h0 (by omega)
theorem LW_figure (x1 : Int32) (x2 : Int32) (h : CS 59 253 [.ref 0, .int x1, .int x2] A A' (er 1 e v)) (he : e ≤ hiE 253) : Lw 290 [.ref 0, .int x1, .int x2, .ref 117] A A' e v := by
  have he2 : e ≤ 1 := Nat.le_trans he (by decide)
  intro L fz t I J Q hS hk
  refine e_L_figure (h L fz t I J _ hS fun fz' t' I' J' hS' hco hJ => ?_)
  match e, he2, h, hk with
  | 0, _, h, hk => exact kb_L_figure_8 (t := t') ⟨vp_in_nI (n := 0) (by omega) (by omega), hk true t' I' _ (cS_J hS' (fun a ha => pm_ua (by omega))) hco (fun _ => pm_us)⟩
  | 1, _, h, hk =>
    show t_L_figure_15 59 L true t' Q I' J'
    exact b_L_figure_15 (hk true t' I' J' hS' hco (fun q => absurd q (by omega)))
  | e + 2, h0, _, _ => exact absurd h0 (by omega)
theorem LW_snarl (x1 : Int32) (x2 : Int32) (h : CS 59 254 [.ref 0, .int x1, .int x2] A A' (er 1 e v)) (he : e ≤ hiE 254) : Lw 291 [.ref 0, .int x1, .int x2, .ref 117] A A' e v := by
  have he2 : e ≤ 1 := Nat.le_trans he (by decide)
  intro L fz t I J Q hS hk
  refine e_L_snarl (h L fz t I J _ hS fun fz' t' I' J' hS' hco hJ => ?_)
  match e, he2, h, hk with
  | 0, _, h, hk => exact kb_L_snarl_8 (t := t') ⟨vp_in_nI (n := 0) (by omega) (by omega), hk true t' I' _ (cS_J hS' (fun a ha => pm_ua (by omega))) hco (fun _ => pm_us)⟩
  | 1, _, h, hk =>
    show t_L_snarl_15 59 L true t' Q I' J'
    exact b_L_snarl_15 (hk true t' I' J' hS' hco (fun q => absurd q (by omega)))
  | e + 2, h0, _, _ => exact absurd h0 (by omega)
theorem LW_punch (x1 : Int32) (x2 : Int32) (h : CS 59 255 [.ref 0, .int x1, .int x2] A A' (er 1 e v)) (he : e ≤ hiE 255) : Lw 292 [.ref 0, .int x1, .int x2, .ref 117] A A' e v := by
  have he2 : e ≤ 1 := Nat.le_trans he (by decide)
  intro L fz t I J Q hS hk
  refine e_L_punch (h L fz t I J _ hS fun fz' t' I' J' hS' hco hJ => ?_)
  match e, he2, h, hk with
  | 0, _, h, hk => exact kb_L_punch_8 (t := t') ⟨vp_in_nI (n := 0) (by omega) (by omega), hk true t' I' _ (cS_J hS' (fun a ha => pm_ua (by omega))) hco (fun _ => pm_us)⟩
  | 1, _, h, hk =>
    show t_L_punch_15 59 L true t' Q I' J'
    exact b_L_punch_15 (hk true t' I' J' hS' hco (fun q => absurd q (by omega)))
  | e + 2, h0, _, _ => exact absurd h0 (by omega)
theorem LW_turn (x1 : Int32) (h : CS 59 256 [.ref 0, .int x1] A A' (er 1 e v)) (he : e ≤ hiE 256) : Lw 293 [.ref 0, .int x1, .ref 117] A A' e v := by
  have he2 : e ≤ 1 := Nat.le_trans he (by decide)
  intro L fz t I J Q hS hk
  refine e_L_turn (h L fz t I J _ hS fun fz' t' I' J' hS' hco hJ => ?_)
  match e, he2, h, hk with
  | 0, _, h, hk => exact kb_L_turn_7 (t := t') ⟨vp_in_nI (n := 0) (by omega) (by omega), hk true t' I' _ (cS_J hS' (fun a ha => pm_ua (by omega))) hco (fun _ => pm_us)⟩
  | 1, _, h, hk =>
    show t_L_turn_13 59 L true t' Q I' J'
    exact b_L_turn_13 (hk true t' I' J' hS' hco (fun q => absurd q (by omega)))
  | e + 2, h0, _, _ => exact absurd h0 (by omega)
theorem LW_cut (x1 : Int32) (h : CS 59 257 [.ref 0, .int x1] A A' (er 1 e v)) (he : e ≤ hiE 257) : Lw 294 [.ref 0, .int x1, .ref 117] A A' e v := by
  have he2 : e ≤ 1 := Nat.le_trans he (by decide)
  intro L fz t I J Q hS hk
  refine e_L_cut (h L fz t I J _ hS fun fz' t' I' J' hS' hco hJ => ?_)
  match e, he2, h, hk with
  | 0, _, h, hk => exact kb_L_cut_7 (t := t') ⟨vp_in_nI (n := 0) (by omega) (by omega), hk true t' I' _ (cS_J hS' (fun a ha => pm_ua (by omega))) hco (fun _ => pm_us)⟩
  | 1, _, h, hk =>
    show t_L_cut_13 59 L true t' Q I' J'
    exact b_L_cut_13 (hk true t' I' J' hS' hco (fun q => absurd q (by omega)))
  | e + 2, h0, _, _ => exact absurd h0 (by omega)
theorem LW_then (x1 : Int32) (x2 : Int32) (h : CS 59 258 [.ref 0, .int x1, .int x2] A A' (er 1 e v)) (he : e ≤ hiE 258) : Lw 295 [.ref 0, .int x1, .int x2, .ref 117] A A' e v := by
  have he2 : e ≤ 2 := Nat.le_trans he (by decide)
  intro L fz t I J Q hS hk
  refine e_L_then (h L fz t I J _ hS fun fz' t' I' J' hS' hco hJ => ?_)
  match e, he2, h, hk with
  | 0, _, h, hk => exact kb_L_then_8 (t := t') ⟨vp_in_nI (n := 0) (by omega) (by omega), hk true t' I' _ (cS_J hS' (fun a ha => pm_ua (by omega))) hco (fun _ => pm_us)⟩
  | 1, _, h, hk =>
    show t_L_then_15 59 L true t' Q I' J'
    exact b_L_then_15 (hk true t' I' J' hS' hco (fun q => absurd q (by omega)))
  | 2, _, h, hk =>
    show t_L_then_19 59 L true t' Q I' J'
    exact b_L_then_19 (hk true t' I' J' hS' hco (fun q => absurd q (by omega)))
  | e + 3, h0, _, _ => exact absurd h0 (by omega)
theorem LW_granted (x1 : Int32) (h : CS 59 259 [.ref 0, .int x1] A A' (er 2 e v)) (he : e ≤ hiE 259) : Lw 296 [.ref 0, .int x1, .ref 117] A A' e v := by
  have he2 : e ≤ 1 := Nat.le_trans he (by decide)
  intro L fz t I J Q hS hk
  refine e_L_granted (h L fz t I J _ hS fun fz' t' I' J' hS' hco hJ => ?_)
  match e, he2, h, hk with
  | 0, _, h, hk => exact kb_L_granted_7 (t := t') ⟨vp_in_nI (n := 0) (by omega) (by omega), hk true t' I' _ (cS_J hS' (fun a ha => pm_ua (by omega))) hco (fun _ => pm_us)⟩
  | 1, _, h, hk =>
    show t_L_granted_13 59 L true t' Q I' J'
    exact b_L_granted_13 (hk true t' I' J' hS' hco (fun q => absurd q (by omega)))
  | e + 2, h0, _, _ => exact absurd h0 (by omega)
theorem LW_worn (x1 : Int32) (h : CS 59 260 [.ref 0, .int x1] A A' (er 1 e v)) (he : e ≤ hiE 260) : Lw 297 [.ref 0, .int x1, .ref 117] A A' e v := by
  have he2 : e ≤ 1 := Nat.le_trans he (by decide)
  intro L fz t I J Q hS hk
  refine e_L_worn (h L fz t I J _ hS fun fz' t' I' J' hS' hco hJ => ?_)
  match e, he2, h, hk with
  | 0, _, h, hk => exact kb_L_worn_7 (t := t') ⟨vp_in_nI (n := 0) (by omega) (by omega), hk true t' I' _ (cS_J hS' (fun a ha => pm_ua (by omega))) hco (fun _ => pm_us)⟩
  | 1, _, h, hk =>
    show t_L_worn_13 59 L true t' Q I' J'
    exact b_L_worn_13 (hk true t' I' J' hS' hco (fun q => absurd q (by omega)))
  | e + 2, h0, _, _ => exact absurd h0 (by omega)
theorem LW_floats (x1 : Int32) (h : CS 59 261 [.ref 0, .int x1] A A' (er 1 e v)) (he : e ≤ hiE 261) : Lw 298 [.ref 0, .int x1, .ref 117] A A' e v := by
  have he2 : e ≤ 1 := Nat.le_trans he (by decide)
  intro L fz t I J Q hS hk
  refine e_L_floats (h L fz t I J _ hS fun fz' t' I' J' hS' hco hJ => ?_)
  match e, he2, h, hk with
  | 0, _, h, hk => exact kb_L_floats_7 (t := t') ⟨vp_in_nI (n := 0) (by omega) (by omega), hk true t' I' _ (cS_J hS' (fun a ha => pm_ua (by omega))) hco (fun _ => pm_us)⟩
  | 1, _, h, hk =>
    show t_L_floats_13 59 L true t' Q I' J'
    exact b_L_floats_13 (hk true t' I' J' hS' hco (fun q => absurd q (by omega)))
  | e + 2, h0, _, _ => exact absurd h0 (by omega)
theorem LW_stands (x1 : Int32) (x2 : Int32) (h : CS 59 262 [.ref 0, .int x1, .int x2] A A' (er 1 e v)) (he : e ≤ hiE 262) : Lw 299 [.ref 0, .int x1, .int x2, .ref 117] A A' e v := by
  have he2 : e ≤ 1 := Nat.le_trans he (by decide)
  intro L fz t I J Q hS hk
  refine e_L_stands (h L fz t I J _ hS fun fz' t' I' J' hS' hco hJ => ?_)
  match e, he2, h, hk with
  | 0, _, h, hk => exact kb_L_stands_8 (t := t') ⟨vp_in_nI (n := 0) (by omega) (by omega), hk true t' I' _ (cS_J hS' (fun a ha => pm_ua (by omega))) hco (fun _ => pm_us)⟩
  | 1, _, h, hk =>
    show t_L_stands_15 59 L true t' Q I' J'
    exact b_L_stands_15 (hk true t' I' J' hS' hco (fun q => absurd q (by omega)))
  | e + 2, h0, _, _ => exact absurd h0 (by omega)
theorem LW_order (x1 : Int32) (h : CS 59 263 [.ref 0, .int x1] A A' (er 1 e v)) (he : e ≤ hiE 263) : Lw 300 [.ref 0, .int x1, .ref 117] A A' e v := by
  have he2 : e ≤ 1 := Nat.le_trans he (by decide)
  intro L fz t I J Q hS hk
  refine e_L_order (h L fz t I J _ hS fun fz' t' I' J' hS' hco hJ => ?_)
  match e, he2, h, hk with
  | 0, _, h, hk => exact kb_L_order_7 (t := t') ⟨vp_in_nI (n := 0) (by omega) (by omega), hk true t' I' _ (cS_J hS' (fun a ha => pm_ua (by omega))) hco (fun _ => pm_us)⟩
  | 1, _, h, hk =>
    show t_L_order_13 59 L true t' Q I' J'
    exact b_L_order_13 (hk true t' I' J' hS' hco (fun q => absurd q (by omega)))
  | e + 2, h0, _, _ => exact absurd h0 (by omega)
theorem LW_punching (x1 : Int32) (x2 : Int32) (x3 : Int32) (h : CS 59 264 [.ref 0, .int x1, .int x2, .int x3] A A' (er 1 e v)) (he : e ≤ hiE 264) : Lw 301 [.ref 0, .int x1, .int x2, .int x3, .ref 117] A A' e v := by
  have he2 : e ≤ 1 := Nat.le_trans he (by decide)
  intro L fz t I J Q hS hk
  refine e_L_punching (h L fz t I J _ hS fun fz' t' I' J' hS' hco hJ => ?_)
  match e, he2, h, hk with
  | 0, _, h, hk => exact kb_L_punching_10 (t := t') ⟨vp_in_nI (n := 0) (by omega) (by omega), hk true t' I' _ (cS_J hS' (fun a ha => pm_ua (by omega))) hco (fun _ => pm_us)⟩
  | 1, _, h, hk =>
    show t_L_punching_17 59 L true t' Q I' J'
    exact b_L_punching_17 (hk true t' I' J' hS' hco (fun q => absurd q (by omega)))
  | e + 2, h0, _, _ => exact absurd h0 (by omega)
theorem LW_same (x1 : Int32) (h : CS 59 265 [.ref 0, .int x1] A A' (er 1 e v)) (he : e ≤ hiE 265) : Lw 302 [.ref 0, .int x1, .ref 117] A A' e v := by
  have he2 : e ≤ 1 := Nat.le_trans he (by decide)
  intro L fz t I J Q hS hk
  refine e_L_same (h L fz t I J _ hS fun fz' t' I' J' hS' hco hJ => ?_)
  match e, he2, h, hk with
  | 0, _, h, hk => exact kb_L_same_7 (t := t') ⟨vp_in_nI (n := 0) (by omega) (by omega), hk true t' I' _ (cS_J hS' (fun a ha => pm_ua (by omega))) hco (fun _ => pm_us)⟩
  | 1, _, h, hk =>
    show t_L_same_13 59 L true t' Q I' J'
    exact b_L_same_13 (hk true t' I' J' hS' hco (fun q => absurd q (by omega)))
  | e + 2, h0, _, _ => exact absurd h0 (by omega)
theorem LW_see (x1 : Int32) (x2 : Int32) (x3 : Int32) (x4 : Int32) (h : CS 59 266 [.ref 0, .int x1, .int x2, .int x3, .int x4] A A' (er 1 e v)) (he : e ≤ hiE 266) : Lw 303 [.ref 0, .int x1, .int x2, .int x3, .int x4, .ref 117] A A' e v := by
  have he2 : e ≤ 1 := Nat.le_trans he (by decide)
  intro L fz t I J Q hS hk
  refine e_L_see (h L fz t I J _ hS fun fz' t' I' J' hS' hco hJ => ?_)
  match e, he2, h, hk with
  | 0, _, h, hk => exact kb_L_see_12 (t := t') ⟨vp_in_nI (n := 0) (by omega) (by omega), hk true t' I' _ (cS_J hS' (fun a ha => pm_ua (by omega))) hco (fun _ => pm_us)⟩
  | 1, _, h, hk =>
    show t_L_see_19 59 L true t' Q I' J'
    exact b_L_see_19 (hk true t' I' J' hS' hco (fun q => absurd q (by omega)))
  | e + 2, h0, _, _ => exact absurd h0 (by omega)
theorem LW_backwards (x1 : Int32) (h : CS 59 267 [.ref 0, .int x1] A A' (er 1 e v)) (he : e ≤ hiE 267) : Lw 304 [.ref 0, .int x1, .ref 117] A A' e v := by
  have he2 : e ≤ 1 := Nat.le_trans he (by decide)
  intro L fz t I J Q hS hk
  refine e_L_backwards (h L fz t I J _ hS fun fz' t' I' J' hS' hco hJ => ?_)
  match e, he2, h, hk with
  | 0, _, h, hk => exact kb_L_backwards_7 (t := t') ⟨vp_in_nI (n := 0) (by omega) (by omega), hk true t' I' _ (cS_J hS' (fun a ha => pm_ua (by omega))) hco (fun _ => pm_us)⟩
  | 1, _, h, hk =>
    show t_L_backwards_13 59 L true t' Q I' J'
    exact b_L_backwards_13 (hk true t' I' J' hS' hco (fun q => absurd q (by omega)))
  | e + 2, h0, _, _ => exact absurd h0 (by omega)
theorem LW_punched (x1 : Int32) (x2 : Int32) (h : CS 59 268 [.ref 0, .int x1, .int x2] A A' (er 1 e v)) (he : e ≤ hiE 268) : Lw 305 [.ref 0, .int x1, .int x2, .ref 117] A A' e v := by
  have he2 : e ≤ 1 := Nat.le_trans he (by decide)
  intro L fz t I J Q hS hk
  refine e_L_punched (h L fz t I J _ hS fun fz' t' I' J' hS' hco hJ => ?_)
  match e, he2, h, hk with
  | 0, _, h, hk => exact kb_L_punched_8 (t := t') ⟨vp_in_nI (n := 0) (by omega) (by omega), hk true t' I' _ (cS_J hS' (fun a ha => pm_ua (by omega))) hco (fun _ => pm_us)⟩
  | 1, _, h, hk =>
    show t_L_punched_15 59 L true t' Q I' J'
    exact b_L_punched_15 (hk true t' I' J' hS' hco (fun q => absurd q (by omega)))
  | e + 2, h0, _, _ => exact absurd h0 (by omega)
theorem LW_next (x1 : Int32) (h : CS 59 269 [.ref 0, .int x1] A A' (er 1 e v)) (he : e ≤ hiE 269) : Lw 306 [.ref 0, .int x1, .ref 117] A A' e v := by
  have he2 : e ≤ 1 := Nat.le_trans he (by decide)
  intro L fz t I J Q hS hk
  refine e_L_next (h L fz t I J _ hS fun fz' t' I' J' hS' hco hJ => ?_)
  match e, he2, h, hk with
  | 0, _, h, hk => exact kb_L_next_7 (t := t') ⟨vp_in_nI (n := 0) (by omega) (by omega), hk true t' I' _ (cS_J hS' (fun a ha => pm_ua (by omega))) hco (fun _ => pm_us)⟩
  | 1, _, h, hk =>
    show t_L_next_13 59 L true t' Q I' J'
    exact b_L_next_13 (hk true t' I' J' hS' hco (fun q => absurd q (by omega)))
  | e + 2, h0, _, _ => exact absurd h0 (by omega)
theorem LW_toCut (x1 : Int32) (x2 : Int32) (x3 : Int32) (x4 : Int32) (h : CS 59 270 [.ref 0, .int x1, .int x2, .int x3, .int x4] A A' (er 1 e v)) (he : e ≤ hiE 270) : Lw 307 [.ref 0, .int x1, .int x2, .int x3, .int x4, .ref 117] A A' e v := by
  have he2 : e ≤ 2 := Nat.le_trans he (by decide)
  intro L fz t I J Q hS hk
  refine e_L_toCut (h L fz t I J _ hS fun fz' t' I' J' hS' hco hJ => ?_)
  match e, he2, h, hk with
  | 0, _, h, hk => exact kb_L_toCut_12 (t := t') ⟨vp_in_nI (n := 0) (by omega) (by omega), hk true t' I' _ (cS_J hS' (fun a ha => pm_ua (by omega))) hco (fun _ => pm_us)⟩
  | 1, _, h, hk =>
    show t_L_toCut_19 59 L true t' Q I' J'
    exact b_L_toCut_19 (hk true t' I' J' hS' hco (fun q => absurd q (by omega)))
  | 2, _, h, hk =>
    show t_L_toCut_23 59 L true t' Q I' J'
    exact b_L_toCut_23 (hk true t' I' J' hS' hco (fun q => absurd q (by omega)))
  | e + 3, h0, _, _ => exact absurd h0 (by omega)
theorem LW_coats (x1 : Int32) (h : CS 59 271 [.ref 0, .int x1] A A' (er 1 e v)) (he : e ≤ hiE 271) : Lw 308 [.ref 0, .int x1, .ref 117] A A' e v := by
  have he2 : e ≤ 1 := Nat.le_trans he (by decide)
  intro L fz t I J Q hS hk
  refine e_L_coats (h L fz t I J _ hS fun fz' t' I' J' hS' hco hJ => ?_)
  match e, he2, h, hk with
  | 0, _, h, hk => exact kb_L_coats_7 (t := t') ⟨vp_in_nI (n := 0) (by omega) (by omega), hk true t' I' _ (cS_J hS' (fun a ha => pm_ua (by omega))) hco (fun _ => pm_us)⟩
  | 1, _, h, hk =>
    show t_L_coats_13 59 L true t' Q I' J'
    exact b_L_coats_13 (hk true t' I' J' hS' hco (fun q => absurd q (by omega)))
  | e + 2, h0, _, _ => exact absurd h0 (by omega)
theorem LW_game (x1 : Int32) (x2 : Int32) (x3 : Int32) (h : CS 59 272 [.ref 0, .int x1, .int x2, .int x3] A A' (er 1 e v)) (he : e ≤ hiE 272) : Lw 309 [.ref 0, .int x1, .int x2, .int x3, .ref 117] A A' e v := by
  have he2 : e ≤ 2 := Nat.le_trans he (by decide)
  intro L fz t I J Q hS hk
  refine e_L_game (h L fz t I J _ hS fun fz' t' I' J' hS' hco hJ => ?_)
  match e, he2, h, hk with
  | 0, _, h, hk => exact kb_L_game_10 (t := t') ⟨vp_in_nI (n := 0) (by omega) (by omega), hk true t' I' _ (cS_J hS' (fun a ha => pm_ua (by omega))) hco (fun _ => pm_us)⟩
  | 1, _, h, hk =>
    show t_L_game_17 59 L true t' Q I' J'
    exact b_L_game_17 (hk true t' I' J' hS' hco (fun q => absurd q (by omega)))
  | 2, _, h, hk =>
    show t_L_game_21 59 L true t' Q I' J'
    exact b_L_game_21 (hk true t' I' J' hS' hco (fun q => absurd q (by omega)))
  | e + 3, h0, _, _ => exact absurd h0 (by omega)
theorem LW_drawn (x1 : Int32) (x2 : Int32) (x3 : Int32) (h : CS 59 273 [.ref 0, .int x1, .int x2, .int x3] A A' (er 1 e v)) (he : e ≤ hiE 273) : Lw 310 [.ref 0, .int x1, .int x2, .int x3, .ref 117] A A' e v := by
  have he2 : e ≤ 2 := Nat.le_trans he (by decide)
  intro L fz t I J Q hS hk
  refine e_L_drawn (h L fz t I J _ hS fun fz' t' I' J' hS' hco hJ => ?_)
  match e, he2, h, hk with
  | 0, _, h, hk => exact kb_L_drawn_10 (t := t') ⟨vp_in_nI (n := 0) (by omega) (by omega), hk true t' I' _ (cS_J hS' (fun a ha => pm_ua (by omega))) hco (fun _ => pm_us)⟩
  | 1, _, h, hk =>
    show t_L_drawn_17 59 L true t' Q I' J'
    exact b_L_drawn_17 (hk true t' I' J' hS' hco (fun q => absurd q (by omega)))
  | 2, _, h, hk =>
    show t_L_drawn_21 59 L true t' Q I' J'
    exact b_L_drawn_21 (hk true t' I' J' hS' hco (fun q => absurd q (by omega)))
  | e + 3, h0, _, _ => exact absurd h0 (by omega)
theorem LW_gap (x1 : Int32) (x2 : Int32) (h : CS 59 274 [.ref 0, .int x1, .int x2] A A' (er 1 e v)) (he : e ≤ hiE 274) : Lw 311 [.ref 0, .int x1, .int x2, .ref 117] A A' e v := by
  have he2 : e ≤ 1 := Nat.le_trans he (by decide)
  intro L fz t I J Q hS hk
  refine e_L_gap (h L fz t I J _ hS fun fz' t' I' J' hS' hco hJ => ?_)
  match e, he2, h, hk with
  | 0, _, h, hk => exact kb_L_gap_8 (t := t') ⟨vp_in_nI (n := 0) (by omega) (by omega), hk true t' I' _ (cS_J hS' (fun a ha => pm_ua (by omega))) hco (fun _ => pm_us)⟩
  | 1, _, h, hk =>
    show t_L_gap_15 59 L true t' Q I' J'
    exact b_L_gap_15 (hk true t' I' J' hS' hco (fun q => absurd q (by omega)))
  | e + 2, h0, _, _ => exact absurd h0 (by omega)
theorem LW_unlike (x1 : Int32) (x2 : Int32) (h : CS 59 275 [.ref 0, .int x1, .int x2] A A' (er 1 e v)) (he : e ≤ hiE 275) : Lw 312 [.ref 0, .int x1, .int x2, .ref 117] A A' e v := by
  have he2 : e ≤ 1 := Nat.le_trans he (by decide)
  intro L fz t I J Q hS hk
  refine e_L_unlike (h L fz t I J _ hS fun fz' t' I' J' hS' hco hJ => ?_)
  match e, he2, h, hk with
  | 0, _, h, hk => exact kb_L_unlike_8 (t := t') ⟨vp_in_nI (n := 0) (by omega) (by omega), hk true t' I' _ (cS_J hS' (fun a ha => pm_ua (by omega))) hco (fun _ => pm_us)⟩
  | 1, _, h, hk =>
    show t_L_unlike_15 59 L true t' Q I' J'
    exact b_L_unlike_15 (hk true t' I' J' hS' hco (fun q => absurd q (by omega)))
  | e + 2, h0, _, _ => exact absurd h0 (by omega)
theorem LW_family (x1 : Int32) (h : CS 59 276 [.ref 0, .int x1] A A' (er 1 e v)) (he : e ≤ hiE 276) : Lw 313 [.ref 0, .int x1, .ref 117] A A' e v := by
  have he2 : e ≤ 1 := Nat.le_trans he (by decide)
  intro L fz t I J Q hS hk
  refine e_L_family (h L fz t I J _ hS fun fz' t' I' J' hS' hco hJ => ?_)
  match e, he2, h, hk with
  | 0, _, h, hk => exact kb_L_family_7 (t := t') ⟨vp_in_nI (n := 0) (by omega) (by omega), hk true t' I' _ (cS_J hS' (fun a ha => pm_ua (by omega))) hco (fun _ => pm_us)⟩
  | 1, _, h, hk =>
    show t_L_family_13 59 L true t' Q I' J'
    exact b_L_family_13 (hk true t' I' J' hS' hco (fun q => absurd q (by omega)))
  | e + 2, h0, _, _ => exact absurd h0 (by omega)
theorem LW_turning (x1 : Int32) (h : CS 59 277 [.ref 0, .int x1] A A' (er 1 e v)) (he : e ≤ hiE 277) : Lw 314 [.ref 0, .int x1, .ref 117] A A' e v := by
  have he2 : e ≤ 1 := Nat.le_trans he (by decide)
  intro L fz t I J Q hS hk
  refine e_L_turning (h L fz t I J _ hS fun fz' t' I' J' hS' hco hJ => ?_)
  match e, he2, h, hk with
  | 0, _, h, hk => exact kb_L_turning_7 (t := t') ⟨vp_in_nI (n := 0) (by omega) (by omega), hk true t' I' _ (cS_J hS' (fun a ha => pm_ua (by omega))) hco (fun _ => pm_us)⟩
  | 1, _, h, hk =>
    show t_L_turning_13 59 L true t' Q I' J'
    exact b_L_turning_13 (hk true t' I' J' hS' hco (fun q => absurd q (by omega)))
  | e + 2, h0, _, _ => exact absurd h0 (by omega)
theorem LW_leftOut (x1 : Int32) (h : CS 59 278 [.ref 0, .int x1] A A' (er 1 e v)) (he : e ≤ hiE 278) : Lw 315 [.ref 0, .int x1, .ref 117] A A' e v := by
  have he2 : e ≤ 1 := Nat.le_trans he (by decide)
  intro L fz t I J Q hS hk
  refine e_L_leftOut (h L fz t I J _ hS fun fz' t' I' J' hS' hco hJ => ?_)
  match e, he2, h, hk with
  | 0, _, h, hk => exact kb_L_leftOut_7 (t := t') ⟨vp_in_nI (n := 0) (by omega) (by omega), hk true t' I' _ (cS_J hS' (fun a ha => pm_ua (by omega))) hco (fun _ => pm_us)⟩
  | 1, _, h, hk =>
    show t_L_leftOut_13 59 L true t' Q I' J'
    exact b_L_leftOut_13 (hk true t' I' J' hS' hco (fun q => absurd q (by omega)))
  | e + 2, h0, _, _ => exact absurd h0 (by omega)
theorem LW_cutting (x1 : Int32) (h : CS 59 279 [.ref 0, .int x1] A A' (er 2 e v)) (he : e ≤ hiE 279) : Lw 316 [.ref 0, .int x1, .ref 117] A A' e v := by
  have he2 : e ≤ 1 := Nat.le_trans he (by decide)
  intro L fz t I J Q hS hk
  refine e_L_cutting (h L fz t I J _ hS fun fz' t' I' J' hS' hco hJ => ?_)
  match e, he2, h, hk with
  | 0, _, h, hk => exact kb_L_cutting_7 (t := t') ⟨vp_in_nI (n := 0) (by omega) (by omega), hk true t' I' _ (cS_J hS' (fun a ha => pm_ua (by omega))) hco (fun _ => pm_us)⟩
  | 1, _, h, hk =>
    show t_L_cutting_13 59 L true t' Q I' J'
    exact b_L_cutting_13 (hk true t' I' J' hS' hco (fun q => absurd q (by omega)))
  | e + 2, h0, _, _ => exact absurd h0 (by omega)
theorem LW_mirrored (x1 : Int32) (h : CS 59 280 [.ref 0, .int x1] A A' (er 1 e v)) (he : e ≤ hiE 280) : Lwb 317 [.ref 0, .int x1, .ref 117] A A' e v := by
  have he2 : e ≤ 1 := Nat.le_trans he (by decide)
  intro L fz t I J Q hS hk
  refine e_L_mirrored (h L fz t I J _ hS fun fz' t' I' J' hS' hco hJ => ?_)
  match e, he2, h, hk with
  | 0, _, h, hk =>
    refine kb_L_mirrored_7 (t := t') ?_
    refine ⟨fun q => ⟨vp_in_nI (n := 0) (by omega) (by omega), hk true t' I' _ (cS_J hS' (fun a ha => pm_ua (by omega))) hco (fun _ => ?_)⟩, fun q => ⟨vp_in_nI (n := 0) (by omega) (by omega), hk true t' I' _ (cS_J hS' (fun a ha => pm_ua (by omega))) hco (fun _ => ?_)⟩⟩
    · unfold lb; rw [if_pos q]; exact pm_us
    · unfold lb; rw [if_neg q]; exact pm_us
  | 1, _, h, hk =>
    show t_L_mirrored_20 59 L true t' Q I' J'
    exact b_L_mirrored_20 (hk true t' I' J' hS' hco (fun q => absurd q (by omega)))
  | e + 2, h0, _, _ => exact absurd h0 (by omega)
end Wrap
/-- the state at the loop's head -/
def lI (A : St) (xs : Nat → Int32) (t : Bool) (I : Nat → Nat → Int32) (J : Nat → Nat → Int64) : Prop := ok A ∧ cS A t I J ∧ mS A I ∧ I 2000000 = xs
section Law
variable {A : St} {L : Nat} {fz t : Bool} {Q : pm_R → pm_H → Prop} {c z : Nat} {I : Nat → Nat → Int32} {J : Nat → Nat → Int64} {xs : Nat → Int32} {i : Nat}
theorem lI_co {A A' : St} {t t' : Bool} {I I' : Nat → Nat → Int32} {J J' : Nat → Nat → Int64} (h : lI A xs t I J) (hco : co I I') : mS A I' ∧ I' 2000000 = xs := ⟨mS_co h.2.2.1 hco, by rw [hco 2000000 (by omega)]; exact h.2.2.2⟩
theorem law_feed (hc : c ≤ 500000) (hz : z ≤ 7000000) (hL : L ≤ 3072) (hi : i + 6 ≤ L) (hI : lI A xs t I J) (nx : ∀ A' fz' t' I' J' c' z', c' ≤ c + 4 → z' ≤ z + 24 → lI A' xs t' I' J' → t_L_law_2513 60 L fz' t' Q c' z' (nI i) I' J') : t_L_law_224 60 L fz t Q c z (nI i) I J := by
  obtain ⟨ho, hS, hM, hX⟩ := hI
  obtain ⟨A', e, he, v, ho', h1, h2⟩ := op_feed ho (xs (i + 1)) (xs (i + 2)) (xs (i + 3)) (xs (i + 4)) (xs (i + 5))
  have hX2 : ∀ I1, co I I1 → I1 2000000 = xs := fun I1 hco => by rw [hco 2000000 (by omega)]; exact hX
  refine b_L_law_224 (by omega) (by omega) ?_
  rw [nI_add, nI_add, nI_add, nI_add, nI_add, nI_clamp (by omega), nI_clamp (by omega), nI_clamp (by omega), nI_clamp (by omega), nI_clamp (by omega), hX]
  refine ⟨vp_in_nI (by omega) (by omega), vp_in_nI (by omega) (by omega), vp_in_nI (by omega) (by omega), vp_in_nI (by omega) (by omega), vp_in_nI (by omega) (by omega), CS_up h1 L fz t I J _ hS fun fz1 t1 I1 J1 hS1 hco hJ => ?_⟩
  have he0 : e = 0 := Nat.le_zero.mp (Nat.le_trans he (by decide))
  subst he0
  show K_L_law_258 60 fz t1 Q c z (nI i) (.inl (some (.int v))) (pm_hp L fz1 t1 I1 J1)
  refine kb_L_law_258 (by omega) (by omega) ?_
  rw [nI_add, nI_add, nI_add, nI_add, nI_add, nI_clamp (by omega), nI_clamp (by omega), nI_clamp (by omega), nI_clamp (by omega), nI_clamp (by omega), hX2 I1 hco]
  refine ⟨vp_in_nI (by omega) (by omega), vp_in_nI (by omega) (by omega), vp_in_nI (by omega) (by omega), vp_in_nI (by omega) (by omega), vp_in_nI (by omega) (by omega), h2 L fz t1 I1 J1 _ (mS_co hM hco) fun I2 J2 r hM2 hmo hJ2 _ hr => ?_⟩
  obtain ⟨v2, hv2, rfl⟩ := hr
  have ev := hv2 rfl
  subst ev
  refine kb_L_law_292 (by omega) (by omega) (q_t rfl (nx A' _ t1 I2 J2 c z (by omega) (by omega) ⟨ho', cS_co hS1 hmo (fun a ha => hJ2 a (Or.inl ha)), hM2, ?_⟩))
  rw [hmo 2000000 (by omega)]; exact hX2 I1 hco
theorem law_chapel (hc : c ≤ 500000) (hz : z ≤ 7000000) (hL : L ≤ 3072) (hi : i + 6 ≤ L) (hI : lI A xs t I J) (nx : ∀ A' fz' t' I' J' c' z', c' ≤ c + 4 → z' ≤ z + 24 → lI A' xs t' I' J' → t_L_law_2513 60 L fz' t' Q c' z' (nI i) I' J') : t_L_law_297 60 L fz t Q c z (nI i) I J := by
  obtain ⟨ho, hS, hM, hX⟩ := hI
  obtain ⟨Rel, h1, h2r⟩ := op_chapel ho (xs (i + 1))
  have hX2 : ∀ I1, co I I1 → I1 2000000 = xs := fun I1 hco => by rw [hco 2000000 (by omega)]; exact hX
  have hw := LW_chapel (xs (i + 1)) (fun A' e v h => Nat.le_trans (h2r A' e v h).2.1 (by decide)) h1
  refine b_L_law_297 (by omega) (by omega) ?_
  rw [nI_add, nI_clamp (by omega), hX]
  have back : ∀ A' e v (hr0 : Rel A' e v) fz1 t1 I1 J1, cS A' t1 I1 J1 → co I I1 → (e = 0 → J1 117 0 = v.toInt64) → K_L_law_308 60 fz t Q (c + 4) (z + 24) (nI i) (.inl (some (.int (nI e)))) (pm_hp L fz1 t1 I1 J1) := by
    intro A' e v hr0 fz1 t1 I1 J1 hS1 hco hv1
    obtain ⟨ho', he, h2⟩ := h2r A' e v hr0
    show K_L_law_308 60 fz t1 Q (c + 4) (z + 24) (nI i) (.inl (some (.int (nI e)))) (pm_hp L fz1 t1 I1 J1)
    refine kb_L_law_308 (by omega) (by omega) ?_
    rw [nI_add, nI_clamp (by omega), hX2 I1 hco]
    have ref : pm_Ev 60 155 [.ref 85, .int (xs (i + 1))] (pm_hp L true t1 I1 J1) (K_L_law_320 60 true t1 Q (c + 4) (z + 24) (nI i) (nI e)) := by
      refine h2 L true t1 I1 J1 _ (mS_co hM hco) fun I2 J2 r hM2 hmo hJ2 h0 hr => ?_
      obtain ⟨v2, hv2, rfl⟩ := hr
      refine kb_L_law_320 (by omega) (by omega) (e_X11_thrown (kb_L_law_326 (by omega) (by omega) ?_))
      have go : t_L_law_2513 60 L true t1 Q (c + 4) (z + 24) (nI i) I2 J2 := nx A' _ t1 I2 J2 (c + 4) (z + 24) (by omega) (by omega) ⟨ho', cS_co hS1 hmo (fun a ha => hJ2 a (Or.inl ha)), hM2, by rw [hmo 2000000 (by omega)]; exact hX2 I1 hco⟩
      rw [h0]
      refine q_t rfl ⟨fun _ => go, fun q => ?_⟩
      have e0 : e = 0 := (nI_eq (Nat.lt_of_le_of_lt he (by decide)) (by decide)).mp q
      have ev := hv2 e0
      subst ev
      rw [hJ2 117 (Or.inr (by omega)), hv1 e0]
      exact q_t (lg0 _) go
    exact ⟨vp_in_nI (by omega) (by omega), ref⟩
  exact ⟨vp_in_nI (by omega) (by omega), hw L fz t I J _ hS back⟩
theorem law_fault (hc : c ≤ 500000) (hz : z ≤ 7000000) (hL : L ≤ 3072) (hi : i + 6 ≤ L) (hI : lI A xs t I J) (nx : ∀ A' fz' t' I' J' c' z', c' ≤ c + 4 → z' ≤ z + 24 → lI A' xs t' I' J' → t_L_law_2513 60 L fz' t' Q c' z' (nI i) I' J') : t_L_law_353 60 L fz t Q c z (nI i) I J := by
  obtain ⟨ho, hS, hM, hX⟩ := hI
  obtain ⟨A', e, he, v, ho', h1, h2⟩ := opx_2 ho (op_fault ho )
  have hX2 : ∀ I1, co I I1 → I1 2000000 = xs := fun I1 hco => by rw [hco 2000000 (by omega)]; exact hX
  refine b_L_law_353 (by omega) (by omega) ?_
  refine CS_up h1 L fz t I J _ hS fun fz1 t1 I1 J1 hS1 hco hJ => ?_
  have he0 : e = 0 := Nat.le_zero.mp (Nat.le_trans he (by decide))
  subst he0
  show K_L_law_357 60 fz t1 Q c z (nI i) (.inl (some (.int v))) (pm_hp L fz1 t1 I1 J1)
  refine kb_L_law_357 (by omega) (by omega) ?_
  refine h2 L fz t1 I1 J1 _ (mS_co hM hco) fun I2 J2 r hM2 hmo hJ2 _ hr => ?_
  obtain ⟨v2, hv2, rfl⟩ := hr
  have ev := hv2 rfl
  subst ev
  refine kb_L_law_361 (by omega) (by omega) (q_t rfl (nx A' _ t1 I2 J2 c z (by omega) (by omega) ⟨ho', cS_co hS1 hmo (fun a ha => hJ2 a (Or.inl ha)), hM2, ?_⟩))
  rw [hmo 2000000 (by omega)]; exact hX2 I1 hco
theorem law_count (hc : c ≤ 500000) (hz : z ≤ 7000000) (hL : L ≤ 3072) (hi : i + 6 ≤ L) (hI : lI A xs t I J) (nx : ∀ A' fz' t' I' J' c' z', c' ≤ c + 4 → z' ≤ z + 24 → lI A' xs t' I' J' → t_L_law_2513 60 L fz' t' Q c' z' (nI i) I' J') : t_L_law_366 60 L fz t Q c z (nI i) I J := by
  obtain ⟨ho, hS, hM, hX⟩ := hI
  obtain ⟨A', e, he, v, ho', h1, h2⟩ := opx_2 ho (op_count ho (xs (i + 1)))
  have hX2 : ∀ I1, co I I1 → I1 2000000 = xs := fun I1 hco => by rw [hco 2000000 (by omega)]; exact hX
  have hw := LW_count (xs (i + 1)) h1 he
  refine b_L_law_366 (by omega) (by omega) ?_
  rw [nI_add, nI_clamp (by omega), hX]
  have back : ∀ fz1 t1 I1 J1, cS A' t1 I1 J1 → co I I1 → (e = 0 → J1 117 0 = v.toInt64) → K_L_law_377 60 fz t Q (c + 4) (z + 24) (nI i) (.inl (some (.int (nI e)))) (pm_hp L fz1 t1 I1 J1) := by
    intro fz1 t1 I1 J1 hS1 hco hv1
    show K_L_law_377 60 fz t1 Q (c + 4) (z + 24) (nI i) (.inl (some (.int (nI e)))) (pm_hp L fz1 t1 I1 J1)
    refine kb_L_law_377 (by omega) (by omega) ?_
    rw [nI_add, nI_clamp (by omega), hX2 I1 hco]
    have ref : pm_Ev 60 179 [.ref 85, .int (xs (i + 1))] (pm_hp L true t1 I1 J1) (K_L_law_389 60 true t1 Q (c + 4) (z + 24) (nI i) (nI e)) := by
      refine h2 L true t1 I1 J1 _ (mS_co hM hco) fun I2 J2 r hM2 hmo hJ2 h0 hr => ?_
      obtain ⟨v2, hv2, rfl⟩ := hr
      refine kb_L_law_389 (by omega) (by omega) (e_X11_thrown (kb_L_law_395 (by omega) (by omega) ?_))
      have go : t_L_law_2513 60 L true t1 Q (c + 4) (z + 24) (nI i) I2 J2 := nx A' _ t1 I2 J2 (c + 4) (z + 24) (by omega) (by omega) ⟨ho', cS_co hS1 hmo (fun a ha => hJ2 a (Or.inl ha)), hM2, by rw [hmo 2000000 (by omega)]; exact hX2 I1 hco⟩
      rw [h0]
      refine q_t rfl ⟨fun _ => go, fun q => ?_⟩
      have e0 : e = 0 := (nI_eq (Nat.lt_of_le_of_lt he (by decide)) (by decide)).mp q
      have ev := hv2 e0
      subst ev
      rw [hJ2 117 (Or.inr (by omega)), hv1 e0]
      exact q_t (lg0 _) go
    exact ⟨vp_in_nI (by omega) (by omega), ref⟩
  exact ⟨vp_in_nI (by omega) (by omega), hw L fz t I J _ hS back⟩
theorem law_card (hc : c ≤ 500000) (hz : z ≤ 7000000) (hL : L ≤ 3072) (hi : i + 6 ≤ L) (hI : lI A xs t I J) (nx : ∀ A' fz' t' I' J' c' z', c' ≤ c + 4 → z' ≤ z + 24 → lI A' xs t' I' J' → t_L_law_2513 60 L fz' t' Q c' z' (nI i) I' J') : t_L_law_422 60 L fz t Q c z (nI i) I J := by
  obtain ⟨ho, hS, hM, hX⟩ := hI
  obtain ⟨A', e, he, v, ho', h1, h2⟩ := opx_2 ho (op_card ho (xs (i + 1)) (xs (i + 2)))
  have hX2 : ∀ I1, co I I1 → I1 2000000 = xs := fun I1 hco => by rw [hco 2000000 (by omega)]; exact hX
  have hw := LW_card (xs (i + 1)) (xs (i + 2)) h1 he
  refine b_L_law_422 (by omega) (by omega) ?_
  rw [nI_add, nI_add, nI_clamp (by omega), nI_clamp (by omega), hX]
  have back : ∀ fz1 t1 I1 J1, cS A' t1 I1 J1 → co I I1 → (e = 0 → J1 117 0 = v.toInt64) → K_L_law_439 60 fz t Q (c + 4) (z + 24) (nI i) (.inl (some (.int (nI e)))) (pm_hp L fz1 t1 I1 J1) := by
    intro fz1 t1 I1 J1 hS1 hco hv1
    show K_L_law_439 60 fz t1 Q (c + 4) (z + 24) (nI i) (.inl (some (.int (nI e)))) (pm_hp L fz1 t1 I1 J1)
    refine kb_L_law_439 (by omega) (by omega) ?_
    rw [nI_add, nI_add, nI_clamp (by omega), nI_clamp (by omega), hX2 I1 hco]
    have ref : pm_Ev 60 184 [.ref 85, .int (xs (i + 1)), .int (xs (i + 2))] (pm_hp L true t1 I1 J1) (K_L_law_457 60 true t1 Q (c + 4) (z + 24) (nI i) (nI e)) := by
      refine h2 L true t1 I1 J1 _ (mS_co hM hco) fun I2 J2 r hM2 hmo hJ2 h0 hr => ?_
      obtain ⟨v2, hv2, rfl⟩ := hr
      refine kb_L_law_457 (by omega) (by omega) (e_X11_thrown (kb_L_law_463 (by omega) (by omega) ?_))
      have go : t_L_law_2513 60 L true t1 Q (c + 4) (z + 24) (nI i) I2 J2 := nx A' _ t1 I2 J2 (c + 4) (z + 24) (by omega) (by omega) ⟨ho', cS_co hS1 hmo (fun a ha => hJ2 a (Or.inl ha)), hM2, by rw [hmo 2000000 (by omega)]; exact hX2 I1 hco⟩
      rw [h0]
      refine q_t rfl ⟨fun _ => go, fun q => ?_⟩
      have e0 : e = 0 := (nI_eq (Nat.lt_of_le_of_lt he (by decide)) (by decide)).mp q
      have ev := hv2 e0
      subst ev
      rw [hJ2 117 (Or.inr (by omega)), hv1 e0]
      exact q_t (lg0 _) go
    exact ⟨vp_in_nI (by omega) (by omega), vp_in_nI (by omega) (by omega), ref⟩
  exact ⟨vp_in_nI (by omega) (by omega), vp_in_nI (by omega) (by omega), hw L fz t I J _ hS back⟩
theorem law_lace (hc : c ≤ 500000) (hz : z ≤ 7000000) (hL : L ≤ 3072) (hi : i + 6 ≤ L) (hI : lI A xs t I J) (nx : ∀ A' fz' t' I' J' c' z', c' ≤ c + 4 → z' ≤ z + 24 → lI A' xs t' I' J' → t_L_law_2513 60 L fz' t' Q c' z' (nI i) I' J') : t_L_law_490 60 L fz t Q c z (nI i) I J := by
  obtain ⟨ho, hS, hM, hX⟩ := hI
  obtain ⟨A', e, he, v, ho', h1, h2⟩ := opx_2 ho (op_lace ho (xs (i + 1)))
  have hX2 : ∀ I1, co I I1 → I1 2000000 = xs := fun I1 hco => by rw [hco 2000000 (by omega)]; exact hX
  have hw := LW_lace (xs (i + 1)) h1 he
  refine b_L_law_490 (by omega) (by omega) ?_
  rw [nI_add, nI_clamp (by omega), hX]
  have back : ∀ fz1 t1 I1 J1, cS A' t1 I1 J1 → co I I1 → (e = 0 → J1 117 0 = v.toInt64) → K_L_law_501 60 fz t Q (c + 4) (z + 24) (nI i) (.inl (some (.int (nI e)))) (pm_hp L fz1 t1 I1 J1) := by
    intro fz1 t1 I1 J1 hS1 hco hv1
    show K_L_law_501 60 fz t1 Q (c + 4) (z + 24) (nI i) (.inl (some (.int (nI e)))) (pm_hp L fz1 t1 I1 J1)
    refine kb_L_law_501 (by omega) (by omega) ?_
    rw [nI_add, nI_clamp (by omega), hX2 I1 hco]
    have ref : pm_Ev 60 185 [.ref 85, .int (xs (i + 1))] (pm_hp L true t1 I1 J1) (K_L_law_513 60 true t1 Q (c + 4) (z + 24) (nI i) (nI e)) := by
      refine h2 L true t1 I1 J1 _ (mS_co hM hco) fun I2 J2 r hM2 hmo hJ2 h0 hr => ?_
      obtain ⟨v2, hv2, rfl⟩ := hr
      refine kb_L_law_513 (by omega) (by omega) (e_X11_thrown (kb_L_law_519 (by omega) (by omega) ?_))
      have go : t_L_law_2513 60 L true t1 Q (c + 4) (z + 24) (nI i) I2 J2 := nx A' _ t1 I2 J2 (c + 4) (z + 24) (by omega) (by omega) ⟨ho', cS_co hS1 hmo (fun a ha => hJ2 a (Or.inl ha)), hM2, by rw [hmo 2000000 (by omega)]; exact hX2 I1 hco⟩
      rw [h0]
      refine q_t rfl ⟨fun _ => go, fun q => ?_⟩
      have e0 : e = 0 := (nI_eq (Nat.lt_of_le_of_lt he (by decide)) (by decide)).mp q
      have ev := hv2 e0
      subst ev
      rw [hJ2 117 (Or.inr (by omega)), hv1 e0]
      exact q_t (lg0 _) go
    exact ⟨vp_in_nI (by omega) (by omega), ref⟩
  exact ⟨vp_in_nI (by omega) (by omega), hw L fz t I J _ hS back⟩
theorem law_figure (hc : c ≤ 500000) (hz : z ≤ 7000000) (hL : L ≤ 3072) (hi : i + 6 ≤ L) (hI : lI A xs t I J) (nx : ∀ A' fz' t' I' J' c' z', c' ≤ c + 4 → z' ≤ z + 24 → lI A' xs t' I' J' → t_L_law_2513 60 L fz' t' Q c' z' (nI i) I' J') : t_L_law_546 60 L fz t Q c z (nI i) I J := by
  obtain ⟨ho, hS, hM, hX⟩ := hI
  obtain ⟨A', e, he, v, ho', h1, h2⟩ := opx_2 ho (op_figure ho (xs (i + 1)) (xs (i + 2)))
  have hX2 : ∀ I1, co I I1 → I1 2000000 = xs := fun I1 hco => by rw [hco 2000000 (by omega)]; exact hX
  have hw := LW_figure (xs (i + 1)) (xs (i + 2)) h1 he
  refine b_L_law_546 (by omega) (by omega) ?_
  rw [nI_add, nI_add, nI_clamp (by omega), nI_clamp (by omega), hX]
  have back : ∀ fz1 t1 I1 J1, cS A' t1 I1 J1 → co I I1 → (e = 0 → J1 117 0 = v.toInt64) → K_L_law_563 60 fz t Q (c + 4) (z + 24) (nI i) (.inl (some (.int (nI e)))) (pm_hp L fz1 t1 I1 J1) := by
    intro fz1 t1 I1 J1 hS1 hco hv1
    show K_L_law_563 60 fz t1 Q (c + 4) (z + 24) (nI i) (.inl (some (.int (nI e)))) (pm_hp L fz1 t1 I1 J1)
    refine kb_L_law_563 (by omega) (by omega) ?_
    rw [nI_add, nI_add, nI_clamp (by omega), nI_clamp (by omega), hX2 I1 hco]
    have ref : pm_Ev 60 186 [.ref 85, .int (xs (i + 1)), .int (xs (i + 2))] (pm_hp L true t1 I1 J1) (K_L_law_581 60 true t1 Q (c + 4) (z + 24) (nI i) (nI e)) := by
      refine h2 L true t1 I1 J1 _ (mS_co hM hco) fun I2 J2 r hM2 hmo hJ2 h0 hr => ?_
      obtain ⟨v2, hv2, rfl⟩ := hr
      refine kb_L_law_581 (by omega) (by omega) (e_X11_thrown (kb_L_law_587 (by omega) (by omega) ?_))
      have go : t_L_law_2513 60 L true t1 Q (c + 4) (z + 24) (nI i) I2 J2 := nx A' _ t1 I2 J2 (c + 4) (z + 24) (by omega) (by omega) ⟨ho', cS_co hS1 hmo (fun a ha => hJ2 a (Or.inl ha)), hM2, by rw [hmo 2000000 (by omega)]; exact hX2 I1 hco⟩
      rw [h0]
      refine q_t rfl ⟨fun _ => go, fun q => ?_⟩
      have e0 : e = 0 := (nI_eq (Nat.lt_of_le_of_lt he (by decide)) (by decide)).mp q
      have ev := hv2 e0
      subst ev
      rw [hJ2 117 (Or.inr (by omega)), hv1 e0]
      exact q_t (lg0 _) go
    exact ⟨vp_in_nI (by omega) (by omega), vp_in_nI (by omega) (by omega), ref⟩
  exact ⟨vp_in_nI (by omega) (by omega), vp_in_nI (by omega) (by omega), hw L fz t I J _ hS back⟩
theorem law_snarl (hc : c ≤ 500000) (hz : z ≤ 7000000) (hL : L ≤ 3072) (hi : i + 6 ≤ L) (hI : lI A xs t I J) (nx : ∀ A' fz' t' I' J' c' z', c' ≤ c + 4 → z' ≤ z + 24 → lI A' xs t' I' J' → t_L_law_2513 60 L fz' t' Q c' z' (nI i) I' J') : t_L_law_614 60 L fz t Q c z (nI i) I J := by
  obtain ⟨ho, hS, hM, hX⟩ := hI
  obtain ⟨A', e, he, v, ho', h1, h2⟩ := opx_2 ho (op_snarl ho (xs (i + 1)) (xs (i + 2)))
  have hX2 : ∀ I1, co I I1 → I1 2000000 = xs := fun I1 hco => by rw [hco 2000000 (by omega)]; exact hX
  have hw := LW_snarl (xs (i + 1)) (xs (i + 2)) h1 he
  refine b_L_law_614 (by omega) (by omega) ?_
  rw [nI_add, nI_add, nI_clamp (by omega), nI_clamp (by omega), hX]
  have back : ∀ fz1 t1 I1 J1, cS A' t1 I1 J1 → co I I1 → (e = 0 → J1 117 0 = v.toInt64) → K_L_law_631 60 fz t Q (c + 4) (z + 24) (nI i) (.inl (some (.int (nI e)))) (pm_hp L fz1 t1 I1 J1) := by
    intro fz1 t1 I1 J1 hS1 hco hv1
    show K_L_law_631 60 fz t1 Q (c + 4) (z + 24) (nI i) (.inl (some (.int (nI e)))) (pm_hp L fz1 t1 I1 J1)
    refine kb_L_law_631 (by omega) (by omega) ?_
    rw [nI_add, nI_add, nI_clamp (by omega), nI_clamp (by omega), hX2 I1 hco]
    have ref : pm_Ev 60 187 [.ref 85, .int (xs (i + 1)), .int (xs (i + 2))] (pm_hp L true t1 I1 J1) (K_L_law_649 60 true t1 Q (c + 4) (z + 24) (nI i) (nI e)) := by
      refine h2 L true t1 I1 J1 _ (mS_co hM hco) fun I2 J2 r hM2 hmo hJ2 h0 hr => ?_
      obtain ⟨v2, hv2, rfl⟩ := hr
      refine kb_L_law_649 (by omega) (by omega) (e_X11_thrown (kb_L_law_655 (by omega) (by omega) ?_))
      have go : t_L_law_2513 60 L true t1 Q (c + 4) (z + 24) (nI i) I2 J2 := nx A' _ t1 I2 J2 (c + 4) (z + 24) (by omega) (by omega) ⟨ho', cS_co hS1 hmo (fun a ha => hJ2 a (Or.inl ha)), hM2, by rw [hmo 2000000 (by omega)]; exact hX2 I1 hco⟩
      rw [h0]
      refine q_t rfl ⟨fun _ => go, fun q => ?_⟩
      have e0 : e = 0 := (nI_eq (Nat.lt_of_le_of_lt he (by decide)) (by decide)).mp q
      have ev := hv2 e0
      subst ev
      rw [hJ2 117 (Or.inr (by omega)), hv1 e0]
      exact q_t (lg0 _) go
    exact ⟨vp_in_nI (by omega) (by omega), vp_in_nI (by omega) (by omega), ref⟩
  exact ⟨vp_in_nI (by omega) (by omega), vp_in_nI (by omega) (by omega), hw L fz t I J _ hS back⟩
theorem law_sundays (hc : c ≤ 500000) (hz : z ≤ 7000000) (hL : L ≤ 3072) (hi : i + 6 ≤ L) (hI : lI A xs t I J) (nx : ∀ A' fz' t' I' J' c' z', c' ≤ c + 4 → z' ≤ z + 24 → lI A' xs t' I' J' → t_L_law_2513 60 L fz' t' Q c' z' (nI i) I' J') : t_L_law_682 60 L fz t Q c z (nI i) I J := by
  obtain ⟨ho, hS, hM, hX⟩ := hI
  obtain ⟨A', e, he, v, ho', h1, h2⟩ := op_sundays ho (xs (i + 1))
  have hX2 : ∀ I1, co I I1 → I1 2000000 = xs := fun I1 hco => by rw [hco 2000000 (by omega)]; exact hX
  refine b_L_law_682 (by omega) (by omega) ?_
  rw [nI_add, nI_clamp (by omega), hX]
  refine ⟨vp_in_nI (by omega) (by omega), CS_up h1 L fz t I J _ hS fun fz1 t1 I1 J1 hS1 hco hJ => ?_⟩
  have he0 : e = 0 := Nat.le_zero.mp (Nat.le_trans he (by decide))
  subst he0
  show K_L_law_692 60 fz t1 Q c z (nI i) (.inl (some (.int v))) (pm_hp L fz1 t1 I1 J1)
  refine kb_L_law_692 (by omega) (by omega) ?_
  rw [nI_add, nI_clamp (by omega), hX2 I1 hco]
  refine ⟨vp_in_nI (by omega) (by omega), h2 L fz t1 I1 J1 _ (mS_co hM hco) fun I2 J2 r hM2 hmo hJ2 _ hr => ?_⟩
  obtain ⟨v2, hv2, rfl⟩ := hr
  have ev := hv2 rfl
  subst ev
  refine kb_L_law_702 (by omega) (by omega) (q_t rfl (nx A' _ t1 I2 J2 c z (by omega) (by omega) ⟨ho', cS_co hS1 hmo (fun a ha => hJ2 a (Or.inl ha)), hM2, ?_⟩))
  rw [hmo 2000000 (by omega)]; exact hX2 I1 hco
theorem law_punch (hc : c ≤ 500000) (hz : z ≤ 7000000) (hL : L ≤ 3072) (hi : i + 6 ≤ L) (hI : lI A xs t I J) (nx : ∀ A' fz' t' I' J' c' z', c' ≤ c + 4 → z' ≤ z + 24 → lI A' xs t' I' J' → t_L_law_2513 60 L fz' t' Q c' z' (nI i) I' J') : t_L_law_707 60 L fz t Q c z (nI i) I J := by
  obtain ⟨ho, hS, hM, hX⟩ := hI
  obtain ⟨A', e, he, v, ho', h1, h2⟩ := op_punch ho (xs (i + 1)) (xs (i + 2))
  have hX2 : ∀ I1, co I I1 → I1 2000000 = xs := fun I1 hco => by rw [hco 2000000 (by omega)]; exact hX
  have hw := LW_punch (xs (i + 1)) (xs (i + 2)) h1 he
  refine b_L_law_707 (by omega) (by omega) ?_
  rw [nI_add, nI_add, nI_clamp (by omega), nI_clamp (by omega), hX]
  have back : ∀ fz1 t1 I1 J1, cS A' t1 I1 J1 → co I I1 → (e = 0 → J1 117 0 = v.toInt64) → K_L_law_724 60 fz t Q (c + 4) (z + 24) (nI i) (.inl (some (.int (nI e)))) (pm_hp L fz1 t1 I1 J1) := by
    intro fz1 t1 I1 J1 hS1 hco hv1
    show K_L_law_724 60 fz t1 Q (c + 4) (z + 24) (nI i) (.inl (some (.int (nI e)))) (pm_hp L fz1 t1 I1 J1)
    refine kb_L_law_724 (by omega) (by omega) ?_
    rw [nI_add, nI_add, nI_clamp (by omega), nI_clamp (by omega), hX2 I1 hco]
    have ref : pm_Ev 60 189 [.ref 85, .int (xs (i + 1)), .int (xs (i + 2))] (pm_hp L true t1 I1 J1) (K_L_law_742 60 true t1 Q (c + 4) (z + 24) (nI i) (nI e)) := by
      refine h2 L true t1 I1 J1 _ (mS_co hM hco) fun I2 J2 r hM2 hmo hJ2 h0 hr => ?_
      obtain ⟨v2, hv2, rfl⟩ := hr
      refine kb_L_law_742 (by omega) (by omega) (e_X11_thrown (kb_L_law_748 (by omega) (by omega) ?_))
      have go : t_L_law_2513 60 L true t1 Q (c + 4) (z + 24) (nI i) I2 J2 := nx A' _ t1 I2 J2 (c + 4) (z + 24) (by omega) (by omega) ⟨ho', cS_co hS1 hmo (fun a ha => hJ2 a (Or.inl ha)), hM2, by rw [hmo 2000000 (by omega)]; exact hX2 I1 hco⟩
      rw [h0]
      refine q_t rfl ⟨fun _ => go, fun q => ?_⟩
      have e0 : e = 0 := (nI_eq (Nat.lt_of_le_of_lt he (by decide)) (by decide)).mp q
      have ev := hv2 e0
      subst ev
      rw [hJ2 117 (Or.inr (by omega)), hv1 e0]
      exact q_t (lg0 _) go
    exact ⟨vp_in_nI (by omega) (by omega), vp_in_nI (by omega) (by omega), ref⟩
  exact ⟨vp_in_nI (by omega) (by omega), vp_in_nI (by omega) (by omega), hw L fz t I J _ hS back⟩
theorem law_turn (hc : c ≤ 500000) (hz : z ≤ 7000000) (hL : L ≤ 3072) (hi : i + 6 ≤ L) (hI : lI A xs t I J) (nx : ∀ A' fz' t' I' J' c' z', c' ≤ c + 4 → z' ≤ z + 24 → lI A' xs t' I' J' → t_L_law_2513 60 L fz' t' Q c' z' (nI i) I' J') : t_L_law_775 60 L fz t Q c z (nI i) I J := by
  obtain ⟨ho, hS, hM, hX⟩ := hI
  obtain ⟨A', e, he, v, ho', h1, h2⟩ := op_turn ho (xs (i + 1))
  have hX2 : ∀ I1, co I I1 → I1 2000000 = xs := fun I1 hco => by rw [hco 2000000 (by omega)]; exact hX
  have hw := LW_turn (xs (i + 1)) h1 he
  refine b_L_law_775 (by omega) (by omega) ?_
  rw [nI_add, nI_clamp (by omega), hX]
  have back : ∀ fz1 t1 I1 J1, cS A' t1 I1 J1 → co I I1 → (e = 0 → J1 117 0 = v.toInt64) → K_L_law_786 60 fz t Q (c + 4) (z + 24) (nI i) (.inl (some (.int (nI e)))) (pm_hp L fz1 t1 I1 J1) := by
    intro fz1 t1 I1 J1 hS1 hco hv1
    show K_L_law_786 60 fz t1 Q (c + 4) (z + 24) (nI i) (.inl (some (.int (nI e)))) (pm_hp L fz1 t1 I1 J1)
    refine kb_L_law_786 (by omega) (by omega) ?_
    rw [nI_add, nI_clamp (by omega), hX2 I1 hco]
    have ref : pm_Ev 60 191 [.ref 85, .int (xs (i + 1))] (pm_hp L true t1 I1 J1) (K_L_law_798 60 true t1 Q (c + 4) (z + 24) (nI i) (nI e)) := by
      refine h2 L true t1 I1 J1 _ (mS_co hM hco) fun I2 J2 r hM2 hmo hJ2 h0 hr => ?_
      obtain ⟨v2, hv2, rfl⟩ := hr
      refine kb_L_law_798 (by omega) (by omega) (e_X11_thrown (kb_L_law_804 (by omega) (by omega) ?_))
      have go : t_L_law_2513 60 L true t1 Q (c + 4) (z + 24) (nI i) I2 J2 := nx A' _ t1 I2 J2 (c + 4) (z + 24) (by omega) (by omega) ⟨ho', cS_co hS1 hmo (fun a ha => hJ2 a (Or.inl ha)), hM2, by rw [hmo 2000000 (by omega)]; exact hX2 I1 hco⟩
      rw [h0]
      refine q_t rfl ⟨fun _ => go, fun q => ?_⟩
      have e0 : e = 0 := (nI_eq (Nat.lt_of_le_of_lt he (by decide)) (by decide)).mp q
      have ev := hv2 e0
      subst ev
      rw [hJ2 117 (Or.inr (by omega)), hv1 e0]
      exact q_t (lg0 _) go
    exact ⟨vp_in_nI (by omega) (by omega), ref⟩
  exact ⟨vp_in_nI (by omega) (by omega), hw L fz t I J _ hS back⟩
theorem law_cut (hc : c ≤ 500000) (hz : z ≤ 7000000) (hL : L ≤ 3072) (hi : i + 6 ≤ L) (hI : lI A xs t I J) (nx : ∀ A' fz' t' I' J' c' z', c' ≤ c + 4 → z' ≤ z + 24 → lI A' xs t' I' J' → t_L_law_2513 60 L fz' t' Q c' z' (nI i) I' J') : t_L_law_831 60 L fz t Q c z (nI i) I J := by
  obtain ⟨ho, hS, hM, hX⟩ := hI
  obtain ⟨A', e, he, v, ho', h1, h2⟩ := op_cut ho (xs (i + 1))
  have hX2 : ∀ I1, co I I1 → I1 2000000 = xs := fun I1 hco => by rw [hco 2000000 (by omega)]; exact hX
  have hw := LW_cut (xs (i + 1)) h1 he
  refine b_L_law_831 (by omega) (by omega) ?_
  rw [nI_add, nI_clamp (by omega), hX]
  have back : ∀ fz1 t1 I1 J1, cS A' t1 I1 J1 → co I I1 → (e = 0 → J1 117 0 = v.toInt64) → K_L_law_842 60 fz t Q (c + 4) (z + 24) (nI i) (.inl (some (.int (nI e)))) (pm_hp L fz1 t1 I1 J1) := by
    intro fz1 t1 I1 J1 hS1 hco hv1
    show K_L_law_842 60 fz t1 Q (c + 4) (z + 24) (nI i) (.inl (some (.int (nI e)))) (pm_hp L fz1 t1 I1 J1)
    refine kb_L_law_842 (by omega) (by omega) ?_
    rw [nI_add, nI_clamp (by omega), hX2 I1 hco]
    have ref : pm_Ev 60 192 [.ref 85, .int (xs (i + 1))] (pm_hp L true t1 I1 J1) (K_L_law_854 60 true t1 Q (c + 4) (z + 24) (nI i) (nI e)) := by
      refine h2 L true t1 I1 J1 _ (mS_co hM hco) fun I2 J2 r hM2 hmo hJ2 h0 hr => ?_
      obtain ⟨v2, hv2, rfl⟩ := hr
      refine kb_L_law_854 (by omega) (by omega) (e_X11_thrown (kb_L_law_860 (by omega) (by omega) ?_))
      have go : t_L_law_2513 60 L true t1 Q (c + 4) (z + 24) (nI i) I2 J2 := nx A' _ t1 I2 J2 (c + 4) (z + 24) (by omega) (by omega) ⟨ho', cS_co hS1 hmo (fun a ha => hJ2 a (Or.inl ha)), hM2, by rw [hmo 2000000 (by omega)]; exact hX2 I1 hco⟩
      rw [h0]
      refine q_t rfl ⟨fun _ => go, fun q => ?_⟩
      have e0 : e = 0 := (nI_eq (Nat.lt_of_le_of_lt he (by decide)) (by decide)).mp q
      have ev := hv2 e0
      subst ev
      rw [hJ2 117 (Or.inr (by omega)), hv1 e0]
      exact q_t (lg0 _) go
    exact ⟨vp_in_nI (by omega) (by omega), ref⟩
  exact ⟨vp_in_nI (by omega) (by omega), hw L fz t I J _ hS back⟩
theorem law_change (hc : c ≤ 500000) (hz : z ≤ 7000000) (hL : L ≤ 3072) (hi : i + 6 ≤ L) (hI : lI A xs t I J) (nx : ∀ A' fz' t' I' J' c' z', c' ≤ c + 4 → z' ≤ z + 24 → lI A' xs t' I' J' → t_L_law_2513 60 L fz' t' Q c' z' (nI i) I' J') : t_L_law_887 60 L fz t Q c z (nI i) I J := by
  obtain ⟨ho, hS, hM, hX⟩ := hI
  obtain ⟨A', e, he, v, ho', h1, h2⟩ := op_change ho (xs (i + 1)) (xs (i + 2))
  have hX2 : ∀ I1, co I I1 → I1 2000000 = xs := fun I1 hco => by rw [hco 2000000 (by omega)]; exact hX
  refine b_L_law_887 (by omega) (by omega) ?_
  rw [nI_add, nI_add, nI_clamp (by omega), nI_clamp (by omega), hX]
  refine ⟨vp_in_nI (by omega) (by omega), vp_in_nI (by omega) (by omega), CS_up h1 L fz t I J _ hS fun fz1 t1 I1 J1 hS1 hco hJ => ?_⟩
  have he0 : e = 0 := Nat.le_zero.mp (Nat.le_trans he (by decide))
  subst he0
  show K_L_law_903 60 fz t1 Q c z (nI i) (.inl (some (.int v))) (pm_hp L fz1 t1 I1 J1)
  refine kb_L_law_903 (by omega) (by omega) ?_
  rw [nI_add, nI_add, nI_clamp (by omega), nI_clamp (by omega), hX2 I1 hco]
  refine ⟨vp_in_nI (by omega) (by omega), vp_in_nI (by omega) (by omega), h2 L fz t1 I1 J1 _ (mS_co hM hco) fun I2 J2 r hM2 hmo hJ2 _ hr => ?_⟩
  obtain ⟨v2, hv2, rfl⟩ := hr
  have ev := hv2 rfl
  subst ev
  refine kb_L_law_919 (by omega) (by omega) (q_t rfl (nx A' _ t1 I2 J2 c z (by omega) (by omega) ⟨ho', cS_co hS1 hmo (fun a ha => hJ2 a (Or.inl ha)), hM2, ?_⟩))
  rw [hmo 2000000 (by omega)]; exact hX2 I1 hco
theorem law_undo (hc : c ≤ 500000) (hz : z ≤ 7000000) (hL : L ≤ 3072) (hi : i + 6 ≤ L) (hI : lI A xs t I J) (nx : ∀ A' fz' t' I' J' c' z', c' ≤ c + 4 → z' ≤ z + 24 → lI A' xs t' I' J' → t_L_law_2513 60 L fz' t' Q c' z' (nI i) I' J') : t_L_law_924 60 L fz t Q c z (nI i) I J := by
  obtain ⟨ho, hS, hM, hX⟩ := hI
  obtain ⟨A', e, he, v, ho', h1, h2⟩ := op_undo ho 
  have hX2 : ∀ I1, co I I1 → I1 2000000 = xs := fun I1 hco => by rw [hco 2000000 (by omega)]; exact hX
  refine b_L_law_924 (by omega) (by omega) ?_
  refine CS_up h1 L fz t I J _ hS fun fz1 t1 I1 J1 hS1 hco hJ => ?_
  have he0 : e = 0 := Nat.le_zero.mp (Nat.le_trans he (by decide))
  subst he0
  show K_L_law_928 60 fz t1 Q c z (nI i) (.inl (some (.int v))) (pm_hp L fz1 t1 I1 J1)
  refine kb_L_law_928 (by omega) (by omega) ?_
  refine h2 L fz t1 I1 J1 _ (mS_co hM hco) fun I2 J2 r hM2 hmo hJ2 _ hr => ?_
  obtain ⟨v2, hv2, rfl⟩ := hr
  have ev := hv2 rfl
  subst ev
  refine kb_L_law_932 (by omega) (by omega) (q_t rfl (nx A' _ t1 I2 J2 c z (by omega) (by omega) ⟨ho', cS_co hS1 hmo (fun a ha => hJ2 a (Or.inl ha)), hM2, ?_⟩))
  rw [hmo 2000000 (by omega)]; exact hX2 I1 hco
theorem law_then (hc : c ≤ 500000) (hz : z ≤ 7000000) (hL : L ≤ 3072) (hi : i + 6 ≤ L) (hI : lI A xs t I J) (nx : ∀ A' fz' t' I' J' c' z', c' ≤ c + 4 → z' ≤ z + 24 → lI A' xs t' I' J' → t_L_law_2513 60 L fz' t' Q c' z' (nI i) I' J') : t_L_law_937 60 L fz t Q c z (nI i) I J := by
  obtain ⟨ho, hS, hM, hX⟩ := hI
  obtain ⟨A', e, he, v, ho', h1, h2⟩ := opx_2 ho (op_then ho (xs (i + 1)) (xs (i + 2)))
  have hX2 : ∀ I1, co I I1 → I1 2000000 = xs := fun I1 hco => by rw [hco 2000000 (by omega)]; exact hX
  have hw := LW_then (xs (i + 1)) (xs (i + 2)) h1 he
  refine b_L_law_937 (by omega) (by omega) ?_
  rw [nI_add, nI_add, nI_clamp (by omega), nI_clamp (by omega), hX]
  have back : ∀ fz1 t1 I1 J1, cS A' t1 I1 J1 → co I I1 → (e = 0 → J1 117 0 = v.toInt64) → K_L_law_954 60 fz t Q (c + 4) (z + 24) (nI i) (.inl (some (.int (nI e)))) (pm_hp L fz1 t1 I1 J1) := by
    intro fz1 t1 I1 J1 hS1 hco hv1
    show K_L_law_954 60 fz t1 Q (c + 4) (z + 24) (nI i) (.inl (some (.int (nI e)))) (pm_hp L fz1 t1 I1 J1)
    refine kb_L_law_954 (by omega) (by omega) ?_
    rw [nI_add, nI_add, nI_clamp (by omega), nI_clamp (by omega), hX2 I1 hco]
    have ref : pm_Ev 60 196 [.ref 85, .int (xs (i + 1)), .int (xs (i + 2))] (pm_hp L true t1 I1 J1) (K_L_law_972 60 true t1 Q (c + 4) (z + 24) (nI i) (nI e)) := by
      refine h2 L true t1 I1 J1 _ (mS_co hM hco) fun I2 J2 r hM2 hmo hJ2 h0 hr => ?_
      obtain ⟨v2, hv2, rfl⟩ := hr
      refine kb_L_law_972 (by omega) (by omega) (e_X11_thrown (kb_L_law_978 (by omega) (by omega) ?_))
      have go : t_L_law_2513 60 L true t1 Q (c + 4) (z + 24) (nI i) I2 J2 := nx A' _ t1 I2 J2 (c + 4) (z + 24) (by omega) (by omega) ⟨ho', cS_co hS1 hmo (fun a ha => hJ2 a (Or.inl ha)), hM2, by rw [hmo 2000000 (by omega)]; exact hX2 I1 hco⟩
      rw [h0]
      refine q_t rfl ⟨fun _ => go, fun q => ?_⟩
      have e0 : e = 0 := (nI_eq (Nat.lt_of_le_of_lt he (by decide)) (by decide)).mp q
      have ev := hv2 e0
      subst ev
      rw [hJ2 117 (Or.inr (by omega)), hv1 e0]
      exact q_t (lg0 _) go
    exact ⟨vp_in_nI (by omega) (by omega), vp_in_nI (by omega) (by omega), ref⟩
  exact ⟨vp_in_nI (by omega) (by omega), vp_in_nI (by omega) (by omega), hw L fz t I J _ hS back⟩
theorem law_granted (hc : c ≤ 500000) (hz : z ≤ 7000000) (hL : L ≤ 3072) (hi : i + 6 ≤ L) (hI : lI A xs t I J) (nx : ∀ A' fz' t' I' J' c' z', c' ≤ c + 4 → z' ≤ z + 24 → lI A' xs t' I' J' → t_L_law_2513 60 L fz' t' Q c' z' (nI i) I' J') : t_L_law_1005 60 L fz t Q c z (nI i) I J := by
  obtain ⟨ho, hS, hM, hX⟩ := hI
  obtain ⟨A', e, he, v, ho', h1, h2⟩ := opx_2 ho (op_granted ho (xs (i + 1)))
  have hX2 : ∀ I1, co I I1 → I1 2000000 = xs := fun I1 hco => by rw [hco 2000000 (by omega)]; exact hX
  have hw := LW_granted (xs (i + 1)) h1 he
  refine b_L_law_1005 (by omega) (by omega) ?_
  rw [nI_add, nI_clamp (by omega), hX]
  have back : ∀ fz1 t1 I1 J1, cS A' t1 I1 J1 → co I I1 → (e = 0 → J1 117 0 = v.toInt64) → K_L_law_1016 60 fz t Q (c + 4) (z + 24) (nI i) (.inl (some (.int (nI e)))) (pm_hp L fz1 t1 I1 J1) := by
    intro fz1 t1 I1 J1 hS1 hco hv1
    show K_L_law_1016 60 fz t1 Q (c + 4) (z + 24) (nI i) (.inl (some (.int (nI e)))) (pm_hp L fz1 t1 I1 J1)
    refine kb_L_law_1016 (by omega) (by omega) ?_
    rw [nI_add, nI_clamp (by omega), hX2 I1 hco]
    have ref : pm_Ev 60 197 [.ref 85, .int (xs (i + 1))] (pm_hp L true t1 I1 J1) (K_L_law_1028 60 true t1 Q (c + 4) (z + 24) (nI i) (nI e)) := by
      refine h2 L true t1 I1 J1 _ (mS_co hM hco) fun I2 J2 r hM2 hmo hJ2 h0 hr => ?_
      obtain ⟨v2, hv2, rfl⟩ := hr
      refine kb_L_law_1028 (by omega) (by omega) (e_X11_thrown (kb_L_law_1034 (by omega) (by omega) ?_))
      have go : t_L_law_2513 60 L true t1 Q (c + 4) (z + 24) (nI i) I2 J2 := nx A' _ t1 I2 J2 (c + 4) (z + 24) (by omega) (by omega) ⟨ho', cS_co hS1 hmo (fun a ha => hJ2 a (Or.inl ha)), hM2, by rw [hmo 2000000 (by omega)]; exact hX2 I1 hco⟩
      rw [h0]
      refine q_t rfl ⟨fun _ => go, fun q => ?_⟩
      have e0 : e = 0 := (nI_eq (Nat.lt_of_le_of_lt he (by decide)) (by decide)).mp q
      have ev := hv2 e0
      subst ev
      rw [hJ2 117 (Or.inr (by omega)), hv1 e0]
      exact q_t (lg0 _) go
    exact ⟨vp_in_nI (by omega) (by omega), ref⟩
  exact ⟨vp_in_nI (by omega) (by omega), hw L fz t I J _ hS back⟩
theorem law_worn (hc : c ≤ 500000) (hz : z ≤ 7000000) (hL : L ≤ 3072) (hi : i + 6 ≤ L) (hI : lI A xs t I J) (nx : ∀ A' fz' t' I' J' c' z', c' ≤ c + 4 → z' ≤ z + 24 → lI A' xs t' I' J' → t_L_law_2513 60 L fz' t' Q c' z' (nI i) I' J') : t_L_law_1061 60 L fz t Q c z (nI i) I J := by
  obtain ⟨ho, hS, hM, hX⟩ := hI
  obtain ⟨A', e, he, v, ho', h1, h2⟩ := opx_2 ho (op_worn ho (xs (i + 1)))
  have hX2 : ∀ I1, co I I1 → I1 2000000 = xs := fun I1 hco => by rw [hco 2000000 (by omega)]; exact hX
  have hw := LW_worn (xs (i + 1)) h1 he
  refine b_L_law_1061 (by omega) (by omega) ?_
  rw [nI_add, nI_clamp (by omega), hX]
  have back : ∀ fz1 t1 I1 J1, cS A' t1 I1 J1 → co I I1 → (e = 0 → J1 117 0 = v.toInt64) → K_L_law_1072 60 fz t Q (c + 4) (z + 24) (nI i) (.inl (some (.int (nI e)))) (pm_hp L fz1 t1 I1 J1) := by
    intro fz1 t1 I1 J1 hS1 hco hv1
    show K_L_law_1072 60 fz t1 Q (c + 4) (z + 24) (nI i) (.inl (some (.int (nI e)))) (pm_hp L fz1 t1 I1 J1)
    refine kb_L_law_1072 (by omega) (by omega) ?_
    rw [nI_add, nI_clamp (by omega), hX2 I1 hco]
    have ref : pm_Ev 60 198 [.ref 85, .int (xs (i + 1))] (pm_hp L true t1 I1 J1) (K_L_law_1084 60 true t1 Q (c + 4) (z + 24) (nI i) (nI e)) := by
      refine h2 L true t1 I1 J1 _ (mS_co hM hco) fun I2 J2 r hM2 hmo hJ2 h0 hr => ?_
      obtain ⟨v2, hv2, rfl⟩ := hr
      refine kb_L_law_1084 (by omega) (by omega) (e_X11_thrown (kb_L_law_1090 (by omega) (by omega) ?_))
      have go : t_L_law_2513 60 L true t1 Q (c + 4) (z + 24) (nI i) I2 J2 := nx A' _ t1 I2 J2 (c + 4) (z + 24) (by omega) (by omega) ⟨ho', cS_co hS1 hmo (fun a ha => hJ2 a (Or.inl ha)), hM2, by rw [hmo 2000000 (by omega)]; exact hX2 I1 hco⟩
      rw [h0]
      refine q_t rfl ⟨fun _ => go, fun q => ?_⟩
      have e0 : e = 0 := (nI_eq (Nat.lt_of_le_of_lt he (by decide)) (by decide)).mp q
      have ev := hv2 e0
      subst ev
      rw [hJ2 117 (Or.inr (by omega)), hv1 e0]
      exact q_t (lg0 _) go
    exact ⟨vp_in_nI (by omega) (by omega), ref⟩
  exact ⟨vp_in_nI (by omega) (by omega), hw L fz t I J _ hS back⟩
theorem law_changes (hc : c ≤ 500000) (hz : z ≤ 7000000) (hL : L ≤ 3072) (hi : i + 6 ≤ L) (hI : lI A xs t I J) (nx : ∀ A' fz' t' I' J' c' z', c' ≤ c + 4 → z' ≤ z + 24 → lI A' xs t' I' J' → t_L_law_2513 60 L fz' t' Q c' z' (nI i) I' J') : t_L_law_1117 60 L fz t Q c z (nI i) I J := by
  obtain ⟨ho, hS, hM, hX⟩ := hI
  obtain ⟨A', e, he, v, ho', h1, h2⟩ := opx_2 ho (op_changes ho )
  have hX2 : ∀ I1, co I I1 → I1 2000000 = xs := fun I1 hco => by rw [hco 2000000 (by omega)]; exact hX
  refine b_L_law_1117 (by omega) (by omega) ?_
  refine CS_up h1 L fz t I J _ hS fun fz1 t1 I1 J1 hS1 hco hJ => ?_
  have he0 : e = 0 := Nat.le_zero.mp (Nat.le_trans he (by decide))
  subst he0
  show K_L_law_1121 60 fz t1 Q c z (nI i) (.inl (some (.int v))) (pm_hp L fz1 t1 I1 J1)
  refine kb_L_law_1121 (by omega) (by omega) ?_
  refine h2 L fz t1 I1 J1 _ (mS_co hM hco) fun I2 J2 r hM2 hmo hJ2 _ hr => ?_
  obtain ⟨v2, hv2, rfl⟩ := hr
  have ev := hv2 rfl
  subst ev
  refine kb_L_law_1125 (by omega) (by omega) (q_t rfl (nx A' _ t1 I2 J2 c z (by omega) (by omega) ⟨ho', cS_co hS1 hmo (fun a ha => hJ2 a (Or.inl ha)), hM2, ?_⟩))
  rw [hmo 2000000 (by omega)]; exact hX2 I1 hco
theorem law_floats (hc : c ≤ 500000) (hz : z ≤ 7000000) (hL : L ≤ 3072) (hi : i + 6 ≤ L) (hI : lI A xs t I J) (nx : ∀ A' fz' t' I' J' c' z', c' ≤ c + 4 → z' ≤ z + 24 → lI A' xs t' I' J' → t_L_law_2513 60 L fz' t' Q c' z' (nI i) I' J') : t_L_law_1130 60 L fz t Q c z (nI i) I J := by
  obtain ⟨ho, hS, hM, hX⟩ := hI
  obtain ⟨A', e, he, v, ho', h1, h2⟩ := opx_2 ho (op_floats ho (xs (i + 1)))
  have hX2 : ∀ I1, co I I1 → I1 2000000 = xs := fun I1 hco => by rw [hco 2000000 (by omega)]; exact hX
  have hw := LW_floats (xs (i + 1)) h1 he
  refine b_L_law_1130 (by omega) (by omega) ?_
  rw [nI_add, nI_clamp (by omega), hX]
  have back : ∀ fz1 t1 I1 J1, cS A' t1 I1 J1 → co I I1 → (e = 0 → J1 117 0 = v.toInt64) → K_L_law_1141 60 fz t Q (c + 4) (z + 24) (nI i) (.inl (some (.int (nI e)))) (pm_hp L fz1 t1 I1 J1) := by
    intro fz1 t1 I1 J1 hS1 hco hv1
    show K_L_law_1141 60 fz t1 Q (c + 4) (z + 24) (nI i) (.inl (some (.int (nI e)))) (pm_hp L fz1 t1 I1 J1)
    refine kb_L_law_1141 (by omega) (by omega) ?_
    rw [nI_add, nI_clamp (by omega), hX2 I1 hco]
    have ref : pm_Ev 60 203 [.ref 85, .int (xs (i + 1))] (pm_hp L true t1 I1 J1) (K_L_law_1153 60 true t1 Q (c + 4) (z + 24) (nI i) (nI e)) := by
      refine h2 L true t1 I1 J1 _ (mS_co hM hco) fun I2 J2 r hM2 hmo hJ2 h0 hr => ?_
      obtain ⟨v2, hv2, rfl⟩ := hr
      refine kb_L_law_1153 (by omega) (by omega) (e_X11_thrown (kb_L_law_1159 (by omega) (by omega) ?_))
      have go : t_L_law_2513 60 L true t1 Q (c + 4) (z + 24) (nI i) I2 J2 := nx A' _ t1 I2 J2 (c + 4) (z + 24) (by omega) (by omega) ⟨ho', cS_co hS1 hmo (fun a ha => hJ2 a (Or.inl ha)), hM2, by rw [hmo 2000000 (by omega)]; exact hX2 I1 hco⟩
      rw [h0]
      refine q_t rfl ⟨fun _ => go, fun q => ?_⟩
      have e0 : e = 0 := (nI_eq (Nat.lt_of_le_of_lt he (by decide)) (by decide)).mp q
      have ev := hv2 e0
      subst ev
      rw [hJ2 117 (Or.inr (by omega)), hv1 e0]
      exact q_t (lg0 _) go
    exact ⟨vp_in_nI (by omega) (by omega), ref⟩
  exact ⟨vp_in_nI (by omega) (by omega), hw L fz t I J _ hS back⟩
theorem law_stands (hc : c ≤ 500000) (hz : z ≤ 7000000) (hL : L ≤ 3072) (hi : i + 6 ≤ L) (hI : lI A xs t I J) (nx : ∀ A' fz' t' I' J' c' z', c' ≤ c + 4 → z' ≤ z + 24 → lI A' xs t' I' J' → t_L_law_2513 60 L fz' t' Q c' z' (nI i) I' J') : t_L_law_1186 60 L fz t Q c z (nI i) I J := by
  obtain ⟨ho, hS, hM, hX⟩ := hI
  obtain ⟨A', e, he, v, ho', h1, h2⟩ := opx_2 ho (op_stands ho (xs (i + 1)) (xs (i + 2)))
  have hX2 : ∀ I1, co I I1 → I1 2000000 = xs := fun I1 hco => by rw [hco 2000000 (by omega)]; exact hX
  have hw := LW_stands (xs (i + 1)) (xs (i + 2)) h1 he
  refine b_L_law_1186 (by omega) (by omega) ?_
  rw [nI_add, nI_add, nI_clamp (by omega), nI_clamp (by omega), hX]
  have back : ∀ fz1 t1 I1 J1, cS A' t1 I1 J1 → co I I1 → (e = 0 → J1 117 0 = v.toInt64) → K_L_law_1203 60 fz t Q (c + 4) (z + 24) (nI i) (.inl (some (.int (nI e)))) (pm_hp L fz1 t1 I1 J1) := by
    intro fz1 t1 I1 J1 hS1 hco hv1
    show K_L_law_1203 60 fz t1 Q (c + 4) (z + 24) (nI i) (.inl (some (.int (nI e)))) (pm_hp L fz1 t1 I1 J1)
    refine kb_L_law_1203 (by omega) (by omega) ?_
    rw [nI_add, nI_add, nI_clamp (by omega), nI_clamp (by omega), hX2 I1 hco]
    have ref : pm_Ev 60 204 [.ref 85, .int (xs (i + 1)), .int (xs (i + 2))] (pm_hp L true t1 I1 J1) (K_L_law_1221 60 true t1 Q (c + 4) (z + 24) (nI i) (nI e)) := by
      refine h2 L true t1 I1 J1 _ (mS_co hM hco) fun I2 J2 r hM2 hmo hJ2 h0 hr => ?_
      obtain ⟨v2, hv2, rfl⟩ := hr
      refine kb_L_law_1221 (by omega) (by omega) (e_X11_thrown (kb_L_law_1227 (by omega) (by omega) ?_))
      have go : t_L_law_2513 60 L true t1 Q (c + 4) (z + 24) (nI i) I2 J2 := nx A' _ t1 I2 J2 (c + 4) (z + 24) (by omega) (by omega) ⟨ho', cS_co hS1 hmo (fun a ha => hJ2 a (Or.inl ha)), hM2, by rw [hmo 2000000 (by omega)]; exact hX2 I1 hco⟩
      rw [h0]
      refine q_t rfl ⟨fun _ => go, fun q => ?_⟩
      have e0 : e = 0 := (nI_eq (Nat.lt_of_le_of_lt he (by decide)) (by decide)).mp q
      have ev := hv2 e0
      subst ev
      rw [hJ2 117 (Or.inr (by omega)), hv1 e0]
      exact q_t (lg0 _) go
    exact ⟨vp_in_nI (by omega) (by omega), vp_in_nI (by omega) (by omega), ref⟩
  exact ⟨vp_in_nI (by omega) (by omega), vp_in_nI (by omega) (by omega), hw L fz t I J _ hS back⟩
theorem law_order (hc : c ≤ 500000) (hz : z ≤ 7000000) (hL : L ≤ 3072) (hi : i + 6 ≤ L) (hI : lI A xs t I J) (nx : ∀ A' fz' t' I' J' c' z', c' ≤ c + 4 → z' ≤ z + 24 → lI A' xs t' I' J' → t_L_law_2513 60 L fz' t' Q c' z' (nI i) I' J') : t_L_law_1254 60 L fz t Q c z (nI i) I J := by
  obtain ⟨ho, hS, hM, hX⟩ := hI
  obtain ⟨A', e, he, v, ho', h1, h2⟩ := opx_2 ho (op_order ho (xs (i + 1)))
  have hX2 : ∀ I1, co I I1 → I1 2000000 = xs := fun I1 hco => by rw [hco 2000000 (by omega)]; exact hX
  have hw := LW_order (xs (i + 1)) h1 he
  refine b_L_law_1254 (by omega) (by omega) ?_
  rw [nI_add, nI_clamp (by omega), hX]
  have back : ∀ fz1 t1 I1 J1, cS A' t1 I1 J1 → co I I1 → (e = 0 → J1 117 0 = v.toInt64) → K_L_law_1265 60 fz t Q (c + 4) (z + 24) (nI i) (.inl (some (.int (nI e)))) (pm_hp L fz1 t1 I1 J1) := by
    intro fz1 t1 I1 J1 hS1 hco hv1
    show K_L_law_1265 60 fz t1 Q (c + 4) (z + 24) (nI i) (.inl (some (.int (nI e)))) (pm_hp L fz1 t1 I1 J1)
    refine kb_L_law_1265 (by omega) (by omega) ?_
    rw [nI_add, nI_clamp (by omega), hX2 I1 hco]
    have ref : pm_Ev 60 206 [.ref 85, .int (xs (i + 1))] (pm_hp L true t1 I1 J1) (K_L_law_1277 60 true t1 Q (c + 4) (z + 24) (nI i) (nI e)) := by
      refine h2 L true t1 I1 J1 _ (mS_co hM hco) fun I2 J2 r hM2 hmo hJ2 h0 hr => ?_
      obtain ⟨v2, hv2, rfl⟩ := hr
      refine kb_L_law_1277 (by omega) (by omega) (e_X11_thrown (kb_L_law_1283 (by omega) (by omega) ?_))
      have go : t_L_law_2513 60 L true t1 Q (c + 4) (z + 24) (nI i) I2 J2 := nx A' _ t1 I2 J2 (c + 4) (z + 24) (by omega) (by omega) ⟨ho', cS_co hS1 hmo (fun a ha => hJ2 a (Or.inl ha)), hM2, by rw [hmo 2000000 (by omega)]; exact hX2 I1 hco⟩
      rw [h0]
      refine q_t rfl ⟨fun _ => go, fun q => ?_⟩
      have e0 : e = 0 := (nI_eq (Nat.lt_of_le_of_lt he (by decide)) (by decide)).mp q
      have ev := hv2 e0
      subst ev
      rw [hJ2 117 (Or.inr (by omega)), hv1 e0]
      exact q_t (lg0 _) go
    exact ⟨vp_in_nI (by omega) (by omega), ref⟩
  exact ⟨vp_in_nI (by omega) (by omega), hw L fz t I J _ hS back⟩
theorem law_punching (hc : c ≤ 500000) (hz : z ≤ 7000000) (hL : L ≤ 3072) (hi : i + 6 ≤ L) (hI : lI A xs t I J) (nx : ∀ A' fz' t' I' J' c' z', c' ≤ c + 4 → z' ≤ z + 24 → lI A' xs t' I' J' → t_L_law_2513 60 L fz' t' Q c' z' (nI i) I' J') : t_L_law_1310 60 L fz t Q c z (nI i) I J := by
  obtain ⟨ho, hS, hM, hX⟩ := hI
  obtain ⟨A', e, he, v, ho', h1, h2⟩ := opx_2 ho (op_punching ho (xs (i + 1)) (xs (i + 2)) (xs (i + 3)))
  have hX2 : ∀ I1, co I I1 → I1 2000000 = xs := fun I1 hco => by rw [hco 2000000 (by omega)]; exact hX
  have hw := LW_punching (xs (i + 1)) (xs (i + 2)) (xs (i + 3)) h1 he
  refine b_L_law_1310 (by omega) (by omega) ?_
  rw [nI_add, nI_add, nI_add, nI_clamp (by omega), nI_clamp (by omega), nI_clamp (by omega), hX]
  have back : ∀ fz1 t1 I1 J1, cS A' t1 I1 J1 → co I I1 → (e = 0 → J1 117 0 = v.toInt64) → K_L_law_1333 60 fz t Q (c + 4) (z + 24) (nI i) (.inl (some (.int (nI e)))) (pm_hp L fz1 t1 I1 J1) := by
    intro fz1 t1 I1 J1 hS1 hco hv1
    show K_L_law_1333 60 fz t1 Q (c + 4) (z + 24) (nI i) (.inl (some (.int (nI e)))) (pm_hp L fz1 t1 I1 J1)
    refine kb_L_law_1333 (by omega) (by omega) ?_
    rw [nI_add, nI_add, nI_add, nI_clamp (by omega), nI_clamp (by omega), nI_clamp (by omega), hX2 I1 hco]
    have ref : pm_Ev 60 207 [.ref 85, .int (xs (i + 1)), .int (xs (i + 2)), .int (xs (i + 3))] (pm_hp L true t1 I1 J1) (K_L_law_1357 60 true t1 Q (c + 4) (z + 24) (nI i) (nI e)) := by
      refine h2 L true t1 I1 J1 _ (mS_co hM hco) fun I2 J2 r hM2 hmo hJ2 h0 hr => ?_
      obtain ⟨v2, hv2, rfl⟩ := hr
      refine kb_L_law_1357 (by omega) (by omega) (e_X11_thrown (kb_L_law_1363 (by omega) (by omega) ?_))
      have go : t_L_law_2513 60 L true t1 Q (c + 4) (z + 24) (nI i) I2 J2 := nx A' _ t1 I2 J2 (c + 4) (z + 24) (by omega) (by omega) ⟨ho', cS_co hS1 hmo (fun a ha => hJ2 a (Or.inl ha)), hM2, by rw [hmo 2000000 (by omega)]; exact hX2 I1 hco⟩
      rw [h0]
      refine q_t rfl ⟨fun _ => go, fun q => ?_⟩
      have e0 : e = 0 := (nI_eq (Nat.lt_of_le_of_lt he (by decide)) (by decide)).mp q
      have ev := hv2 e0
      subst ev
      rw [hJ2 117 (Or.inr (by omega)), hv1 e0]
      exact q_t (lg0 _) go
    exact ⟨vp_in_nI (by omega) (by omega), vp_in_nI (by omega) (by omega), vp_in_nI (by omega) (by omega), ref⟩
  exact ⟨vp_in_nI (by omega) (by omega), vp_in_nI (by omega) (by omega), vp_in_nI (by omega) (by omega), hw L fz t I J _ hS back⟩
theorem law_same (hc : c ≤ 500000) (hz : z ≤ 7000000) (hL : L ≤ 3072) (hi : i + 6 ≤ L) (hI : lI A xs t I J) (nx : ∀ A' fz' t' I' J' c' z', c' ≤ c + 4 → z' ≤ z + 24 → lI A' xs t' I' J' → t_L_law_2513 60 L fz' t' Q c' z' (nI i) I' J') : t_L_law_1390 60 L fz t Q c z (nI i) I J := by
  obtain ⟨ho, hS, hM, hX⟩ := hI
  obtain ⟨A', e, he, v, ho', h1, h2⟩ := opx_2 ho (op_same ho (xs (i + 1)))
  have hX2 : ∀ I1, co I I1 → I1 2000000 = xs := fun I1 hco => by rw [hco 2000000 (by omega)]; exact hX
  have hw := LW_same (xs (i + 1)) h1 he
  refine b_L_law_1390 (by omega) (by omega) ?_
  rw [nI_add, nI_clamp (by omega), hX]
  have back : ∀ fz1 t1 I1 J1, cS A' t1 I1 J1 → co I I1 → (e = 0 → J1 117 0 = v.toInt64) → K_L_law_1401 60 fz t Q (c + 4) (z + 24) (nI i) (.inl (some (.int (nI e)))) (pm_hp L fz1 t1 I1 J1) := by
    intro fz1 t1 I1 J1 hS1 hco hv1
    show K_L_law_1401 60 fz t1 Q (c + 4) (z + 24) (nI i) (.inl (some (.int (nI e)))) (pm_hp L fz1 t1 I1 J1)
    refine kb_L_law_1401 (by omega) (by omega) ?_
    rw [nI_add, nI_clamp (by omega), hX2 I1 hco]
    have ref : pm_Ev 60 208 [.ref 85, .int (xs (i + 1))] (pm_hp L true t1 I1 J1) (K_L_law_1413 60 true t1 Q (c + 4) (z + 24) (nI i) (nI e)) := by
      refine h2 L true t1 I1 J1 _ (mS_co hM hco) fun I2 J2 r hM2 hmo hJ2 h0 hr => ?_
      obtain ⟨v2, hv2, rfl⟩ := hr
      refine kb_L_law_1413 (by omega) (by omega) (e_X11_thrown (kb_L_law_1419 (by omega) (by omega) ?_))
      have go : t_L_law_2513 60 L true t1 Q (c + 4) (z + 24) (nI i) I2 J2 := nx A' _ t1 I2 J2 (c + 4) (z + 24) (by omega) (by omega) ⟨ho', cS_co hS1 hmo (fun a ha => hJ2 a (Or.inl ha)), hM2, by rw [hmo 2000000 (by omega)]; exact hX2 I1 hco⟩
      rw [h0]
      refine q_t rfl ⟨fun _ => go, fun q => ?_⟩
      have e0 : e = 0 := (nI_eq (Nat.lt_of_le_of_lt he (by decide)) (by decide)).mp q
      have ev := hv2 e0
      subst ev
      rw [hJ2 117 (Or.inr (by omega)), hv1 e0]
      exact q_t (lg0 _) go
    exact ⟨vp_in_nI (by omega) (by omega), ref⟩
  exact ⟨vp_in_nI (by omega) (by omega), hw L fz t I J _ hS back⟩
theorem law_see (hc : c ≤ 500000) (hz : z ≤ 7000000) (hL : L ≤ 3072) (hi : i + 6 ≤ L) (hI : lI A xs t I J) (nx : ∀ A' fz' t' I' J' c' z', c' ≤ c + 4 → z' ≤ z + 24 → lI A' xs t' I' J' → t_L_law_2513 60 L fz' t' Q c' z' (nI i) I' J') : t_L_law_1446 60 L fz t Q c z (nI i) I J := by
  obtain ⟨ho, hS, hM, hX⟩ := hI
  obtain ⟨A', e, he, v, ho', h1, h2⟩ := op_see ho (xs (i + 1)) (xs (i + 2)) (xs (i + 3)) (!decide (xs (i + 4) = nI 0))
  have hX2 : ∀ I1, co I I1 → I1 2000000 = xs := fun I1 hco => by rw [hco 2000000 (by omega)]; exact hX
  have hw := LW_see (xs (i + 1)) (xs (i + 2)) (xs (i + 3)) (bz (!decide (xs (i + 4) = nI 0))) h1 he
  refine b_L_law_1446 (by omega) (by omega) ?_
  rw [nI_add, nI_add, nI_add, nI_add, nI_clamp (by omega), nI_clamp (by omega), nI_clamp (by omega), nI_clamp (by omega), hX]
  have back : ∀ fz1 t1 I1 J1, cS A' t1 I1 J1 → co I I1 → (e = 0 → J1 117 0 = v.toInt64) → K_L_law_1483 60 fz t Q (c + 4) (z + 24) (nI i) (.inl (some (.int (nI e)))) (pm_hp L fz1 t1 I1 J1) := by
    intro fz1 t1 I1 J1 hS1 hco hv1
    show K_L_law_1483 60 fz t1 Q (c + 4) (z + 24) (nI i) (.inl (some (.int (nI e)))) (pm_hp L fz1 t1 I1 J1)
    refine kb_L_law_1483 (by omega) (by omega) ?_
    rw [nI_add, nI_add, nI_add, nI_add, nI_clamp (by omega), nI_clamp (by omega), nI_clamp (by omega), nI_clamp (by omega), hX2 I1 hco]
    have ref : pm_Ev 60 209 [.ref 85, .int (xs (i + 1)), .int (xs (i + 2)), .int (xs (i + 3)), .int (bz (!decide (xs (i + 4) = nI 0)))] (pm_hp L true t1 I1 J1) (K_L_law_1521 60 true t1 Q (c + 4) (z + 24) (nI i) (nI e)) := by
      refine h2 L true t1 I1 J1 _ (mS_co hM hco) fun I2 J2 r hM2 hmo hJ2 h0 hr => ?_
      obtain ⟨v2, hv2, rfl⟩ := hr
      refine kb_L_law_1521 (by omega) (by omega) (e_X11_thrown (kb_L_law_1527 (by omega) (by omega) ?_))
      have go : t_L_law_2513 60 L true t1 Q (c + 4) (z + 24) (nI i) I2 J2 := nx A' _ t1 I2 J2 (c + 4) (z + 24) (by omega) (by omega) ⟨ho', cS_co hS1 hmo (fun a ha => hJ2 a (Or.inl ha)), hM2, by rw [hmo 2000000 (by omega)]; exact hX2 I1 hco⟩
      rw [h0]
      refine q_t rfl ⟨fun _ => go, fun q => ?_⟩
      have e0 : e = 0 := (nI_eq (Nat.lt_of_le_of_lt he (by decide)) (by decide)).mp q
      have ev := hv2 e0
      subst ev
      rw [hJ2 117 (Or.inr (by omega)), hv1 e0]
      exact q_t (lg0 _) go
    refine ⟨vp_in_nI (by omega) (by omega), vp_in_nI (by omega) (by omega), vp_in_nI (by omega) (by omega), vp_in_nI (by omega) (by omega), fun q => ?_, fun q => ?_⟩
    · rw [decide_eq_true q] at ref; exact ref
    · rw [decide_eq_false q] at ref; exact ref
  refine ⟨vp_in_nI (by omega) (by omega), vp_in_nI (by omega) (by omega), vp_in_nI (by omega) (by omega), vp_in_nI (by omega) (by omega), fun q => ?_, fun q => ?_⟩
  · rw [decide_eq_true q] at hw; exact hw L fz t I J _ hS back
  · rw [decide_eq_false q] at hw; exact hw L fz t I J _ hS back
theorem law_forget (hc : c ≤ 500000) (hz : z ≤ 7000000) (hL : L ≤ 3072) (hi : i + 6 ≤ L) (hI : lI A xs t I J) (nx : ∀ A' fz' t' I' J' c' z', c' ≤ c + 4 → z' ≤ z + 24 → lI A' xs t' I' J' → t_L_law_2513 60 L fz' t' Q c' z' (nI i) I' J') : t_L_law_1554 60 L fz t Q c z (nI i) I J := by
  obtain ⟨ho, hS, hM, hX⟩ := hI
  obtain ⟨A', ho', h1, h2⟩ := op_forget ho
  refine b_L_law_1554 (by omega) (by omega) (CS_up h1 L fz t I J _ hS fun fz1 t1 I1 J1 hS1 hco hJ => ?_)
  show K_L_law_1558 60 fz t1 Q c z (nI i) (.inl none) (pm_hp L fz1 t1 I1 J1)
  refine kb_L_law_1558 (by omega) (by omega) (h2 L _ t1 I1 J1 _ (mS_co hM hco) fun I2 J2 r hM2 hmo hJ2 _ hr => ?_)
  subst hr
  refine kb_L_law_1562 (by omega) (by omega) (nx A' _ t1 I2 J2 c z (by omega) (by omega) ⟨ho', cS_co hS1 hmo (fun a ha => hJ2 a (Or.inl ha)), hM2, ?_⟩)
  rw [hmo 2000000 (by omega), hco 2000000 (by omega)]; exact hX
theorem law_backwards (hc : c ≤ 500000) (hz : z ≤ 7000000) (hL : L ≤ 3072) (hi : i + 6 ≤ L) (hI : lI A xs t I J) (nx : ∀ A' fz' t' I' J' c' z', c' ≤ c + 4 → z' ≤ z + 24 → lI A' xs t' I' J' → t_L_law_2513 60 L fz' t' Q c' z' (nI i) I' J') : t_L_law_1565 60 L fz t Q c z (nI i) I J := by
  obtain ⟨ho, hS, hM, hX⟩ := hI
  obtain ⟨A', e, he, v, ho', h1, h2⟩ := opx_2 ho (op_backwards ho (xs (i + 1)))
  have hX2 : ∀ I1, co I I1 → I1 2000000 = xs := fun I1 hco => by rw [hco 2000000 (by omega)]; exact hX
  have hw := LW_backwards (xs (i + 1)) h1 he
  refine b_L_law_1565 (by omega) (by omega) ?_
  rw [nI_add, nI_clamp (by omega), hX]
  have back : ∀ fz1 t1 I1 J1, cS A' t1 I1 J1 → co I I1 → (e = 0 → J1 117 0 = v.toInt64) → K_L_law_1576 60 fz t Q (c + 4) (z + 24) (nI i) (.inl (some (.int (nI e)))) (pm_hp L fz1 t1 I1 J1) := by
    intro fz1 t1 I1 J1 hS1 hco hv1
    show K_L_law_1576 60 fz t1 Q (c + 4) (z + 24) (nI i) (.inl (some (.int (nI e)))) (pm_hp L fz1 t1 I1 J1)
    refine kb_L_law_1576 (by omega) (by omega) ?_
    rw [nI_add, nI_clamp (by omega), hX2 I1 hco]
    have ref : pm_Ev 60 213 [.ref 85, .int (xs (i + 1))] (pm_hp L true t1 I1 J1) (K_L_law_1588 60 true t1 Q (c + 4) (z + 24) (nI i) (nI e)) := by
      refine h2 L true t1 I1 J1 _ (mS_co hM hco) fun I2 J2 r hM2 hmo hJ2 h0 hr => ?_
      obtain ⟨v2, hv2, rfl⟩ := hr
      refine kb_L_law_1588 (by omega) (by omega) (e_X11_thrown (kb_L_law_1594 (by omega) (by omega) ?_))
      have go : t_L_law_2513 60 L true t1 Q (c + 4) (z + 24) (nI i) I2 J2 := nx A' _ t1 I2 J2 (c + 4) (z + 24) (by omega) (by omega) ⟨ho', cS_co hS1 hmo (fun a ha => hJ2 a (Or.inl ha)), hM2, by rw [hmo 2000000 (by omega)]; exact hX2 I1 hco⟩
      rw [h0]
      refine q_t rfl ⟨fun _ => go, fun q => ?_⟩
      have e0 : e = 0 := (nI_eq (Nat.lt_of_le_of_lt he (by decide)) (by decide)).mp q
      have ev := hv2 e0
      subst ev
      rw [hJ2 117 (Or.inr (by omega)), hv1 e0]
      exact q_t (lg0 _) go
    exact ⟨vp_in_nI (by omega) (by omega), ref⟩
  exact ⟨vp_in_nI (by omega) (by omega), hw L fz t I J _ hS back⟩
theorem law_punched (hc : c ≤ 500000) (hz : z ≤ 7000000) (hL : L ≤ 3072) (hi : i + 6 ≤ L) (hI : lI A xs t I J) (nx : ∀ A' fz' t' I' J' c' z', c' ≤ c + 4 → z' ≤ z + 24 → lI A' xs t' I' J' → t_L_law_2513 60 L fz' t' Q c' z' (nI i) I' J') : t_L_law_1621 60 L fz t Q c z (nI i) I J := by
  obtain ⟨ho, hS, hM, hX⟩ := hI
  obtain ⟨A', e, he, v, ho', h1, h2⟩ := opx_2 ho (op_punched ho (xs (i + 1)) (xs (i + 2)))
  have hX2 : ∀ I1, co I I1 → I1 2000000 = xs := fun I1 hco => by rw [hco 2000000 (by omega)]; exact hX
  have hw := LW_punched (xs (i + 1)) (xs (i + 2)) h1 he
  refine b_L_law_1621 (by omega) (by omega) ?_
  rw [nI_add, nI_add, nI_clamp (by omega), nI_clamp (by omega), hX]
  have back : ∀ fz1 t1 I1 J1, cS A' t1 I1 J1 → co I I1 → (e = 0 → J1 117 0 = v.toInt64) → K_L_law_1638 60 fz t Q (c + 4) (z + 24) (nI i) (.inl (some (.int (nI e)))) (pm_hp L fz1 t1 I1 J1) := by
    intro fz1 t1 I1 J1 hS1 hco hv1
    show K_L_law_1638 60 fz t1 Q (c + 4) (z + 24) (nI i) (.inl (some (.int (nI e)))) (pm_hp L fz1 t1 I1 J1)
    refine kb_L_law_1638 (by omega) (by omega) ?_
    rw [nI_add, nI_add, nI_clamp (by omega), nI_clamp (by omega), hX2 I1 hco]
    have ref : pm_Ev 60 214 [.ref 85, .int (xs (i + 1)), .int (xs (i + 2))] (pm_hp L true t1 I1 J1) (K_L_law_1656 60 true t1 Q (c + 4) (z + 24) (nI i) (nI e)) := by
      refine h2 L true t1 I1 J1 _ (mS_co hM hco) fun I2 J2 r hM2 hmo hJ2 h0 hr => ?_
      obtain ⟨v2, hv2, rfl⟩ := hr
      refine kb_L_law_1656 (by omega) (by omega) (e_X11_thrown (kb_L_law_1662 (by omega) (by omega) ?_))
      have go : t_L_law_2513 60 L true t1 Q (c + 4) (z + 24) (nI i) I2 J2 := nx A' _ t1 I2 J2 (c + 4) (z + 24) (by omega) (by omega) ⟨ho', cS_co hS1 hmo (fun a ha => hJ2 a (Or.inl ha)), hM2, by rw [hmo 2000000 (by omega)]; exact hX2 I1 hco⟩
      rw [h0]
      refine q_t rfl ⟨fun _ => go, fun q => ?_⟩
      have e0 : e = 0 := (nI_eq (Nat.lt_of_le_of_lt he (by decide)) (by decide)).mp q
      have ev := hv2 e0
      subst ev
      rw [hJ2 117 (Or.inr (by omega)), hv1 e0]
      exact q_t (lg0 _) go
    exact ⟨vp_in_nI (by omega) (by omega), vp_in_nI (by omega) (by omega), ref⟩
  exact ⟨vp_in_nI (by omega) (by omega), vp_in_nI (by omega) (by omega), hw L fz t I J _ hS back⟩
theorem law_next (hc : c ≤ 500000) (hz : z ≤ 7000000) (hL : L ≤ 3072) (hi : i + 6 ≤ L) (hI : lI A xs t I J) (nx : ∀ A' fz' t' I' J' c' z', c' ≤ c + 4 → z' ≤ z + 24 → lI A' xs t' I' J' → t_L_law_2513 60 L fz' t' Q c' z' (nI i) I' J') : t_L_law_1689 60 L fz t Q c z (nI i) I J := by
  obtain ⟨ho, hS, hM, hX⟩ := hI
  obtain ⟨A', e, he, v, ho', h1, h2⟩ := opx_2 ho (op_next ho (xs (i + 1)))
  have hX2 : ∀ I1, co I I1 → I1 2000000 = xs := fun I1 hco => by rw [hco 2000000 (by omega)]; exact hX
  have hw := LW_next (xs (i + 1)) h1 he
  refine b_L_law_1689 (by omega) (by omega) ?_
  rw [nI_add, nI_clamp (by omega), hX]
  have back : ∀ fz1 t1 I1 J1, cS A' t1 I1 J1 → co I I1 → (e = 0 → J1 117 0 = v.toInt64) → K_L_law_1700 60 fz t Q (c + 4) (z + 24) (nI i) (.inl (some (.int (nI e)))) (pm_hp L fz1 t1 I1 J1) := by
    intro fz1 t1 I1 J1 hS1 hco hv1
    show K_L_law_1700 60 fz t1 Q (c + 4) (z + 24) (nI i) (.inl (some (.int (nI e)))) (pm_hp L fz1 t1 I1 J1)
    refine kb_L_law_1700 (by omega) (by omega) ?_
    rw [nI_add, nI_clamp (by omega), hX2 I1 hco]
    have ref : pm_Ev 60 215 [.ref 85, .int (xs (i + 1))] (pm_hp L true t1 I1 J1) (K_L_law_1712 60 true t1 Q (c + 4) (z + 24) (nI i) (nI e)) := by
      refine h2 L true t1 I1 J1 _ (mS_co hM hco) fun I2 J2 r hM2 hmo hJ2 h0 hr => ?_
      obtain ⟨v2, hv2, rfl⟩ := hr
      refine kb_L_law_1712 (by omega) (by omega) (e_X11_thrown (kb_L_law_1718 (by omega) (by omega) ?_))
      have go : t_L_law_2513 60 L true t1 Q (c + 4) (z + 24) (nI i) I2 J2 := nx A' _ t1 I2 J2 (c + 4) (z + 24) (by omega) (by omega) ⟨ho', cS_co hS1 hmo (fun a ha => hJ2 a (Or.inl ha)), hM2, by rw [hmo 2000000 (by omega)]; exact hX2 I1 hco⟩
      rw [h0]
      refine q_t rfl ⟨fun _ => go, fun q => ?_⟩
      have e0 : e = 0 := (nI_eq (Nat.lt_of_le_of_lt he (by decide)) (by decide)).mp q
      have ev := hv2 e0
      subst ev
      rw [hJ2 117 (Or.inr (by omega)), hv1 e0]
      exact q_t (lg0 _) go
    exact ⟨vp_in_nI (by omega) (by omega), ref⟩
  exact ⟨vp_in_nI (by omega) (by omega), hw L fz t I J _ hS back⟩
theorem law_toCut (hc : c ≤ 500000) (hz : z ≤ 7000000) (hL : L ≤ 3072) (hi : i + 6 ≤ L) (hI : lI A xs t I J) (nx : ∀ A' fz' t' I' J' c' z', c' ≤ c + 4 → z' ≤ z + 24 → lI A' xs t' I' J' → t_L_law_2513 60 L fz' t' Q c' z' (nI i) I' J') : t_L_law_1745 60 L fz t Q c z (nI i) I J := by
  obtain ⟨ho, hS, hM, hX⟩ := hI
  obtain ⟨A', e, he, v, ho', h1, h2⟩ := opx_2 ho (op_toCut ho (xs (i + 1)) (xs (i + 2)) (xs (i + 3)) (xs (i + 4)))
  have hX2 : ∀ I1, co I I1 → I1 2000000 = xs := fun I1 hco => by rw [hco 2000000 (by omega)]; exact hX
  have hw := LW_toCut (xs (i + 1)) (xs (i + 2)) (xs (i + 3)) (xs (i + 4)) h1 he
  refine b_L_law_1745 (by omega) (by omega) ?_
  rw [nI_add, nI_add, nI_add, nI_add, nI_clamp (by omega), nI_clamp (by omega), nI_clamp (by omega), nI_clamp (by omega), hX]
  have back : ∀ fz1 t1 I1 J1, cS A' t1 I1 J1 → co I I1 → (e = 0 → J1 117 0 = v.toInt64) → K_L_law_1774 60 fz t Q (c + 4) (z + 24) (nI i) (.inl (some (.int (nI e)))) (pm_hp L fz1 t1 I1 J1) := by
    intro fz1 t1 I1 J1 hS1 hco hv1
    show K_L_law_1774 60 fz t1 Q (c + 4) (z + 24) (nI i) (.inl (some (.int (nI e)))) (pm_hp L fz1 t1 I1 J1)
    refine kb_L_law_1774 (by omega) (by omega) ?_
    rw [nI_add, nI_add, nI_add, nI_add, nI_clamp (by omega), nI_clamp (by omega), nI_clamp (by omega), nI_clamp (by omega), hX2 I1 hco]
    have ref : pm_Ev 60 216 [.ref 85, .int (xs (i + 1)), .int (xs (i + 2)), .int (xs (i + 3)), .int (xs (i + 4))] (pm_hp L true t1 I1 J1) (K_L_law_1804 60 true t1 Q (c + 4) (z + 24) (nI i) (nI e)) := by
      refine h2 L true t1 I1 J1 _ (mS_co hM hco) fun I2 J2 r hM2 hmo hJ2 h0 hr => ?_
      obtain ⟨v2, hv2, rfl⟩ := hr
      refine kb_L_law_1804 (by omega) (by omega) (e_X11_thrown (kb_L_law_1810 (by omega) (by omega) ?_))
      have go : t_L_law_2513 60 L true t1 Q (c + 4) (z + 24) (nI i) I2 J2 := nx A' _ t1 I2 J2 (c + 4) (z + 24) (by omega) (by omega) ⟨ho', cS_co hS1 hmo (fun a ha => hJ2 a (Or.inl ha)), hM2, by rw [hmo 2000000 (by omega)]; exact hX2 I1 hco⟩
      rw [h0]
      refine q_t rfl ⟨fun _ => go, fun q => ?_⟩
      have e0 : e = 0 := (nI_eq (Nat.lt_of_le_of_lt he (by decide)) (by decide)).mp q
      have ev := hv2 e0
      subst ev
      rw [hJ2 117 (Or.inr (by omega)), hv1 e0]
      exact q_t (lg0 _) go
    exact ⟨vp_in_nI (by omega) (by omega), vp_in_nI (by omega) (by omega), vp_in_nI (by omega) (by omega), vp_in_nI (by omega) (by omega), ref⟩
  exact ⟨vp_in_nI (by omega) (by omega), vp_in_nI (by omega) (by omega), vp_in_nI (by omega) (by omega), vp_in_nI (by omega) (by omega), hw L fz t I J _ hS back⟩
theorem law_coats (hc : c ≤ 500000) (hz : z ≤ 7000000) (hL : L ≤ 3072) (hi : i + 6 ≤ L) (hI : lI A xs t I J) (nx : ∀ A' fz' t' I' J' c' z', c' ≤ c + 4 → z' ≤ z + 24 → lI A' xs t' I' J' → t_L_law_2513 60 L fz' t' Q c' z' (nI i) I' J') : t_L_law_1837 60 L fz t Q c z (nI i) I J := by
  obtain ⟨ho, hS, hM, hX⟩ := hI
  obtain ⟨A', e, he, v, ho', h1, h2⟩ := opx_2 ho (op_coats ho (xs (i + 1)))
  have hX2 : ∀ I1, co I I1 → I1 2000000 = xs := fun I1 hco => by rw [hco 2000000 (by omega)]; exact hX
  have hw := LW_coats (xs (i + 1)) h1 he
  refine b_L_law_1837 (by omega) (by omega) ?_
  rw [nI_add, nI_clamp (by omega), hX]
  have back : ∀ fz1 t1 I1 J1, cS A' t1 I1 J1 → co I I1 → (e = 0 → J1 117 0 = v.toInt64) → K_L_law_1848 60 fz t Q (c + 4) (z + 24) (nI i) (.inl (some (.int (nI e)))) (pm_hp L fz1 t1 I1 J1) := by
    intro fz1 t1 I1 J1 hS1 hco hv1
    show K_L_law_1848 60 fz t1 Q (c + 4) (z + 24) (nI i) (.inl (some (.int (nI e)))) (pm_hp L fz1 t1 I1 J1)
    refine kb_L_law_1848 (by omega) (by omega) ?_
    rw [nI_add, nI_clamp (by omega), hX2 I1 hco]
    have ref : pm_Ev 60 219 [.ref 85, .int (xs (i + 1))] (pm_hp L true t1 I1 J1) (K_L_law_1860 60 true t1 Q (c + 4) (z + 24) (nI i) (nI e)) := by
      refine h2 L true t1 I1 J1 _ (mS_co hM hco) fun I2 J2 r hM2 hmo hJ2 h0 hr => ?_
      obtain ⟨v2, hv2, rfl⟩ := hr
      refine kb_L_law_1860 (by omega) (by omega) (e_X11_thrown (kb_L_law_1866 (by omega) (by omega) ?_))
      have go : t_L_law_2513 60 L true t1 Q (c + 4) (z + 24) (nI i) I2 J2 := nx A' _ t1 I2 J2 (c + 4) (z + 24) (by omega) (by omega) ⟨ho', cS_co hS1 hmo (fun a ha => hJ2 a (Or.inl ha)), hM2, by rw [hmo 2000000 (by omega)]; exact hX2 I1 hco⟩
      rw [h0]
      refine q_t rfl ⟨fun _ => go, fun q => ?_⟩
      have e0 : e = 0 := (nI_eq (Nat.lt_of_le_of_lt he (by decide)) (by decide)).mp q
      have ev := hv2 e0
      subst ev
      rw [hJ2 117 (Or.inr (by omega)), hv1 e0]
      exact q_t (lg0 _) go
    exact ⟨vp_in_nI (by omega) (by omega), ref⟩
  exact ⟨vp_in_nI (by omega) (by omega), hw L fz t I J _ hS back⟩
theorem law_game (hc : c ≤ 500000) (hz : z ≤ 7000000) (hL : L ≤ 3072) (hi : i + 6 ≤ L) (hI : lI A xs t I J) (nx : ∀ A' fz' t' I' J' c' z', c' ≤ c + 4 → z' ≤ z + 24 → lI A' xs t' I' J' → t_L_law_2513 60 L fz' t' Q c' z' (nI i) I' J') : t_L_law_1893 60 L fz t Q c z (nI i) I J := by
  obtain ⟨ho, hS, hM, hX⟩ := hI
  obtain ⟨A', e, he, v, ho', h1, h2⟩ := opx_2 ho (op_game ho (xs (i + 1)) (xs (i + 2)) (xs (i + 3)))
  have hX2 : ∀ I1, co I I1 → I1 2000000 = xs := fun I1 hco => by rw [hco 2000000 (by omega)]; exact hX
  have hw := LW_game (xs (i + 1)) (xs (i + 2)) (xs (i + 3)) h1 he
  refine b_L_law_1893 (by omega) (by omega) ?_
  rw [nI_add, nI_add, nI_add, nI_clamp (by omega), nI_clamp (by omega), nI_clamp (by omega), hX]
  have back : ∀ fz1 t1 I1 J1, cS A' t1 I1 J1 → co I I1 → (e = 0 → J1 117 0 = v.toInt64) → K_L_law_1916 60 fz t Q (c + 4) (z + 24) (nI i) (.inl (some (.int (nI e)))) (pm_hp L fz1 t1 I1 J1) := by
    intro fz1 t1 I1 J1 hS1 hco hv1
    show K_L_law_1916 60 fz t1 Q (c + 4) (z + 24) (nI i) (.inl (some (.int (nI e)))) (pm_hp L fz1 t1 I1 J1)
    refine kb_L_law_1916 (by omega) (by omega) ?_
    rw [nI_add, nI_add, nI_add, nI_clamp (by omega), nI_clamp (by omega), nI_clamp (by omega), hX2 I1 hco]
    have ref : pm_Ev 60 222 [.ref 85, .int (xs (i + 1)), .int (xs (i + 2)), .int (xs (i + 3))] (pm_hp L true t1 I1 J1) (K_L_law_1940 60 true t1 Q (c + 4) (z + 24) (nI i) (nI e)) := by
      refine h2 L true t1 I1 J1 _ (mS_co hM hco) fun I2 J2 r hM2 hmo hJ2 h0 hr => ?_
      obtain ⟨v2, hv2, rfl⟩ := hr
      refine kb_L_law_1940 (by omega) (by omega) (e_X11_thrown (kb_L_law_1946 (by omega) (by omega) ?_))
      have go : t_L_law_2513 60 L true t1 Q (c + 4) (z + 24) (nI i) I2 J2 := nx A' _ t1 I2 J2 (c + 4) (z + 24) (by omega) (by omega) ⟨ho', cS_co hS1 hmo (fun a ha => hJ2 a (Or.inl ha)), hM2, by rw [hmo 2000000 (by omega)]; exact hX2 I1 hco⟩
      rw [h0]
      refine q_t rfl ⟨fun _ => go, fun q => ?_⟩
      have e0 : e = 0 := (nI_eq (Nat.lt_of_le_of_lt he (by decide)) (by decide)).mp q
      have ev := hv2 e0
      subst ev
      rw [hJ2 117 (Or.inr (by omega)), hv1 e0]
      exact q_t (lg0 _) go
    exact ⟨vp_in_nI (by omega) (by omega), vp_in_nI (by omega) (by omega), vp_in_nI (by omega) (by omega), ref⟩
  exact ⟨vp_in_nI (by omega) (by omega), vp_in_nI (by omega) (by omega), vp_in_nI (by omega) (by omega), hw L fz t I J _ hS back⟩
theorem law_drawn (hc : c ≤ 500000) (hz : z ≤ 7000000) (hL : L ≤ 3072) (hi : i + 6 ≤ L) (hI : lI A xs t I J) (nx : ∀ A' fz' t' I' J' c' z', c' ≤ c + 4 → z' ≤ z + 24 → lI A' xs t' I' J' → t_L_law_2513 60 L fz' t' Q c' z' (nI i) I' J') : t_L_law_1973 60 L fz t Q c z (nI i) I J := by
  obtain ⟨ho, hS, hM, hX⟩ := hI
  obtain ⟨A', e, he, v, ho', h1, h2⟩ := opx_2 ho (op_drawn ho (xs (i + 1)) (xs (i + 2)) (xs (i + 3)))
  have hX2 : ∀ I1, co I I1 → I1 2000000 = xs := fun I1 hco => by rw [hco 2000000 (by omega)]; exact hX
  have hw := LW_drawn (xs (i + 1)) (xs (i + 2)) (xs (i + 3)) h1 he
  refine b_L_law_1973 (by omega) (by omega) ?_
  rw [nI_add, nI_add, nI_add, nI_clamp (by omega), nI_clamp (by omega), nI_clamp (by omega), hX]
  have back : ∀ fz1 t1 I1 J1, cS A' t1 I1 J1 → co I I1 → (e = 0 → J1 117 0 = v.toInt64) → K_L_law_1996 60 fz t Q (c + 4) (z + 24) (nI i) (.inl (some (.int (nI e)))) (pm_hp L fz1 t1 I1 J1) := by
    intro fz1 t1 I1 J1 hS1 hco hv1
    show K_L_law_1996 60 fz t1 Q (c + 4) (z + 24) (nI i) (.inl (some (.int (nI e)))) (pm_hp L fz1 t1 I1 J1)
    refine kb_L_law_1996 (by omega) (by omega) ?_
    rw [nI_add, nI_add, nI_add, nI_clamp (by omega), nI_clamp (by omega), nI_clamp (by omega), hX2 I1 hco]
    have ref : pm_Ev 60 225 [.ref 85, .int (xs (i + 1)), .int (xs (i + 2)), .int (xs (i + 3))] (pm_hp L true t1 I1 J1) (K_L_law_2020 60 true t1 Q (c + 4) (z + 24) (nI i) (nI e)) := by
      refine h2 L true t1 I1 J1 _ (mS_co hM hco) fun I2 J2 r hM2 hmo hJ2 h0 hr => ?_
      obtain ⟨v2, hv2, rfl⟩ := hr
      refine kb_L_law_2020 (by omega) (by omega) (e_X11_thrown (kb_L_law_2026 (by omega) (by omega) ?_))
      have go : t_L_law_2513 60 L true t1 Q (c + 4) (z + 24) (nI i) I2 J2 := nx A' _ t1 I2 J2 (c + 4) (z + 24) (by omega) (by omega) ⟨ho', cS_co hS1 hmo (fun a ha => hJ2 a (Or.inl ha)), hM2, by rw [hmo 2000000 (by omega)]; exact hX2 I1 hco⟩
      rw [h0]
      refine q_t rfl ⟨fun _ => go, fun q => ?_⟩
      have e0 : e = 0 := (nI_eq (Nat.lt_of_le_of_lt he (by decide)) (by decide)).mp q
      have ev := hv2 e0
      subst ev
      rw [hJ2 117 (Or.inr (by omega)), hv1 e0]
      exact q_t (lg0 _) go
    exact ⟨vp_in_nI (by omega) (by omega), vp_in_nI (by omega) (by omega), vp_in_nI (by omega) (by omega), ref⟩
  exact ⟨vp_in_nI (by omega) (by omega), vp_in_nI (by omega) (by omega), vp_in_nI (by omega) (by omega), hw L fz t I J _ hS back⟩
theorem law_gap (hc : c ≤ 500000) (hz : z ≤ 7000000) (hL : L ≤ 3072) (hi : i + 6 ≤ L) (hI : lI A xs t I J) (nx : ∀ A' fz' t' I' J' c' z', c' ≤ c + 4 → z' ≤ z + 24 → lI A' xs t' I' J' → t_L_law_2513 60 L fz' t' Q c' z' (nI i) I' J') : t_L_law_2053 60 L fz t Q c z (nI i) I J := by
  obtain ⟨ho, hS, hM, hX⟩ := hI
  obtain ⟨A', e, he, v, ho', h1, h2⟩ := opx_2 ho (op_gap ho (xs (i + 1)) (xs (i + 2)))
  have hX2 : ∀ I1, co I I1 → I1 2000000 = xs := fun I1 hco => by rw [hco 2000000 (by omega)]; exact hX
  have hw := LW_gap (xs (i + 1)) (xs (i + 2)) h1 he
  refine b_L_law_2053 (by omega) (by omega) ?_
  rw [nI_add, nI_add, nI_clamp (by omega), nI_clamp (by omega), hX]
  have back : ∀ fz1 t1 I1 J1, cS A' t1 I1 J1 → co I I1 → (e = 0 → J1 117 0 = v.toInt64) → K_L_law_2070 60 fz t Q (c + 4) (z + 24) (nI i) (.inl (some (.int (nI e)))) (pm_hp L fz1 t1 I1 J1) := by
    intro fz1 t1 I1 J1 hS1 hco hv1
    show K_L_law_2070 60 fz t1 Q (c + 4) (z + 24) (nI i) (.inl (some (.int (nI e)))) (pm_hp L fz1 t1 I1 J1)
    refine kb_L_law_2070 (by omega) (by omega) ?_
    rw [nI_add, nI_add, nI_clamp (by omega), nI_clamp (by omega), hX2 I1 hco]
    have ref : pm_Ev 60 226 [.ref 85, .int (xs (i + 1)), .int (xs (i + 2))] (pm_hp L true t1 I1 J1) (K_L_law_2088 60 true t1 Q (c + 4) (z + 24) (nI i) (nI e)) := by
      refine h2 L true t1 I1 J1 _ (mS_co hM hco) fun I2 J2 r hM2 hmo hJ2 h0 hr => ?_
      obtain ⟨v2, hv2, rfl⟩ := hr
      refine kb_L_law_2088 (by omega) (by omega) (e_X11_thrown (kb_L_law_2094 (by omega) (by omega) ?_))
      have go : t_L_law_2513 60 L true t1 Q (c + 4) (z + 24) (nI i) I2 J2 := nx A' _ t1 I2 J2 (c + 4) (z + 24) (by omega) (by omega) ⟨ho', cS_co hS1 hmo (fun a ha => hJ2 a (Or.inl ha)), hM2, by rw [hmo 2000000 (by omega)]; exact hX2 I1 hco⟩
      rw [h0]
      refine q_t rfl ⟨fun _ => go, fun q => ?_⟩
      have e0 : e = 0 := (nI_eq (Nat.lt_of_le_of_lt he (by decide)) (by decide)).mp q
      have ev := hv2 e0
      subst ev
      rw [hJ2 117 (Or.inr (by omega)), hv1 e0]
      exact q_t (lg0 _) go
    exact ⟨vp_in_nI (by omega) (by omega), vp_in_nI (by omega) (by omega), ref⟩
  exact ⟨vp_in_nI (by omega) (by omega), vp_in_nI (by omega) (by omega), hw L fz t I J _ hS back⟩
theorem law_unlike (hc : c ≤ 500000) (hz : z ≤ 7000000) (hL : L ≤ 3072) (hi : i + 6 ≤ L) (hI : lI A xs t I J) (nx : ∀ A' fz' t' I' J' c' z', c' ≤ c + 4 → z' ≤ z + 24 → lI A' xs t' I' J' → t_L_law_2513 60 L fz' t' Q c' z' (nI i) I' J') : t_L_law_2121 60 L fz t Q c z (nI i) I J := by
  obtain ⟨ho, hS, hM, hX⟩ := hI
  obtain ⟨A', e, he, v, ho', h1, h2⟩ := opx_2 ho (op_unlike ho (xs (i + 1)) (xs (i + 2)))
  have hX2 : ∀ I1, co I I1 → I1 2000000 = xs := fun I1 hco => by rw [hco 2000000 (by omega)]; exact hX
  have hw := LW_unlike (xs (i + 1)) (xs (i + 2)) h1 he
  refine b_L_law_2121 (by omega) (by omega) ?_
  rw [nI_add, nI_add, nI_clamp (by omega), nI_clamp (by omega), hX]
  have back : ∀ fz1 t1 I1 J1, cS A' t1 I1 J1 → co I I1 → (e = 0 → J1 117 0 = v.toInt64) → K_L_law_2138 60 fz t Q (c + 4) (z + 24) (nI i) (.inl (some (.int (nI e)))) (pm_hp L fz1 t1 I1 J1) := by
    intro fz1 t1 I1 J1 hS1 hco hv1
    show K_L_law_2138 60 fz t1 Q (c + 4) (z + 24) (nI i) (.inl (some (.int (nI e)))) (pm_hp L fz1 t1 I1 J1)
    refine kb_L_law_2138 (by omega) (by omega) ?_
    rw [nI_add, nI_add, nI_clamp (by omega), nI_clamp (by omega), hX2 I1 hco]
    have ref : pm_Ev 60 227 [.ref 85, .int (xs (i + 1)), .int (xs (i + 2))] (pm_hp L true t1 I1 J1) (K_L_law_2156 60 true t1 Q (c + 4) (z + 24) (nI i) (nI e)) := by
      refine h2 L true t1 I1 J1 _ (mS_co hM hco) fun I2 J2 r hM2 hmo hJ2 h0 hr => ?_
      obtain ⟨v2, hv2, rfl⟩ := hr
      refine kb_L_law_2156 (by omega) (by omega) (e_X11_thrown (kb_L_law_2162 (by omega) (by omega) ?_))
      have go : t_L_law_2513 60 L true t1 Q (c + 4) (z + 24) (nI i) I2 J2 := nx A' _ t1 I2 J2 (c + 4) (z + 24) (by omega) (by omega) ⟨ho', cS_co hS1 hmo (fun a ha => hJ2 a (Or.inl ha)), hM2, by rw [hmo 2000000 (by omega)]; exact hX2 I1 hco⟩
      rw [h0]
      refine q_t rfl ⟨fun _ => go, fun q => ?_⟩
      have e0 : e = 0 := (nI_eq (Nat.lt_of_le_of_lt he (by decide)) (by decide)).mp q
      have ev := hv2 e0
      subst ev
      rw [hJ2 117 (Or.inr (by omega)), hv1 e0]
      exact q_t (lg0 _) go
    exact ⟨vp_in_nI (by omega) (by omega), vp_in_nI (by omega) (by omega), ref⟩
  exact ⟨vp_in_nI (by omega) (by omega), vp_in_nI (by omega) (by omega), hw L fz t I J _ hS back⟩
theorem law_family (hc : c ≤ 500000) (hz : z ≤ 7000000) (hL : L ≤ 3072) (hi : i + 6 ≤ L) (hI : lI A xs t I J) (nx : ∀ A' fz' t' I' J' c' z', c' ≤ c + 4 → z' ≤ z + 24 → lI A' xs t' I' J' → t_L_law_2513 60 L fz' t' Q c' z' (nI i) I' J') : t_L_law_2189 60 L fz t Q c z (nI i) I J := by
  obtain ⟨ho, hS, hM, hX⟩ := hI
  obtain ⟨A', e, he, v, ho', h1, h2⟩ := opx_2 ho (op_family ho (xs (i + 1)))
  have hX2 : ∀ I1, co I I1 → I1 2000000 = xs := fun I1 hco => by rw [hco 2000000 (by omega)]; exact hX
  have hw := LW_family (xs (i + 1)) h1 he
  refine b_L_law_2189 (by omega) (by omega) ?_
  rw [nI_add, nI_clamp (by omega), hX]
  have back : ∀ fz1 t1 I1 J1, cS A' t1 I1 J1 → co I I1 → (e = 0 → J1 117 0 = v.toInt64) → K_L_law_2200 60 fz t Q (c + 4) (z + 24) (nI i) (.inl (some (.int (nI e)))) (pm_hp L fz1 t1 I1 J1) := by
    intro fz1 t1 I1 J1 hS1 hco hv1
    show K_L_law_2200 60 fz t1 Q (c + 4) (z + 24) (nI i) (.inl (some (.int (nI e)))) (pm_hp L fz1 t1 I1 J1)
    refine kb_L_law_2200 (by omega) (by omega) ?_
    rw [nI_add, nI_clamp (by omega), hX2 I1 hco]
    have ref : pm_Ev 60 228 [.ref 85, .int (xs (i + 1))] (pm_hp L true t1 I1 J1) (K_L_law_2212 60 true t1 Q (c + 4) (z + 24) (nI i) (nI e)) := by
      refine h2 L true t1 I1 J1 _ (mS_co hM hco) fun I2 J2 r hM2 hmo hJ2 h0 hr => ?_
      obtain ⟨v2, hv2, rfl⟩ := hr
      refine kb_L_law_2212 (by omega) (by omega) (e_X11_thrown (kb_L_law_2218 (by omega) (by omega) ?_))
      have go : t_L_law_2513 60 L true t1 Q (c + 4) (z + 24) (nI i) I2 J2 := nx A' _ t1 I2 J2 (c + 4) (z + 24) (by omega) (by omega) ⟨ho', cS_co hS1 hmo (fun a ha => hJ2 a (Or.inl ha)), hM2, by rw [hmo 2000000 (by omega)]; exact hX2 I1 hco⟩
      rw [h0]
      refine q_t rfl ⟨fun _ => go, fun q => ?_⟩
      have e0 : e = 0 := (nI_eq (Nat.lt_of_le_of_lt he (by decide)) (by decide)).mp q
      have ev := hv2 e0
      subst ev
      rw [hJ2 117 (Or.inr (by omega)), hv1 e0]
      exact q_t (lg0 _) go
    exact ⟨vp_in_nI (by omega) (by omega), ref⟩
  exact ⟨vp_in_nI (by omega) (by omega), hw L fz t I J _ hS back⟩
theorem law_turning (hc : c ≤ 500000) (hz : z ≤ 7000000) (hL : L ≤ 3072) (hi : i + 6 ≤ L) (hI : lI A xs t I J) (nx : ∀ A' fz' t' I' J' c' z', c' ≤ c + 4 → z' ≤ z + 24 → lI A' xs t' I' J' → t_L_law_2513 60 L fz' t' Q c' z' (nI i) I' J') : t_L_law_2245 60 L fz t Q c z (nI i) I J := by
  obtain ⟨ho, hS, hM, hX⟩ := hI
  obtain ⟨A', e, he, v, ho', h1, h2⟩ := opx_2 ho (op_turning ho (xs (i + 1)))
  have hX2 : ∀ I1, co I I1 → I1 2000000 = xs := fun I1 hco => by rw [hco 2000000 (by omega)]; exact hX
  have hw := LW_turning (xs (i + 1)) h1 he
  refine b_L_law_2245 (by omega) (by omega) ?_
  rw [nI_add, nI_clamp (by omega), hX]
  have back : ∀ fz1 t1 I1 J1, cS A' t1 I1 J1 → co I I1 → (e = 0 → J1 117 0 = v.toInt64) → K_L_law_2256 60 fz t Q (c + 4) (z + 24) (nI i) (.inl (some (.int (nI e)))) (pm_hp L fz1 t1 I1 J1) := by
    intro fz1 t1 I1 J1 hS1 hco hv1
    show K_L_law_2256 60 fz t1 Q (c + 4) (z + 24) (nI i) (.inl (some (.int (nI e)))) (pm_hp L fz1 t1 I1 J1)
    refine kb_L_law_2256 (by omega) (by omega) ?_
    rw [nI_add, nI_clamp (by omega), hX2 I1 hco]
    have ref : pm_Ev 60 229 [.ref 85, .int (xs (i + 1))] (pm_hp L true t1 I1 J1) (K_L_law_2268 60 true t1 Q (c + 4) (z + 24) (nI i) (nI e)) := by
      refine h2 L true t1 I1 J1 _ (mS_co hM hco) fun I2 J2 r hM2 hmo hJ2 h0 hr => ?_
      obtain ⟨v2, hv2, rfl⟩ := hr
      refine kb_L_law_2268 (by omega) (by omega) (e_X11_thrown (kb_L_law_2274 (by omega) (by omega) ?_))
      have go : t_L_law_2513 60 L true t1 Q (c + 4) (z + 24) (nI i) I2 J2 := nx A' _ t1 I2 J2 (c + 4) (z + 24) (by omega) (by omega) ⟨ho', cS_co hS1 hmo (fun a ha => hJ2 a (Or.inl ha)), hM2, by rw [hmo 2000000 (by omega)]; exact hX2 I1 hco⟩
      rw [h0]
      refine q_t rfl ⟨fun _ => go, fun q => ?_⟩
      have e0 : e = 0 := (nI_eq (Nat.lt_of_le_of_lt he (by decide)) (by decide)).mp q
      have ev := hv2 e0
      subst ev
      rw [hJ2 117 (Or.inr (by omega)), hv1 e0]
      exact q_t (lg0 _) go
    exact ⟨vp_in_nI (by omega) (by omega), ref⟩
  exact ⟨vp_in_nI (by omega) (by omega), hw L fz t I J _ hS back⟩
theorem law_leftOut (hc : c ≤ 500000) (hz : z ≤ 7000000) (hL : L ≤ 3072) (hi : i + 6 ≤ L) (hI : lI A xs t I J) (nx : ∀ A' fz' t' I' J' c' z', c' ≤ c + 4 → z' ≤ z + 24 → lI A' xs t' I' J' → t_L_law_2513 60 L fz' t' Q c' z' (nI i) I' J') : t_L_law_2301 60 L fz t Q c z (nI i) I J := by
  obtain ⟨ho, hS, hM, hX⟩ := hI
  obtain ⟨A', e, he, v, ho', h1, h2⟩ := opx_2 ho (op_leftOut ho (xs (i + 1)))
  have hX2 : ∀ I1, co I I1 → I1 2000000 = xs := fun I1 hco => by rw [hco 2000000 (by omega)]; exact hX
  have hw := LW_leftOut (xs (i + 1)) h1 he
  refine b_L_law_2301 (by omega) (by omega) ?_
  rw [nI_add, nI_clamp (by omega), hX]
  have back : ∀ fz1 t1 I1 J1, cS A' t1 I1 J1 → co I I1 → (e = 0 → J1 117 0 = v.toInt64) → K_L_law_2312 60 fz t Q (c + 4) (z + 24) (nI i) (.inl (some (.int (nI e)))) (pm_hp L fz1 t1 I1 J1) := by
    intro fz1 t1 I1 J1 hS1 hco hv1
    show K_L_law_2312 60 fz t1 Q (c + 4) (z + 24) (nI i) (.inl (some (.int (nI e)))) (pm_hp L fz1 t1 I1 J1)
    refine kb_L_law_2312 (by omega) (by omega) ?_
    rw [nI_add, nI_clamp (by omega), hX2 I1 hco]
    have ref : pm_Ev 60 230 [.ref 85, .int (xs (i + 1))] (pm_hp L true t1 I1 J1) (K_L_law_2324 60 true t1 Q (c + 4) (z + 24) (nI i) (nI e)) := by
      refine h2 L true t1 I1 J1 _ (mS_co hM hco) fun I2 J2 r hM2 hmo hJ2 h0 hr => ?_
      obtain ⟨v2, hv2, rfl⟩ := hr
      refine kb_L_law_2324 (by omega) (by omega) (e_X11_thrown (kb_L_law_2330 (by omega) (by omega) ?_))
      have go : t_L_law_2513 60 L true t1 Q (c + 4) (z + 24) (nI i) I2 J2 := nx A' _ t1 I2 J2 (c + 4) (z + 24) (by omega) (by omega) ⟨ho', cS_co hS1 hmo (fun a ha => hJ2 a (Or.inl ha)), hM2, by rw [hmo 2000000 (by omega)]; exact hX2 I1 hco⟩
      rw [h0]
      refine q_t rfl ⟨fun _ => go, fun q => ?_⟩
      have e0 : e = 0 := (nI_eq (Nat.lt_of_le_of_lt he (by decide)) (by decide)).mp q
      have ev := hv2 e0
      subst ev
      rw [hJ2 117 (Or.inr (by omega)), hv1 e0]
      exact q_t (lg0 _) go
    exact ⟨vp_in_nI (by omega) (by omega), ref⟩
  exact ⟨vp_in_nI (by omega) (by omega), hw L fz t I J _ hS back⟩
theorem law_cutting (hc : c ≤ 500000) (hz : z ≤ 7000000) (hL : L ≤ 3072) (hi : i + 6 ≤ L) (hI : lI A xs t I J) (nx : ∀ A' fz' t' I' J' c' z', c' ≤ c + 4 → z' ≤ z + 24 → lI A' xs t' I' J' → t_L_law_2513 60 L fz' t' Q c' z' (nI i) I' J') : t_L_law_2357 60 L fz t Q c z (nI i) I J := by
  obtain ⟨ho, hS, hM, hX⟩ := hI
  obtain ⟨A', e, he, v, ho', h1, h2⟩ := opx_2 ho (op_cutting ho (xs (i + 1)))
  have hX2 : ∀ I1, co I I1 → I1 2000000 = xs := fun I1 hco => by rw [hco 2000000 (by omega)]; exact hX
  have hw := LW_cutting (xs (i + 1)) h1 he
  refine b_L_law_2357 (by omega) (by omega) ?_
  rw [nI_add, nI_clamp (by omega), hX]
  have back : ∀ fz1 t1 I1 J1, cS A' t1 I1 J1 → co I I1 → (e = 0 → J1 117 0 = v.toInt64) → K_L_law_2368 60 fz t Q (c + 4) (z + 24) (nI i) (.inl (some (.int (nI e)))) (pm_hp L fz1 t1 I1 J1) := by
    intro fz1 t1 I1 J1 hS1 hco hv1
    show K_L_law_2368 60 fz t1 Q (c + 4) (z + 24) (nI i) (.inl (some (.int (nI e)))) (pm_hp L fz1 t1 I1 J1)
    refine kb_L_law_2368 (by omega) (by omega) ?_
    rw [nI_add, nI_clamp (by omega), hX2 I1 hco]
    have ref : pm_Ev 60 231 [.ref 85, .int (xs (i + 1))] (pm_hp L true t1 I1 J1) (K_L_law_2380 60 true t1 Q (c + 4) (z + 24) (nI i) (nI e)) := by
      refine h2 L true t1 I1 J1 _ (mS_co hM hco) fun I2 J2 r hM2 hmo hJ2 h0 hr => ?_
      obtain ⟨v2, hv2, rfl⟩ := hr
      refine kb_L_law_2380 (by omega) (by omega) (e_X11_thrown (kb_L_law_2386 (by omega) (by omega) ?_))
      have go : t_L_law_2513 60 L true t1 Q (c + 4) (z + 24) (nI i) I2 J2 := nx A' _ t1 I2 J2 (c + 4) (z + 24) (by omega) (by omega) ⟨ho', cS_co hS1 hmo (fun a ha => hJ2 a (Or.inl ha)), hM2, by rw [hmo 2000000 (by omega)]; exact hX2 I1 hco⟩
      rw [h0]
      refine q_t rfl ⟨fun _ => go, fun q => ?_⟩
      have e0 : e = 0 := (nI_eq (Nat.lt_of_le_of_lt he (by decide)) (by decide)).mp q
      have ev := hv2 e0
      subst ev
      rw [hJ2 117 (Or.inr (by omega)), hv1 e0]
      exact q_t (lg0 _) go
    exact ⟨vp_in_nI (by omega) (by omega), ref⟩
  exact ⟨vp_in_nI (by omega) (by omega), hw L fz t I J _ hS back⟩
theorem law_mirrored (hc : c ≤ 500000) (hz : z ≤ 7000000) (hL : L ≤ 3072) (hi : i + 6 ≤ L) (hI : lI A xs t I J) (nx : ∀ A' fz' t' I' J' c' z', c' ≤ c + 4 → z' ≤ z + 24 → lI A' xs t' I' J' → t_L_law_2513 60 L fz' t' Q c' z' (nI i) I' J') : t_L_law_2413 60 L fz t Q c z (nI i) I J := by
  obtain ⟨ho, hS, hM, hX⟩ := hI
  obtain ⟨A', e, he, v, ho', h1, h2⟩ := opx_2 ho (op_mirrored ho (xs (i + 1)))
  have hX2 : ∀ I1, co I I1 → I1 2000000 = xs := fun I1 hco => by rw [hco 2000000 (by omega)]; exact hX
  have hw := LW_mirrored (xs (i + 1)) h1 he
  refine b_L_law_2413 (by omega) (by omega) ?_
  rw [nI_add, nI_clamp (by omega), hX]
  have back : ∀ fz1 t1 I1 J1, cS A' t1 I1 J1 → co I I1 → (e = 0 → J1 117 0 = lb v) → K_L_law_2424 60 fz t Q (c + 4) (z + 24) (nI i) (.inl (some (.int (nI e)))) (pm_hp L fz1 t1 I1 J1) := by
    intro fz1 t1 I1 J1 hS1 hco hv1
    show K_L_law_2424 60 fz t1 Q (c + 4) (z + 24) (nI i) (.inl (some (.int (nI e)))) (pm_hp L fz1 t1 I1 J1)
    refine kb_L_law_2424 (by omega) (by omega) ?_
    rw [nI_add, nI_clamp (by omega), hX2 I1 hco]
    have ref : pm_Ev 60 232 [.ref 85, .int (xs (i + 1))] (pm_hp L true t1 I1 J1) (K_L_law_2436 60 true t1 Q (c + 4) (z + 24) (nI i) (nI e)) := by
      refine h2 L true t1 I1 J1 _ (mS_co hM hco) fun I2 J2 r hM2 hmo hJ2 h0 hr => ?_
      obtain ⟨v2, hv2, rfl⟩ := hr
      refine kb_L_law_2436 (by omega) (by omega) (e_X11_thrown (kb_L_law_2442 (by omega) (by omega) ?_))
      have go : t_L_law_2513 60 L true t1 Q (c + 4) (z + 24) (nI i) I2 J2 := nx A' _ t1 I2 J2 (c + 4) (z + 24) (by omega) (by omega) ⟨ho', cS_co hS1 hmo (fun a ha => hJ2 a (Or.inl ha)), hM2, by rw [hmo 2000000 (by omega)]; exact hX2 I1 hco⟩
      rw [h0]
      refine q_t rfl ⟨fun _ => go, fun q => ?_⟩
      have e0 : e = 0 := (nI_eq (Nat.lt_of_le_of_lt he (by decide)) (by decide)).mp q
      have ev := hv2 e0
      subst ev
      rw [hJ2 117 (Or.inr (by omega)), hv1 e0]
      refine ⟨fun w => ?_, fun w => ?_⟩
      · unfold lb; rw [if_pos w]; exact q_t (lg0 _) go
      · unfold lb; rw [if_neg w]; exact q_t (lg0 _) go
    exact ⟨vp_in_nI (by omega) (by omega), ref⟩
  exact ⟨vp_in_nI (by omega) (by omega), hw L fz t I J _ hS back⟩
theorem law_swap (hc : c ≤ 500000) (hz : z ≤ 7000000) (hL : L ≤ 3072) (hi : i + 6 ≤ L) (hI : lI A xs t I J) (nx : ∀ A' fz' t' I' J' c' z', c' ≤ c + 4 → z' ≤ z + 24 → lI A' xs t' I' J' → t_L_law_2513 60 L fz' t' Q c' z' (nI i) I' J') : t_L_law_2476 60 L fz t Q c z (nI i) I J := by
  obtain ⟨ho, hS, hM, hX⟩ := hI
  obtain ⟨A', e, he, v, ho', h1, h2⟩ := opx_2 ho (op_swap ho )
  have hX2 : ∀ I1, co I I1 → I1 2000000 = xs := fun I1 hco => by rw [hco 2000000 (by omega)]; exact hX
  refine b_L_law_2476 (by omega) (by omega) ?_
  refine CS_up h1 L fz t I J _ hS fun fz1 t1 I1 J1 hS1 hco hJ => ?_
  have he0 : e = 0 := Nat.le_zero.mp (Nat.le_trans he (by decide))
  subst he0
  show K_L_law_2480 60 fz t1 Q c z (nI i) (.inl (some (.int v))) (pm_hp L fz1 t1 I1 J1)
  refine kb_L_law_2480 (by omega) (by omega) ?_
  refine h2 L fz t1 I1 J1 _ (mS_co hM hco) fun I2 J2 r hM2 hmo hJ2 _ hr => ?_
  obtain ⟨v2, hv2, rfl⟩ := hr
  have ev := hv2 rfl
  subst ev
  refine kb_L_law_2484 (by omega) (by omega) (q_t rfl (nx A' _ t1 I2 J2 c z (by omega) (by omega) ⟨ho', cS_co hS1 hmo (fun a ha => hJ2 a (Or.inl ha)), hM2, ?_⟩))
  rw [hmo 2000000 (by omega)]; exact hX2 I1 hco
theorem law_image (hc : c ≤ 500000) (hz : z ≤ 7000000) (hL : L ≤ 3072) (hi : i + 6 ≤ L) (hI : lI A xs t I J) (nx : ∀ A' fz' t' I' J' c' z', c' ≤ c + 4 → z' ≤ z + 24 → lI A' xs t' I' J' → t_L_law_2513 60 L fz' t' Q c' z' (nI i) I' J') : t_L_law_2489 60 L fz t Q c z (nI i) I J := by
  obtain ⟨ho, hS, hM, hX⟩ := hI
  obtain ⟨A', ho', h1, h2⟩ := op_image ho
  refine b_L_law_2489 (by omega) (by omega) (CS_up h1 L fz t I J _ hS fun fz1 t1 I1 J1 hS1 hco hJ => ?_)
  show K_L_law_2493 60 fz t1 Q c z (nI i) (.inl none) (pm_hp L fz1 t1 I1 J1)
  refine kb_L_law_2493 (by omega) (by omega) (h2 L _ t1 I1 J1 _ (mS_co hM hco) fun I2 J2 r hM2 hmo hJ2 _ hr => ?_)
  subst hr
  refine kb_L_law_2497 (by omega) (by omega) (nx A' _ t1 I2 J2 c z (by omega) (by omega) ⟨ho', cS_co hS1 hmo (fun a ha => hJ2 a (Or.inl ha)), hM2, ?_⟩)
  rw [hmo 2000000 (by omega), hco 2000000 (by omega)]; exact hX
theorem law_restore (hc : c ≤ 500000) (hz : z ≤ 7000000) (hL : L ≤ 3072) (hi : i + 6 ≤ L) (hI : lI A xs t I J) (nx : ∀ A' fz' t' I' J' c' z', c' ≤ c + 4 → z' ≤ z + 24 → lI A' xs t' I' J' → t_L_law_2513 60 L fz' t' Q c' z' (nI i) I' J') : t_L_law_2500 60 L fz t Q c z (nI i) I J := by
  obtain ⟨ho, hS, hM, hX⟩ := hI
  obtain ⟨A', e, he, v, ho', h1, h2⟩ := op_restore ho 
  have hX2 : ∀ I1, co I I1 → I1 2000000 = xs := fun I1 hco => by rw [hco 2000000 (by omega)]; exact hX
  refine b_L_law_2500 (by omega) (by omega) ?_
  refine CS_up h1 L fz t I J _ hS fun fz1 t1 I1 J1 hS1 hco hJ => ?_
  have he0 : e = 0 := Nat.le_zero.mp (Nat.le_trans he (by decide))
  subst he0
  show K_L_law_2504 60 fz t1 Q c z (nI i) (.inl (some (.int v))) (pm_hp L fz1 t1 I1 J1)
  refine kb_L_law_2504 (by omega) (by omega) ?_
  refine h2 L fz t1 I1 J1 _ (mS_co hM hco) fun I2 J2 r hM2 hmo hJ2 _ hr => ?_
  obtain ⟨v2, hv2, rfl⟩ := hr
  have ev := hv2 rfl
  subst ev
  refine kb_L_law_2508 (by omega) (by omega) (q_t rfl (nx A' _ t1 I2 J2 c z (by omega) (by omega) ⟨ho', cS_co hS1 hmo (fun a ha => hJ2 a (Or.inl ha)), hM2, ?_⟩))
  rw [hmo 2000000 (by omega)]; exact hX2 I1 hco
theorem law_loop (hL : L ≤ 3072) (hQ : Q = fun r _ => r = .inl (some (.int 1))) : ∀ (j k : Nat) (A : St) (fz t : Bool) (c z : Nat) (I : Nat → Nat → Int32) (J : Nat → Nat → Int64), k + j = L / 6 → c ≤ 4 * k + 2000 → z ≤ 24 * k + 200000 → lI A xs t I J → t_L_law_23 60 L fz t Q c z (nI (6 * k)) I J := by
  intro j
  induction j with
  | zero =>
    intro k A fz t c z I J hk hc hz hI
    refine b_L_law_23 (by omega) (by omega) (q_t ?_ ?_)
    · rw [fa_lt, nI_toInt (by omega), pk_sub_toInt (by omega) (by omega)]; omega
    · rw [hQ]; rfl
  | succ j ih =>
    intro k A fz t c z I J hk hc hz hI
    have nx : ∀ (A' : St) (fz' t' : Bool) (I' : Nat → Nat → Int32) (J' : Nat → Nat → Int64) (c' z' : Nat), c' ≤ c + 4 → z' ≤ z + 24 → lI A' xs t' I' J' → t_L_law_2513 60 L fz' t' Q c' z' (nI (6 * k)) I' J' := fun A' fz' t' I' J' c' z' h1 h2 h3 => by
      refine b_L_law_2513 (by omega) (by omega) ?_
      rw [nI_add, show 6 * k + 6 = 6 * (k + 1) by omega]
      exact ih (k + 1) A' fz' t' c' z' I' J' (by omega) (by omega) (by omega) h3
    refine b_L_law_23 (by omega) (by omega) (q_f ?_ ⟨vp_in_nI (by omega) (by omega), ?_⟩)
    · rw [fa_lt, nI_toInt (by omega), pk_sub_toInt (by omega) (by omega)]; omega
    have hi : 6 * k + 6 ≤ L := by omega
    exact ⟨fun _ => nx A fz t I J c z (by omega) (by omega) hI, fun _ => law_feed (by omega) (by omega) hL hi hI nx, fun _ => law_chapel (by omega) (by omega) hL hi hI nx, fun _ => law_fault (by omega) (by omega) hL hi hI nx, fun _ => law_count (by omega) (by omega) hL hi hI nx, fun _ => law_card (by omega) (by omega) hL hi hI nx, fun _ => law_lace (by omega) (by omega) hL hi hI nx, fun _ => law_figure (by omega) (by omega) hL hi hI nx, fun _ => law_snarl (by omega) (by omega) hL hi hI nx, fun _ => law_sundays (by omega) (by omega) hL hi hI nx, fun _ => law_punch (by omega) (by omega) hL hi hI nx, fun _ => law_turn (by omega) (by omega) hL hi hI nx, fun _ => law_cut (by omega) (by omega) hL hi hI nx, fun _ => law_change (by omega) (by omega) hL hi hI nx, fun _ => law_undo (by omega) (by omega) hL hi hI nx, fun _ => law_then (by omega) (by omega) hL hi hI nx, fun _ => law_granted (by omega) (by omega) hL hi hI nx, fun _ => law_worn (by omega) (by omega) hL hi hI nx, fun _ => law_changes (by omega) (by omega) hL hi hI nx, fun _ => law_floats (by omega) (by omega) hL hi hI nx, fun _ => law_stands (by omega) (by omega) hL hi hI nx, fun _ => law_order (by omega) (by omega) hL hi hI nx, fun _ => law_punching (by omega) (by omega) hL hi hI nx, fun _ => law_same (by omega) (by omega) hL hi hI nx, fun _ => law_see (by omega) (by omega) hL hi hI nx, fun _ => law_forget (by omega) (by omega) hL hi hI nx, fun _ => law_backwards (by omega) (by omega) hL hi hI nx, fun _ => law_punched (by omega) (by omega) hL hi hI nx, fun _ => law_next (by omega) (by omega) hL hi hI nx, fun _ => law_toCut (by omega) (by omega) hL hi hI nx, fun _ => law_coats (by omega) (by omega) hL hi hI nx, fun _ => law_game (by omega) (by omega) hL hi hI nx, fun _ => law_drawn (by omega) (by omega) hL hi hI nx, fun _ => law_gap (by omega) (by omega) hL hi hI nx, fun _ => law_unlike (by omega) (by omega) hL hi hI nx, fun _ => law_family (by omega) (by omega) hL hi hI nx, fun _ => law_turning (by omega) (by omega) hL hi hI nx, fun _ => law_leftOut (by omega) (by omega) hL hi hI nx, fun _ => law_cutting (by omega) (by omega) hL hi hI nx, fun _ => law_mirrored (by omega) (by omega) hL hi hI nx, fun _ => law_swap (by omega) (by omega) hL hi hI nx, fun _ => law_image (by omega) (by omega) hL hi hI nx, fun _ => law_restore (by omega) (by omega) hL hi hI nx⟩
end Law
