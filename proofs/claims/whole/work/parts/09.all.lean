theorem pm_ckm_all : ∀ k, k < 319 → pm_ckm k = true := sorry
theorem pm_ckw_all : ∀ k, k < 319 → pm_ckw k = true := sorry
theorem pm_cw_all : ∀ k, k < 318 → pm_cw k ∈ lw_tbl := sorry
def pm_ckv (k pc : Nat) : Bool := match pm_tab k pc with
  | some (.invokevirtual _, _, [0, k', _, _, _], _) => !decide ((pm_nm k').name = "<init>")
  | _ => true
theorem pm_ckv_all : (List.range 319).all (fun k => (List.range (pm_len k)).all (pm_ckv k)) = true := sorry
def pm_cki (k : Nat) : Bool := decide ((pm_nm k).name ≠ "<init>") || (decide (pm_rt k = none) && (pm_hh k).isEmpty)
theorem pm_cki_all : (List.range 319).all pm_cki = true := sorry
