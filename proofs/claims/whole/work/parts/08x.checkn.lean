/-! two small checks more -/
def pm_ckv (k pc : Nat) : Bool := match pm_tab k pc with
  | some (.invokevirtual _, _, [0, k', _, _, _], _) => !decide ((pm_nm k').name = "<init>")
  | _ => true
theorem pm_ckv_all : (List.range 319).all (fun k => (List.range (pm_len k)).all (pm_ckv k)) = true := by decide +kernel
def pm_cki (k : Nat) : Bool := decide ((pm_nm k).name ≠ "<init>") || (decide (pm_rt k = none) && (pm_hh k).isEmpty)
theorem pm_cki_all : (List.range 319).all pm_cki = true := by decide +kernel
