/-! what holds of the classes, and the words that go with every call -/
def pm_tyok (t : Nat) (ty : FieldType) : Bool := match t with
  | 0 => decide (ty = .int)
  | 1 => decide (ty = .boolean)
  | 2 => decide (ty = .long)
  | 3 => refKind ty
  | _ => false
def pm_clsP (ci : Nat) (ty : Nat → FieldType) : Prop := vwCl[ci]? = some (pm_cT ci) ∧ (pm_cT ci).2.2 = pm_nf ci ∧ GoodIn lw_tbl (u_ws (pm_cT ci).1 (pm_cT ci).2.1 (pm_nf ci)) ∧ (∀ k, k < pm_nf ci → parseFieldDescriptor ((pm_cT ci).2.1 k).2.2.1 = some (ty k)) ∧ (∀ a, a < pm_nf ci → ∀ b, b < pm_nf ci → a ≠ b → ((pm_cT ci).2.1 a).2.1 ≠ ((pm_cT ci).2.1 b).2.1) ∧ (∀ k, k < pm_nf ci → pm_tyok (pm_ft ci k) (ty k) = true) ∧ pm_cn ci = (pm_cT ci).1 ∧ (∀ k, k < pm_nf ci → ((pm_cT ci).2.1 k).1 = (pm_cT ci).1)
theorem pm_cls0 : pm_clsP 0 tyX0 := ⟨rfl, rfl, pm_in0, tyX0_ok, nmX0, by decide +kernel, rfl, by decide +kernel⟩
theorem pm_cls1 : pm_clsP 1 tyX1 := ⟨rfl, rfl, pm_in1, tyX1_ok, nmX1, by decide +kernel, rfl, by decide +kernel⟩
theorem pm_cls2 : pm_clsP 2 tyX2 := ⟨rfl, rfl, pm_in2, tyX2_ok, nmX2, by decide +kernel, rfl, by decide +kernel⟩
theorem pm_cls3 : pm_clsP 3 tyX3 := ⟨rfl, rfl, pm_in3, tyX3_ok, nmX3, by decide +kernel, rfl, by decide +kernel⟩
theorem pm_cls4 : pm_clsP 4 tyX4 := ⟨rfl, rfl, pm_in4, tyX4_ok, nmX4, by decide +kernel, rfl, by decide +kernel⟩
theorem pm_cls5 : pm_clsP 5 tyX5 := ⟨rfl, rfl, pm_in5, tyX5_ok, nmX5, by decide +kernel, rfl, by decide +kernel⟩
theorem pm_cls6 : pm_clsP 6 tyX6 := ⟨rfl, rfl, pm_in6, tyX6_ok, nmX6, by decide +kernel, rfl, by decide +kernel⟩
theorem pm_cls7 : pm_clsP 7 tyX7 := ⟨rfl, rfl, pm_in7, tyX7_ok, nmX7, by decide +kernel, rfl, by decide +kernel⟩
theorem pm_cls8 : pm_clsP 8 tyX8 := ⟨rfl, rfl, pm_in8, tyX8_ok, nmX8, by decide +kernel, rfl, by decide +kernel⟩
theorem pm_cls9 : pm_clsP 9 tyX9 := ⟨rfl, rfl, pm_in9, tyX9_ok, nmX9, by decide +kernel, rfl, by decide +kernel⟩
theorem pm_cls10 : pm_clsP 10 tyX10 := ⟨rfl, rfl, pm_in10, tyX10_ok, nmX10, by decide +kernel, rfl, by decide +kernel⟩
theorem pm_cls11 : pm_clsP 11 tyX11 := ⟨rfl, rfl, pm_in11, tyX11_ok, nmX11, by decide +kernel, rfl, by decide +kernel⟩
theorem pm_cls : ∀ ci, ci < 12 → ∃ ty, pm_clsP ci ty
  | 0, _ => ⟨_, pm_cls0⟩
  | 1, _ => ⟨_, pm_cls1⟩
  | 2, _ => ⟨_, pm_cls2⟩
  | 3, _ => ⟨_, pm_cls3⟩
  | 4, _ => ⟨_, pm_cls4⟩
  | 5, _ => ⟨_, pm_cls5⟩
  | 6, _ => ⟨_, pm_cls6⟩
  | 7, _ => ⟨_, pm_cls7⟩
  | 8, _ => ⟨_, pm_cls8⟩
  | 9, _ => ⟨_, pm_cls9⟩
  | 10, _ => ⟨_, pm_cls10⟩
  | 11, _ => ⟨_, pm_cls11⟩
  | _ + 12, h => absurd h (by omega)
def pm_GW : List Cond := lw_tbl.filter goodWord
theorem pm_wd_mem {p : Nat} {w : Cond} (h : pm_wd p w = true) : w ∈ lw_tbl := List.mem_of_getElem? (of_decide_eq_true h)
theorem pm_wd_good {p : Nat} {w : Cond} (h : pm_wd p w = true) (hg : goodWord w = true) : w ∈ pm_GW := List.mem_filter.mpr ⟨pm_wd_mem h, hg⟩
theorem pm_tab_spec {k pc : Nat} {i : Instr} {len : Nat} {ts : List Nat} {v : Int32} (hk : k < 319) (h : pm_tab k pc = some (i, len, ts, v)) : decode (pm_by k) pc = .ok (i, len) ∧ (Nat.beq len (pm_ln i) = true ∨ ∃ a b c f, i = .tableswitch a b c f) ∧ pm_ci k pc i ts v = true := by
  have hpc : pc < pm_len k := by
    unfold pm_tab at h
    cases hb : Nat.blt pc (pm_len k) with
    | true => exact Nat.le_of_ble_eq_true hb
    | false => rw [hb] at h; cases h
  have h1 := List.all_eq_true.mp (pm_ckm_all k hk) pc (List.mem_range.mpr hpc)
  unfold pm_ck1 at h1
  rw [h] at h1
  simp only [Bool.and_eq_true] at h1
  refine ⟨of_decide_eq_true h1.1.1, ?_, h1.2⟩
  rcases Bool.or_eq_true _ _ ▸ h1.1.2 with q | q
  · exact Or.inl q
  · right
    split at q
    · exact ⟨_, _, _, _, rfl⟩
    · cases q
theorem pm_gw_in {w : Cond} (h : w ∈ pm_GW) : w ∈ lw_tbl ∧ ((w.onTables && w.keeps) = true ∨ ∃ ty, w = .arrayClass ty) := ⟨(List.mem_filter.mp h).1, good_of_word (List.mem_filter.mp h).2⟩
