/-! the start: eight threads, nothing told, nothing done -/
def T0 : Td := (8, 0, 0, [], [], (fun _ => 0), (fun _ => 0), (fun _ => 0), (fun _ => 0), (fun _ => 0))
def W0 : Wk := ((fun _ => 0), (fun _ => 0), (fun _ => 0), 0, 0, 0)
def A0 : St := (T0, W0, (0, fun _ => W0), (0, fun _ => (0, 0, 0, false)), none, [], -1, (fun _ => 0))
theorem ok_A0 : ok A0 := by
  refine ⟨⟨by decide, by decide, by decide, Or.inl rfl, Or.inl rfl, fun f hf => absurd hf (Nat.not_lt_zero f)⟩, ⟨fun c _ => ?_, fun c _ => Nat.zero_le _, fun k hk => absurd hk (Nat.not_lt_zero k), Nat.zero_le _⟩, ⟨Nat.zero_le _, fun i hi => absurd hi (Nat.not_lt_zero i)⟩, ⟨Nat.zero_le _, fun i hi => absurd hi (Nat.not_lt_zero i)⟩, fun V k Bs q C h => (by cases h), Nat.zero_le _, fun x hx => (by cases hx)⟩
  intro i _
  show bt 0 i = false
  exact b_0 i
set_option maxRecDepth 100000 in
theorem cS_A0 (xs : Nat → Int32) : cS A0 false (hI170 xs) hJ118 := by
  refine ⟨⟨rfl, ?_, rfl, rfl, ⟨by decide, rfl, ?_, fun i hi => absurd hi (Nat.not_lt_zero i)⟩, ⟨by decide, rfl, ?_, fun i hi => absurd hi (Nat.not_lt_zero i)⟩, fun i hi => absurd hi (Nat.not_lt_zero i), fun i hi => absurd hi (Nat.not_lt_zero i), fun i hi => absurd hi (Nat.not_lt_zero i)⟩, ⟨rfl, rfl, rfl, fun c _ => rfl, fun c _ => rfl, fun i hi => absurd hi (Nat.not_lt_zero i)⟩, fun p w _ _ h => absurd rfl h, ⟨rfl, fun i hi => absurd hi (Nat.not_lt_zero i)⟩, ⟨rfl, fun _ => (0, 0, 0, false), fun i hi => absurd hi (Nat.not_lt_zero i), fun i hi => absurd hi (Nat.not_lt_zero i), fun i hi => absurd hi (Nat.not_lt_zero i)⟩, ⟨rfl, fun V k Bs q C h => by cases h⟩, ⟨rfl, fun i hi => absurd hi (Nat.not_lt_zero i)⟩, ⟨rfl, fun a ha c _ => ⟨0, by decide, by rcases ha with rfl | rfl <;> rfl⟩⟩, fun i _ => rfl⟩
  · show hI170 xs 55 12 = al 8
    exact (show hI170 xs 55 12 = 255 from rfl).trans (by decide +kernel)
  · intro v _; exact b_0 v
  · intro v _; exact b_0 v
set_option maxRecDepth 100000 in
theorem mS_A0 (xs : Nat → Int32) : mS A0 (hI170 xs) := by
  refine ⟨⟨rfl, rfl, rfl, Or.inl ⟨rfl, rfl⟩, Or.inl ⟨rfl, rfl⟩, fun i hi => absurd hi (Nat.not_lt_zero i), fun i hi => absurd hi (Nat.not_lt_zero i), fun i hi => absurd hi (Nat.not_lt_zero i)⟩, rfl, ⟨rfl, rfl, fun i hi => absurd hi (Nat.not_lt_zero i), fun i hi => absurd hi (Nat.not_lt_zero i)⟩, ⟨rfl, fun i hi => absurd hi (Nat.not_lt_zero i)⟩, ⟨rfl, fun i hi => absurd hi (Nat.not_lt_zero i)⟩, ⟨rfl, fun V k Bs q C h => by cases h⟩, ⟨rfl, fun i hi => absurd hi (Nat.not_lt_zero i)⟩, rfl, fun i _ => rfl⟩
set_option maxRecDepth 100000 in
theorem xs_A0 (xs : Nat → Int32) : hI170 xs 2000000 = xs := rfl
theorem whole_pure : pm_Pure := by
  intro L xs hL
  refine law_start ?_ rfl rfl
  rw [hs_eq, hR_eq]
  have h := law_loop (L := L) (xs := xs) hL rfl (L / 6) 0 A0 false false 118 65507 (hI170 xs) hJ118 (Nat.zero_add _) (by decide) (by decide) ⟨ok_A0, cS_A0 xs, mS_A0 xs, xs_A0 xs⟩
  exact h
