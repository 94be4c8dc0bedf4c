/-! the reference: needed signs, numbers -/
section Spec
variable {d L : Nat} {fz t : Bool} {Q : pm_R → pm_H → Prop} {I : Nat → Nat → Int32} {J : Nat → Nat → Int64} {g : Nat → Nat} {N p : Nat}
theorem S_need (hg : ∀ i, g i < 256) (hN : N ≤ 700) (hp : p ≤ N) (h : mG g N p I J) {c : Bool} (hq : ∀ I' J', c = true → mG g N (tnx g N p) I' J' → gF I I' → gJ J J' → Q (.inl none) (pm_hp L fz t I' J')) (hb : ∀ I', c = false → mBd g N 1 p I' → wF I I' → Q (.inl none) (pm_hp L fz t I' J)) : pm_Ev (d + 3) 136 [.ref 85, .int (bz c)] (pm_hp L fz t I J) Q := by
  refine e_X11_need (S_good (d := d + 1) h.2 (kb_X11_need_4 (q_t' nI_01 (q_b0 (fun e => ?_) (fun e => ?_)))))
  · exact S_wrong (d := d + 1) h (by omega) fun m1 m2 => kb_X11_need_24 (hb _ e m1 m2)
  · exact S_goesI (d := d) hg hN hp h fun I' J' a1 a2 a3 => kb_X11_need_16 (b_X11_need_24 (hq I' J' e a1 a2 a3))
theorem S_needB {y q : Nat} {x : Int32} (h : mBd g N y q I) (hq : Q (.inl none) (pm_hp L fz t I J)) : pm_Ev (d + 2) 136 [.ref 85, .int x] (pm_hp L fz t I J) Q :=
  e_X11_need (S_goodB (d := d) h (kb_X11_need_4 (q_f' rfl hq)))
theorem S_numberB {y q : Nat} {x x' : Int32} (h : mBd g N y q I) (hq : Q (.inl (some (.int (nI 0)))) (pm_hp L fz t I J)) : pm_Ev (d + 2) 137 [.ref 85, .int x, .int x'] (pm_hp L fz t I J) Q :=
  e_X11_number (S_goodB (d := d) h (kb_X11_number_4 (q_f' rfl hq)))
theorem srt_2 (hp : p ≤ N) : srt (tK g N p) = 2 ↔ ((tK g N p).1 = 2 ∨ (tK g N p).1 = 5) := by
  have hk := tk_kd (g := g) hp
  unfold srt
  constructor
  · intro h
    split at h
    · exact Or.inr (by assumption)
    · split at h
      · split at h <;> omega
      · exact Or.inl h
  · rintro (h | h)
    · rw [if_neg (by omega), if_neg (by omega)]; exact h
    · rw [if_pos h]
theorem srt_lt (hp : p ≤ N) : srt (tK g N p) < 5 := by
  have hk := tk_kd (g := g) hp
  unfold srt; split
  · omega
  · split
    · split <;> omega
    · omega
theorem S_number (hg : ∀ i, g i < 256) (hN : N ≤ 700) (hp : p ≤ N) (h : mG g N p I J) {lo hi : Nat} (hl : lo < 10000 ∧ hi < 10000) (hq : ∀ I' J' v, tK g N p = kN v → lo ≤ v → v ≤ hi → mG g N (tnx g N p) I' J' → gF I I' → gJ J J' → Q (.inl (some (.int (nI v)))) (pm_hp L fz t I' J')) (hb : ∀ I' y x, nbad lo hi (tK g N p) y → mBd g N y p I' → wF I I' → Q (.inl (some (.int x))) (pm_hp L fz t I' J)) : pm_Ev (d + 3) 137 [.ref 85, .int (nI lo), .int (nI hi)] (pm_hp L fz t I J) Q := by
  obtain ⟨-, -, h20, -, h22, h23, -, -⟩ := h.1
  have hnN := nx_le (g := g) p hp
  have bad : ∀ y, 0 < y ∧ y < 8 → nbad lo hi (tK g N p) y → ∀ I1, mBd g N y p I1 → wF I I1 → t_X11_number_54 (d + 2) L fz t Q I1 J := by
    intro y _ hn I1 m1 m2
    exact b_X11_number_54 (S_goodB (d := d + 1) m1 (kb_X11_number_63 (q_t rfl (b_X11_number_70 (hb _ y _ hn m1 m2)))))
  refine e_X11_number (S_good (d := d + 1) h.2 (kb_X11_number_4 (q_t' nI_01 ?_)))
  rw [h20]
  by_cases hk : (tK g N p).1 = 2 ∨ (tK g N p).1 = 5
  · rw [(srt_2 hp).mpr hk, h22]
    refine q_t rfl ?_
    rcases tk_25 hp hk with ⟨⟨v, e, hv⟩, h4⟩ | ⟨e, h4⟩
    · refine q_f (fun q => by rw [nI_ltI (by omega) (by omega)] at q; omega) ?_
      rw [h23 v e]
      refine q_lt (by omega) (by omega) (fun c => ?_) (fun c => q_le (by omega) (by omega) (fun c2 => ?_) (fun c2 => ?_))
      · exact S_wrong (d := d + 1) h (by omega) fun m1 m2 => bad 2 (by omega) (Or.inr (Or.inr ⟨v, e, by omega, rfl⟩)) _ m1 m2
      · refine b_X11_number_54 (S_good (d := d + 1) h.2 (kb_X11_number_63 (q_f nI_01 ?_)))
        rw [h23 v e]
        exact S_goesI (d := d) hg hN hp h fun I' J' a1 a2 a3 => kb_X11_number_70 (hq I' J' v e c c2 a1 a2 a3)
      · exact S_wrong (d := d + 1) h (by omega) fun m1 m2 => bad 2 (by omega) (Or.inr (Or.inr ⟨v, e, by omega, rfl⟩)) _ m1 m2
    · exact q_t (nI_lt (by omega) (by omega)) (S_wrong (d := d + 1) h (by omega) fun m1 m2 => bad 2 (by omega) (Or.inr (Or.inl ⟨e, rfl⟩)) _ m1 m2)
  · have hs := srt_lt (g := g) hp
    refine q_f (fun q => hk ((srt_2 hp).mp ?_)) (S_wrong (d := d + 1) h (by omega) fun m1 m2 => kb_X11_number_22 (bad 1 (by omega) (Or.inl ⟨fun q => hk (Or.inl q), fun q => hk (Or.inr q), rfl⟩) _ m1 m2))
    rw [nI_eq (by omega) (by omega)] at q
    exact q
/-- what is wrong with a number among many -/
def abad (many : Nat) (k : Tk) (y : Nat) : Prop := (k.1 ≠ 2 ∧ k.1 ≠ 5 ∧ y = 1) ∨ (k = kB ∧ y = 2) ∨ (∃ v, k = kN v ∧ many ≤ v ∧ y = 3)
theorem S_amongB {y q : Nat} {x : Int32} (h : mBd g N y q I) (hq : Q (.inl (some (.int (nI 0)))) (pm_hp L fz t I J)) : pm_Ev (d + 2) 138 [.ref 85, .int x] (pm_hp L fz t I J) Q :=
  e_X11_among (S_goodB (d := d) h (kb_X11_among_4 (q_f' rfl hq)))
theorem S_among (hg : ∀ i, g i < 256) (hN : N ≤ 700) (hp : p ≤ N) (h : mG g N p I J) {many : Nat} (hl : many < 10000) (hq : ∀ I' J' v, tK g N p = kN v → v < many → mG g N (tnx g N p) I' J' → gF I I' → gJ J J' → Q (.inl (some (.int (nI v)))) (pm_hp L fz t I' J')) (hb : ∀ I' y x, abad many (tK g N p) y → mBd g N y p I' → wF I I' → Q (.inl (some (.int x))) (pm_hp L fz t I' J)) : pm_Ev (d + 3) 138 [.ref 85, .int (nI many)] (pm_hp L fz t I J) Q := by
  obtain ⟨-, -, h20, -, h22, h23, -, -⟩ := h.1
  have hnN := nx_le (g := g) p hp
  have bad : ∀ y, 0 < y ∧ y < 8 → abad many (tK g N p) y → ∀ I1, mBd g N y p I1 → wF I I1 → t_X11_among_54 (d + 2) L fz t Q I1 J := by
    intro y _ hn I1 m1 m2
    exact b_X11_among_54 (S_goodB (d := d + 1) m1 (kb_X11_among_63 (q_t rfl (b_X11_among_70 (hb _ y _ hn m1 m2)))))
  refine e_X11_among (S_good (d := d + 1) h.2 (kb_X11_among_4 (q_t' nI_01 ?_)))
  rw [h20]
  by_cases hk : (tK g N p).1 = 2 ∨ (tK g N p).1 = 5
  · rw [(srt_2 hp).mpr hk, h22]
    refine q_t rfl ?_
    rcases tk_25 hp hk with ⟨⟨v, e, hv⟩, h4⟩ | ⟨e, h4⟩
    · refine q_t (nI_le (by omega) (by omega)) ?_
      rw [h23 v e]
      refine q_lt (by omega) (by omega) (fun c => ?_) (fun c => ?_)
      · refine b_X11_among_54 (S_good (d := d + 1) h.2 (kb_X11_among_63 (q_f nI_01 ?_)))
        rw [h23 v e]
        exact S_goesI (d := d) hg hN hp h fun I' J' a1 a2 a3 => kb_X11_among_70 (hq I' J' v e c a1 a2 a3)
      · exact S_wrong (d := d + 1) h (by omega) fun m1 m2 => bad 3 (by omega) (Or.inr (Or.inr ⟨v, e, c, rfl⟩)) _ m1 m2
    · exact q_f (nI_ge (by omega) (by omega)) (S_wrong (d := d + 1) h (by omega) fun m1 m2 => kb_X11_among_38 (bad 2 (by omega) (Or.inr (Or.inl ⟨e, rfl⟩)) _ m1 m2))
  · have hs := srt_lt (g := g) hp
    refine q_f (fun q => hk ((srt_2 hp).mp ?_)) (S_wrong (d := d + 1) h (by omega) fun m1 m2 => kb_X11_among_22 (bad 1 (by omega) (Or.inl ⟨fun q => hk (Or.inl q), fun q => hk (Or.inr q), rfl⟩) _ m1 m2))
    rw [nI_eq (by omega) (by omega)] at q
    exact q
end Spec
