/-! the reference's parts -/
def yX (g : Nat → Nat) (N lo n0 b y q : Nat) (W C : List Nat) (D : List Bool) (I : Nat → Nat → Int32) : Prop := mBd g N y q I ∧ yW lo n0 b W C D I ∧ (b + C.length + W.length < 1400 ∧ W.length < 950 ∧ (∀ z, z ∈ W → z < 100))
section Spec
variable {d L : Nat} {fz t : Bool} {Q : pm_R → pm_H → Prop} {I : Nat → Nat → Int32} {J : Nat → Nat → Int64} {g : Nat → Nat} {N p lo n0 b : Nat} {W C : List Nat} {D : List Bool}
theorem mTk_c {I I' : Nat → Nat → Int32} {J : Nat → Nat → Int64} (h : mTk g N p I J) (h85 : ∀ k, (k = 18 ∨ (19 ≤ k ∧ k < 25)) → I' 85 k = I 85 k) (h92 : I' 92 = I 92) : mTk g N p I' J := by
  unfold mTk mTp at *
  rw [h85 18 (by omega), h85 19 (by omega), h85 20 (by omega), h85 21 (by omega), h85 22 (by omega), h85 23 (by omega), h85 24 (by omega), h92]
  exact h
/-- one number more -/
theorem yW_put {x : Nat} (h : yW lo n0 b W C D I) : yW lo n0 b W (C ++ [x]) D (pm_u (pm_u I 100 (b + C.length) (nI x)) 85 32 (nI (b + C.length + 1))) := by
  obtain ⟨h1, ⟨h32, h100⟩, ⟨h35, h101⟩, h4⟩ := h
  refine ⟨?_, ⟨?_, ?_⟩, ⟨?_, ?_⟩, ?_⟩
  · rw [pm_uk (by omega), pm_ua (by omega), pm_uk (by omega), pm_ua (by omega)]; exact h1
  · rw [pm_us]; congr 1; simp; omega
  · rw [pm_ua (by omega)]
    exact mC_snoc.mpr ⟨mC_u h100 (Nat.le_refl _), pm_us⟩
  · rw [pm_uk (by omega), pm_ua (by omega)]; exact h35
  · rw [pm_ua (by omega), pm_ua (by omega)]; exact h101
  · rw [pm_uk (by omega), pm_ua (by omega), pm_ua (by omega), pm_ua (by omega)]; exact h4
theorem wF_put {I I' : Nat → Nat → Int32} {k : Nat} {x y : Int32} (h : wF I I') : wF I (pm_u (pm_u I' 100 k x) 85 32 y) := wF_u (wF_c h (by omega)) (by omega)
theorem S_putsI {x : Nat} (h : yW lo n0 b W C D I) (hb : b + C.length < 1400) (hq : ∀ I', yW lo n0 b W (C ++ [x]) D I' → wF I I' → (∀ k, k ≠ 32 → I' 85 k = I 85 k) → I' 92 = I 92 → Q (.inl none) (pm_hp L fz t I' J)) : pm_Ev (d + 1) 139 [.ref 85, .int (nI x)] (pm_hp L fz t I J) Q :=
  S_puts h.2.1.1 hb (hq _ (yW_put h) (wF_put wF_r) (fun k hk => by rw [pm_uk hk, pm_ua (by omega)]) (by rw [pm_ua (by omega), pm_ua (by omega)]))
theorem mBd_c {y q : Nat} {I I' : Nat → Nat → Int32} (h : mBd g N y q I) (h85 : ∀ k, (k = 15 ∨ k = 16) → I' 85 k = I 85 k) : mBd g N y q I' := by
  unfold mBd at *
  rw [h85 15 (by omega), h85 16 (by omega)]; exact h
theorem S_goesI (hg : ∀ i, g i < 256) (hN : N ≤ 700) (hp : p ≤ N) (h : mG g N p I J) (hq : ∀ I' J', mG g N (tnx g N p) I' J' → gF I I' → gJ J J' → Q (.inl none) (pm_hp L fz t I' J')) : pm_Ev (d + 2) 129 [.ref 85] (pm_hp L fz t I J) Q :=
  S_goes hg hN h.1.1 (tnx_N hp) h.1.2.1 fun I' J' k1 k2 k3 => hq I' J' ⟨k1, (k2.2 15 (by omega)).trans h.2⟩ k2 k3
theorem S_partX {y q : Nat} (h : mBd g N y q I) (hq : Q (.inl none) (pm_hp L fz t I J)) : pm_Ev (d + 2) 144 [.ref 85] (pm_hp L fz t I J) Q :=
  e_X11_part (S_goodB (d := d) h (kb_X11_part_4 (q_f' rfl hq)))
theorem nI_all (v : Int32) : ∃ x, v = nI x := ⟨v.toBitVec.toNat, by
  apply Int32.toBitVec_inj.mp
  show v.toBitVec = BitVec.ofNat 32 _
  simp⟩
/-- two numbers are down: on -/
theorem T_two (hg : ∀ i, g i < 256) (hN : N ≤ 700) {I2 : Nat → Nat → Int32} {x x' : Nat} (h : yI g N lo n0 b p W C D I J) (hk : tK g N p ≠ kE) (h2 : yW lo n0 b W (C ++ [x] ++ [x']) D I2) (hf : wF I I2) (h85 : ∀ k, k ≠ 32 → I2 85 k = I 85 k) (h92 : I2 92 = I 92) (hq : ∀ I' J', yI g N lo n0 b (tnx g N p) W (C ++ [x, x']) D I' J' → wF I I' → gJ J J' → Q (.inl none) (pm_hp L fz t I' J')) : t_X11_part_97 (d + 2) L fz t Q I2 J := by
  obtain ⟨hG, hW, hb, hw, hp, hD6, hz⟩ := h
  have hlt := nx_lt (g := g) (N := N) p hk
  have hnN := nx_le (g := g) p hp
  have g2 : mG g N p I2 J := ⟨mTk_c hG.1 (fun k hk => h85 k (by omega)) h92, by rw [h85 15 (by omega)]; exact hG.2⟩
  refine b_X11_part_97 (S_good (d := d + 1) g2.2 (kb_X11_part_101 (q_f nI_01 ?_)))
  refine S_goesI (d := d) hg hN hp g2 fun I3 J3 c1 c2 c3 => kb_X11_part_108 (hq I3 J3 ⟨c1, ?_, by simp; omega, by omega, hnN, hD6, hz⟩ (wF_t hf (wF_g c2)) c3)
  have := yW_g c2 h2
  simpa using this
theorem T_bad {I2 : Nat → Nat → Int32} {y q : Nat} (h : mBd g N y q I2) (hq : Q (.inl none) (pm_hp L fz t I2 J)) : t_X11_part_97 (d + 1) L fz t Q I2 J :=
  b_X11_part_97 (S_goodB (d := d) h (kb_X11_part_101 (q_t rfl (b_X11_part_108 hq))))
theorem S_part (hg : ∀ i, g i < 256) (hN : N ≤ 700) (hn : 1 ≤ n0 ∧ lo + n0 ≤ 18) (h : yI g N lo n0 b p W C D I J)
    (hqN : ∀ v I' J', tK g N p = kN v → yI g N lo n0 b (tnx g N p) W (C ++ [1, v]) D I' J' → wF I I' → gJ J J' → Q (.inl none) (pm_hp L fz t I' J'))
    (hqV : ∀ j I' J', tK g N p = kW j → lo ≤ j → j < lo + n0 → yI g N lo n0 b (tnx g N p) W (C ++ [2, j]) D I' J' → wF I I' → gJ J J' → Q (.inl none) (pm_hp L fz t I' J'))
    (hqX : ∀ y C' I', ((tK g N p = kB ∧ y = 2) ∨ (∃ j, tK g N p = kW j ∧ ¬ (lo ≤ j ∧ j < lo + n0) ∧ y = 3) ∨ ((tK g N p).1 ≠ 1 ∧ (tK g N p).1 ≠ 2 ∧ (tK g N p).1 ≠ 5 ∧ y = 1)) → yX g N lo n0 b y p W C' D I' → wF I I' → Q (.inl none) (pm_hp L fz t I' J)) : pm_Ev (d + 4) 144 [.ref 85] (pm_hp L fz t I J) Q := by
  obtain ⟨hG, hW, hb, hw, hp, hD6, hz⟩ := id h
  have hsrt : I 85 20 = nI (srt (tK g N p)) := hG.1.2.2.1
  have h22 := hG.1.2.2.2.2.1
  have h23 := hG.1.2.2.2.2.2.1
  have hnN := nx_le (g := g) p hp
  have hk := tk_kd (g := g) hp
  -- a fault of the part, then two numbers
  have badW : ∀ y, 0 < y ∧ y < 8 → ∀ {I1 : Nat → Nat → Int32}, mBd g N y p I1 → wF I I1 → (∀ k, k ≠ 15 → k ≠ 16 → I1 85 k = I 85 k) → (∀ a, a ≠ 85 → I1 a = I a) → yW lo n0 b W C D I1 := by
    intro y _ I1 _ _ h85 ho
    unfold yW at *
    rw [h85 33 (by omega) (by omega), h85 34 (by omega) (by omega), h85 32 (by omega) (by omega), h85 35 (by omega) (by omega), h85 36 (by omega) (by omega), ho 100 (by omega), ho 101 (by omega), ho 102 (by omega)]
    exact hW
  have u85 : ∀ (y : Int32) (k : Nat), k ≠ 15 → k ≠ 16 → pm_u (pm_u I 85 15 y) 85 16 (I 85 21) 85 k = I 85 k := fun y k q1 q2 => by rw [pm_uk q2, pm_uk q1]
  have uo : ∀ (y : Int32) (a : Nat), a ≠ 85 → pm_u (pm_u I 85 15 y) 85 16 (I 85 21) a = I a := fun y a q => by rw [pm_ua q, pm_ua q]
  refine e_X11_part (S_good (d := d + 2) hG.2 (kb_X11_part_4 (q_t' nI_01 ?_)))
  rw [hsrt]
  by_cases c2 : (tK g N p).1 = 2 ∨ (tK g N p).1 = 5
  · have hne : tK g N p ≠ kE := fun q => by rw [q] at c2; rcases c2 with c | c <;> cases c
    have hlt := nx_lt (g := g) (N := N) p hne
    rw [show srt (tK g N p) = 2 from by unfold srt; rcases c2 with c | c; rw [if_neg (by omega), if_neg (by omega)]; exact c; rw [if_pos c]]
    refine q_f' rfl ?_
    rw [h22]
    rcases tk_25 hp c2 with ⟨⟨v, e, hv⟩, h4⟩ | ⟨e, h4⟩
    · refine q_t (nI_le (by omega) (by omega)) (b_X11_part_29 ?_)
      refine S_putsI (d := d + 2) hW (by omega) fun I1 a1 a2 a3 a4 => kb_X11_part_34 ?_
      rw [a3 23 (by omega), h23 v e]
      refine S_putsI (d := d + 2) a1 (by simp; omega) fun I2 b1 b2 b3 b4 => kb_X11_part_42 ?_
      exact T_two (d := d + 1) hg hN h hne b1 (wF_t a2 b2) (fun k hk => by rw [b3 k hk, a3 k hk]) (by rw [b4, a4]) (fun I' J' m1 m2 m3 => hqN v I' J' e m1 m2 m3)
    · refine q_f (nI_ge (by omega) (by omega)) (S_wrong (d := d + 2) hG (by omega) fun m1 m2 => kb_X11_part_29 ?_)
      have w1 := badW 2 (by omega) m1 m2 (u85 _) (uo _)
      refine S_putsI (d := d + 2) w1 (by omega) fun I1 a1 a2 a3 a4 => kb_X11_part_34 ?_
      obtain ⟨x, ex⟩ := nI_all (I1 85 23)
      rw [ex]
      refine S_putsI (d := d + 2) a1 (by simp; omega) fun I2 b1 b2 b3 b4 => kb_X11_part_42 ?_
      have mb : mBd g N 2 p I2 := mBd_c m1 (fun k hk => by rw [b3 k (by omega), a3 k (by omega)])
      exact T_bad (d := d + 2) mb (hqX 2 _ I2 (Or.inl ⟨e, rfl⟩) ⟨mb, b1, by simp; omega, by omega, hz⟩ (wF_t m2 (wF_t a2 b2)))
  · by_cases c1 : (tK g N p).1 = 1
    · obtain ⟨j, ej⟩ := tk_w hp c1
      have hne : tK g N p ≠ kE := fun q => by rw [q] at c1; cases c1
      have hlt := nx_lt (g := g) (N := N) p hne
      rw [show srt (tK g N p) = 1 from by rw [ej]; rfl]
      refine q_t' (by decide) (q_f' rfl (S_known (d := d) hp hN hG.1 fun x hx => kb_X11_part_57 ?_))
      rw [hW.1.1, hW.1.2]
      have bad : ¬ (lo ≤ j ∧ j < lo + n0) → pm_Ev (d + 3) 133 [.ref 85, .int (nI 3)] (pm_hp L fz t I J) (K_X11_part_79 (d + 3) fz t Q x) := by
        intro hj
        refine S_wrong (d := d + 2) hG (by omega) fun m1 m2 => kb_X11_part_79 ?_
        have w1 := badW 3 (by omega) m1 m2 (u85 _) (uo _)
        refine S_putsI (d := d + 2) w1 (by omega) fun I1 a1 a2 a3 a4 => kb_X11_part_84 ?_
        obtain ⟨x', ex⟩ := nI_all x
        rw [ex]
        refine S_putsI (d := d + 2) a1 (by simp; omega) fun I2 b1 b2 b3 b4 => kb_X11_part_89 ?_
        have mb : mBd g N 3 p I2 := mBd_c m1 (fun k hk => by rw [b3 k (by omega), a3 k (by omega)])
        exact T_bad (d := d + 2) mb (hqX 3 _ I2 (Or.inr (Or.inl ⟨j, ej, hj, rfl⟩)) ⟨mb, b1, by simp; omega, by omega, hz⟩ (wF_t m2 (wF_t a2 b2)))
      rcases hx with ⟨i, hi, e, rfl⟩ | ⟨hno, rfl⟩
      · have : i = j := kW_inj.mp (e.symm.trans ej)
        subst this
        refine q_lt (by omega) (by omega) (fun c => bad (by omega)) (fun c => q_le (by omega) (by omega) (fun c' => b_X11_part_79 ?_) (fun c' => bad (by omega)))
        refine S_putsI (d := d + 2) hW (by omega) fun I1 a1 a2 a3 a4 => kb_X11_part_84 ?_
        refine S_putsI (d := d + 2) a1 (by simp; omega) fun I2 b1 b2 b3 b4 => kb_X11_part_89 ?_
        exact T_two (d := d + 1) hg hN h hne b1 (wF_t a2 b2) (fun k hk => by rw [b3 k hk, a3 k hk]) (by rw [b4, a4]) (fun I' J' m1 m2 m3 => hqV i I' J' ej c (by omega) m1 m2 m3)
      · refine q_t ?_ (bad (fun q => hno j (by omega) ej))
        exact fa_trans (show (-1 : Int32) < nI 0 by decide) (nI_le (by omega) (by omega))
    · have hs : ¬ nI (srt (tK g N p)) = nI 2 ∧ ¬ nI (srt (tK g N p)) = nI 1 := by
        have n2 : (tK g N p).1 ≠ 2 := fun q => c2 (Or.inl q)
        have n5 : (tK g N p).1 ≠ 5 := fun q => c2 (Or.inr q)
        have : srt (tK g N p) = 0 ∨ srt (tK g N p) = 3 ∨ srt (tK g N p) = 4 := by
          unfold srt
          rw [if_neg n5]
          split
          · split
            · exact Or.inr (Or.inl rfl)
            · exact Or.inr (Or.inr rfl)
          · omega
        rcases this with q | q | q <;> rw [q] <;> exact ⟨by decide, by decide⟩
      refine q_t' hs.1 (q_t' hs.2 (S_wrong (d := d + 2) hG (by omega) fun m1 m2 => kb_X11_part_97 ?_))
      have w1 := badW 1 (by omega) m1 m2 (u85 _) (uo _)
      exact S_goodB (d := d + 2) m1 (kb_X11_part_101 (q_t rfl (b_X11_part_108 (hqX 1 C _ (Or.inr (Or.inr ⟨c1, fun q => c2 (Or.inl q), fun q => c2 (Or.inr q), rfl⟩)) ⟨m1, w1, by omega, by omega, hz⟩ m2))))
end Spec
