/-! bits and numbers: the first rows are taken from kit/laws (BITS, NUMBERS: starting texts) -/
def bt (x : Int32) (i : Nat) : Bool := x.toBitVec.getLsbD i
theorem b_ext {x y : Int32} (h : ∀ i, i < 32 → bt x i = bt y i) : x = y := Int32.toBitVec_inj.mp (BitVec.eq_of_getLsbD_eq (fun i hi => h i hi))
theorem b_or (x y : Int32) (i : Nat) : bt (x ||| y) i = (bt x i || bt y i) := by unfold bt; rw [Int32.toBitVec_or, BitVec.getLsbD_or]
theorem b_and (x y : Int32) (i : Nat) : bt (x &&& y) i = (bt x i && bt y i) := by unfold bt; rw [Int32.toBitVec_and, BitVec.getLsbD_and]
theorem b_xor (x y : Int32) (i : Nat) : bt (x ^^^ y) i = (bt x i ^^ bt y i) := by unfold bt; rw [Int32.toBitVec_xor, BitVec.getLsbD_xor]
theorem b_big {x : Int32} {i : Nat} (h : 32 ≤ i) : bt x i = false := BitVec.getLsbD_of_ge _ _ h
theorem b_255 (i : Nat) : bt 255 i = decide (i < 8) := by
  rcases Nat.lt_or_ge i 32 with h | h
  · exact (by decide +kernel : ∀ i, i < 32 → bt 255 i = decide (i < 8)) i h
  · rw [b_big h, decide_eq_false (by omega)]
theorem b_65535 (i : Nat) : bt 65535 i = decide (i < 16) := by
  rcases Nat.lt_or_ge i 32 with h | h
  · exact (by decide +kernel : ∀ i, i < 32 → bt 65535 i = decide (i < 16)) i h
  · rw [b_big h, decide_eq_false (by omega)]
theorem b_m1 : ∀ i, i < 32 → bt (-1) i = true := by decide +kernel
theorem b_0 (i : Nat) : bt 0 i = false := BitVec.getLsbD_zero
theorem s_l : ∀ n, n < 32 → ((nI n &&& 31).toBitVec.smod 32).toNat = n := by decide +kernel
theorem s_u : ∀ n, n < 32 → (((nI n).toUInt32 &&& Int32.toUInt32 31).toBitVec % 32).toNat = n := by decide +kernel
theorem b_shl (n : Nat) (hn : n < 32) (x : Int32) {i : Nat} (hi : i < 32) : bt (x <<< (nI n &&& 31)) i = (decide (n ≤ i) && bt x (i - n)) := by
  unfold bt
  rw [Int32.toBitVec_shiftLeft]
  show (x.toBitVec <<< ((nI n &&& 31).toBitVec.smod 32).toNat).getLsbD i = _
  rw [s_l n hn, BitVec.getLsbD_shiftLeft]
  rcases Nat.lt_or_ge i n with h | h
  · simp [h, Nat.not_le.mpr h]
  · simp [hi, h, Nat.not_lt.mpr h]
theorem b_ushr (n : Nat) (hn : n < 32) (x : Int32) (i : Nat) : bt ((x.toUInt32 >>> ((nI n).toUInt32 &&& Int32.toUInt32 31)).toInt32) i = bt x (n + i) := by
  show (x.toUInt32 >>> ((nI n).toUInt32 &&& Int32.toUInt32 31)).toBitVec.getLsbD i = x.toUInt32.toBitVec.getLsbD (n + i)
  rw [UInt32.toBitVec_shiftRight]
  show (x.toUInt32.toBitVec >>> (((nI n).toUInt32 &&& Int32.toUInt32 31).toBitVec % 32).toNat).getLsbD i = _
  rw [s_u n hn, BitVec.getLsbD_ushiftRight]
theorem b_sshr (n : Nat) (hn : n < 32) (x : Int32) {i : Nat} (hi : i < 32) : bt (x >>> (nI n &&& 31)) i = if n + i < 32 then bt x (n + i) else bt x 31 := by
  unfold bt
  rw [Int32.toBitVec_shiftRight]
  show (x.toBitVec.sshiftRight ((nI n &&& 31).toBitVec.smod 32).toNat).getLsbD i = _
  rw [s_l n hn, BitVec.getLsbD_sshiftRight, BitVec.msb_eq_getLsbD_last]
  simp [hi]
theorem fa_lt (a b : Int32) : a < b ↔ a.toInt < b.toInt := Int32.lt_iff_toInt_lt
theorem fa_le (a b : Int32) : a ≤ b ↔ a.toInt ≤ b.toInt := Int32.le_iff_toInt_le
theorem fa_eq (a b : Int32) : a = b ↔ a.toInt = b.toInt := Int32.toInt_inj.symm
theorem fa_lt64 (a b : Int64) : a < b ↔ a.toInt < b.toInt := Int64.lt_iff_toInt_lt
theorem fa_le64 (a b : Int64) : a ≤ b ↔ a.toInt ≤ b.toInt := Int64.le_iff_toInt_le
theorem fa_eq64 (a b : Int64) : a = b ↔ a.toInt = b.toInt := Int64.toInt_inj.symm
/-- a comparison of two ints taken as longs -/
theorem fa_wide_lt (a b : Int32) : a.toInt64 < b.toInt64 ↔ a < b := by rw [fa_lt64, fa_lt, Int32.toInt_toInt64, Int32.toInt_toInt64]
theorem fa_wide_le (a b : Int32) : a.toInt64 ≤ b.toInt64 ↔ a ≤ b := by rw [fa_le64, fa_le, Int32.toInt_toInt64, Int32.toInt_toInt64]
theorem fa_wide_eq (a b : Int32) : a.toInt64 = b.toInt64 ↔ a = b := by rw [fa_eq64, fa_eq, Int32.toInt_toInt64, Int32.toInt_toInt64]
/-- one strict comparison gives all the others -/
theorem fa_of_lt {a b : Int32} (h : a < b) : a ≤ b ∧ ¬ b ≤ a ∧ ¬ b < a ∧ a ≠ b ∧ b ≠ a := by
  rw [fa_lt] at h
  refine ⟨?_, ?_, ?_, ?_, ?_⟩
  · rw [fa_le]; omega
  · rw [fa_le]; omega
  · rw [fa_lt]; omega
  · intro e; rw [fa_eq] at e; omega
  · intro e; rw [fa_eq] at e; omega
theorem fa_of_nlt {a b : Int32} (h : ¬ a < b) : b ≤ a := by
  rw [fa_lt] at h
  rw [fa_le]
  omega
theorem fa_of_nle {a b : Int32} (h : ¬ a ≤ b) : b < a := by
  rw [fa_le] at h
  rw [fa_lt]
  omega
theorem fa_le_ne {a b : Int32} (h : a ≤ b) (h2 : a ≠ b) : a < b := by
  rw [fa_le] at h
  rw [fa_lt]
  have h3 : a.toInt ≠ b.toInt := fun e => h2 ((fa_eq a b).mpr e)
  omega
theorem fa_three (a b : Int32) : a < b ∨ a = b ∨ b < a := by
  rw [fa_lt, fa_lt, fa_eq]
  omega
theorem fa_trans {a b c : Int32} (h : a < b) (h2 : b ≤ c) : a < c := by
  rw [fa_lt] at *
  rw [fa_le] at h2
  omega
/-! ===== small literals as numbers ===== -/
theorem fa_lit (n : Nat) : (OfNat.ofNat n : Int32) = nI n := rfl
theorem fa_litL (n : Nat) : (OfNat.ofNat n : Int64) = lN n := rfl
/-! ===== bits of a number: 'or', masks, one bit ===== -/
theorem fa_and (a b : Nat) : nI a &&& nI b = nI (a &&& b) := by
  apply Int32.toBitVec_inj.1
  show BitVec.ofNat 32 a &&& BitVec.ofNat 32 b = BitVec.ofNat 32 (a &&& b)
  apply BitVec.eq_of_getLsbD_eq
  intro i hi
  simp [hi]
theorem fa_or (a b : Nat) : nI a ||| nI b = nI (a ||| b) := by
  apply Int32.toBitVec_inj.1
  show BitVec.ofNat 32 a ||| BitVec.ofNat 32 b = BitVec.ofNat 32 (a ||| b)
  apply BitVec.eq_of_getLsbD_eq
  intro i hi
  simp [hi]
/-- a remainder by a power of two, as a mask -/
theorem fa_mask (n k : Nat) : nI n &&& nI (2 ^ k - 1) = nI (n % 2 ^ k) := by rw [fa_and, Nat.and_two_pow_sub_one_eq_mod]
/-! own rows on bits, numbers and cells -/
theorem fa_xor (a b : Nat) : nI a ^^^ nI b = nI (a ^^^ b) := by
  apply Int32.toBitVec_inj.1
  show BitVec.ofNat 32 a ^^^ BitVec.ofNat 32 b = BitVec.ofNat 32 (a ^^^ b)
  apply BitVec.eq_of_getLsbD_eq
  intro i hi
  simp [hi]
theorem b_1 (i : Nat) : bt 1 i = decide (i = 0) := by
  rcases Nat.lt_or_ge i 32 with h | h
  · exact (by decide +kernel : ∀ i, i < 32 → bt 1 i = decide (i = 0)) i h
  · rw [b_big h, decide_eq_false (by omega)]
theorem b_n1 (i : Nat) : bt (nI 1) i = decide (i = 0) := b_1 i
theorem b_n0 (i : Nat) : bt (nI 0) i = false := b_0 i
theorem b_not (x : Int32) {i : Nat} (h : i < 32) : bt (x ^^^ (-1)) i = !bt x i := by
  rw [b_xor, b_m1 i h]; cases bt x i <;> rfl
theorem b_nI (m : Nat) {i : Nat} (h : i < 32) : bt (nI m) i = m.testBit i := by
  show (BitVec.ofNat 32 m).getLsbD i = _
  rw [BitVec.getLsbD_ofNat, decide_eq_true h, Bool.true_and]
/-- a bit as a number -/
def bz (b : Bool) : Int32 := nI b.toNat
theorem bz_t : bz true = nI 1 := rfl
theorem bz_f : bz false = nI 0 := rfl
theorem bz_1 (b : Bool) : bz b = nI 1 ↔ b = true := by cases b <;> decide
theorem bz_0 (b : Bool) : bz b = nI 0 ↔ b = false := by cases b <;> decide
theorem bz_inj {a b : Bool} : bz a = bz b ↔ a = b := by cases a <;> cases b <;> decide
theorem b_bit (x : Int32) {k : Nat} (hk : k < 32) : (x >>> (nI k &&& 31)) &&& nI 1 = bz (bt x k) := by
  apply b_ext
  intro i hi
  rw [b_and, b_n1, b_sshr k hk x hi]
  by_cases h0 : i = 0
  · subst h0
    rw [if_pos (by omega)]
    cases bt x k <;> rfl
  · rw [decide_eq_false h0, Bool.and_false]
    cases bt x k
    · rw [bz_f, b_n0]
    · rw [bz_t, b_n1, decide_eq_false h0]
def pw (k : Nat) : Int32 := nI 1 <<< (nI k &&& 31)
theorem b_pw : ∀ k, k < 32 → ∀ i, i < 32 → bt (pw k) i = decide (i = k) := by decide +kernel
/-- the lowest n bits -/
def al (n : Nat) : Int32 := (nI 1 <<< (nI n &&& 31)) - nI 1
theorem b_al : ∀ n, n < 32 → ∀ i, i < 32 → bt (al n) i = decide (i < n) := by decide +kernel
theorem al_nI : ∀ n, n < 31 → al n = nI (2 ^ n - 1) := by decide +kernel
/-- a number whose bits lie below n -/
def sm (x : Int32) (n : Nat) : Prop := ∀ i, n ≤ i → bt x i = false
theorem sm_0 (n : Nat) : sm 0 n := fun i _ => b_0 i
theorem sm_mono {x : Int32} {n m : Nat} (h : sm x n) (hm : n ≤ m) : sm x m := fun i hi => h i (by omega)
theorem sm_al {n : Nat} (h : n < 32) : sm (al n) n := fun i hi => by
  rcases Nat.lt_or_ge i 32 with q | q
  · rw [b_al n h i q, decide_eq_false (by omega)]
  · exact b_big q
theorem sm_and {x y : Int32} {n : Nat} (h : sm x n) : sm (x &&& y) n := fun i hi => by rw [b_and, h i hi, Bool.false_and]
theorem sm_and' {x y : Int32} {n : Nat} (h : sm y n) : sm (x &&& y) n := fun i hi => by rw [b_and, h i hi, Bool.and_false]
theorem sm_or {x y : Int32} {n : Nat} (h : sm x n) (h' : sm y n) : sm (x ||| y) n := fun i hi => by rw [b_or, h i hi, h' i hi]; rfl
theorem sm_xor {x y : Int32} {n : Nat} (h : sm x n) (h' : sm y n) : sm (x ^^^ y) n := fun i hi => by rw [b_xor, h i hi, h' i hi]; rfl
theorem sm_pw {k n : Nat} (h : k < n) (hn : n ≤ 32) : sm (pw k) n := fun i hi => by
  rcases Nat.lt_or_ge i 32 with q | q
  · rw [b_pw k (by omega) i q, decide_eq_false (by omega)]
  · exact b_big q
theorem sm_nI {m n : Nat} (h : m < 2 ^ n) : sm (nI m) n := fun i hi => by
  rcases Nat.lt_or_ge i 32 with q | q
  · rw [b_nI m q]; exact Nat.testBit_lt_two_pow (Nat.lt_of_lt_of_le h (Nat.pow_le_pow_right (by omega) hi))
  · exact b_big q
theorem sm_of {x : Int32} {n : Nat} (h : sm x n) (_hn : n ≤ 31) : ∃ m, m < 2 ^ n ∧ x = nI m := by
  refine ⟨x.toBitVec.toNat, ?_, ?_⟩
  · apply Nat.lt_pow_two_of_testBit
    intro i hi
    exact h i hi
  · apply Int32.toBitVec_inj.1
    show x.toBitVec = BitVec.ofNat 32 x.toBitVec.toNat
    simp
theorem sm_ext {x y : Int32} {n : Nat} (hx : sm x n) (hy : sm y n) (h : ∀ i, i < n → bt x i = bt y i) : x = y := b_ext fun i _ => by
  rcases Nat.lt_or_ge i n with q | q
  · exact h i q
  · rw [hx i q, hy i q]
/-- the number with the bits below n where f holds -/
def mk (f : Nat → Bool) : Nat → Int32
  | 0 => 0
  | n + 1 => mk f n ||| (if f n then pw n else 0)
theorem b_mk (f : Nat → Bool) : ∀ (n : Nat), n ≤ 32 → ∀ i, i < 32 → bt (mk f n) i = (decide (i < n) && f i)
  | 0, _, i, _ => by rw [mk, b_0, decide_eq_false (by omega), Bool.false_and]
  | n + 1, h, i, hi => by
    rw [mk, b_or, b_mk f n (by omega) i hi]
    by_cases q : i = n
    · subst q
      rw [decide_eq_false (by omega), decide_eq_true (by omega), Bool.false_and, Bool.false_or, Bool.true_and]
      cases f i
      · exact b_0 i
      · rw [if_pos rfl, b_pw i hi i hi, decide_eq_true rfl]
    · have e : bt (if f n then pw n else 0) i = false := by
        cases f n
        · exact b_0 i
        · rw [if_pos rfl, b_pw n (by omega) i hi, decide_eq_false q]
      rw [e, Bool.or_false]
      by_cases q2 : i < n
      · rw [decide_eq_true q2, decide_eq_true (by omega)]
      · rw [decide_eq_false q2, decide_eq_false (by omega)]
theorem sm_mk (f : Nat → Bool) {n : Nat} (h : n ≤ 32) : sm (mk f n) n := fun i hi => by
  rcases Nat.lt_or_ge i 32 with q | q
  · rw [b_mk f n h i q, decide_eq_false (by omega), Bool.false_and]
  · exact b_big q
theorem mk_congr {f g : Nat → Bool} : ∀ {n : Nat}, (∀ i, i < n → f i = g i) → mk f n = mk g n
  | 0, _ => rfl
  | n + 1, h => by rw [mk, mk, mk_congr (n := n) (fun i hi => h i (by omega)), h n (by omega)]
theorem mk_bt {x : Int32} {n : Nat} (h : sm x n) (hn : n ≤ 32) : mk (bt x) n = x := sm_ext (sm_mk _ hn) h fun i hi => by
  rw [b_mk _ n hn i (by omega), decide_eq_true hi, Bool.true_and]
theorem mk_true {n : Nat} (h : n < 32) : mk (fun _ => true) n = al n := sm_ext (sm_mk _ (by omega)) (sm_al h) fun i hi => by
  rw [b_mk _ n (by omega) i (by omega), b_al n h i (by omega), Bool.and_true]
theorem mk_false : ∀ (n : Nat), mk (fun _ => false) n = 0
  | 0 => rfl
  | n + 1 => by
    rw [mk, mk_false n]
    show (0 ||| (if false = true then pw n else 0) : Int32) = 0
    rw [if_neg (by decide)]
    decide
theorem mk_eq0 {f : Nat → Bool} {n : Nat} (h : n ≤ 32) : mk f n = 0 ↔ ∀ i, i < n → f i = false := by
  constructor
  · intro e i hi
    have := b_mk f n h i (by omega)
    rw [e, b_0, decide_eq_true hi, Bool.true_and] at this
    exact this.symm
  · intro q; rw [mk_congr q, mk_false]
/-- how many below n -/
def cn (f : Nat → Bool) : Nat → Nat
  | 0 => 0
  | n + 1 => cn f n + (f n).toNat
theorem cn_congr {f g : Nat → Bool} : ∀ {n : Nat}, (∀ i, i < n → f i = g i) → cn f n = cn g n
  | 0, _ => rfl
  | n + 1, h => by rw [cn, cn, cn_congr (n := n) (fun i hi => h i (by omega)), h n (by omega)]
theorem cn_le (f : Nat → Bool) : ∀ n, cn f n ≤ n
  | 0 => Nat.le_refl _
  | n + 1 => by have := cn_le f n; rw [cn]; cases f n <;> simp <;> omega
/-! cells -/
theorem pm_us {α : Type} {I : Nat → Nat → α} {a k : Nat} {v : α} : pm_u I a k v a k = v := by unfold pm_u; rw [if_pos ⟨rfl, rfl⟩]
theorem pm_uk {α : Type} {I : Nat → Nat → α} {a k j : Nat} {v : α} (h : j ≠ k) : pm_u I a k v a j = I a j := by unfold pm_u; rw [if_neg (fun q => h q.2)]
theorem pm_ua {α : Type} {I : Nat → Nat → α} {a b k : Nat} {v : α} (h : b ≠ a) : pm_u I a k v b = I b := by funext j; unfold pm_u; rw [if_neg (fun q => h q.1)]
theorem pm_ue {α : Type} {I : Nat → Nat → α} {a k b j : Nat} {v : α} : pm_u I a k v b j = if b = a ∧ j = k then v else I b j := rfl
theorem pm_urs {α : Type} {I : Nat → Nat → α} {a : Nat} {g : Nat → α} : pm_ur I a g a = g := by funext j; unfold pm_ur; rw [if_pos rfl]
theorem pm_ura {α : Type} {I : Nat → Nat → α} {a b : Nat} {g : Nat → α} (h : b ≠ a) : pm_ur I a g b = I b := by funext j; unfold pm_ur; rw [if_neg h]
theorem vpi {n N : Nat} (h : n < 2 ^ 31) : vp_in (nI n) N ↔ n < N := by
  unfold vp_in
  rw [nI_clamp h]
  constructor
  · intro q; exact Nat.lt_of_not_le fun z => q (Or.inr z)
  · intro q z; rcases z with z | z
    · exact nI_pos h z
    · omega
theorem nI_lit (n : Nat) : (OfNat.ofNat n : Int32) = nI n := rfl
theorem nI_m1 : ¬ (0 : Int32) ≤ -1 := by decide
