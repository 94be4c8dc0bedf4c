/-! the small machine: frames of numbers over rows of numbers; pm_sem says what an instruction does, in the form 'what must hold ahead of it, so that K holds of each state behind it' -/
def pm_get : pm_L → Nat → Option Value
  | [], _ => none
  | (j, v) :: t, i => bif Nat.beq j i then some v else pm_get t i
def pm_ins (q : Nat × Value) : pm_L → pm_L
  | [] => [q]
  | p :: t => bif Nat.blt q.1 p.1 then q :: p :: t else p :: pm_ins q t
def pm_f1 (lv : pm_L) (i : Nat) : pm_L := lv.filter (fun q => !(q.1 == i) && !(q.1 + 1 == i && q.2.category == 2))
def pm_f2 (lv : pm_L) (i : Nat) : pm_L := lv.filter (fun q => !(q.1 == i) && (!(q.1 == i + 1) && !(q.1 + 1 == i && q.2.category == 2)))
def pm_pop : Nat → List Value → List Value → Option (List Value × List Value)
  | 0, acc, st => some (acc, st)
  | n + 1, acc, v :: st => pm_pop n (v :: acc) st
  | _ + 1, _, [] => none
def pm_sw (x : Int32) (K : Nat → Prop) : Int → List Nat → Prop
  | _, [] => True
  | j, t :: ts => (x.toInt = j → K t) ∧ pm_sw x K (j + 1) ts
def pm_u {α : Type} (f : Nat → Nat → α) (a k : Nat) (v : α) : Nat → Nat → α := fun x y => if x = a ∧ y = k then v else f x y
/-- row a anew -/
def pm_ur {α : Type} (f : Nat → Nat → α) (a : Nat) (g : Nat → α) : Nat → Nat → α := fun x y => if x = a then g y else f x y
def pm_cat (st : List Value) : Nat := (st.map fun v => v.category).sum
/-- is a a cell of this kind? -/
def pm_is (n : Nat) (sh : Nat → Nat × Nat) (a kd : Nat) : Bool := Nat.blt a n && Nat.beq (sh a).1 kd
/-- an int array that may be read: an own one, or the script -/
def pm_isI (n : Nat) (sh : Nat → Nat × Nat) (a : Nat) : Bool := pm_is n sh a 100 || (Nat.beq a 2000000 && Nat.beq (sh a).1 104)
def pm_isA (n : Nat) (sh : Nat → Nat × Nat) (a : Nat) : Bool := (Nat.blt a n && Nat.ble 100 (sh a).1 && Nat.ble (sh a).1 103) || (Nat.beq a 2000000 && Nat.beq (sh a).1 104)
def pm_rv (r : Option Nat) : Value := match r with
  | some a => .ref a
  | none => .null
def pm_fv (t : Nat) (I : Nat → Nat → Int32) (J : Nat → Nat → Int64) (R : Nat → Nat → Option Nat) (a k : Nat) : Value := match t with
  | 0 => .int (I a k)
  | 1 => .int (I a k)
  | 2 => .long (J a k)
  | _ => pm_rv (R a k)
def pm_cond (cd : ClassFile.Cond) (x y : Int32) : Prop := match cd with
  | .eq => x = y
  | .ne => ¬ x = y
  | .lt => x < y
  | .ge => y ≤ x
  | .gt => y < x
  | .le => x ≤ y
def pm_br (cd : ClassFile.Cond) (x y : Int32) (T F : Prop) : Prop := match cd with
  | .eq => (x = y → T) ∧ (¬ x = y → F)
  | .ne => (¬ x = y → T) ∧ (x = y → F)
  | .lt => (x < y → T) ∧ (¬ x < y → F)
  | .ge => (y ≤ x → T) ∧ (¬ y ≤ x → F)
  | .gt => (y < x → T) ∧ (¬ y < x → F)
  | .le => (x ≤ y → T) ∧ (¬ x ≤ y → F)
def pm_ak (t : ArrayType) : Nat := match t with
  | .int => 100
  | .byte => 101
  | .boolean => 102
  | .long => 103
  | _ => 999
def pm_hnd (x : Nat) : List (Nat × Nat × Nat) → Option (Nat × Nat)
  | [] => none
  | (y, j, t) :: r => bif Nat.beq x y then some (j, t) else pm_hnd x r
def pm_call (E : pm_E) (k k' np : Nat) (pc : Nat) (lv : pm_L) (st : List Value) (h : pm_H) (c z : Nat) (K : pm_F → Prop) (Q : pm_R → pm_H → Prop) : Prop :=
  match pm_pop np [] st with
  | none => False
  | some (as, rest) => bif Nat.blt k' 318 && (Nat.ble (c + pm_mc k') (pm_mc k) && (Nat.ble (z + pm_ms k') (pm_ms k) && Nat.ble (pm_cat rest) 8)) then
      E k' as h (fun r h' => match r with
        | .inl v => K (pc + 3, lv, v.toList ++ rest, (bif Nat.beq h'.2.1 (h.2.1 + pm_mc k') then h.1 else true, h'.2), c + pm_mc k', z + pm_ms k')
        | .inr x => match pm_hd k with
          | [] => Q (.inr x) h'
          | l => match pm_hnd x l with
            | none => False
            | some (j, t) => K (t, pm_f1 lv j, [], (true, h'.2), c + pm_mc k', z + pm_ms k'))
    else False
def pm_call0 (E : pm_E) (k k' np : Nat) (pc : Nat) (lv : pm_L) (st : List Value) (h : pm_H) (c z : Nat) (K : pm_F → Prop) : Prop :=
  match pm_pop np [] st with
  | none => False
  | some (as, rest) => bif Nat.blt k' 318 && (Nat.ble (c + pm_mc k') (pm_mc k) && (Nat.ble (z + pm_ms k') (pm_ms k) && Nat.ble (pm_cat rest) 8)) then
      E k' as h (fun r h' => match r with
        | .inl v => K (pc + 3, lv, v.toList ++ rest, (bif Nat.beq h'.2.1 (h.2.1 + pm_mc k') then h.1 else true, h'.2), c + pm_mc k', z + pm_ms k')
        | .inr _ => False)
    else False
/-- the receiver of a call: the value under np arguments -/
def pm_rcv (n : Nat) (sh : Nat → Nat × Nat) (ci np : Nat) (st : List Value) : Bool := match st[np]? with
  | some (.ref a) => pm_is n sh a ci
  | _ => false
def pm_ret (k c z : Nat) (P : Prop) : Prop := bif Nat.ble c (pm_mc k) && Nat.ble z (pm_ms k) then P else False
def pm_ii (st : List Value) (f : Int32 → Int32 → Int32) (K : List Value → Prop) : Prop := match st with
  | .int y :: .int x :: r => K (.int (f x y) :: r)
  | _ => False
def pm_ll (st : List Value) (f : Int64 → Int64 → Int64) (K : List Value → Prop) : Prop := match st with
  | .long y :: .long x :: r => K (.long (f x y) :: r)
  | _ => False
def pm_li (st : List Value) (f : Int64 → Int32 → Int64) (K : List Value → Prop) : Prop := match st with
  | .int y :: .long x :: r => K (.long (f x y) :: r)
  | _ => False
def pm_sxf (a : Nat) : Nat → Nat
  | 0 => 0
  | n + 1 => bif Nat.beq a (1000000 + n) then n else pm_sxf a n
/-- which text -/
def pm_sx (a : Nat) : Nat := pm_sxf a pm_sn
def pm_isS (a : Nat) : Bool := Nat.beq a (1000000 + pm_sx a) && Nat.blt (pm_sx a) pm_sn
def pm_inv (E : pm_E) (k : Nat) (ts : List Nat) (pc : Nat) (lv : pm_L) (st : List Value) (fz : Bool) (n : Nat) (sh : Nat → Nat × Nat) (I : Nat → Nat → Int32) (J : Nat → Nat → Int64) (R : Nat → Nat → Option Nat) (c z : Nat) (K : pm_F → Prop) (Q : pm_R → pm_H → Prop) : Prop := match ts with
  | [0, k', np, ci, _] => bif pm_rcv n sh ci np st then pm_call E k k' (np + 1) pc lv st (fz, n, sh, I, J, R) c z K Q else False
  | [1, _] => match st with
    | .ref a :: r => bif pm_isS a && (Nat.ble (pm_cat r) 8 && (Nat.ble c (pm_mc k) && Nat.ble z (pm_ms k))) then K (pc + 3, lv, .int (nI (pm_slen (pm_sx a))) :: r, (fz, n, sh, I, J, R), c, z) else False
    | _ => False
  | [2, _] => match st with
    | .int i :: .ref a :: r => bif pm_isS a && (Nat.ble (pm_cat r) 8 && (Nat.ble c (pm_mc k) && Nat.ble z (pm_ms k))) then vp_in i (pm_slen (pm_sx a)) ∧ K (pc + 3, lv, .int (pm_sb (pm_sx a) i.toNatClampNeg) :: r, (fz, n, sh, I, J, R), c, z) else False
    | _ => False
  | _ => False
def pm_inst (E : pm_E) (k : Nat) (ts : List Nat) (pc : Nat) (lv : pm_L) (st : List Value) (fz : Bool) (n : Nat) (sh : Nat → Nat × Nat) (I : Nat → Nat → Int32) (J : Nat → Nat → Int64) (R : Nat → Nat → Option Nat) (c z : Nat) (K : pm_F → Prop) (Q : pm_R → pm_H → Prop) : Prop := match ts with
  | [0, k', np, _] => pm_call E k k' np pc lv st (fz, n, sh, I, J, R) c z K Q
  | [2, _] => match st with
    | .int y :: .int x :: r => bif Nat.ble (pm_cat r) 8 && (Nat.ble c (pm_mc k) && Nat.ble z (pm_ms k)) then K (pc + 3, lv, .int (if y < x then y else x) :: r, (fz, n, sh, I, J, R), c, z) else False
    | _ => False
  | [3, _] => match st with
    | .int y :: .int x :: r => bif Nat.ble (pm_cat r) 8 && (Nat.ble c (pm_mc k) && Nat.ble z (pm_ms k)) then K (pc + 3, lv, .int (if x < y then y else x) :: r, (fz, n, sh, I, J, R), c, z) else False
    | _ => False
  | [4, _] => match st with
    | .int m :: .int dp :: .ref b :: .int sp :: .ref a :: r => bif Nat.ble (pm_cat r) 8 then
        bif pm_is n sh a 100 && pm_is n sh b 100 then
          (¬ sp < 0 ∧ ¬ dp < 0 ∧ ¬ m < 0 ∧ sp.toNatClampNeg + m.toNatClampNeg ≤ (sh a).2 ∧ dp.toNatClampNeg + m.toNatClampNeg ≤ (sh b).2) ∧ K (pc + 3, lv, r, (fz, n, sh, pm_ur I b (va_cpy (I a) (I b) sp.toNatClampNeg dp.toNatClampNeg m.toNatClampNeg), J, R), c, z)
        else bif pm_is n sh a 103 && pm_is n sh b 103 then
          (¬ sp < 0 ∧ ¬ dp < 0 ∧ ¬ m < 0 ∧ sp.toNatClampNeg + m.toNatClampNeg ≤ (sh a).2 ∧ dp.toNatClampNeg + m.toNatClampNeg ≤ (sh b).2) ∧ K (pc + 3, lv, r, (fz, n, sh, I, pm_ur J b (va_cpy (J a) (J b) sp.toNatClampNeg dp.toNatClampNeg m.toNatClampNeg), R), c, z)
        else False
      else False
    | _ => False
  | _ => False
def pm_sem (E : pm_E) (k : Nat) (i : Instr) (len : Nat) (ts : List Nat) (v : Int32) (s : pm_F) (K : pm_F → Prop) (Q : pm_R → pm_H → Prop) : Prop :=
  match s with
  | (pc, lv, st, (fz, n, sh, I, J, R), c, z) =>
  match i with
  | .iconst _ => K (pc + len, lv, .int v :: st, (fz, n, sh, I, J, R), c, z)
  | .bipush _ => K (pc + len, lv, .int v :: st, (fz, n, sh, I, J, R), c, z)
  | .sipush _ => K (pc + len, lv, .int v :: st, (fz, n, sh, I, J, R), c, z)
  | .lconst w => K (pc + len, lv, .long (Int64.ofNat w.val) :: st, (fz, n, sh, I, J, R), c, z)
  | .ldc _ => match ts with
    | [0, _] => K (pc + len, lv, .int v :: st, (fz, n, sh, I, J, R), c, z)
    | [1, j] => bif Nat.blt j pm_sn then K (pc + len, lv, .ref (1000000 + j) :: st, (fz, n, sh, I, J, R), c, z) else False
    | _ => False
  | .ldc_w _ => match ts with
    | [0, _] => K (pc + len, lv, .int v :: st, (fz, n, sh, I, J, R), c, z)
    | _ => False
  | .ldc2_w _ => K (pc + len, lv, .long v.toInt64 :: st, (fz, n, sh, I, J, R), c, z)
  | .iload j => match pm_get lv j with
    | some (.int x) => K (pc + len, lv, .int x :: st, (fz, n, sh, I, J, R), c, z)
    | _ => False
  | .iload_n j => match pm_get lv j.val with
    | some (.int x) => K (pc + len, lv, .int x :: st, (fz, n, sh, I, J, R), c, z)
    | _ => False
  | .lload j => match pm_get lv j with
    | some (.long x) => K (pc + len, lv, .long x :: st, (fz, n, sh, I, J, R), c, z)
    | _ => False
  | .lload_n j => match pm_get lv j.val with
    | some (.long x) => K (pc + len, lv, .long x :: st, (fz, n, sh, I, J, R), c, z)
    | _ => False
  | .aload j => match pm_get lv j with
    | some (.ref x) => K (pc + len, lv, .ref x :: st, (fz, n, sh, I, J, R), c, z)
    | _ => False
  | .aload_n j => match pm_get lv j.val with
    | some (.ref x) => K (pc + len, lv, .ref x :: st, (fz, n, sh, I, J, R), c, z)
    | _ => False
  | .istore j => match st with
    | .int x :: r => K (pc + len, pm_ins (j, .int x) (pm_f1 lv j), r, (fz, n, sh, I, J, R), c, z)
    | _ => False
  | .istore_n j => match st with
    | .int x :: r => K (pc + len, pm_ins (j.val, .int x) (pm_f1 lv j.val), r, (fz, n, sh, I, J, R), c, z)
    | _ => False
  | .lstore j => match st with
    | .long x :: r => K (pc + len, pm_ins (j, .long x) (pm_f2 lv j), r, (fz, n, sh, I, J, R), c, z)
    | _ => False
  | .lstore_n j => match st with
    | .long x :: r => K (pc + len, pm_ins (j.val, .long x) (pm_f2 lv j.val), r, (fz, n, sh, I, J, R), c, z)
    | _ => False
  | .astore j => match st with
    | .ref x :: r => K (pc + len, pm_ins (j, .ref x) (pm_f1 lv j), r, (fz, n, sh, I, J, R), c, z)
    | _ => False
  | .astore_n j => match st with
    | .ref x :: r => K (pc + len, pm_ins (j.val, .ref x) (pm_f1 lv j.val), r, (fz, n, sh, I, J, R), c, z)
    | _ => False
  | .iinc j _ => match pm_get lv j with
    | some (.int x) => K (pc + len, pm_ins (j, .int (x + v)) (pm_f1 lv j), st, (fz, n, sh, I, J, R), c, z)
    | _ => False
  | .iadd => pm_ii st (fun x y => x + y) (fun r => K (pc + len, lv, r, (fz, n, sh, I, J, R), c, z))
  | .isub => pm_ii st (fun x y => x - y) (fun r => K (pc + len, lv, r, (fz, n, sh, I, J, R), c, z))
  | .imul => pm_ii st (fun x y => x * y) (fun r => K (pc + len, lv, r, (fz, n, sh, I, J, R), c, z))
  | .iand => pm_ii st (fun x y => x &&& y) (fun r => K (pc + len, lv, r, (fz, n, sh, I, J, R), c, z))
  | .ior => pm_ii st (fun x y => x ||| y) (fun r => K (pc + len, lv, r, (fz, n, sh, I, J, R), c, z))
  | .ixor => pm_ii st (fun x y => x ^^^ y) (fun r => K (pc + len, lv, r, (fz, n, sh, I, J, R), c, z))
  | .ishl => pm_ii st (fun x y => x <<< (y &&& 31)) (fun r => K (pc + len, lv, r, (fz, n, sh, I, J, R), c, z))
  | .ishr => pm_ii st (fun x y => x >>> (y &&& 31)) (fun r => K (pc + len, lv, r, (fz, n, sh, I, J, R), c, z))
  | .iushr => pm_ii st (fun x y => (x.toUInt32 >>> (y.toUInt32 &&& Int32.toUInt32 31)).toInt32) (fun r => K (pc + len, lv, r, (fz, n, sh, I, J, R), c, z))
  | .idiv => match st with
    | .int y :: .int x :: r => ¬ y = 0 ∧ K (pc + len, lv, .int (x / y) :: r, (fz, n, sh, I, J, R), c, z)
    | _ => False
  | .irem => match st with
    | .int y :: .int x :: r => ¬ y = 0 ∧ K (pc + len, lv, .int (x - x / y * y) :: r, (fz, n, sh, I, J, R), c, z)
    | _ => False
  | .ineg => match st with
    | .int x :: r => K (pc + len, lv, .int (-x) :: r, (fz, n, sh, I, J, R), c, z)
    | _ => False
  | .lsub => pm_ll st (fun x y => x - y) (fun r => K (pc + len, lv, r, (fz, n, sh, I, J, R), c, z))
  | .land => pm_ll st (fun x y => x &&& y) (fun r => K (pc + len, lv, r, (fz, n, sh, I, J, R), c, z))
  | .lor => pm_ll st (fun x y => x ||| y) (fun r => K (pc + len, lv, r, (fz, n, sh, I, J, R), c, z))
  | .lshl => pm_li st (fun x y => x <<< (y.toInt64 &&& 63)) (fun r => K (pc + len, lv, r, (fz, n, sh, I, J, R), c, z))
  | .lshr => pm_li st (fun x y => x >>> (y.toInt64 &&& 63)) (fun r => K (pc + len, lv, r, (fz, n, sh, I, J, R), c, z))
  | .lcmp => match st with
    | .long y :: .long x :: r => K (pc + len, lv, .int (lg_cmp x y) :: r, (fz, n, sh, I, J, R), c, z)
    | _ => False
  | .i2l => match st with
    | .int x :: r => K (pc + len, lv, .long x.toInt64 :: r, (fz, n, sh, I, J, R), c, z)
    | _ => False
  | .l2i => match st with
    | .long x :: r => K (pc + len, lv, .int x.toInt32 :: r, (fz, n, sh, I, J, R), c, z)
    | _ => False
  | .i2b => match st with
    | .int x :: r => K (pc + len, lv, .int x.toInt8.toInt32 :: r, (fz, n, sh, I, J, R), c, z)
    | _ => False
  | .dup => match st with
    | w :: r => bif Nat.beq w.category 1 then K (pc + len, lv, w :: w :: r, (fz, n, sh, I, J, R), c, z) else False
    | _ => False
  | .dup2 => match st with
    | w :: u :: r => bif Nat.beq w.category 1 && Nat.beq u.category 1 then K (pc + len, lv, w :: u :: w :: u :: r, (fz, n, sh, I, J, R), c, z) else False
    | _ => False
  | .pop => match st with
    | w :: r => bif Nat.beq w.category 1 then K (pc + len, lv, r, (fz, n, sh, I, J, R), c, z) else False
    | _ => False
  | .goto _ => match ts with
    | [t] => K (t, lv, st, (fz, n, sh, I, J, R), c, z)
    | _ => False
  | .ifCond cd _ => match st, ts with
    | .int x :: r, [t] => pm_br cd x 0 (K (t, lv, r, (fz, n, sh, I, J, R), c, z)) (K (pc + len, lv, r, (fz, n, sh, I, J, R), c, z))
    | _, _ => False
  | .if_icmp cd _ => match st, ts with
    | .int y :: .int x :: r, [t] => pm_br cd x y (K (t, lv, r, (fz, n, sh, I, J, R), c, z)) (K (pc + len, lv, r, (fz, n, sh, I, J, R), c, z))
    | _, _ => False
  | .tableswitch _ lo hi _ => match st, ts with
    | .int x :: r, d :: cs => (x.toInt < lo ∨ hi < x.toInt → K (d, lv, r, (fz, n, sh, I, J, R), c, z)) ∧ pm_sw x (fun t => K (t, lv, r, (fz, n, sh, I, J, R), c, z)) lo cs
    | _, _ => False
  | .getfield _ => match st, ts with
    | .ref a :: r, [ci, fk, _] => bif pm_is n sh a ci then K (pc + len, lv, pm_fv (pm_ft ci fk) I J R a fk :: r, (fz, n, sh, I, J, R), c, z) else False
    | _, _ => False
  | .putfield _ => match st, ts with
    | w :: .ref a :: r, [ci, fk, _, _] => bif pm_is n sh a ci then match pm_ft ci fk, w with
        | 0, .int x => K (pc + len, lv, r, (fz, n, sh, pm_u I a fk x, J, R), c, z)
        | 1, .int x => (x = 0 ∨ x = 1) ∧ K (pc + len, lv, r, (fz, n, sh, pm_u I a fk x, J, R), c, z)
        | 2, .long x => K (pc + len, lv, r, (fz, n, sh, I, pm_u J a fk x, R), c, z)
        | 3, .ref x => K (pc + len, lv, r, (fz, n, sh, I, J, pm_u R a fk (some x)), c, z)
        | _, _ => False
      else False
    | _, _ => False
  | .iaload => match st with
    | .int j :: .ref a :: r => bif pm_isI n sh a then vp_in j (sh a).2 ∧ K (pc + len, lv, .int (I a j.toNatClampNeg) :: r, (fz, n, sh, I, J, R), c, z) else False
    | _ => False
  | .baload => match st with
    | .int j :: .ref a :: r => bif pm_is n sh a 101 || pm_is n sh a 102 then vp_in j (sh a).2 ∧ K (pc + len, lv, .int (I a j.toNatClampNeg) :: r, (fz, n, sh, I, J, R), c, z) else False
    | _ => False
  | .laload => match st with
    | .int j :: .ref a :: r => bif pm_is n sh a 103 then vp_in j (sh a).2 ∧ K (pc + len, lv, .long (J a j.toNatClampNeg) :: r, (fz, n, sh, I, J, R), c, z) else False
    | _ => False
  | .iastore => match st with
    | .int x :: .int j :: .ref a :: r => bif pm_is n sh a 100 then vp_in j (sh a).2 ∧ K (pc + len, lv, r, (fz, n, sh, pm_u I a j.toNatClampNeg x, J, R), c, z) else False
    | _ => False
  | .bastore => match st with
    | .int x :: .int j :: .ref a :: r => bif pm_is n sh a 101 then vp_in j (sh a).2 ∧ K (pc + len, lv, r, (fz, n, sh, pm_u I a j.toNatClampNeg (vp_nar .byte x), J, R), c, z)
        else bif pm_is n sh a 102 then vp_in j (sh a).2 ∧ K (pc + len, lv, r, (fz, n, sh, pm_u I a j.toNatClampNeg (vp_nar .boolean x), J, R), c, z) else False
    | _ => False
  | .lastore => match st with
    | .long x :: .int j :: .ref a :: r => bif pm_is n sh a 103 then vp_in j (sh a).2 ∧ K (pc + len, lv, r, (fz, n, sh, I, pm_u J a j.toNatClampNeg x, R), c, z) else False
    | _ => False
  | .arraylength => match st with
    | .ref a :: r => bif pm_isA n sh a then K (pc + len, lv, .int (nI (sh a).2) :: r, (fz, n, sh, I, J, R), c, z) else False
    | _ => False
  | .newarray t => match st with
    | .int m :: r => bif !fz && (Nat.blt (n + 1) 1000000 && (Nat.ble (pm_ak t) 103 && (Nat.ble m.toNatClampNeg 100000 && (Nat.ble (c + 1) (pm_mc k) && Nat.ble (z + m.toNatClampNeg) (pm_ms k))))) then
        ¬ m < 0 ∧ K (pc + len, lv, .ref n :: r, (fz, n + 1, (fun x => if x = n then (pm_ak t, m.toNatClampNeg) else sh x), pm_ur I n (fun _ => 0), pm_ur J n (fun _ => 0), pm_ur R n (fun _ => none)), c + 1, z + m.toNatClampNeg) else False
    | _ => False
  | .new _ => match ts with
    | [0, ci, _] => bif !fz && (Nat.blt (n + 1) 1000000 && (Nat.ble (c + 1) (pm_mc k) && Nat.ble (z + pm_nf ci) (pm_ms k))) then
        K (pc + len, lv, .ref n :: st, (fz, n + 1, (fun x => if x = n then (ci, pm_nf ci) else sh x), pm_ur I n (fun _ => 0), pm_ur J n (fun _ => 0), pm_ur R n (fun _ => none)), c + 1, z + pm_nf ci) else False
    | [1, x, _, _, _, _] => bif Nat.ble (c + 1) (pm_mc k) && (Nat.ble (z + 6) (pm_ms k) && Nat.ble (pm_cat st) 8) then Q (.inr x) (true, n, sh, I, J, R) else False
    | _ => False
  | .invokevirtual _ => pm_inv E k ts pc lv st fz n sh I J R c z K Q
  | .invokestatic _ => pm_inst E k ts pc lv st fz n sh I J R c z K Q
  | .invokespecial _ => match ts with
    | [0, k', np, ci, _] => bif pm_rcv n sh ci np st then pm_call0 E k k' (np + 1) pc lv st (fz, n, sh, I, J, R) c z K else False
    | [1, k', np, ci, _] => bif pm_rcv n sh ci np st then pm_call0 E k k' (np + 1) pc lv st (fz, n, sh, I, J, R) c z K else False
    | [2, _] => match st with
      | .ref _ :: r => bif Nat.ble (pm_cat r) 8 then K (pc + 3, lv, r, (fz, n, sh, I, J, R), c, z) else False
      | _ => False
    | _ => False
  | .ireturn => match st, ts with
    | [.int x], [0] => pm_ret k c z (Q (.inl (some (.int x))) (fz, n, sh, I, J, R))
    | [.int x], [1] => (x = 0 ∨ x = 1) ∧ pm_ret k c z (Q (.inl (some (.int x))) (fz, n, sh, I, J, R))
    | _, _ => False
  | .lreturn => match st with
    | [.long x] => pm_ret k c z (Q (.inl (some (.long x))) (fz, n, sh, I, J, R))
    | _ => False
  | .return_ => match st with
    | [] => pm_ret k c z (Q (.inl none) (fz, n, sh, I, J, R))
    | _ => False
  | _ => False
def pm_step (E : pm_E) (k : Nat) (s : pm_F) (K : pm_F → Prop) (Q : pm_R → pm_H → Prop) : Prop :=
  match pm_tab k s.1 with
  | none => False
  | some (i, len, ts, v) => pm_sem E k i len ts v s K Q
/-- from s the method comes to its end with Q: the least such words, closed under forgetting locals -/
def pm_T (E : pm_E) (k : Nat) (Q : pm_R → pm_H → Prop) (s : pm_F) : Prop :=
  ∀ P : pm_F → Prop, (∀ s, pm_step E k s P Q → P s) → (∀ (pc : Nat) (lv lv' : pm_L) (st : List Value) (h : pm_H) (c z : Nat), (∀ q ∈ lv', q ∈ lv) → P (pc, lv', st, h, c, z) → P (pc, lv, st, h, c, z)) → P s
def pm_Ev : Nat → pm_E
  | 0 => fun _ _ _ _ => False
  | d + 1 => fun k as h Q => bif Nat.ble (pm_cat as) (pm_ml k) then pm_T (pm_Ev d) k Q (0, lv_args 0 as, [], h, 0, 0) else False
