/-! the constructors, from the first row of the law to its loop; written by wip/whole/gen_init.py -/
def hs0 (L : Nat) : Nat → Nat × Nat := fun x => bif Nat.beq x 2000000 then (104, L) else (0, 0)
def hI0 (xs : Nat → Int32) : Nat → Nat → Int32 := fun x y => bif Nat.beq x 2000000 then xs y else 0
def hJ0 : Nat → Nat → Int64 := fun _ _ => 0
def hR0 : Nat → Nat → Option Nat := fun _ _ => none
def hs1 (L : Nat) : Nat → Nat × Nat := fun x => if x = 0 then (10, 19) else hs0 L x
def hI1 (xs : Nat → Int32) : Nat → Nat → Int32 := pm_ur (hI0 xs) 0 (fun _ => 0)
def hJ1 : Nat → Nat → Int64 := pm_ur hJ0 0 (fun _ => 0)
def hR1 : Nat → Nat → Option Nat := pm_ur hR0 0 (fun _ => none)
def hs2 (L : Nat) : Nat → Nat × Nat := fun x => if x = 1 then (3, 10) else hs1 L x
def hI2 (xs : Nat → Int32) : Nat → Nat → Int32 := pm_ur (hI1 xs) 1 (fun _ => 0)
def hJ2 : Nat → Nat → Int64 := pm_ur hJ1 1 (fun _ => 0)
def hR2 : Nat → Nat → Option Nat := pm_ur hR1 1 (fun _ => none)
def hs3 (L : Nat) : Nat → Nat × Nat := fun x => if x = 2 then (101, 700) else hs2 L x
def hI3 (xs : Nat → Int32) : Nat → Nat → Int32 := pm_ur (hI2 xs) 2 (fun _ => 0)
def hJ3 : Nat → Nat → Int64 := pm_ur hJ2 2 (fun _ => 0)
def hR3 : Nat → Nat → Option Nat := pm_ur hR2 2 (fun _ => none)
def hR4 : Nat → Nat → Option Nat := pm_u hR3 1 0 (some 2)
def hI4 (xs : Nat → Int32) : Nat → Nat → Int32 := pm_u (hI3 xs) 1 1 0
def hI5 (xs : Nat → Int32) : Nat → Nat → Int32 := pm_u (hI4 xs) 1 2 0
def hI6 (xs : Nat → Int32) : Nat → Nat → Int32 := pm_u (hI5 xs) 1 3 0
def hI7 (xs : Nat → Int32) : Nat → Nat → Int32 := pm_u (hI6 xs) 1 4 0
def hI8 (xs : Nat → Int32) : Nat → Nat → Int32 := pm_u (hI7 xs) 1 5 0
def hI9 (xs : Nat → Int32) : Nat → Nat → Int32 := pm_u (hI8 xs) 1 6 0
def hI10 (xs : Nat → Int32) : Nat → Nat → Int32 := pm_u (hI9 xs) 1 7 0
def hI11 (xs : Nat → Int32) : Nat → Nat → Int32 := pm_u (hI10 xs) 1 8 0
def hI12 (xs : Nat → Int32) : Nat → Nat → Int32 := pm_u (hI11 xs) 1 9 (-1)
set_option maxRecDepth 100000 in
set_option maxHeartbeats 4000000 in
theorem ini_1 {d L : Nat} {xs : Nat → Int32} {Q : pm_R → pm_H → Prop} (h : Q (.inl none) (false, 3, hs3 L, hI12 xs, hJ3, hR4)) : pm_Ev (d + 1) 241 [.ref 1] (false, 2, hs2 L, hI2 xs, hJ2, hR2) Q := pm_Ev_in rfl (pm_go (d + 0) [] 2000 ⟨by decide, h⟩)
def hR5 : Nat → Nat → Option Nat := pm_u hR4 0 0 (some 1)
def hs4 (L : Nat) : Nat → Nat × Nat := fun x => if x = 3 then (2, 6) else hs3 L x
def hI13 (xs : Nat → Int32) : Nat → Nat → Int32 := pm_ur (hI12 xs) 3 (fun _ => 0)
def hJ4 : Nat → Nat → Int64 := pm_ur hJ3 3 (fun _ => 0)
def hR6 : Nat → Nat → Option Nat := pm_ur hR5 3 (fun _ => none)
def hs5 (L : Nat) : Nat → Nat × Nat := fun x => if x = 4 then (100, 12) else hs4 L x
def hI14 (xs : Nat → Int32) : Nat → Nat → Int32 := pm_ur (hI13 xs) 4 (fun _ => 0)
def hJ5 : Nat → Nat → Int64 := pm_ur hJ4 4 (fun _ => 0)
def hR7 : Nat → Nat → Option Nat := pm_ur hR6 4 (fun _ => none)
def hR8 : Nat → Nat → Option Nat := pm_u hR7 3 0 (some 4)
def hI15 (xs : Nat → Int32) : Nat → Nat → Int32 := pm_u (hI14 xs) 3 1 0
def hs6 (L : Nat) : Nat → Nat × Nat := fun x => if x = 5 then (100, 12) else hs5 L x
def hI16 (xs : Nat → Int32) : Nat → Nat → Int32 := pm_ur (hI15 xs) 5 (fun _ => 0)
def hJ6 : Nat → Nat → Int64 := pm_ur hJ5 5 (fun _ => 0)
def hR9 : Nat → Nat → Option Nat := pm_ur hR8 5 (fun _ => none)
def hR10 : Nat → Nat → Option Nat := pm_u hR9 3 2 (some 5)
def hs7 (L : Nat) : Nat → Nat × Nat := fun x => if x = 6 then (100, 6) else hs6 L x
def hI17 (xs : Nat → Int32) : Nat → Nat → Int32 := pm_ur (hI16 xs) 6 (fun _ => 0)
def hJ7 : Nat → Nat → Int64 := pm_ur hJ6 6 (fun _ => 0)
def hR11 : Nat → Nat → Option Nat := pm_ur hR10 6 (fun _ => none)
def hR12 : Nat → Nat → Option Nat := pm_u hR11 3 3 (some 6)
def hs8 (L : Nat) : Nat → Nat × Nat := fun x => if x = 7 then (100, 1440) else hs7 L x
def hI18 (xs : Nat → Int32) : Nat → Nat → Int32 := pm_ur (hI17 xs) 7 (fun _ => 0)
def hJ8 : Nat → Nat → Int64 := pm_ur hJ7 7 (fun _ => 0)
def hR13 : Nat → Nat → Option Nat := pm_ur hR12 7 (fun _ => none)
def hR14 : Nat → Nat → Option Nat := pm_u hR13 3 4 (some 7)
def hs9 (L : Nat) : Nat → Nat × Nat := fun x => if x = 8 then (100, 120) else hs8 L x
def hI19 (xs : Nat → Int32) : Nat → Nat → Int32 := pm_ur (hI18 xs) 8 (fun _ => 0)
def hJ9 : Nat → Nat → Int64 := pm_ur hJ8 8 (fun _ => 0)
def hR15 : Nat → Nat → Option Nat := pm_ur hR14 8 (fun _ => none)
def hR16 : Nat → Nat → Option Nat := pm_u hR15 3 5 (some 8)
set_option maxRecDepth 100000 in
set_option maxHeartbeats 4000000 in
theorem ini_2 {d L : Nat} {xs : Nat → Int32} {Q : pm_R → pm_H → Prop} (h : Q (.inl none) (false, 9, hs9 L, hI19 xs, hJ9, hR16)) : pm_Ev (d + 1) 240 [.ref 3] (false, 4, hs4 L, hI13 xs, hJ4, hR6) Q := pm_Ev_in rfl (pm_go (d + 0) [] 2000 ⟨by decide, ⟨by decide, ⟨by decide, ⟨by decide, ⟨by decide, h⟩⟩⟩⟩⟩)
def hR17 : Nat → Nat → Option Nat := pm_u hR16 0 1 (some 3)
def hs10 (L : Nat) : Nat → Nat × Nat := fun x => if x = 9 then (5, 3) else hs9 L x
def hI20 (xs : Nat → Int32) : Nat → Nat → Int32 := pm_ur (hI19 xs) 9 (fun _ => 0)
def hJ10 : Nat → Nat → Int64 := pm_ur hJ9 9 (fun _ => 0)
def hR18 : Nat → Nat → Option Nat := pm_ur hR17 9 (fun _ => none)
def hs11 (L : Nat) : Nat → Nat × Nat := fun x => if x = 10 then (100, 8) else hs10 L x
def hI21 (xs : Nat → Int32) : Nat → Nat → Int32 := pm_ur (hI20 xs) 10 (fun _ => 0)
def hJ11 : Nat → Nat → Int64 := pm_ur hJ10 10 (fun _ => 0)
def hR19 : Nat → Nat → Option Nat := pm_ur hR18 10 (fun _ => none)
def hR20 : Nat → Nat → Option Nat := pm_u hR19 9 0 (some 10)
def hs12 (L : Nat) : Nat → Nat × Nat := fun x => if x = 11 then (100, 8) else hs11 L x
def hI22 (xs : Nat → Int32) : Nat → Nat → Int32 := pm_ur (hI21 xs) 11 (fun _ => 0)
def hJ12 : Nat → Nat → Int64 := pm_ur hJ11 11 (fun _ => 0)
def hR21 : Nat → Nat → Option Nat := pm_ur hR20 11 (fun _ => none)
def hR22 : Nat → Nat → Option Nat := pm_u hR21 9 1 (some 11)
def hI23 (xs : Nat → Int32) : Nat → Nat → Int32 := pm_u (hI22 xs) 9 2 0
set_option maxRecDepth 100000 in
set_option maxHeartbeats 4000000 in
theorem ini_3 {d L : Nat} {xs : Nat → Int32} {Q : pm_R → pm_H → Prop} (h : Q (.inl none) (false, 12, hs12 L, hI23 xs, hJ12, hR22)) : pm_Ev (d + 1) 243 [.ref 9] (false, 10, hs10 L, hI20 xs, hJ10, hR18) Q := pm_Ev_in rfl (pm_go (d + 0) [] 2000 ⟨by decide, ⟨by decide, h⟩⟩)
def hR23 : Nat → Nat → Option Nat := pm_u hR22 0 2 (some 9)
def hs13 (L : Nat) : Nat → Nat × Nat := fun x => if x = 12 then (6, 3) else hs12 L x
def hI24 (xs : Nat → Int32) : Nat → Nat → Int32 := pm_ur (hI23 xs) 12 (fun _ => 0)
def hJ13 : Nat → Nat → Int64 := pm_ur hJ12 12 (fun _ => 0)
def hR24 : Nat → Nat → Option Nat := pm_ur hR23 12 (fun _ => none)
def hs14 (L : Nat) : Nat → Nat × Nat := fun x => if x = 13 then (100, 4) else hs13 L x
def hI25 (xs : Nat → Int32) : Nat → Nat → Int32 := pm_ur (hI24 xs) 13 (fun _ => 0)
def hJ14 : Nat → Nat → Int64 := pm_ur hJ13 13 (fun _ => 0)
def hR25 : Nat → Nat → Option Nat := pm_ur hR24 13 (fun _ => none)
def hR26 : Nat → Nat → Option Nat := pm_u hR25 12 0 (some 13)
def hs15 (L : Nat) : Nat → Nat × Nat := fun x => if x = 14 then (100, 100) else hs14 L x
def hI26 (xs : Nat → Int32) : Nat → Nat → Int32 := pm_ur (hI25 xs) 14 (fun _ => 0)
def hJ15 : Nat → Nat → Int64 := pm_ur hJ14 14 (fun _ => 0)
def hR27 : Nat → Nat → Option Nat := pm_ur hR26 14 (fun _ => none)
def hR28 : Nat → Nat → Option Nat := pm_u hR27 12 1 (some 14)
def hs16 (L : Nat) : Nat → Nat × Nat := fun x => if x = 15 then (100, 4608) else hs15 L x
def hI27 (xs : Nat → Int32) : Nat → Nat → Int32 := pm_ur (hI26 xs) 15 (fun _ => 0)
def hJ16 : Nat → Nat → Int64 := pm_ur hJ15 15 (fun _ => 0)
def hR29 : Nat → Nat → Option Nat := pm_ur hR28 15 (fun _ => none)
def hR30 : Nat → Nat → Option Nat := pm_u hR29 12 2 (some 15)
set_option maxRecDepth 100000 in
set_option maxHeartbeats 4000000 in
theorem ini_4 {d L : Nat} {xs : Nat → Int32} {Q : pm_R → pm_H → Prop} (h : Q (.inl none) (false, 16, hs16 L, hI27 xs, hJ16, hR30)) : pm_Ev (d + 1) 244 [.ref 12] (false, 13, hs13 L, hI24 xs, hJ13, hR24) Q := pm_Ev_in rfl (pm_go (d + 0) [] 2000 ⟨by decide, ⟨by decide, ⟨by decide, h⟩⟩⟩)
def hR31 : Nat → Nat → Option Nat := pm_u hR30 0 3 (some 12)
def hs17 (L : Nat) : Nat → Nat × Nat := fun x => if x = 16 then (8, 5) else hs16 L x
def hI28 (xs : Nat → Int32) : Nat → Nat → Int32 := pm_ur (hI27 xs) 16 (fun _ => 0)
def hJ17 : Nat → Nat → Int64 := pm_ur hJ16 16 (fun _ => 0)
def hR32 : Nat → Nat → Option Nat := pm_ur hR31 16 (fun _ => none)
def hs18 (L : Nat) : Nat → Nat × Nat := fun x => if x = 17 then (100, 10) else hs17 L x
def hI29 (xs : Nat → Int32) : Nat → Nat → Int32 := pm_ur (hI28 xs) 17 (fun _ => 0)
def hJ18 : Nat → Nat → Int64 := pm_ur hJ17 17 (fun _ => 0)
def hR33 : Nat → Nat → Option Nat := pm_ur hR32 17 (fun _ => none)
def hR34 : Nat → Nat → Option Nat := pm_u hR33 16 0 (some 17)
def hs19 (L : Nat) : Nat → Nat × Nat := fun x => if x = 18 then (100, 10) else hs18 L x
def hI30 (xs : Nat → Int32) : Nat → Nat → Int32 := pm_ur (hI29 xs) 18 (fun _ => 0)
def hJ19 : Nat → Nat → Int64 := pm_ur hJ18 18 (fun _ => 0)
def hR35 : Nat → Nat → Option Nat := pm_ur hR34 18 (fun _ => none)
def hR36 : Nat → Nat → Option Nat := pm_u hR35 16 1 (some 18)
def hs20 (L : Nat) : Nat → Nat × Nat := fun x => if x = 19 then (100, 12) else hs19 L x
def hI31 (xs : Nat → Int32) : Nat → Nat → Int32 := pm_ur (hI30 xs) 19 (fun _ => 0)
def hJ20 : Nat → Nat → Int64 := pm_ur hJ19 19 (fun _ => 0)
def hR37 : Nat → Nat → Option Nat := pm_ur hR36 19 (fun _ => none)
def hR38 : Nat → Nat → Option Nat := pm_u hR37 16 2 (some 19)
def hI32 (xs : Nat → Int32) : Nat → Nat → Int32 := pm_u (hI31 xs) 16 3 0
def hI33 (xs : Nat → Int32) : Nat → Nat → Int32 := pm_u (hI32 xs) 16 4 0
set_option maxRecDepth 100000 in
set_option maxHeartbeats 4000000 in
theorem ini_5 {d L : Nat} {xs : Nat → Int32} {Q : pm_R → pm_H → Prop} (h : Q (.inl none) (false, 20, hs20 L, hI33 xs, hJ20, hR38)) : pm_Ev (d + 1) 246 [.ref 16] (false, 17, hs17 L, hI28 xs, hJ17, hR32) Q := pm_Ev_in rfl (pm_go (d + 0) [] 2000 ⟨by decide, ⟨by decide, ⟨by decide, h⟩⟩⟩)
def hR39 : Nat → Nat → Option Nat := pm_u hR38 0 4 (some 16)
def hs21 (L : Nat) : Nat → Nat × Nat := fun x => if x = 20 then (100, 3) else hs20 L x
def hI34 (xs : Nat → Int32) : Nat → Nat → Int32 := pm_ur (hI33 xs) 20 (fun _ => 0)
def hJ21 : Nat → Nat → Int64 := pm_ur hJ20 20 (fun _ => 0)
def hR40 : Nat → Nat → Option Nat := pm_ur hR39 20 (fun _ => none)
def hR41 : Nat → Nat → Option Nat := pm_u hR40 0 5 (some 20)
def hs22 (L : Nat) : Nat → Nat × Nat := fun x => if x = 21 then (100, 120) else hs21 L x
def hI35 (xs : Nat → Int32) : Nat → Nat → Int32 := pm_ur (hI34 xs) 21 (fun _ => 0)
def hJ22 : Nat → Nat → Int64 := pm_ur hJ21 21 (fun _ => 0)
def hR42 : Nat → Nat → Option Nat := pm_ur hR41 21 (fun _ => none)
def hR43 : Nat → Nat → Option Nat := pm_u hR42 0 6 (some 21)
def hs23 (L : Nat) : Nat → Nat × Nat := fun x => if x = 22 then (100, 10) else hs22 L x
def hI36 (xs : Nat → Int32) : Nat → Nat → Int32 := pm_ur (hI35 xs) 22 (fun _ => 0)
def hJ23 : Nat → Nat → Int64 := pm_ur hJ22 22 (fun _ => 0)
def hR44 : Nat → Nat → Option Nat := pm_ur hR43 22 (fun _ => none)
def hR45 : Nat → Nat → Option Nat := pm_u hR44 0 7 (some 22)
def hs24 (L : Nat) : Nat → Nat × Nat := fun x => if x = 23 then (9, 6) else hs23 L x
def hI37 (xs : Nat → Int32) : Nat → Nat → Int32 := pm_ur (hI36 xs) 23 (fun _ => 0)
def hJ24 : Nat → Nat → Int64 := pm_ur hJ23 23 (fun _ => 0)
def hR46 : Nat → Nat → Option Nat := pm_ur hR45 23 (fun _ => none)
def hs25 (L : Nat) : Nat → Nat × Nat := fun x => if x = 24 then (100, 10) else hs24 L x
def hI38 (xs : Nat → Int32) : Nat → Nat → Int32 := pm_ur (hI37 xs) 24 (fun _ => 0)
def hJ25 : Nat → Nat → Int64 := pm_ur hJ24 24 (fun _ => 0)
def hR47 : Nat → Nat → Option Nat := pm_ur hR46 24 (fun _ => none)
def hR48 : Nat → Nat → Option Nat := pm_u hR47 23 0 (some 24)
def hs26 (L : Nat) : Nat → Nat × Nat := fun x => if x = 25 then (100, 10) else hs25 L x
def hI39 (xs : Nat → Int32) : Nat → Nat → Int32 := pm_ur (hI38 xs) 25 (fun _ => 0)
def hJ26 : Nat → Nat → Int64 := pm_ur hJ25 25 (fun _ => 0)
def hR49 : Nat → Nat → Option Nat := pm_ur hR48 25 (fun _ => none)
def hR50 : Nat → Nat → Option Nat := pm_u hR49 23 1 (some 25)
def hs27 (L : Nat) : Nat → Nat × Nat := fun x => if x = 26 then (100, 12) else hs26 L x
def hI40 (xs : Nat → Int32) : Nat → Nat → Int32 := pm_ur (hI39 xs) 26 (fun _ => 0)
def hJ27 : Nat → Nat → Int64 := pm_ur hJ26 26 (fun _ => 0)
def hR51 : Nat → Nat → Option Nat := pm_ur hR50 26 (fun _ => none)
def hR52 : Nat → Nat → Option Nat := pm_u hR51 23 2 (some 26)
def hI41 (xs : Nat → Int32) : Nat → Nat → Int32 := pm_u (hI40 xs) 23 3 0
def hI42 (xs : Nat → Int32) : Nat → Nat → Int32 := pm_u (hI41 xs) 23 4 0
def hI43 (xs : Nat → Int32) : Nat → Nat → Int32 := pm_u (hI42 xs) 23 5 0
set_option maxRecDepth 100000 in
set_option maxHeartbeats 4000000 in
theorem ini_6 {d L : Nat} {xs : Nat → Int32} {Q : pm_R → pm_H → Prop} (h : Q (.inl none) (false, 27, hs27 L, hI43 xs, hJ27, hR52)) : pm_Ev (d + 1) 247 [.ref 23] (false, 24, hs24 L, hI37 xs, hJ24, hR46) Q := pm_Ev_in rfl (pm_go (d + 0) [] 2000 ⟨by decide, ⟨by decide, ⟨by decide, h⟩⟩⟩)
def hR53 : Nat → Nat → Option Nat := pm_u hR52 0 8 (some 23)
def hs28 (L : Nat) : Nat → Nat × Nat := fun x => if x = 27 then (9, 6) else hs27 L x
def hI44 (xs : Nat → Int32) : Nat → Nat → Int32 := pm_ur (hI43 xs) 27 (fun _ => 0)
def hJ28 : Nat → Nat → Int64 := pm_ur hJ27 27 (fun _ => 0)
def hR54 : Nat → Nat → Option Nat := pm_ur hR53 27 (fun _ => none)
def hs29 (L : Nat) : Nat → Nat × Nat := fun x => if x = 28 then (100, 10) else hs28 L x
def hI45 (xs : Nat → Int32) : Nat → Nat → Int32 := pm_ur (hI44 xs) 28 (fun _ => 0)
def hJ29 : Nat → Nat → Int64 := pm_ur hJ28 28 (fun _ => 0)
def hR55 : Nat → Nat → Option Nat := pm_ur hR54 28 (fun _ => none)
def hR56 : Nat → Nat → Option Nat := pm_u hR55 27 0 (some 28)
def hs30 (L : Nat) : Nat → Nat × Nat := fun x => if x = 29 then (100, 10) else hs29 L x
def hI46 (xs : Nat → Int32) : Nat → Nat → Int32 := pm_ur (hI45 xs) 29 (fun _ => 0)
def hJ30 : Nat → Nat → Int64 := pm_ur hJ29 29 (fun _ => 0)
def hR57 : Nat → Nat → Option Nat := pm_ur hR56 29 (fun _ => none)
def hR58 : Nat → Nat → Option Nat := pm_u hR57 27 1 (some 29)
def hs31 (L : Nat) : Nat → Nat × Nat := fun x => if x = 30 then (100, 12) else hs30 L x
def hI47 (xs : Nat → Int32) : Nat → Nat → Int32 := pm_ur (hI46 xs) 30 (fun _ => 0)
def hJ31 : Nat → Nat → Int64 := pm_ur hJ30 30 (fun _ => 0)
def hR59 : Nat → Nat → Option Nat := pm_ur hR58 30 (fun _ => none)
def hR60 : Nat → Nat → Option Nat := pm_u hR59 27 2 (some 30)
def hI48 (xs : Nat → Int32) : Nat → Nat → Int32 := pm_u (hI47 xs) 27 3 0
def hI49 (xs : Nat → Int32) : Nat → Nat → Int32 := pm_u (hI48 xs) 27 4 0
def hI50 (xs : Nat → Int32) : Nat → Nat → Int32 := pm_u (hI49 xs) 27 5 0
set_option maxRecDepth 100000 in
set_option maxHeartbeats 4000000 in
theorem ini_7 {d L : Nat} {xs : Nat → Int32} {Q : pm_R → pm_H → Prop} (h : Q (.inl none) (false, 31, hs31 L, hI50 xs, hJ31, hR60)) : pm_Ev (d + 1) 247 [.ref 27] (false, 28, hs28 L, hI44 xs, hJ28, hR54) Q := pm_Ev_in rfl (pm_go (d + 0) [] 2000 ⟨by decide, ⟨by decide, ⟨by decide, h⟩⟩⟩)
def hR61 : Nat → Nat → Option Nat := pm_u hR60 0 9 (some 27)
def hs32 (L : Nat) : Nat → Nat × Nat := fun x => if x = 31 then (9, 6) else hs31 L x
def hI51 (xs : Nat → Int32) : Nat → Nat → Int32 := pm_ur (hI50 xs) 31 (fun _ => 0)
def hJ32 : Nat → Nat → Int64 := pm_ur hJ31 31 (fun _ => 0)
def hR62 : Nat → Nat → Option Nat := pm_ur hR61 31 (fun _ => none)
def hs33 (L : Nat) : Nat → Nat × Nat := fun x => if x = 32 then (100, 10) else hs32 L x
def hI52 (xs : Nat → Int32) : Nat → Nat → Int32 := pm_ur (hI51 xs) 32 (fun _ => 0)
def hJ33 : Nat → Nat → Int64 := pm_ur hJ32 32 (fun _ => 0)
def hR63 : Nat → Nat → Option Nat := pm_ur hR62 32 (fun _ => none)
def hR64 : Nat → Nat → Option Nat := pm_u hR63 31 0 (some 32)
def hs34 (L : Nat) : Nat → Nat × Nat := fun x => if x = 33 then (100, 10) else hs33 L x
def hI53 (xs : Nat → Int32) : Nat → Nat → Int32 := pm_ur (hI52 xs) 33 (fun _ => 0)
def hJ34 : Nat → Nat → Int64 := pm_ur hJ33 33 (fun _ => 0)
def hR65 : Nat → Nat → Option Nat := pm_ur hR64 33 (fun _ => none)
def hR66 : Nat → Nat → Option Nat := pm_u hR65 31 1 (some 33)
def hs35 (L : Nat) : Nat → Nat × Nat := fun x => if x = 34 then (100, 12) else hs34 L x
def hI54 (xs : Nat → Int32) : Nat → Nat → Int32 := pm_ur (hI53 xs) 34 (fun _ => 0)
def hJ35 : Nat → Nat → Int64 := pm_ur hJ34 34 (fun _ => 0)
def hR67 : Nat → Nat → Option Nat := pm_ur hR66 34 (fun _ => none)
def hR68 : Nat → Nat → Option Nat := pm_u hR67 31 2 (some 34)
def hI55 (xs : Nat → Int32) : Nat → Nat → Int32 := pm_u (hI54 xs) 31 3 0
def hI56 (xs : Nat → Int32) : Nat → Nat → Int32 := pm_u (hI55 xs) 31 4 0
def hI57 (xs : Nat → Int32) : Nat → Nat → Int32 := pm_u (hI56 xs) 31 5 0
set_option maxRecDepth 100000 in
set_option maxHeartbeats 4000000 in
theorem ini_8 {d L : Nat} {xs : Nat → Int32} {Q : pm_R → pm_H → Prop} (h : Q (.inl none) (false, 35, hs35 L, hI57 xs, hJ35, hR68)) : pm_Ev (d + 1) 247 [.ref 31] (false, 32, hs32 L, hI51 xs, hJ32, hR62) Q := pm_Ev_in rfl (pm_go (d + 0) [] 2000 ⟨by decide, ⟨by decide, ⟨by decide, h⟩⟩⟩)
def hR69 : Nat → Nat → Option Nat := pm_u hR68 0 10 (some 31)
def hs36 (L : Nat) : Nat → Nat × Nat := fun x => if x = 35 then (0, 5) else hs35 L x
def hI58 (xs : Nat → Int32) : Nat → Nat → Int32 := pm_ur (hI57 xs) 35 (fun _ => 0)
def hJ36 : Nat → Nat → Int64 := pm_ur hJ35 35 (fun _ => 0)
def hR70 : Nat → Nat → Option Nat := pm_ur hR69 35 (fun _ => none)
def hs37 (L : Nat) : Nat → Nat × Nat := fun x => if x = 36 then (100, 40) else hs36 L x
def hI59 (xs : Nat → Int32) : Nat → Nat → Int32 := pm_ur (hI58 xs) 36 (fun _ => 0)
def hJ37 : Nat → Nat → Int64 := pm_ur hJ36 36 (fun _ => 0)
def hR71 : Nat → Nat → Option Nat := pm_ur hR70 36 (fun _ => none)
def hR72 : Nat → Nat → Option Nat := pm_u hR71 35 0 (some 36)
def hs38 (L : Nat) : Nat → Nat × Nat := fun x => if x = 37 then (100, 40) else hs37 L x
def hI60 (xs : Nat → Int32) : Nat → Nat → Int32 := pm_ur (hI59 xs) 37 (fun _ => 0)
def hJ38 : Nat → Nat → Int64 := pm_ur hJ37 37 (fun _ => 0)
def hR73 : Nat → Nat → Option Nat := pm_ur hR72 37 (fun _ => none)
def hR74 : Nat → Nat → Option Nat := pm_u hR73 35 1 (some 37)
def hs39 (L : Nat) : Nat → Nat × Nat := fun x => if x = 38 then (100, 40) else hs38 L x
def hI61 (xs : Nat → Int32) : Nat → Nat → Int32 := pm_ur (hI60 xs) 38 (fun _ => 0)
def hJ39 : Nat → Nat → Int64 := pm_ur hJ38 38 (fun _ => 0)
def hR75 : Nat → Nat → Option Nat := pm_ur hR74 38 (fun _ => none)
def hR76 : Nat → Nat → Option Nat := pm_u hR75 35 2 (some 38)
def hs40 (L : Nat) : Nat → Nat × Nat := fun x => if x = 39 then (103, 40) else hs39 L x
def hI62 (xs : Nat → Int32) : Nat → Nat → Int32 := pm_ur (hI61 xs) 39 (fun _ => 0)
def hJ40 : Nat → Nat → Int64 := pm_ur hJ39 39 (fun _ => 0)
def hR77 : Nat → Nat → Option Nat := pm_ur hR76 39 (fun _ => none)
def hR78 : Nat → Nat → Option Nat := pm_u hR77 35 3 (some 39)
def hI63 (xs : Nat → Int32) : Nat → Nat → Int32 := pm_u (hI62 xs) 35 4 0
set_option maxRecDepth 100000 in
set_option maxHeartbeats 4000000 in
theorem ini_9 {d L : Nat} {xs : Nat → Int32} {Q : pm_R → pm_H → Prop} (h : Q (.inl none) (false, 40, hs40 L, hI63 xs, hJ40, hR78)) : pm_Ev (d + 1) 238 [.ref 35] (false, 36, hs36 L, hI58 xs, hJ36, hR70) Q := pm_Ev_in rfl (pm_go (d + 0) [] 2000 ⟨by decide, ⟨by decide, ⟨by decide, ⟨by decide, h⟩⟩⟩⟩)
def hR79 : Nat → Nat → Option Nat := pm_u hR78 0 11 (some 35)
def hs41 (L : Nat) : Nat → Nat × Nat := fun x => if x = 40 then (0, 5) else hs40 L x
def hI64 (xs : Nat → Int32) : Nat → Nat → Int32 := pm_ur (hI63 xs) 40 (fun _ => 0)
def hJ41 : Nat → Nat → Int64 := pm_ur hJ40 40 (fun _ => 0)
def hR80 : Nat → Nat → Option Nat := pm_ur hR79 40 (fun _ => none)
def hs42 (L : Nat) : Nat → Nat × Nat := fun x => if x = 41 then (100, 40) else hs41 L x
def hI65 (xs : Nat → Int32) : Nat → Nat → Int32 := pm_ur (hI64 xs) 41 (fun _ => 0)
def hJ42 : Nat → Nat → Int64 := pm_ur hJ41 41 (fun _ => 0)
def hR81 : Nat → Nat → Option Nat := pm_ur hR80 41 (fun _ => none)
def hR82 : Nat → Nat → Option Nat := pm_u hR81 40 0 (some 41)
def hs43 (L : Nat) : Nat → Nat × Nat := fun x => if x = 42 then (100, 40) else hs42 L x
def hI66 (xs : Nat → Int32) : Nat → Nat → Int32 := pm_ur (hI65 xs) 42 (fun _ => 0)
def hJ43 : Nat → Nat → Int64 := pm_ur hJ42 42 (fun _ => 0)
def hR83 : Nat → Nat → Option Nat := pm_ur hR82 42 (fun _ => none)
def hR84 : Nat → Nat → Option Nat := pm_u hR83 40 1 (some 42)
def hs44 (L : Nat) : Nat → Nat × Nat := fun x => if x = 43 then (100, 40) else hs43 L x
def hI67 (xs : Nat → Int32) : Nat → Nat → Int32 := pm_ur (hI66 xs) 43 (fun _ => 0)
def hJ44 : Nat → Nat → Int64 := pm_ur hJ43 43 (fun _ => 0)
def hR85 : Nat → Nat → Option Nat := pm_ur hR84 43 (fun _ => none)
def hR86 : Nat → Nat → Option Nat := pm_u hR85 40 2 (some 43)
def hs45 (L : Nat) : Nat → Nat × Nat := fun x => if x = 44 then (103, 40) else hs44 L x
def hI68 (xs : Nat → Int32) : Nat → Nat → Int32 := pm_ur (hI67 xs) 44 (fun _ => 0)
def hJ45 : Nat → Nat → Int64 := pm_ur hJ44 44 (fun _ => 0)
def hR87 : Nat → Nat → Option Nat := pm_ur hR86 44 (fun _ => none)
def hR88 : Nat → Nat → Option Nat := pm_u hR87 40 3 (some 44)
def hI69 (xs : Nat → Int32) : Nat → Nat → Int32 := pm_u (hI68 xs) 40 4 0
set_option maxRecDepth 100000 in
set_option maxHeartbeats 4000000 in
theorem ini_10 {d L : Nat} {xs : Nat → Int32} {Q : pm_R → pm_H → Prop} (h : Q (.inl none) (false, 45, hs45 L, hI69 xs, hJ45, hR88)) : pm_Ev (d + 1) 238 [.ref 40] (false, 41, hs41 L, hI64 xs, hJ41, hR80) Q := pm_Ev_in rfl (pm_go (d + 0) [] 2000 ⟨by decide, ⟨by decide, ⟨by decide, ⟨by decide, h⟩⟩⟩⟩)
def hR89 : Nat → Nat → Option Nat := pm_u hR88 0 12 (some 40)
def hs46 (L : Nat) : Nat → Nat × Nat := fun x => if x = 45 then (4, 5) else hs45 L x
def hI70 (xs : Nat → Int32) : Nat → Nat → Int32 := pm_ur (hI69 xs) 45 (fun _ => 0)
def hJ46 : Nat → Nat → Int64 := pm_ur hJ45 45 (fun _ => 0)
def hR90 : Nat → Nat → Option Nat := pm_ur hR89 45 (fun _ => none)
def hs47 (L : Nat) : Nat → Nat × Nat := fun x => if x = 46 then (100, 8) else hs46 L x
def hI71 (xs : Nat → Int32) : Nat → Nat → Int32 := pm_ur (hI70 xs) 46 (fun _ => 0)
def hJ47 : Nat → Nat → Int64 := pm_ur hJ46 46 (fun _ => 0)
def hR91 : Nat → Nat → Option Nat := pm_ur hR90 46 (fun _ => none)
def hR92 : Nat → Nat → Option Nat := pm_u hR91 45 0 (some 46)
def hs48 (L : Nat) : Nat → Nat × Nat := fun x => if x = 47 then (100, 8) else hs47 L x
def hI72 (xs : Nat → Int32) : Nat → Nat → Int32 := pm_ur (hI71 xs) 47 (fun _ => 0)
def hJ48 : Nat → Nat → Int64 := pm_ur hJ47 47 (fun _ => 0)
def hR93 : Nat → Nat → Option Nat := pm_ur hR92 47 (fun _ => none)
def hR94 : Nat → Nat → Option Nat := pm_u hR93 45 1 (some 47)
def hs49 (L : Nat) : Nat → Nat × Nat := fun x => if x = 48 then (100, 8) else hs48 L x
def hI73 (xs : Nat → Int32) : Nat → Nat → Int32 := pm_ur (hI72 xs) 48 (fun _ => 0)
def hJ49 : Nat → Nat → Int64 := pm_ur hJ48 48 (fun _ => 0)
def hR95 : Nat → Nat → Option Nat := pm_ur hR94 48 (fun _ => none)
def hR96 : Nat → Nat → Option Nat := pm_u hR95 45 2 (some 48)
def hs50 (L : Nat) : Nat → Nat × Nat := fun x => if x = 49 then (102, 8) else hs49 L x
def hI74 (xs : Nat → Int32) : Nat → Nat → Int32 := pm_ur (hI73 xs) 49 (fun _ => 0)
def hJ50 : Nat → Nat → Int64 := pm_ur hJ49 49 (fun _ => 0)
def hR97 : Nat → Nat → Option Nat := pm_ur hR96 49 (fun _ => none)
def hR98 : Nat → Nat → Option Nat := pm_u hR97 45 3 (some 49)
def hI75 (xs : Nat → Int32) : Nat → Nat → Int32 := pm_u (hI74 xs) 45 4 0
set_option maxRecDepth 100000 in
set_option maxHeartbeats 4000000 in
theorem ini_11 {d L : Nat} {xs : Nat → Int32} {Q : pm_R → pm_H → Prop} (h : Q (.inl none) (false, 50, hs50 L, hI75 xs, hJ50, hR98)) : pm_Ev (d + 1) 242 [.ref 45] (false, 46, hs46 L, hI70 xs, hJ46, hR90) Q := pm_Ev_in rfl (pm_go (d + 0) [] 2000 ⟨by decide, ⟨by decide, ⟨by decide, ⟨by decide, h⟩⟩⟩⟩)
def hR99 : Nat → Nat → Option Nat := pm_u hR98 0 13 (some 45)
def hs51 (L : Nat) : Nat → Nat × Nat := fun x => if x = 50 then (4, 5) else hs50 L x
def hI76 (xs : Nat → Int32) : Nat → Nat → Int32 := pm_ur (hI75 xs) 50 (fun _ => 0)
def hJ51 : Nat → Nat → Int64 := pm_ur hJ50 50 (fun _ => 0)
def hR100 : Nat → Nat → Option Nat := pm_ur hR99 50 (fun _ => none)
def hs52 (L : Nat) : Nat → Nat × Nat := fun x => if x = 51 then (100, 8) else hs51 L x
def hI77 (xs : Nat → Int32) : Nat → Nat → Int32 := pm_ur (hI76 xs) 51 (fun _ => 0)
def hJ52 : Nat → Nat → Int64 := pm_ur hJ51 51 (fun _ => 0)
def hR101 : Nat → Nat → Option Nat := pm_ur hR100 51 (fun _ => none)
def hR102 : Nat → Nat → Option Nat := pm_u hR101 50 0 (some 51)
def hs53 (L : Nat) : Nat → Nat × Nat := fun x => if x = 52 then (100, 8) else hs52 L x
def hI78 (xs : Nat → Int32) : Nat → Nat → Int32 := pm_ur (hI77 xs) 52 (fun _ => 0)
def hJ53 : Nat → Nat → Int64 := pm_ur hJ52 52 (fun _ => 0)
def hR103 : Nat → Nat → Option Nat := pm_ur hR102 52 (fun _ => none)
def hR104 : Nat → Nat → Option Nat := pm_u hR103 50 1 (some 52)
def hs54 (L : Nat) : Nat → Nat × Nat := fun x => if x = 53 then (100, 8) else hs53 L x
def hI79 (xs : Nat → Int32) : Nat → Nat → Int32 := pm_ur (hI78 xs) 53 (fun _ => 0)
def hJ54 : Nat → Nat → Int64 := pm_ur hJ53 53 (fun _ => 0)
def hR105 : Nat → Nat → Option Nat := pm_ur hR104 53 (fun _ => none)
def hR106 : Nat → Nat → Option Nat := pm_u hR105 50 2 (some 53)
def hs55 (L : Nat) : Nat → Nat × Nat := fun x => if x = 54 then (102, 8) else hs54 L x
def hI80 (xs : Nat → Int32) : Nat → Nat → Int32 := pm_ur (hI79 xs) 54 (fun _ => 0)
def hJ55 : Nat → Nat → Int64 := pm_ur hJ54 54 (fun _ => 0)
def hR107 : Nat → Nat → Option Nat := pm_ur hR106 54 (fun _ => none)
def hR108 : Nat → Nat → Option Nat := pm_u hR107 50 3 (some 54)
def hI81 (xs : Nat → Int32) : Nat → Nat → Int32 := pm_u (hI80 xs) 50 4 0
set_option maxRecDepth 100000 in
set_option maxHeartbeats 4000000 in
theorem ini_12 {d L : Nat} {xs : Nat → Int32} {Q : pm_R → pm_H → Prop} (h : Q (.inl none) (false, 55, hs55 L, hI81 xs, hJ55, hR108)) : pm_Ev (d + 1) 242 [.ref 50] (false, 51, hs51 L, hI76 xs, hJ51, hR100) Q := pm_Ev_in rfl (pm_go (d + 0) [] 2000 ⟨by decide, ⟨by decide, ⟨by decide, ⟨by decide, h⟩⟩⟩⟩)
def hR109 : Nat → Nat → Option Nat := pm_u hR108 0 14 (some 50)
def hs56 (L : Nat) : Nat → Nat × Nat := fun x => if x = 55 then (7, 16) else hs55 L x
def hI82 (xs : Nat → Int32) : Nat → Nat → Int32 := pm_ur (hI81 xs) 55 (fun _ => 0)
def hJ56 : Nat → Nat → Int64 := pm_ur hJ55 55 (fun _ => 0)
def hR110 : Nat → Nat → Option Nat := pm_ur hR109 55 (fun _ => none)
def hs57 (L : Nat) : Nat → Nat × Nat := fun x => if x = 56 then (100, 10) else hs56 L x
def hI83 (xs : Nat → Int32) : Nat → Nat → Int32 := pm_ur (hI82 xs) 56 (fun _ => 0)
def hJ57 : Nat → Nat → Int64 := pm_ur hJ56 56 (fun _ => 0)
def hR111 : Nat → Nat → Option Nat := pm_ur hR110 56 (fun _ => none)
def hR112 : Nat → Nat → Option Nat := pm_u hR111 55 0 (some 56)
def hs58 (L : Nat) : Nat → Nat × Nat := fun x => if x = 57 then (100, 10) else hs57 L x
def hI84 (xs : Nat → Int32) : Nat → Nat → Int32 := pm_ur (hI83 xs) 57 (fun _ => 0)
def hJ58 : Nat → Nat → Int64 := pm_ur hJ57 57 (fun _ => 0)
def hR113 : Nat → Nat → Option Nat := pm_ur hR112 57 (fun _ => none)
def hR114 : Nat → Nat → Option Nat := pm_u hR113 55 1 (some 57)
def hs59 (L : Nat) : Nat → Nat × Nat := fun x => if x = 58 then (100, 10) else hs58 L x
def hI85 (xs : Nat → Int32) : Nat → Nat → Int32 := pm_ur (hI84 xs) 58 (fun _ => 0)
def hJ59 : Nat → Nat → Int64 := pm_ur hJ58 58 (fun _ => 0)
def hR115 : Nat → Nat → Option Nat := pm_ur hR114 58 (fun _ => none)
def hR116 : Nat → Nat → Option Nat := pm_u hR115 55 2 (some 58)
def hs60 (L : Nat) : Nat → Nat × Nat := fun x => if x = 59 then (100, 12) else hs59 L x
def hI86 (xs : Nat → Int32) : Nat → Nat → Int32 := pm_ur (hI85 xs) 59 (fun _ => 0)
def hJ60 : Nat → Nat → Int64 := pm_ur hJ59 59 (fun _ => 0)
def hR117 : Nat → Nat → Option Nat := pm_ur hR116 59 (fun _ => none)
def hR118 : Nat → Nat → Option Nat := pm_u hR117 55 3 (some 59)
def hs61 (L : Nat) : Nat → Nat × Nat := fun x => if x = 60 then (100, 5) else hs60 L x
def hI87 (xs : Nat → Int32) : Nat → Nat → Int32 := pm_ur (hI86 xs) 60 (fun _ => 0)
def hJ61 : Nat → Nat → Int64 := pm_ur hJ60 60 (fun _ => 0)
def hR119 : Nat → Nat → Option Nat := pm_ur hR118 60 (fun _ => none)
def hR120 : Nat → Nat → Option Nat := pm_u hR119 55 4 (some 60)
def hs62 (L : Nat) : Nat → Nat × Nat := fun x => if x = 61 then (100, 5) else hs61 L x
def hI88 (xs : Nat → Int32) : Nat → Nat → Int32 := pm_ur (hI87 xs) 61 (fun _ => 0)
def hJ62 : Nat → Nat → Int64 := pm_ur hJ61 61 (fun _ => 0)
def hR121 : Nat → Nat → Option Nat := pm_ur hR120 61 (fun _ => none)
def hR122 : Nat → Nat → Option Nat := pm_u hR121 55 5 (some 61)
def hs63 (L : Nat) : Nat → Nat × Nat := fun x => if x = 62 then (100, 5) else hs62 L x
def hI89 (xs : Nat → Int32) : Nat → Nat → Int32 := pm_ur (hI88 xs) 62 (fun _ => 0)
def hJ63 : Nat → Nat → Int64 := pm_ur hJ62 62 (fun _ => 0)
def hR123 : Nat → Nat → Option Nat := pm_ur hR122 62 (fun _ => none)
def hR124 : Nat → Nat → Option Nat := pm_u hR123 55 6 (some 62)
def hs64 (L : Nat) : Nat → Nat × Nat := fun x => if x = 63 then (100, 15) else hs63 L x
def hI90 (xs : Nat → Int32) : Nat → Nat → Int32 := pm_ur (hI89 xs) 63 (fun _ => 0)
def hJ64 : Nat → Nat → Int64 := pm_ur hJ63 63 (fun _ => 0)
def hR125 : Nat → Nat → Option Nat := pm_ur hR124 63 (fun _ => none)
def hR126 : Nat → Nat → Option Nat := pm_u hR125 55 7 (some 63)
def hs65 (L : Nat) : Nat → Nat × Nat := fun x => if x = 64 then (1, 4) else hs64 L x
def hI91 (xs : Nat → Int32) : Nat → Nat → Int32 := pm_ur (hI90 xs) 64 (fun _ => 0)
def hJ65 : Nat → Nat → Int64 := pm_ur hJ64 64 (fun _ => 0)
def hR127 : Nat → Nat → Option Nat := pm_ur hR126 64 (fun _ => none)
def hs66 (L : Nat) : Nat → Nat × Nat := fun x => if x = 65 then (100, 700) else hs65 L x
def hI92 (xs : Nat → Int32) : Nat → Nat → Int32 := pm_ur (hI91 xs) 65 (fun _ => 0)
def hJ66 : Nat → Nat → Int64 := pm_ur hJ65 65 (fun _ => 0)
def hR128 : Nat → Nat → Option Nat := pm_ur hR127 65 (fun _ => none)
def hR129 : Nat → Nat → Option Nat := pm_u hR128 64 0 (some 65)
def hs67 (L : Nat) : Nat → Nat × Nat := fun x => if x = 66 then (100, 64) else hs66 L x
def hI93 (xs : Nat → Int32) : Nat → Nat → Int32 := pm_ur (hI92 xs) 66 (fun _ => 0)
def hJ67 : Nat → Nat → Int64 := pm_ur hJ66 66 (fun _ => 0)
def hR130 : Nat → Nat → Option Nat := pm_ur hR129 66 (fun _ => none)
def hR131 : Nat → Nat → Option Nat := pm_u hR130 64 1 (some 66)
def hI94 (xs : Nat → Int32) : Nat → Nat → Int32 := pm_u (hI93 xs) 64 2 0
def hI95 (xs : Nat → Int32) : Nat → Nat → Int32 := pm_u (hI94 xs) 64 3 0
set_option maxRecDepth 100000 in
set_option maxHeartbeats 4000000 in
theorem ini_13 {d L : Nat} {xs : Nat → Int32} {Q : pm_R → pm_H → Prop} (h : Q (.inl none) (false, 67, hs67 L, hI95 xs, hJ67, hR131)) : pm_Ev (d + 1) 239 [.ref 64] (false, 65, hs65 L, hI91 xs, hJ65, hR127) Q := pm_Ev_in rfl (pm_go (d + 0) [] 2000 ⟨by decide, ⟨by decide, h⟩⟩)
def hR132 : Nat → Nat → Option Nat := pm_u hR131 55 8 (some 64)
def hs68 (L : Nat) : Nat → Nat × Nat := fun x => if x = 67 then (1, 4) else hs67 L x
def hI96 (xs : Nat → Int32) : Nat → Nat → Int32 := pm_ur (hI95 xs) 67 (fun _ => 0)
def hJ68 : Nat → Nat → Int64 := pm_ur hJ67 67 (fun _ => 0)
def hR133 : Nat → Nat → Option Nat := pm_ur hR132 67 (fun _ => none)
def hs69 (L : Nat) : Nat → Nat × Nat := fun x => if x = 68 then (100, 700) else hs68 L x
def hI97 (xs : Nat → Int32) : Nat → Nat → Int32 := pm_ur (hI96 xs) 68 (fun _ => 0)
def hJ69 : Nat → Nat → Int64 := pm_ur hJ68 68 (fun _ => 0)
def hR134 : Nat → Nat → Option Nat := pm_ur hR133 68 (fun _ => none)
def hR135 : Nat → Nat → Option Nat := pm_u hR134 67 0 (some 68)
def hs70 (L : Nat) : Nat → Nat × Nat := fun x => if x = 69 then (100, 64) else hs69 L x
def hI98 (xs : Nat → Int32) : Nat → Nat → Int32 := pm_ur (hI97 xs) 69 (fun _ => 0)
def hJ70 : Nat → Nat → Int64 := pm_ur hJ69 69 (fun _ => 0)
def hR136 : Nat → Nat → Option Nat := pm_ur hR135 69 (fun _ => none)
def hR137 : Nat → Nat → Option Nat := pm_u hR136 67 1 (some 69)
def hI99 (xs : Nat → Int32) : Nat → Nat → Int32 := pm_u (hI98 xs) 67 2 0
def hI100 (xs : Nat → Int32) : Nat → Nat → Int32 := pm_u (hI99 xs) 67 3 0
set_option maxRecDepth 100000 in
set_option maxHeartbeats 4000000 in
theorem ini_14 {d L : Nat} {xs : Nat → Int32} {Q : pm_R → pm_H → Prop} (h : Q (.inl none) (false, 70, hs70 L, hI100 xs, hJ70, hR137)) : pm_Ev (d + 1) 239 [.ref 67] (false, 68, hs68 L, hI96 xs, hJ68, hR133) Q := pm_Ev_in rfl (pm_go (d + 0) [] 2000 ⟨by decide, ⟨by decide, h⟩⟩)
def hR138 : Nat → Nat → Option Nat := pm_u hR137 55 9 (some 67)
def hI101 (xs : Nat → Int32) : Nat → Nat → Int32 := pm_u (hI100 xs) 55 10 0
def hI102 (xs : Nat → Int32) : Nat → Nat → Int32 := pm_u (hI101 xs) 55 11 8
def hI103 (xs : Nat → Int32) : Nat → Nat → Int32 := pm_u (hI102 xs) 55 12 255
def hI104 (xs : Nat → Int32) : Nat → Nat → Int32 := pm_u (hI103 xs) 55 13 0
def hI105 (xs : Nat → Int32) : Nat → Nat → Int32 := pm_u (hI104 xs) 55 14 0
def hI106 (xs : Nat → Int32) : Nat → Nat → Int32 := pm_u (hI105 xs) 55 15 0
set_option maxRecDepth 100000 in
set_option maxHeartbeats 4000000 in
theorem ini_15 {d L : Nat} {xs : Nat → Int32} {Q : pm_R → pm_H → Prop} (h : Q (.inl none) (false, 70, hs70 L, hI106 xs, hJ70, hR138)) : pm_Ev (d + 2) 245 [.ref 55] (false, 56, hs56 L, hI82 xs, hJ56, hR110) Q := pm_Ev_in rfl (pm_go (d + 1) [] 2000 ⟨by decide, ⟨by decide, ⟨by decide, ⟨by decide, ⟨by decide, ⟨by decide, ⟨by decide, ⟨by decide, (ini_13 (ini_14 ⟨Or.inl rfl, h⟩))⟩⟩⟩⟩⟩⟩⟩⟩)
def hR139 : Nat → Nat → Option Nat := pm_u hR138 0 15 (some 55)
def hs71 (L : Nat) : Nat → Nat × Nat := fun x => if x = 70 then (7, 16) else hs70 L x
def hI107 (xs : Nat → Int32) : Nat → Nat → Int32 := pm_ur (hI106 xs) 70 (fun _ => 0)
def hJ71 : Nat → Nat → Int64 := pm_ur hJ70 70 (fun _ => 0)
def hR140 : Nat → Nat → Option Nat := pm_ur hR139 70 (fun _ => none)
def hs72 (L : Nat) : Nat → Nat × Nat := fun x => if x = 71 then (100, 10) else hs71 L x
def hI108 (xs : Nat → Int32) : Nat → Nat → Int32 := pm_ur (hI107 xs) 71 (fun _ => 0)
def hJ72 : Nat → Nat → Int64 := pm_ur hJ71 71 (fun _ => 0)
def hR141 : Nat → Nat → Option Nat := pm_ur hR140 71 (fun _ => none)
def hR142 : Nat → Nat → Option Nat := pm_u hR141 70 0 (some 71)
def hs73 (L : Nat) : Nat → Nat × Nat := fun x => if x = 72 then (100, 10) else hs72 L x
def hI109 (xs : Nat → Int32) : Nat → Nat → Int32 := pm_ur (hI108 xs) 72 (fun _ => 0)
def hJ73 : Nat → Nat → Int64 := pm_ur hJ72 72 (fun _ => 0)
def hR143 : Nat → Nat → Option Nat := pm_ur hR142 72 (fun _ => none)
def hR144 : Nat → Nat → Option Nat := pm_u hR143 70 1 (some 72)
def hs74 (L : Nat) : Nat → Nat × Nat := fun x => if x = 73 then (100, 10) else hs73 L x
def hI110 (xs : Nat → Int32) : Nat → Nat → Int32 := pm_ur (hI109 xs) 73 (fun _ => 0)
def hJ74 : Nat → Nat → Int64 := pm_ur hJ73 73 (fun _ => 0)
def hR145 : Nat → Nat → Option Nat := pm_ur hR144 73 (fun _ => none)
def hR146 : Nat → Nat → Option Nat := pm_u hR145 70 2 (some 73)
def hs75 (L : Nat) : Nat → Nat × Nat := fun x => if x = 74 then (100, 12) else hs74 L x
def hI111 (xs : Nat → Int32) : Nat → Nat → Int32 := pm_ur (hI110 xs) 74 (fun _ => 0)
def hJ75 : Nat → Nat → Int64 := pm_ur hJ74 74 (fun _ => 0)
def hR147 : Nat → Nat → Option Nat := pm_ur hR146 74 (fun _ => none)
def hR148 : Nat → Nat → Option Nat := pm_u hR147 70 3 (some 74)
def hs76 (L : Nat) : Nat → Nat × Nat := fun x => if x = 75 then (100, 5) else hs75 L x
def hI112 (xs : Nat → Int32) : Nat → Nat → Int32 := pm_ur (hI111 xs) 75 (fun _ => 0)
def hJ76 : Nat → Nat → Int64 := pm_ur hJ75 75 (fun _ => 0)
def hR149 : Nat → Nat → Option Nat := pm_ur hR148 75 (fun _ => none)
def hR150 : Nat → Nat → Option Nat := pm_u hR149 70 4 (some 75)
def hs77 (L : Nat) : Nat → Nat × Nat := fun x => if x = 76 then (100, 5) else hs76 L x
def hI113 (xs : Nat → Int32) : Nat → Nat → Int32 := pm_ur (hI112 xs) 76 (fun _ => 0)
def hJ77 : Nat → Nat → Int64 := pm_ur hJ76 76 (fun _ => 0)
def hR151 : Nat → Nat → Option Nat := pm_ur hR150 76 (fun _ => none)
def hR152 : Nat → Nat → Option Nat := pm_u hR151 70 5 (some 76)
def hs78 (L : Nat) : Nat → Nat × Nat := fun x => if x = 77 then (100, 5) else hs77 L x
def hI114 (xs : Nat → Int32) : Nat → Nat → Int32 := pm_ur (hI113 xs) 77 (fun _ => 0)
def hJ78 : Nat → Nat → Int64 := pm_ur hJ77 77 (fun _ => 0)
def hR153 : Nat → Nat → Option Nat := pm_ur hR152 77 (fun _ => none)
def hR154 : Nat → Nat → Option Nat := pm_u hR153 70 6 (some 77)
def hs79 (L : Nat) : Nat → Nat × Nat := fun x => if x = 78 then (100, 15) else hs78 L x
def hI115 (xs : Nat → Int32) : Nat → Nat → Int32 := pm_ur (hI114 xs) 78 (fun _ => 0)
def hJ79 : Nat → Nat → Int64 := pm_ur hJ78 78 (fun _ => 0)
def hR155 : Nat → Nat → Option Nat := pm_ur hR154 78 (fun _ => none)
def hR156 : Nat → Nat → Option Nat := pm_u hR155 70 7 (some 78)
def hs80 (L : Nat) : Nat → Nat × Nat := fun x => if x = 79 then (1, 4) else hs79 L x
def hI116 (xs : Nat → Int32) : Nat → Nat → Int32 := pm_ur (hI115 xs) 79 (fun _ => 0)
def hJ80 : Nat → Nat → Int64 := pm_ur hJ79 79 (fun _ => 0)
def hR157 : Nat → Nat → Option Nat := pm_ur hR156 79 (fun _ => none)
def hs81 (L : Nat) : Nat → Nat × Nat := fun x => if x = 80 then (100, 700) else hs80 L x
def hI117 (xs : Nat → Int32) : Nat → Nat → Int32 := pm_ur (hI116 xs) 80 (fun _ => 0)
def hJ81 : Nat → Nat → Int64 := pm_ur hJ80 80 (fun _ => 0)
def hR158 : Nat → Nat → Option Nat := pm_ur hR157 80 (fun _ => none)
def hR159 : Nat → Nat → Option Nat := pm_u hR158 79 0 (some 80)
def hs82 (L : Nat) : Nat → Nat × Nat := fun x => if x = 81 then (100, 64) else hs81 L x
def hI118 (xs : Nat → Int32) : Nat → Nat → Int32 := pm_ur (hI117 xs) 81 (fun _ => 0)
def hJ82 : Nat → Nat → Int64 := pm_ur hJ81 81 (fun _ => 0)
def hR160 : Nat → Nat → Option Nat := pm_ur hR159 81 (fun _ => none)
def hR161 : Nat → Nat → Option Nat := pm_u hR160 79 1 (some 81)
def hI119 (xs : Nat → Int32) : Nat → Nat → Int32 := pm_u (hI118 xs) 79 2 0
def hI120 (xs : Nat → Int32) : Nat → Nat → Int32 := pm_u (hI119 xs) 79 3 0
set_option maxRecDepth 100000 in
set_option maxHeartbeats 4000000 in
theorem ini_16 {d L : Nat} {xs : Nat → Int32} {Q : pm_R → pm_H → Prop} (h : Q (.inl none) (false, 82, hs82 L, hI120 xs, hJ82, hR161)) : pm_Ev (d + 1) 239 [.ref 79] (false, 80, hs80 L, hI116 xs, hJ80, hR157) Q := pm_Ev_in rfl (pm_go (d + 0) [] 2000 ⟨by decide, ⟨by decide, h⟩⟩)
def hR162 : Nat → Nat → Option Nat := pm_u hR161 70 8 (some 79)
def hs83 (L : Nat) : Nat → Nat × Nat := fun x => if x = 82 then (1, 4) else hs82 L x
def hI121 (xs : Nat → Int32) : Nat → Nat → Int32 := pm_ur (hI120 xs) 82 (fun _ => 0)
def hJ83 : Nat → Nat → Int64 := pm_ur hJ82 82 (fun _ => 0)
def hR163 : Nat → Nat → Option Nat := pm_ur hR162 82 (fun _ => none)
def hs84 (L : Nat) : Nat → Nat × Nat := fun x => if x = 83 then (100, 700) else hs83 L x
def hI122 (xs : Nat → Int32) : Nat → Nat → Int32 := pm_ur (hI121 xs) 83 (fun _ => 0)
def hJ84 : Nat → Nat → Int64 := pm_ur hJ83 83 (fun _ => 0)
def hR164 : Nat → Nat → Option Nat := pm_ur hR163 83 (fun _ => none)
def hR165 : Nat → Nat → Option Nat := pm_u hR164 82 0 (some 83)
def hs85 (L : Nat) : Nat → Nat × Nat := fun x => if x = 84 then (100, 64) else hs84 L x
def hI123 (xs : Nat → Int32) : Nat → Nat → Int32 := pm_ur (hI122 xs) 84 (fun _ => 0)
def hJ85 : Nat → Nat → Int64 := pm_ur hJ84 84 (fun _ => 0)
def hR166 : Nat → Nat → Option Nat := pm_ur hR165 84 (fun _ => none)
def hR167 : Nat → Nat → Option Nat := pm_u hR166 82 1 (some 84)
def hI124 (xs : Nat → Int32) : Nat → Nat → Int32 := pm_u (hI123 xs) 82 2 0
def hI125 (xs : Nat → Int32) : Nat → Nat → Int32 := pm_u (hI124 xs) 82 3 0
set_option maxRecDepth 100000 in
set_option maxHeartbeats 4000000 in
theorem ini_17 {d L : Nat} {xs : Nat → Int32} {Q : pm_R → pm_H → Prop} (h : Q (.inl none) (false, 85, hs85 L, hI125 xs, hJ85, hR167)) : pm_Ev (d + 1) 239 [.ref 82] (false, 83, hs83 L, hI121 xs, hJ83, hR163) Q := pm_Ev_in rfl (pm_go (d + 0) [] 2000 ⟨by decide, ⟨by decide, h⟩⟩)
def hR168 : Nat → Nat → Option Nat := pm_u hR167 70 9 (some 82)
def hI126 (xs : Nat → Int32) : Nat → Nat → Int32 := pm_u (hI125 xs) 70 10 0
def hI127 (xs : Nat → Int32) : Nat → Nat → Int32 := pm_u (hI126 xs) 70 11 8
def hI128 (xs : Nat → Int32) : Nat → Nat → Int32 := pm_u (hI127 xs) 70 12 255
def hI129 (xs : Nat → Int32) : Nat → Nat → Int32 := pm_u (hI128 xs) 70 13 0
def hI130 (xs : Nat → Int32) : Nat → Nat → Int32 := pm_u (hI129 xs) 70 14 0
def hI131 (xs : Nat → Int32) : Nat → Nat → Int32 := pm_u (hI130 xs) 70 15 0
set_option maxRecDepth 100000 in
set_option maxHeartbeats 4000000 in
theorem ini_18 {d L : Nat} {xs : Nat → Int32} {Q : pm_R → pm_H → Prop} (h : Q (.inl none) (false, 85, hs85 L, hI131 xs, hJ85, hR168)) : pm_Ev (d + 2) 245 [.ref 70] (false, 71, hs71 L, hI107 xs, hJ71, hR140) Q := pm_Ev_in rfl (pm_go (d + 1) [] 2000 ⟨by decide, ⟨by decide, ⟨by decide, ⟨by decide, ⟨by decide, ⟨by decide, ⟨by decide, ⟨by decide, (ini_16 (ini_17 ⟨Or.inl rfl, h⟩))⟩⟩⟩⟩⟩⟩⟩⟩)
def hR169 : Nat → Nat → Option Nat := pm_u hR168 0 16 (some 70)
def hI132 (xs : Nat → Int32) : Nat → Nat → Int32 := pm_u (hI131 xs) 0 17 0
def hI133 (xs : Nat → Int32) : Nat → Nat → Int32 := pm_u (hI132 xs) 0 18 (-1)
set_option maxRecDepth 100000 in
set_option maxHeartbeats 4000000 in
theorem ini_19 {d L : Nat} {xs : Nat → Int32} {Q : pm_R → pm_H → Prop} (h : Q (.inl none) (false, 85, hs85 L, hI133 xs, hJ85, hR169)) : pm_Ev (d + 3) 248 [.ref 0] (false, 1, hs1 L, hI1 xs, hJ1, hR1) Q := pm_Ev_in rfl (pm_go (d + 2) [] 2000 (ini_1 (ini_2 (ini_3 (ini_4 (ini_5 ⟨by decide, ⟨by decide, ⟨by decide, (ini_6 (ini_7 (ini_8 (ini_9 (ini_10 (ini_11 (ini_12 (ini_15 (ini_18 ⟨Or.inl rfl, h⟩)))))))))⟩⟩⟩))))))
def hs86 (L : Nat) : Nat → Nat × Nat := fun x => if x = 85 then (11, 67) else hs85 L x
def hI134 (xs : Nat → Int32) : Nat → Nat → Int32 := pm_ur (hI133 xs) 85 (fun _ => 0)
def hJ86 : Nat → Nat → Int64 := pm_ur hJ85 85 (fun _ => 0)
def hR170 : Nat → Nat → Option Nat := pm_ur hR169 85 (fun _ => none)
def hI135 (xs : Nat → Int32) : Nat → Nat → Int32 := pm_u (hI134 xs) 85 1 8
def hI136 (xs : Nat → Int32) : Nat → Nat → Int32 := pm_u (hI135 xs) 85 5 (-1)
def hI137 (xs : Nat → Int32) : Nat → Nat → Int32 := pm_u (hI136 xs) 85 6 (-1)
def hs87 (L : Nat) : Nat → Nat × Nat := fun x => if x = 86 then (100, 10) else hs86 L x
def hI138 (xs : Nat → Int32) : Nat → Nat → Int32 := pm_ur (hI137 xs) 86 (fun _ => 0)
def hJ87 : Nat → Nat → Int64 := pm_ur hJ86 86 (fun _ => 0)
def hR171 : Nat → Nat → Option Nat := pm_ur hR170 86 (fun _ => none)
def hR172 : Nat → Nat → Option Nat := pm_u hR171 85 7 (some 86)
def hs88 (L : Nat) : Nat → Nat × Nat := fun x => if x = 87 then (100, 5) else hs87 L x
def hI139 (xs : Nat → Int32) : Nat → Nat → Int32 := pm_ur (hI138 xs) 87 (fun _ => 0)
def hJ88 : Nat → Nat → Int64 := pm_ur hJ87 87 (fun _ => 0)
def hR173 : Nat → Nat → Option Nat := pm_ur hR172 87 (fun _ => none)
def hR174 : Nat → Nat → Option Nat := pm_u hR173 85 8 (some 87)
def hs89 (L : Nat) : Nat → Nat × Nat := fun x => if x = 88 then (100, 5) else hs88 L x
def hI140 (xs : Nat → Int32) : Nat → Nat → Int32 := pm_ur (hI139 xs) 88 (fun _ => 0)
def hJ89 : Nat → Nat → Int64 := pm_ur hJ88 88 (fun _ => 0)
def hR175 : Nat → Nat → Option Nat := pm_ur hR174 88 (fun _ => none)
def hR176 : Nat → Nat → Option Nat := pm_u hR175 85 9 (some 88)
def hs90 (L : Nat) : Nat → Nat × Nat := fun x => if x = 89 then (100, 5) else hs89 L x
def hI141 (xs : Nat → Int32) : Nat → Nat → Int32 := pm_ur (hI140 xs) 89 (fun _ => 0)
def hJ90 : Nat → Nat → Int64 := pm_ur hJ89 89 (fun _ => 0)
def hR177 : Nat → Nat → Option Nat := pm_ur hR176 89 (fun _ => none)
def hR178 : Nat → Nat → Option Nat := pm_u hR177 85 10 (some 89)
def hs91 (L : Nat) : Nat → Nat × Nat := fun x => if x = 90 then (100, 15) else hs90 L x
def hI142 (xs : Nat → Int32) : Nat → Nat → Int32 := pm_ur (hI141 xs) 90 (fun _ => 0)
def hJ91 : Nat → Nat → Int64 := pm_ur hJ90 90 (fun _ => 0)
def hR179 : Nat → Nat → Option Nat := pm_ur hR178 90 (fun _ => none)
def hR180 : Nat → Nat → Option Nat := pm_u hR179 85 11 (some 90)
def hs92 (L : Nat) : Nat → Nat × Nat := fun x => if x = 91 then (100, 1400) else hs91 L x
def hI143 (xs : Nat → Int32) : Nat → Nat → Int32 := pm_ur (hI142 xs) 91 (fun _ => 0)
def hJ92 : Nat → Nat → Int64 := pm_ur hJ91 91 (fun _ => 0)
def hR181 : Nat → Nat → Option Nat := pm_ur hR180 91 (fun _ => none)
def hR182 : Nat → Nat → Option Nat := pm_u hR181 85 12 (some 91)
def hs93 (L : Nat) : Nat → Nat × Nat := fun x => if x = 92 then (100, 700) else hs92 L x
def hI144 (xs : Nat → Int32) : Nat → Nat → Int32 := pm_ur (hI143 xs) 92 (fun _ => 0)
def hJ93 : Nat → Nat → Int64 := pm_ur hJ92 92 (fun _ => 0)
def hR183 : Nat → Nat → Option Nat := pm_ur hR182 92 (fun _ => none)
def hR184 : Nat → Nat → Option Nat := pm_u hR183 85 13 (some 92)
def hI145 (xs : Nat → Int32) : Nat → Nat → Int32 := pm_u (hI144 xs) 85 16 (-1)
def hs94 (L : Nat) : Nat → Nat × Nat := fun x => if x = 93 then (100, 3) else hs93 L x
def hI146 (xs : Nat → Int32) : Nat → Nat → Int32 := pm_ur (hI145 xs) 93 (fun _ => 0)
def hJ94 : Nat → Nat → Int64 := pm_ur hJ93 93 (fun _ => 0)
def hR185 : Nat → Nat → Option Nat := pm_ur hR184 93 (fun _ => none)
def hR186 : Nat → Nat → Option Nat := pm_u hR185 85 17 (some 93)
def hs95 (L : Nat) : Nat → Nat × Nat := fun x => if x = 94 then (100, 10) else hs94 L x
def hI147 (xs : Nat → Int32) : Nat → Nat → Int32 := pm_ur (hI146 xs) 94 (fun _ => 0)
def hJ95 : Nat → Nat → Int64 := pm_ur hJ94 94 (fun _ => 0)
def hR187 : Nat → Nat → Option Nat := pm_ur hR186 94 (fun _ => none)
def hR188 : Nat → Nat → Option Nat := pm_u hR187 85 37 (some 94)
def hs96 (L : Nat) : Nat → Nat × Nat := fun x => if x = 95 then (100, 5) else hs95 L x
def hI148 (xs : Nat → Int32) : Nat → Nat → Int32 := pm_ur (hI147 xs) 95 (fun _ => 0)
def hJ96 : Nat → Nat → Int64 := pm_ur hJ95 95 (fun _ => 0)
def hR189 : Nat → Nat → Option Nat := pm_ur hR188 95 (fun _ => none)
def hR190 : Nat → Nat → Option Nat := pm_u hR189 85 38 (some 95)
def hs97 (L : Nat) : Nat → Nat × Nat := fun x => if x = 96 then (100, 5) else hs96 L x
def hI149 (xs : Nat → Int32) : Nat → Nat → Int32 := pm_ur (hI148 xs) 96 (fun _ => 0)
def hJ97 : Nat → Nat → Int64 := pm_ur hJ96 96 (fun _ => 0)
def hR191 : Nat → Nat → Option Nat := pm_ur hR190 96 (fun _ => none)
def hR192 : Nat → Nat → Option Nat := pm_u hR191 85 39 (some 96)
def hs98 (L : Nat) : Nat → Nat × Nat := fun x => if x = 97 then (100, 5) else hs97 L x
def hI150 (xs : Nat → Int32) : Nat → Nat → Int32 := pm_ur (hI149 xs) 97 (fun _ => 0)
def hJ98 : Nat → Nat → Int64 := pm_ur hJ97 97 (fun _ => 0)
def hR193 : Nat → Nat → Option Nat := pm_ur hR192 97 (fun _ => none)
def hR194 : Nat → Nat → Option Nat := pm_u hR193 85 40 (some 97)
def hs99 (L : Nat) : Nat → Nat × Nat := fun x => if x = 98 then (100, 15) else hs98 L x
def hI151 (xs : Nat → Int32) : Nat → Nat → Int32 := pm_ur (hI150 xs) 98 (fun _ => 0)
def hJ99 : Nat → Nat → Int64 := pm_ur hJ98 98 (fun _ => 0)
def hR195 : Nat → Nat → Option Nat := pm_ur hR194 98 (fun _ => none)
def hR196 : Nat → Nat → Option Nat := pm_u hR195 85 41 (some 98)
def hs100 (L : Nat) : Nat → Nat × Nat := fun x => if x = 99 then (100, 34) else hs99 L x
def hI152 (xs : Nat → Int32) : Nat → Nat → Int32 := pm_ur (hI151 xs) 99 (fun _ => 0)
def hJ100 : Nat → Nat → Int64 := pm_ur hJ99 99 (fun _ => 0)
def hR197 : Nat → Nat → Option Nat := pm_ur hR196 99 (fun _ => none)
def hR198 : Nat → Nat → Option Nat := pm_u hR197 85 42 (some 99)
def hs101 (L : Nat) : Nat → Nat × Nat := fun x => if x = 100 then (100, 1400) else hs100 L x
def hI153 (xs : Nat → Int32) : Nat → Nat → Int32 := pm_ur (hI152 xs) 100 (fun _ => 0)
def hJ101 : Nat → Nat → Int64 := pm_ur hJ100 100 (fun _ => 0)
def hR199 : Nat → Nat → Option Nat := pm_ur hR198 100 (fun _ => none)
def hR200 : Nat → Nat → Option Nat := pm_u hR199 85 43 (some 100)
def hs102 (L : Nat) : Nat → Nat × Nat := fun x => if x = 101 then (100, 950) else hs101 L x
def hI154 (xs : Nat → Int32) : Nat → Nat → Int32 := pm_ur (hI153 xs) 101 (fun _ => 0)
def hJ102 : Nat → Nat → Int64 := pm_ur hJ101 101 (fun _ => 0)
def hR201 : Nat → Nat → Option Nat := pm_ur hR200 101 (fun _ => none)
def hR202 : Nat → Nat → Option Nat := pm_u hR201 85 44 (some 101)
def hs103 (L : Nat) : Nat → Nat × Nat := fun x => if x = 102 then (102, 9) else hs102 L x
def hI155 (xs : Nat → Int32) : Nat → Nat → Int32 := pm_ur (hI154 xs) 102 (fun _ => 0)
def hJ103 : Nat → Nat → Int64 := pm_ur hJ102 102 (fun _ => 0)
def hR203 : Nat → Nat → Option Nat := pm_ur hR202 102 (fun _ => none)
def hR204 : Nat → Nat → Option Nat := pm_u hR203 85 45 (some 102)
def hs104 (L : Nat) : Nat → Nat × Nat := fun x => if x = 103 then (100, 68) else hs103 L x
def hI156 (xs : Nat → Int32) : Nat → Nat → Int32 := pm_ur (hI155 xs) 103 (fun _ => 0)
def hJ104 : Nat → Nat → Int64 := pm_ur hJ103 103 (fun _ => 0)
def hR205 : Nat → Nat → Option Nat := pm_ur hR204 103 (fun _ => none)
def hR206 : Nat → Nat → Option Nat := pm_u hR205 85 46 (some 103)
def hs105 (L : Nat) : Nat → Nat × Nat := fun x => if x = 104 then (100, 1360) else hs104 L x
def hI157 (xs : Nat → Int32) : Nat → Nat → Int32 := pm_ur (hI156 xs) 104 (fun _ => 0)
def hJ105 : Nat → Nat → Int64 := pm_ur hJ104 104 (fun _ => 0)
def hR207 : Nat → Nat → Option Nat := pm_ur hR206 104 (fun _ => none)
def hR208 : Nat → Nat → Option Nat := pm_u hR207 85 47 (some 104)
def hs106 (L : Nat) : Nat → Nat × Nat := fun x => if x = 105 then (100, 10) else hs105 L x
def hI158 (xs : Nat → Int32) : Nat → Nat → Int32 := pm_ur (hI157 xs) 105 (fun _ => 0)
def hJ106 : Nat → Nat → Int64 := pm_ur hJ105 105 (fun _ => 0)
def hR209 : Nat → Nat → Option Nat := pm_ur hR208 105 (fun _ => none)
def hR210 : Nat → Nat → Option Nat := pm_u hR209 85 49 (some 105)
def hs107 (L : Nat) : Nat → Nat × Nat := fun x => if x = 106 then (100, 950) else hs106 L x
def hI159 (xs : Nat → Int32) : Nat → Nat → Int32 := pm_ur (hI158 xs) 106 (fun _ => 0)
def hJ107 : Nat → Nat → Int64 := pm_ur hJ106 106 (fun _ => 0)
def hR211 : Nat → Nat → Option Nat := pm_ur hR210 106 (fun _ => none)
def hR212 : Nat → Nat → Option Nat := pm_u hR211 85 50 (some 106)
def hs108 (L : Nat) : Nat → Nat × Nat := fun x => if x = 107 then (100, 12) else hs107 L x
def hI160 (xs : Nat → Int32) : Nat → Nat → Int32 := pm_ur (hI159 xs) 107 (fun _ => 0)
def hJ108 : Nat → Nat → Int64 := pm_ur hJ107 107 (fun _ => 0)
def hR213 : Nat → Nat → Option Nat := pm_ur hR212 107 (fun _ => none)
def hR214 : Nat → Nat → Option Nat := pm_u hR213 85 51 (some 107)
def hs109 (L : Nat) : Nat → Nat × Nat := fun x => if x = 108 then (100, 12) else hs108 L x
def hI161 (xs : Nat → Int32) : Nat → Nat → Int32 := pm_ur (hI160 xs) 108 (fun _ => 0)
def hJ109 : Nat → Nat → Int64 := pm_ur hJ108 108 (fun _ => 0)
def hR215 : Nat → Nat → Option Nat := pm_ur hR214 108 (fun _ => none)
def hR216 : Nat → Nat → Option Nat := pm_u hR215 85 53 (some 108)
def hs110 (L : Nat) : Nat → Nat × Nat := fun x => if x = 109 then (100, 4608) else hs109 L x
def hI162 (xs : Nat → Int32) : Nat → Nat → Int32 := pm_ur (hI161 xs) 109 (fun _ => 0)
def hJ110 : Nat → Nat → Int64 := pm_ur hJ109 109 (fun _ => 0)
def hR217 : Nat → Nat → Option Nat := pm_ur hR216 109 (fun _ => none)
def hR218 : Nat → Nat → Option Nat := pm_u hR217 85 54 (some 109)
def hs111 (L : Nat) : Nat → Nat × Nat := fun x => if x = 110 then (100, 32) else hs110 L x
def hI163 (xs : Nat → Int32) : Nat → Nat → Int32 := pm_ur (hI162 xs) 110 (fun _ => 0)
def hJ111 : Nat → Nat → Int64 := pm_ur hJ110 110 (fun _ => 0)
def hR219 : Nat → Nat → Option Nat := pm_ur hR218 110 (fun _ => none)
def hR220 : Nat → Nat → Option Nat := pm_u hR219 85 56 (some 110)
def hs112 (L : Nat) : Nat → Nat × Nat := fun x => if x = 111 then (100, 120) else hs111 L x
def hI164 (xs : Nat → Int32) : Nat → Nat → Int32 := pm_ur (hI163 xs) 111 (fun _ => 0)
def hJ112 : Nat → Nat → Int64 := pm_ur hJ111 111 (fun _ => 0)
def hR221 : Nat → Nat → Option Nat := pm_ur hR220 111 (fun _ => none)
def hR222 : Nat → Nat → Option Nat := pm_u hR221 85 57 (some 111)
def hs113 (L : Nat) : Nat → Nat × Nat := fun x => if x = 112 then (100, 310) else hs112 L x
def hI165 (xs : Nat → Int32) : Nat → Nat → Int32 := pm_ur (hI164 xs) 112 (fun _ => 0)
def hJ113 : Nat → Nat → Int64 := pm_ur hJ112 112 (fun _ => 0)
def hR223 : Nat → Nat → Option Nat := pm_ur hR222 112 (fun _ => none)
def hR224 : Nat → Nat → Option Nat := pm_u hR223 85 58 (some 112)
def hs114 (L : Nat) : Nat → Nat × Nat := fun x => if x = 113 then (100, 40960) else hs113 L x
def hI166 (xs : Nat → Int32) : Nat → Nat → Int32 := pm_ur (hI165 xs) 113 (fun _ => 0)
def hJ114 : Nat → Nat → Int64 := pm_ur hJ113 113 (fun _ => 0)
def hR225 : Nat → Nat → Option Nat := pm_ur hR224 113 (fun _ => none)
def hR226 : Nat → Nat → Option Nat := pm_u hR225 85 59 (some 113)
def hs115 (L : Nat) : Nat → Nat × Nat := fun x => if x = 114 then (100, 34) else hs114 L x
def hI167 (xs : Nat → Int32) : Nat → Nat → Int32 := pm_ur (hI166 xs) 114 (fun _ => 0)
def hJ115 : Nat → Nat → Int64 := pm_ur hJ114 114 (fun _ => 0)
def hR227 : Nat → Nat → Option Nat := pm_ur hR226 114 (fun _ => none)
def hR228 : Nat → Nat → Option Nat := pm_u hR227 85 64 (some 114)
def hs116 (L : Nat) : Nat → Nat × Nat := fun x => if x = 115 then (100, 1360) else hs115 L x
def hI168 (xs : Nat → Int32) : Nat → Nat → Int32 := pm_ur (hI167 xs) 115 (fun _ => 0)
def hJ116 : Nat → Nat → Int64 := pm_ur hJ115 115 (fun _ => 0)
def hR229 : Nat → Nat → Option Nat := pm_ur hR228 115 (fun _ => none)
def hR230 : Nat → Nat → Option Nat := pm_u hR229 85 65 (some 115)
def hs117 (L : Nat) : Nat → Nat × Nat := fun x => if x = 116 then (100, 32) else hs116 L x
def hI169 (xs : Nat → Int32) : Nat → Nat → Int32 := pm_ur (hI168 xs) 116 (fun _ => 0)
def hJ117 : Nat → Nat → Int64 := pm_ur hJ116 116 (fun _ => 0)
def hR231 : Nat → Nat → Option Nat := pm_ur hR230 116 (fun _ => none)
def hR232 : Nat → Nat → Option Nat := pm_u hR231 85 66 (some 116)
set_option maxRecDepth 100000 in
set_option maxHeartbeats 4000000 in
theorem ini_20 {d L : Nat} {xs : Nat → Int32} {Q : pm_R → pm_H → Prop} (h : Q (.inl none) (false, 117, hs117 L, hI169 xs, hJ117, hR232)) : pm_Ev (d + 1) 285 [.ref 85] (false, 86, hs86 L, hI134 xs, hJ86, hR170) Q := pm_Ev_in rfl (pm_go (d + 0) [] 2000 ⟨by decide, ⟨by decide, ⟨by decide, ⟨by decide, ⟨by decide, ⟨by decide, ⟨by decide, ⟨by decide, ⟨by decide, ⟨by decide, ⟨by decide, ⟨by decide, ⟨by decide, ⟨by decide, ⟨by decide, ⟨by decide, ⟨by decide, ⟨by decide, ⟨by decide, ⟨by decide, ⟨by decide, ⟨by decide, ⟨by decide, ⟨by decide, ⟨by decide, ⟨by decide, ⟨by decide, ⟨by decide, ⟨by decide, ⟨by decide, ⟨by decide, h⟩⟩⟩⟩⟩⟩⟩⟩⟩⟩⟩⟩⟩⟩⟩⟩⟩⟩⟩⟩⟩⟩⟩⟩⟩⟩⟩⟩⟩⟩⟩)
def hs118 (L : Nat) : Nat → Nat × Nat := fun x => if x = 117 then (103, 1) else hs117 L x
def hI170 (xs : Nat → Int32) : Nat → Nat → Int32 := pm_ur (hI169 xs) 117 (fun _ => 0)
def hJ118 : Nat → Nat → Int64 := pm_ur hJ117 117 (fun _ => 0)
def hR233 : Nat → Nat → Option Nat := pm_ur hR232 117 (fun _ => none)
set_option maxRecDepth 100000 in
set_option maxHeartbeats 4000000 in
theorem law_start {L : Nat} {xs : Nat → Int32} {Q : pm_R → pm_H → Prop} {c z : Nat} (h : pm_T (pm_Ev 60) 318 Q (23, [(0, .ref 2000000), (1, .ref 0), (2, .ref 85), (3, .ref 117), (4, .int (nI 0))], [], (false, 118, hs118 L, hI170 xs, hJ118, hR233), c, z)) (hc : c = 118) (hz : z = 65507) : pm_T (pm_Ev 60) 318 Q (0, [(0, .ref 2000000)], [], pm_h0 L xs, 0, 0) := by
  subst hc
  subst hz
  exact pm_go 60 pm_lcs 2000 (ini_19 (ini_20 ⟨by decide, h⟩))
