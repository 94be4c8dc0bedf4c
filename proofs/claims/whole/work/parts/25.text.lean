/-! length and charAt of the class's own texts -/
section Txt
variable {p : Program} {l : Launch} {e : Env} {Rm : Room} {s : State} {m : MethodId} {args : Array Value} {below : List Frame} {meth : Method} {c : Code}
variable {base : Nat} {D : va_G} {cy : Nat → ClassId} {sad sav : Nat → Nat} {b L : Nat} {xs : Nat → Int32} {k d : Nat} {Z : State → Prop} {E : pm_E} {Q : pm_R → pm_H → Prop}
variable {pc len : Nat} {lv : pm_L} {st : List Value} {fz : Bool} {n : Nat} {sh : Nat → Nat × Nat} {I : Nat → Nat → Int32} {J : Nat → Nat → Int64} {R : Nat → Nat → Option Nat} {c0 z0 : Nat} {ts : List Nat} {v : Int32}
theorem pm_s_str (C : pm_cx p l Rm s m args meth c k d base D cy sad sav b L xs) {w : Nat} (ht : pm_tab k pc = some (.invokevirtual w, len, ts, v)) (hts4 : (∃ p0, ts = [1, p0]) ∨ ∃ p0, ts = [2, p0]) (h : pm_sem E k (.invokevirtual w) len ts v (pc, lv, st, (fz, n, sh, I, J, R), c0, z0) (pm_gd p l e Rm s m args below meth c k base D cy (pm_ad base sad b) L xs Z) Q) : pm_gd p l e Rm s m args below meth c k base D cy (pm_ad base sad b) L xs Z (pc, lv, st, (fz, n, sh, I, J, R), c0, z0) := by
  sorry
end Txt
