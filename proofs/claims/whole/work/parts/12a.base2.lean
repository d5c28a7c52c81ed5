section BASE2
variable {p : Program} {l : Launch} {e : Env} {R : Room} {s : State} {m : MethodId} {args : Array Value} {below : List Frame} {meth : Method} {c : Code} {H : Heap} {locs : List Loc} {Q : State → Prop}
variable {cc : ByteArray} {pc nL : Nat} {ls : Array Slot} {rest : List Value} {g : GE} {A : Nat → Prop} {own : String} {index : Nat} {lv : List (Nat × Value)}
theorem mmaxL (C : Cx p s m args c cc nL own g A) (hsz : lv_has ls nL lv) (hl : Cond.methodLink own index Lib.MathLoose.max_long.x ∈ TBg) (hk : Cond.static Lib.MathLoose.max_long.x ∈ TBg ∧ Cond.initialized "java/lang/Math" ∈ TBg ∧ Cond.code Lib.MathLoose.max_long.x Lib.MathLoose.max_long.code 4 (some .long) ∈ TBg) (hR : 1 ≤ R.frames ∧ (rest.map fun v => v.category).sum + 15 ≤ R.locals) {x z : Int64} (hdg : decode cc pc = .ok (.invokestatic index, 3))
    (kk : W p l e R s m args below meth c H locs 0 0 Q (F0 m (pc + 3) ls (.long (if z < x then x else z) :: rest))) : W p l e R s m args below meth c H locs 0 0 Q (F0 m pc ls (.long z :: .long x :: rest)) :=
  va_mmax_long C.1 C.2.1 (C.2.2.1.trans hsz.1.symm) C.2.2.2.1 (C.2.2.2.2.1 _ hl) (C.2.2.2.2.1 _ hk.1) (C.2.2.2.2.1 _ hk.2.1) (C.2.2.2.2.1 _ hk.2.2) hR.1 hR.2 (Nat.zero_le _) (Nat.zero_le _) hdg kk
end BASE2
