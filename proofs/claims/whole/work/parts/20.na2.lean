section NA2
variable {p : Program} {l : Launch} {e : Env} {R : Room} {s : State} {m : MethodId} {args : Array Value} {below : List Frame} {meth : Method} {c : Code} {Q : State → Prop} {D : va_G} {I : ab_I4} {b0 : Nat} {sa : Nat → Nat} {L : Nat} {xs : Nat → Int32} {nL n0 s0 : Nat} {cc : ByteArray} {own : String} {pc : Nat} {ls : ab_L} {st : List ab_V} {M : ab_M}
theorem so_na2 {i : Nat} {u : ab_St} (C : ab_cx p s m args c D I b0 sa L xs nL n0 cc own) (hd : decode cc pc = .ok (.multianewarray i 2, 4)) (hlk : Cond.classLink own i "[[I" ∈ ab_tb) (hu : ab_na2 pc ls st M = some u) (hrm : ab_nc u.2.2.2 - n0 ≤ R.cells ∧ (u.2.2.2 999 1).toNat - s0 ≤ R.slots) (kk : ab_K p l e R s m args below meth c Q D I b0 sa L xs nL n0 s0 u.1 u.2.1 u.2.2.1 u.2.2.2) : ab_K p l e R s m args below meth c Q D I b0 sa L xs nL n0 s0 pc ls st M := by
  sorry
end NA2
