/-- a local that is not looked at again -/
theorem fd_drop {p : Program} {l : Launch} {e : Env} {R : Room} {s : State} {m : MethodId} {args : Array Value} {below : List Frame} {meth : Method} {c : Code} {cells slots : Nat} {Q : State → Prop} {pc nL : Nat} {D : va_G} {cl : List vw_C} {A : Nat → Prop} {ad : Nat → Nat → Nat} {en : Nat → Nat → (Nat → Int) → va_E} {wl : List (Nat × Nat)} {M : fd_Mem} {lv : List (Option Value)} {st : List Value} (n : Nat)
    (k : fd_J p l e R s m args below meth c D cl A ad en wl nL cells slots Q M pc (lv.set n none) st) : fd_J p l e R s m args below meth c D cl A ad en wl nL cells slots Q M pc lv st := by
  intro H locs ls hP hD hS hL
  refine k H locs ls hP hD hS ⟨hL.1, hL.2.1, fun i v hi => ?_⟩
  rw [List.getElem?_set] at hi
  by_cases h : n = i
  · rw [if_pos h] at hi
    split at hi
    · cases hi
    · cases hi
  · rw [if_neg h] at hi
    exact hL.2.2 i v hi
/-- the int on top, said otherwise -/
theorem fd_tp {p : Program} {l : Launch} {e : Env} {R : Room} {s : State} {m : MethodId} {args : Array Value} {below : List Frame} {meth : Method} {c : Code} {cells slots : Nat} {Q : State → Prop} {pc nL : Nat} {D : va_G} {cl : List vw_C} {A : Nat → Prop} {ad : Nat → Nat → Nat} {en : Nat → Nat → (Nat → Int) → va_E} {wl : List (Nat × Nat)} {M : fd_Mem} {lv : List (Option Value)} {st : List Value} {a b : Int} (h : a = b)
    (k : fd_J p l e R s m args below meth c D cl A ad en wl nL cells slots Q M pc lv (.int (fd_I b) :: st)) : fd_J p l e R s m args below meth c D cl A ad en wl nL cells slots Q M pc lv (.int (fd_I a) :: st) := by
  subst h
  exact k
