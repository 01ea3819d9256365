/-! entries of the three forms that return, the method's own cells as one set A -/
abbrev fd_QI (D : va_G) (cl : List vw_C) (tys : List (ClassId × FieldType)) (ad : Nat → Nat → Nat) (en : Nat → Nat → (Nat → Int) → va_E) (wl : List (Nat × Nat)) (A : Nat → Prop) (z : Int) (N : fd_Mem) : Array Value → State → Outcome → State → Prop := va_Qi (fun r M' => r = fd_I z ∧ M' = N) (fd_B D cl tys ad en wl) A
abbrev fd_QV (D : va_G) (cl : List vw_C) (tys : List (ClassId × FieldType)) (ad : Nat → Nat → Nat) (en : Nat → Nat → (Nat → Int) → va_E) (wl : List (Nat × Nat)) (A : Nat → Prop) (N : fd_Mem) : Array Value → State → Outcome → State → Prop := va_Qv (fun M' => M' = N) (fd_B D cl tys ad en wl) A
abbrev fd_QR (D : va_G) (cl : List vw_C) (tys : List (ClassId × FieldType)) (ad : Nat → Nat → Nat) (en : Nat → Nat → (Nat → Int) → va_E) (wl : List (Nat × Nat)) (A : Nat → Prop) (a : Nat) (N : fd_Mem) : Array Value → State → Outcome → State → Prop := va_Qr (fun M' => M' = N) (fun M' x t => x = a ∧ fd_B D cl tys ad en wl M' t) A
section FDE
variable {l : Launch} {D : va_G} {cl : List vw_C} {tys : List (ClassId × FieldType)} {ad : Nat → Nat → Nat} {en : Nat → Nat → (Nat → Int) → va_E} {wl : List (Nat × Nat)} {M N : fd_Mem} {y : MethodName} {ws ws' : List Cond} {rm : Room} {cc : ByteArray} {maxL : Nat} {ret : Option FieldType} {av : List Value} {z : Int} {a : Nat}
theorem fd_enterI (hy : plainName y.cls = true) (hw : ws = Cond.code y cc maxL ret :: ws') (hnd : wl.Nodup) (hcat : ∀ w ∈ av, w.category = 1) (hle : av.length ≤ maxL)
    (body : ∀ (A : Nat → Prop) (p : Program) (e : Env) (s : State) (m : MethodId) (args : Array Value) (below : List Frame) (meth : Method) (c : Code), fd_C p m c cc maxL s args ws' y.cls D cl tys wl A → meth.sig.returnType = ret → meth.locks = false → fd_Ex A s s.heap →
      fd_J p l e rm s m args below meth c D cl A ad en wl maxL 0 0 (MQ below (fd_QI D cl tys ad en wl A z N) args s 0 0 A) M 0 (av.map some) []) : fd_Mi l y ws rm D cl tys ad en wl av M z N := by
  intro sz
  refine fd_enter hy hw hnd hcat hle ?_
  intro p e s m args below meth c hsz C hr hlk hno hadm hE hN
  exact body _ p e s m args below meth c C hr hlk hE
theorem fd_enterV (hy : plainName y.cls = true) (hw : ws = Cond.code y cc maxL ret :: ws') (hnd : wl.Nodup) (hcat : ∀ w ∈ av, w.category = 1) (hle : av.length ≤ maxL)
    (body : ∀ (A : Nat → Prop) (p : Program) (e : Env) (s : State) (m : MethodId) (args : Array Value) (below : List Frame) (meth : Method) (c : Code), fd_C p m c cc maxL s args ws' y.cls D cl tys wl A → meth.sig.returnType = ret → meth.locks = false → fd_Ex A s s.heap →
      fd_J p l e rm s m args below meth c D cl A ad en wl maxL 0 0 (MQ below (fd_QV D cl tys ad en wl A N) args s 0 0 A) M 0 (av.map some) []) : fd_Mv l y ws rm D cl tys ad en wl av M N := by
  intro sz
  refine fd_enter hy hw hnd hcat hle ?_
  intro p e s m args below meth c hsz C hr hlk hno hadm hE hN
  exact body _ p e s m args below meth c C hr hlk hE
theorem fd_enterR (hy : plainName y.cls = true) (hw : ws = Cond.code y cc maxL ret :: ws') (hnd : wl.Nodup) (hcat : ∀ w ∈ av, w.category = 1) (hle : av.length ≤ maxL)
    (body : ∀ (A : Nat → Prop) (p : Program) (e : Env) (s : State) (m : MethodId) (args : Array Value) (below : List Frame) (meth : Method) (c : Code), fd_C p m c cc maxL s args ws' y.cls D cl tys wl A → meth.sig.returnType = ret → meth.locks = false → fd_Ex A s s.heap →
      fd_J p l e rm s m args below meth c D cl A ad en wl maxL 0 0 (MQ below (fd_QR D cl tys ad en wl A a N) args s 0 0 A) M 0 (av.map some) []) : fd_Mr l y ws rm D cl tys ad en wl av M a N := by
  intro sz
  refine fd_enter hy hw hnd hcat hle ?_
  intro p e s m args below meth c hsz C hr hlk hno hadm hE hN
  exact body _ p e s m args below meth c C hr hlk hE
end FDE
/-- Math.min of two ints -/
theorem fd_mmin {p : Program} {l : Launch} {e : Env} {R : Room} {s : State} {m : MethodId} {args : Array Value} {below : List Frame} {meth : Method} {c : Code} {cells slots : Nat} {Q : State → Prop} {cc : ByteArray} {pc nL : Nat} {own : String} {Ts : List Cond} {D : va_G} {cl : List vw_C} {A : Nat → Prop} {tys : List (ClassId × FieldType)} {ad : Nat → Nat → Nat} {en : Nat → Nat → (Nat → Int) → va_E} {wl : List (Nat × Nat)} {M : fd_Mem} {lv : List (Option Value)} {st : List Value} (C : fd_C p m c cc nL s args Ts own D cl tys wl A) {index : Nat} {x y : Int} (hlink : Cond.methodLink own index Lib.Math.min.name ∈ Ts) (hstat : Cond.static Lib.Math.min.name ∈ Ts) (hini : Cond.initialized "java/lang/Math" ∈ Ts) (hcode : Cond.code Lib.Math.min.name Lib.Math.min.code 2 (some .int) ∈ Ts)
    (hR : 1 ≤ R.frames ∧ (st.map fun v => v.category).sum + 13 ≤ R.locals) (hcs : cells ≤ R.cells ∧ slots ≤ R.slots) (d : decode cc pc = .ok (.invokestatic index, 3)) (hx : fd_in x) (hy : fd_in y)
    (k : fd_J p l e R s m args below meth c D cl A ad en wl nL cells slots Q M (pc + 3) lv (.int (fd_I (min x y)) :: st)) : fd_J p l e R s m args below meth c D cl A ad en wl nL cells slots Q M pc lv (.int (fd_I y) :: .int (fd_I x) :: st) := by
  intro H locs ls hP hD hS hL
  refine va_mmin C.1.1 C.1.2.1 (C.1.2.2.1.trans hL.1.symm) C.1.2.2.2.1 (C.1.2.2.2.2 _ hlink) (C.1.2.2.2.2 _ hstat) (C.1.2.2.2.2 _ hini) (C.1.2.2.2.2 _ hcode) hR.1 hR.2 hcs.1 hcs.2 d ?_
  have h := k H locs ls hP hD hS hL
  by_cases hlt : y < x
  · rw [if_pos ((fd_I_lt hy hx).mpr hlt)]
    rw [show min x y = y by omega] at h
    exact h
  · rw [if_neg (fun q => hlt ((fd_I_lt hy hx).mp q))]
    rw [show min x y = x by omega] at h
    exact h
/-- locals that hold nothing yet -/
theorem fd_pad {p : Program} {l : Launch} {e : Env} {R : Room} {s : State} {m : MethodId} {args : Array Value} {below : List Frame} {meth : Method} {c : Code} {cells slots : Nat} {Q : State → Prop} {pc nL : Nat} {D : va_G} {cl : List vw_C} {A : Nat → Prop} {ad : Nat → Nat → Nat} {en : Nat → Nat → (Nat → Int) → va_E} {wl : List (Nat × Nat)} {M : fd_Mem} {lv : List (Option Value)} {st : List Value} (n : Nat)
    (k : fd_J p l e R s m args below meth c D cl A ad en wl nL cells slots Q M pc (lv ++ List.replicate n none) st) : fd_J p l e R s m args below meth c D cl A ad en wl nL cells slots Q M pc lv st := by
  intro H locs ls hP hD hS hL
  refine k H locs ls hP hD hS ⟨hL.1, hL.2.1, fun i v hi => ?_⟩
  by_cases h : i < lv.length
  · rw [List.getElem?_append_left h] at hi
    exact hL.2.2 i v hi
  · rw [List.getElem?_append_right (by omega), List.getElem?_replicate] at hi
    split at hi
    · cases hi
    · cases hi
