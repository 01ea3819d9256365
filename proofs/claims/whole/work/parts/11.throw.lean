theorem fd_at_UOE : ∀ w ∈ vx_atS "FareDesk" 150 "java/lang/UnsupportedOperationException" fd_names, w ∈ fd_T ∨ w ∈ fd_bad := by decide +kernel
theorem fd_ot_UOE : ∀ w ∈ Cond.classLink "FareDesk" 146 "java/lang/UnsupportedOperationException" :: Cond.initialized "java/lang/UnsupportedOperationException" :: vx_atS "FareDesk" 150 "java/lang/UnsupportedOperationException" fd_names, vx_ot w = true := by decide +kernel
section FDX
variable {p : Program} {l : Launch} {e : Env} {R : Room} {s : State} {m : MethodId} {args : Array Value} {below : List Frame} {meth : Method} {c : Code}
variable {cc : ByteArray} {pc nL : Nat} {D : va_G} {cl : List vw_C} {A : Nat → Prop} {tys : List (ClassId × FieldType)}
variable {ad : Nat → Nat → Nat} {en : Nat → Nat → (Nat → Int) → va_E} {wl : List (Nat × Nat)} {M N : fd_Mem} {lv : List (Option Value)} {st : List Value}
/-- 'throw new X(text)' in the desk: the method ends there, the memory as it was at its start -/
theorem fd_throw (C : fd_C p m c cc nL s args fd_T "FareDesk" D cl tys wl A) (hl : l.stackTraces = false) (hE : fd_Ex A s s.heap) {X text : String} {ik ic is : Nat} (hat : ∀ w ∈ vx_atS "FareDesk" ic X fd_names, w ∈ fd_T ∨ w ∈ fd_bad) (hot : ∀ w ∈ Cond.classLink "FareDesk" ik X :: Cond.initialized X :: vx_atS "FareDesk" ic X fd_names, vx_ot w = true) (hk : Cond.classLink "FareDesk" ik X ∈ fd_T) (hi : Cond.initialized X ∈ fd_T) (hX : Bundle.fit X = true) (hs : (is, text) ∈ fd_str)
    (d0 : decode cc pc = .ok (.new ik, 3)) (d3 : decode cc (pc + 3) = .ok (.dup, 1)) (d4 : decode cc (pc + 4) = .ok (.ldc is, 2)) (d6 : decode cc (pc + 6) = .ok (.invokespecial ic, 3)) (d9 : decode cc (pc + 9) = .ok (.athrow, 1))
    (hno : ∀ x ∈ c.exceptionTable.toList, False) (hlocks : meth.locks = false) (hR : 5 < R.frames ∧ (st.map fun v => v.category).sum + 82 ≤ R.locals ∧ 1 ≤ R.cells ∧ 6 ≤ R.slots) (hM : M = N) :
    fd_J p l e R s m args below meth c D cl A ad en wl nL 0 0 (vx_MQ below (fd_QT D cl tys ad en wl A) (fd_XT D cl tys ad en wl A N X) args s 1 6 A) M pc lv st := by
  subst hM
  intro H locs ls hP hD hS hL
  obtain ⟨sa, hsa⟩ := hE.2.2.2 _ hs
  refine vx_throwS (names := fd_names) C.1.1 C.1.2.1 hl C.1.2.2.2.1 hX (by decide) (C.1.2.2.2.2 _ hk) (C.1.2.2.2.2 _ hi) hsa (fd_at_ok hat C.1.2.2.2.2 hE.2.2.1) hot hE.1 hE.2.1 hS (hL.1.trans C.1.2.2.1.symm) d0 d3 d4 d6 d9 (fun x hx => (hno x hx).elim) hR.1 hR.2.1 (by have := hR.2.2.1; omega) (by have := hR.2.2.2; omega) hlocks (fun t hv hz hk2 => ?_) hS.2.2 (Nat.le_refl _) (Nat.le_refl _)
  refine ⟨M, rfl, ⟨rfl, hP.kept (fun k q hk3 => hk2 q.1 (hP k q hk3).lt), va_K.moved hv C.2.1⟩, Nat.le_trans hS.1 hz, fun q h1 h2 => ?_⟩
  rw [hk2 q (Nat.lt_of_lt_of_le h1 hS.1)]
  exact hS.2.1 q h1 h2
theorem fd_throwI (C : fd_C p m c cc nL s args fd_T "FareDesk" D cl tys wl A) (hl : l.stackTraces = false) (hE : fd_Ex A s s.heap) {text : String} {is : Nat} (hs : (is, text) ∈ fd_str)
    (d0 : decode cc pc = .ok (.new 48, 3)) (d3 : decode cc (pc + 3) = .ok (.dup, 1)) (d4 : decode cc (pc + 4) = .ok (.ldc is, 2)) (d6 : decode cc (pc + 6) = .ok (.invokespecial 52, 3)) (d9 : decode cc (pc + 9) = .ok (.athrow, 1))
    (hno : ∀ x ∈ c.exceptionTable.toList, False) (hlocks : meth.locks = false) (hR : 5 < R.frames ∧ (st.map fun v => v.category).sum + 82 ≤ R.locals ∧ 1 ≤ R.cells ∧ 6 ≤ R.slots) (hM : M = N) :
    fd_J p l e R s m args below meth c D cl A ad en wl nL 0 0 (vx_MQ below (fd_QT D cl tys ad en wl A) (fd_XT D cl tys ad en wl A N "java/lang/IllegalArgumentException") args s 1 6 A) M pc lv st :=
  fd_throw C hl hE fd_at_IAE fd_ot_IAE fw1_159 fw1_11 (by decide) hs d0 d3 d4 d6 d9 hno hlocks hR hM
theorem fd_throwS (C : fd_C p m c cc nL s args fd_T "FareDesk" D cl tys wl A) (hl : l.stackTraces = false) (hE : fd_Ex A s s.heap) {text : String} {is : Nat} (hs : (is, text) ∈ fd_str)
    (d0 : decode cc pc = .ok (.new 101, 3)) (d3 : decode cc (pc + 3) = .ok (.dup, 1)) (d4 : decode cc (pc + 4) = .ok (.ldc is, 2)) (d6 : decode cc (pc + 6) = .ok (.invokespecial 105, 3)) (d9 : decode cc (pc + 9) = .ok (.athrow, 1))
    (hno : ∀ x ∈ c.exceptionTable.toList, False) (hlocks : meth.locks = false) (hR : 5 < R.frames ∧ (st.map fun v => v.category).sum + 82 ≤ R.locals ∧ 1 ≤ R.cells ∧ 6 ≤ R.slots) (hM : M = N) :
    fd_J p l e R s m args below meth c D cl A ad en wl nL 0 0 (vx_MQ below (fd_QT D cl tys ad en wl A) (fd_XT D cl tys ad en wl A N "java/lang/IllegalStateException") args s 1 6 A) M pc lv st :=
  fd_throw C hl hE fd_at_ISE fd_ot_ISE fw1_236 fw1_12 (by decide) hs d0 d3 d4 d6 d9 hno hlocks hR hM
theorem fd_throwU (C : fd_C p m c cc nL s args fd_T "FareDesk" D cl tys wl A) (hl : l.stackTraces = false) (hE : fd_Ex A s s.heap) {text : String} {is : Nat} (hs : (is, text) ∈ fd_str)
    (d0 : decode cc pc = .ok (.new 146, 3)) (d3 : decode cc (pc + 3) = .ok (.dup, 1)) (d4 : decode cc (pc + 4) = .ok (.ldc is, 2)) (d6 : decode cc (pc + 6) = .ok (.invokespecial 150, 3)) (d9 : decode cc (pc + 9) = .ok (.athrow, 1))
    (hno : ∀ x ∈ c.exceptionTable.toList, False) (hlocks : meth.locks = false) (hR : 5 < R.frames ∧ (st.map fun v => v.category).sum + 82 ≤ R.locals ∧ 1 ≤ R.cells ∧ 6 ≤ R.slots) (hM : M = N) :
    fd_J p l e R s m args below meth c D cl A ad en wl nL 0 0 (vx_MQ below (fd_QT D cl tys ad en wl A) (fd_XT D cl tys ad en wl A N "java/lang/UnsupportedOperationException") args s 1 6 A) M pc lv st :=
  fd_throw C hl hE fd_at_UOE fd_ot_UOE fw2_63 fw1_13 (by decide) hs d0 d3 d4 d6 d9 hno hlocks hR hM
end FDX
