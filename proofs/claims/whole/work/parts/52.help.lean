/-! contracts of the law's helpers: static, with a table of handlers -/
def fd_N3 (U : State) : Prop := va_Nc "java/lang/IllegalStateException" "java/lang/IllegalArgumentException" U ∧ va_Nc "java/lang/UnsupportedOperationException" "java/lang/IllegalArgumentException" U ∧ va_Nc "java/lang/UnsupportedOperationException" "java/lang/IllegalStateException" U
theorem fd_N3.moved {u U : State} (hvm : u.vm.Alike U.vm) (h : fd_N3 u) : fd_N3 U := ⟨h.1.moved hvm, h.2.1.moved hvm, h.2.2.moved hvm⟩
def fd_H (l : Launch) (y : MethodName) (ws : List Cond) (rm : Room) (D : va_G) (cl : List vw_C) (tys : List (ClassId × FieldType)) (ad : Nat → Nat → Nat) (en : Nat → Nat → (Nat → Int) → va_E) (wl : List (Nat × Nat)) (av : List Value) (M : fd_Mem) (z : Int) (N : fd_Mem) (mc ms : Nat) : Prop :=
  ∀ sz : Nat, Met l y ws rm (va_Pc av (fun U => fd_Pre D cl tys ad en wl M sz U ∧ fd_N3 U)) (va_Qi (fun r M' => r = fd_I z ∧ M' = N) (fd_B D cl tys ad en wl) (va_A (fd_W ad en wl M) sz)) mc ms (va_A (fd_W ad en wl M) sz)
theorem fd_blindH {D : va_G} {cl : List vw_C} {tys : List (ClassId × FieldType)} {ad : Nat → Nat → Nat} {en : Nat → Nat → (Nat → Int) → va_E} {wl : List (Nat × Nat)} {M : fd_Mem} {sz : Nat} {av : List Value} : FrameBlind (va_Pc av (fun U => fd_Pre D cl tys ad en wl M sz U ∧ fd_N3 U)) := by
  intro a U g mk q
  obtain ⟨q0, ⟨q1, qP, qK, qD, qE⟩, qN⟩ := q
  exact ⟨q0, ⟨q1, qP, va_K.moved (u := U) (U := U.calling g mk a) (Vm.Alike.refl U.vm) qK, qD, fd_Ex.same (u := U) (U := U.calling g mk a) rfl qE⟩, fd_N3.moved (u := U) (U := U.calling g mk a) (Vm.Alike.refl U.vm) qN⟩
theorem fd_enterH {l : Launch} {D : va_G} {cl : List vw_C} {tys : List (ClassId × FieldType)} {ad : Nat → Nat → Nat} {en : Nat → Nat → (Nat → Int) → va_E} {wl : List (Nat × Nat)} {M N : fd_Mem} {y : MethodName} {ws ws' : List Cond} {rm : Room} {cc : ByteArray} {maxL mc ms : Nat} {ret : Option FieldType} {av : List Value} {z : Int} {hh : List (Nat × Nat × Nat × Nat)}
    (hy : plainName y.cls = true) (hw : ws = Cond.codeWith y cc maxL ret hh :: ws') (hnd : wl.Nodup) (hcat : ∀ w ∈ av, w.category = 1) (hle : av.length ≤ maxL)
    (body : ∀ (A : Nat → Prop) (p : Program) (e : Env) (s : State) (m : MethodId) (args : Array Value) (below : List Frame) (meth : Method) (c : Code), fd_C p m c cc maxL s args ws' y.cls D cl tys wl A → meth.sig.returnType = ret → meth.locks = false → c.exceptionTable.toList = tableOf hh → fd_Ex A s s.heap → fd_N3 s →
      fd_J p l e rm s m args below meth c D cl A ad en wl maxL 0 0 (MQ below (fd_QI D cl tys ad en wl A z N) args s mc ms A) M 0 (av.map some) []) : fd_H l y ws rm D cl tys ad en wl av M z N mc ms := by
  intro sz
  refine va_MetW (cc := cc) (maxL := maxL) (ret := ret) (hh := hh) hy hw ?_
  intro p e s m args below meth c s₁ B hml hv
  obtain ⟨hargs, ⟨hsz, hP, hK, hD0, hE⟩, hN3⟩ := hv
  have hts := atoms_spec (ws := ws) B.pre
  have hD : va_D (va_A (fd_W ad en wl M) sz) (fd_W ad en wl M) := hD0.self (sz := sz)
  have htab : c.exceptionTable.toList = tableOf hh := vx_table (x := y) B (hts _ (by rw [hw]; exact List.mem_cons_self))
  have h := body (va_A (fd_W ad en wl M) sz) p e s m args below meth c ⟨⟨B.exec, B.bytes, hml, findClass_of_methodNamed B.named, fun w h => hts w (by rw [hw]; exact List.mem_cons_of_mem _ h)⟩, hK, hnd, fun q hq => Or.inr (by omega)⟩ B.returns B.notSynchronized htab hE hN3
  subst hargs
  rw [lg_entry_eq]
  exact h s.heap [] _ hP hD va_S.rf (fd_L_entry hcat hle)
abbrev la_H (l : Launch) (D : va_G) (cI cB cJ : ClassId) (L : Nat) (ad : Nat → Nat → Nat) (y : MethodName) (ws : List Cond) (av : List Value) (M : fd_Mem) (z : Int) (N : fd_Mem) (mc ms : Nat) : Prop := fd_H l y ws { frames := 11, cells := mc, slots := ms, locals := 400 } D fd_cl (la_tys cI cB cJ) ad (la_en cI cB cJ L ad) lo_wl av M z N mc ms
theorem la_tJ (cI cB cJ : ClassId) : (cJ, FieldType.long) ∈ la_tys cI cB cJ := List.mem_cons_of_mem _ (List.mem_cons_of_mem _ List.mem_cons_self)
theorem la_cast {A : Nat → Prop} {s : State} {args : Array Value} (hE : fd_Ex A s s.heap) {X : String} (h : Cond.castable X X ∈ fd_bad) : (Cond.castable X X).before args s = true := va_Nw.use (fd_bad_tab _ h) (hE.2.2.1 _ h)
