/-! rows by which the world grows; constructors -/
def wj_Pre (D : va_G) (cl : List vw_C) (tys : List (ClassId × FieldType)) (w0 : va_W) (sz : Nat) (X : State → Prop) (U : State) : Prop := U.heap.size = sz ∧ va_P D cl w0 U.heap ∧ va_K D cl tys U ∧ va_D (fun _ => True) w0 ∧ X U
def wj_B (D : va_G) (cl : List vw_C) (A : Nat → Prop) (w : va_W) (t : State) : Prop := va_P D cl w t.heap ∧ va_D A w
def wj_M (l : Launch) (y : MethodName) (ws : List Cond) (rm : Room) (D : va_G) (cl : List vw_C) (tys : List (ClassId × FieldType)) (av : List Value) (w0 : va_W) (X : State → Prop) (good : va_W → Prop) (mc ms : Nat) : Prop := ∀ sz : Nat, Met l y ws rm (va_Pc av (wj_Pre D cl tys w0 sz X)) (va_Qv good (wj_B D cl (va_A w0 sz)) (va_A w0 sz)) mc ms (va_A w0 sz)
/-- words that a later state keeps -/
def wj_ok (X : State → Prop) : Prop := ∀ u U : State, u.vm.Alike U.vm → X u → X U
theorem wj_blind {D : va_G} {cl : List vw_C} {tys : List (ClassId × FieldType)} {w0 : va_W} {sz : Nat} {X : State → Prop} (hX : wj_ok X) {av : List Value} : FrameBlind (va_Pc av (wj_Pre D cl tys w0 sz X)) := by
  intro a U g mk q
  obtain ⟨q0, q1, qP, qK, qD, qX⟩ := q
  exact ⟨q0, q1, qP, va_K.moved (u := U) (U := U.calling g mk a) (Vm.Alike.refl U.vm) qK, qD, hX U (U.calling g mk a) (Vm.Alike.refl U.vm) qX⟩
theorem wj_enter {l : Launch} {D : va_G} {cl : List vw_C} {tys : List (ClassId × FieldType)} {w0 : va_W} {X : State → Prop} {good : va_W → Prop} {y : MethodName} {ws ws' : List Cond} {rm : Room} {cc : ByteArray} {maxL mc ms : Nat} {ret : Option FieldType} {av : List Value}
    (hy : plainName y.cls = true) (hw : ws = Cond.code y cc maxL ret :: ws') (hcat : ∀ w ∈ av, w.category = 1) (hle : av.length ≤ maxL)
    (body : ∀ (A : Nat → Prop) (p : Program) (e : Env) (s : State) (m : MethodId) (args : Array Value) (below : List Frame) (meth : Method) (c : Code), fd_C p m c cc maxL s args ws' y.cls D cl tys [] A → meth.sig.returnType = ret → meth.locks = false → meth.name = y.name → X s →
      wJ p l e rm s m args below meth c D cl A maxL 0 0 (MQ below (va_Qv good (wj_B D cl A) A) args s mc ms A) w0 0 (av.map some) []) : wj_M l y ws rm D cl tys av w0 X good mc ms := by
  intro sz
  refine Met.ofW (cc := cc) (maxL := maxL) (ret := ret) hy hw ?_
  intro p e s m args below meth c s₁ B hml hv
  obtain ⟨hargs, hsz, hP, hK, hD0, hX⟩ := hv
  have hts := atoms_spec (ws := ws) B.pre
  have hD : va_D (va_A w0 sz) w0 := hD0.self (sz := sz)
  have h := body (va_A w0 sz) p e s m args below meth c ⟨⟨B.exec, B.bytes, hml, findClass_of_methodNamed B.named, fun w h => hts w (by rw [hw]; exact List.mem_cons_of_mem _ h)⟩, hK, List.nodup_nil, fun q hq => Or.inr (by omega)⟩ B.returns B.notSynchronized (name_of_methodNamed B.named B.method).1 hX
  subst hargs
  rw [lg_entry_eq]
  exact h s.heap [] _ hP hD va_S.rf (fd_L_entry hcat hle)
section WR
variable {p : Program} {l : Launch} {e : Env} {R : Room} {s : State} {m : MethodId} {args : Array Value} {below : List Frame} {meth : Method} {c : Code} {cells slots : Nat} {Q : State → Prop}
variable {cc : ByteArray} {pc nL : Nat} {own : String} {D : va_G} {cl : List vw_C} {A : Nat → Prop} {tys : List (ClassId × FieldType)}
variable {wl : List (Nat × Nat)} {ws base w0 : va_W} {lv : List (Option Value)} {st : List Value} {a : Nat}
theorem wj_pad (n : Nat) (k : wJ p l e R s m args below meth c D cl A nL cells slots Q ws pc (lv ++ List.replicate n none) st) : wJ p l e R s m args below meth c D cl A nL cells slots Q ws pc lv st := by
  intro H locs ls hP hD hS hL
  refine k H locs ls hP hD hS ⟨hL.1, hL.2.1, fun i v hi => ?_⟩
  by_cases h : i < lv.length
  · rw [List.getElem?_append_left h] at hi
    exact hL.2.2 i v hi
  · rw [List.getElem?_append_right (by omega), List.getElem?_replicate] at hi
    split at hi
    · cases hi
    · cases hi
theorem wj_widen {k n : Nat} (h1 : cells ≤ k) (h2 : slots ≤ n) (kk : wJ p l e R s m args below meth c D cl A nL k n Q ws pc lv st) : wJ p l e R s m args below meth c D cl A nL cells slots Q ws pc lv st := by
  intro H locs ls hP hD hS hL
  exact W.widen (k := k) (n := n) h1 h2 (kk H locs ls hP hD hS hL)
theorem wj_world {ws' : va_W} (h : ws' = ws) (kk : wJ p l e R s m args below meth c D cl A nL cells slots Q ws' pc lv st) : wJ p l e R s m args below meth c D cl A nL cells slots Q ws pc lv st := h ▸ kk
theorem wj_obj (C : fd_C p m c cc nL s args fd_T own D cl tys wl A) {idx : Nat} (hl : Cond.methodLink own idx Lib.objectInit ∈ fd_T) (hR : 1 ≤ R.frames ∧ (st.map fun v => v.category).sum + 12 ≤ R.locals) (d : decode cc pc = .ok (.invokespecial idx, 3)) (kk : wJ p l e R s m args below meth c D cl A nL cells slots Q ws (pc + 3) lv st) : wJ p l e R s m args below meth c D cl A nL cells slots Q ws pc lv (.ref a :: st) := by
  intro H locs ls hP hD hS hL
  exact W.objInit C.1.1 C.1.2.1 C.1.2.2.2.1 (C.1.2.2.2.2 _ hl) (C.1.2.2.2.2 _ fw1_20) (C.1.2.2.2.2 _ fw1_21) rfl (hL.1.trans C.1.2.2.1.symm) rfl d hR.1 (by have := hR.2; show 2 * 0 + _ + 12 ≤ _; omega) (W.eq (g2 := F0 m (pc + 3) ls st) rfl (kk H locs ls hP hD hS hL))
theorem wj_newi {cI : ClassId} (C : fd_C p m c cc nL s args fd_T own D cl tys wl A) (hI : (cI, FieldType.int) ∈ tys) {z : Int} {n : Nat} (hz : z = (n : Int)) (hn : n ≤ 1000) (d : decode cc pc = .ok (.newarray .int, 2)) (hcs : cells + 1 ≤ R.cells ∧ slots + n ≤ R.slots) (kk : ∀ q : Nat, wJ p l e R s m args below meth c D cl A nL (cells + 1) (slots + n) Q (ws ++ [(q, .inl (cI, n, .inl (fun _ => fd_I 0)))]) (pc + 2) lv (.ref q :: st)) : wJ p l e R s m args below meth c D cl A nL cells slots Q ws pc lv (.int (fd_I z) :: st) := by
  subst hz
  intro H locs ls hP hD hS hL
  have hc : (fd_I (n : Int)).toNatClampNeg = n := by rw [fd_I_clamp (by omega) (by omega)]; rfl
  have hneg : ¬ fd_I (n : Int) < 0 := by
    have h0 : (0 : Int32) = fd_I 0 := rfl
    rw [h0, fd_I_lt ⟨by omega, by omega⟩ fd_in0]
    omega
  refine va_newa (atype := .int) (ty := .int) C.1.1 C.1.2.1 (C.1.2.2.2.2 _ fw1_52) rfl C.2.1 hP hD hS C.2.2.2 (a0 := (n, .inl (fun _ => fd_I 0))) (fun _ => rfl) hneg hc (by show n * 4 ≤ 536870912; omega) hcs.1 hcs.2 d (fun q cA H1 hK1 hP1 hD1 hS1 => ?_)
  obtain ⟨t0, ht0⟩ := List.getElem?_of_mem hI
  have h1 := (C.2.1.2 t0 _ ht0).2
  have h2 := (hK1.2 tys.length (cA, .int) (by rw [List.getElem?_append_right (Nat.le_refl _), Nat.sub_self]; rfl)).2
  have h3 : cA = cI := Option.some.inj (h2.symm.trans h1)
  subst h3
  exact kk q H1 locs ls hP1 hD1 hS1 hL
theorem wj_put (C : fd_C p m c cc nL s args fd_T own D cl tys wl A) {Cn : String} {T : u_T} {N ci index : Nat} (hin : ∀ w ∈ u_ws Cn T N, w ∈ fd_T) (ty0 : Nat → FieldType) (hty : ∀ k, k < N → parseFieldDescriptor (T k).2.2.1 = some (ty0 k)) (hnm : ∀ a, a < N → ∀ b, b < N → a ≠ b → (T a).2.1 ≠ (T b).2.1) (q0 : Nat) {fs : List Value} (he : ws[q0]? = some (a, .inr (ci, fs))) (hc : cl[ci]? = some (Cn, T, N)) (k : Nat) (hk : k < N) (hlink : Cond.fieldLink own index (T k).1 (T k).2.1 (T k).2.2.1 ∈ fd_T) (hfin : (T k).2.2.2 = false) {ty : FieldType} {v : Value} (hd : parseFieldDescriptor (T k).2.2.1 = some ty) (hn : narrow ty v = v) (hfit : fits ty v = true) (hl : k < fs.length) (d : decode cc pc = .ok (.putfield index, 3)) (kk : wJ p l e R s m args below meth c D cl A nL cells slots Q (ws.set q0 (a, .inr (ci, fs.set k v))) (pc + 3) lv st) : wJ p l e R s m args below meth c D cl A nL cells slots Q ws pc lv (v :: .ref a :: st) := by
  intro H locs ls hP hD hS hL
  exact va_put C.1.1 C.1.2.1 C.1.2.2.2.2 hin ty0 hty hnm C.1.2.2.2.1 C.2.1 hP hD hS q0 he hc k hk (C.1.2.2.2.2 _ hlink) (fun _ h => h) hfin hd hn hfit hl d (fun H1 locs1 hP1 hD1 hS1 => kk H1 locs1 ls hP1 hD1 hS1 hL)
theorem wj_putF (C : fd_C p m c cc nL s args fd_T own D cl tys wl A) (hini : meth.name = "<init>") {Cn : String} {T : u_T} {N ci index : Nat} (hin : ∀ w ∈ u_ws Cn T N, w ∈ fd_T) (ty0 : Nat → FieldType) (hty : ∀ k, k < N → parseFieldDescriptor (T k).2.2.1 = some (ty0 k)) (hnm : ∀ a, a < N → ∀ b, b < N → a ≠ b → (T a).2.1 ≠ (T b).2.1) (q0 : Nat) {fs : List Value} (he : ws[q0]? = some (a, .inr (ci, fs))) (hc : cl[ci]? = some (Cn, T, N)) (k : Nat) (hk : k < N) (hlink : Cond.fieldLink own index (T k).1 (T k).2.1 (T k).2.2.1 ∈ fd_T) (hfin : (T k).2.2.2 = true) (hown : (T k).1 = own) {ty : FieldType} {v : Value} (hd : parseFieldDescriptor (T k).2.2.1 = some ty) (hn : narrow ty v = v) (hfit : fits ty v = true) (hl : k < fs.length) (d : decode cc pc = .ok (.putfield index, 3)) (kk : wJ p l e R s m args below meth c D cl A nL cells slots Q (ws.set q0 (a, .inr (ci, fs.set k v))) (pc + 3) lv st) : wJ p l e R s m args below meth c D cl A nL cells slots Q ws pc lv (v :: .ref a :: st) := by
  intro H locs ls hP hD hS hL
  exact va_putF C.1.1 C.1.2.1 C.1.2.2.2.2 hin ty0 hty hnm C.1.2.2.2.1 C.2.1 hP hD hS q0 he hc k hk (C.1.2.2.2.2 _ hlink) (fun _ h => h) hfin hini hown hd hn hfit hl d (fun H1 locs1 hP1 hD1 hS1 => kk H1 locs1 ls hP1 hD1 hS1 hL)
theorem wj_get (C : fd_C p m c cc nL s args fd_T own D cl tys wl A) {Cn : String} {T : u_T} {N ci index : Nat} (hin : ∀ w ∈ u_ws Cn T N, w ∈ fd_T) (q0 : Nat) {fs : List Value} (he : ws[q0]? = some (a, .inr (ci, fs))) (hc : cl[ci]? = some (Cn, T, N)) (k : Nat) (hk : k < N) (hlink : Cond.fieldLink own index (T k).1 (T k).2.1 (T k).2.2.1 ∈ fd_T) {v : Value} (hv : fs[k]? = some v) (d : decode cc pc = .ok (.getfield index, 3)) (kk : wJ p l e R s m args below meth c D cl A nL cells slots Q ws (pc + 3) lv (v :: st)) : wJ p l e R s m args below meth c D cl A nL cells slots Q ws pc lv (.ref a :: st) := by
  intro H locs ls hP hD hS hL
  exact va_get C.1.1 C.1.2.1 C.1.2.2.2.2 hin C.1.2.2.2.1 C.2.1 hP q0 he hc k hk (C.1.2.2.2.2 _ hlink) (fun _ h => h) hv d (kk H locs ls hP hD hS hL)
theorem wj_iast (C : fd_C p m c cc nL s args fd_T own D cl tys wl A) {cI : ClassId} (hI : (cI, FieldType.int) ∈ tys) (q0 : Nat) {n x : Nat} {g : Nat → Int} {z v : Int} (he : ws[q0]? = some (a, .inl (cI, n, .inl (fun j => fd_I (g j))))) (hz : z = (x : Int)) (hx : x < n) (hn : n ≤ 1000) (d : decode cc pc = .ok (.iastore, 1)) (kk : wJ p l e R s m args below meth c D cl A nL cells slots Q (ws.set q0 (a, .inl (cI, n, .inl (fun j => fd_I (fd_up g x v j))))) (pc + 1) lv st) : wJ p l e R s m args below meth c D cl A nL cells slots Q ws pc lv (.int (fd_I v) :: .int (fd_I z) :: .ref a :: st) := by
  subst hz
  intro H locs ls hP hD hS hL
  obtain ⟨t0, ht0⟩ := List.getElem?_of_mem hI
  have hc : (fd_I (x : Int)).toNatClampNeg = x := by rw [fd_I_clamp (by omega) (by omega)]; rfl
  refine va_iast C.1.1 C.1.2.1 C.2.1 hP hD hS q0 t0 he ht0 (fd_vpin (by omega) (by omega) (by omega)) d (fun H1 locs1 hP1 hD1 hS1 => ?_)
  have h3 : (upd (fun j => fd_I (g j)) (fd_I (x : Int)).toNatClampNeg (fd_I v)) = (fun j => fd_I (fd_up g x v j)) := by
    rw [hc]
    funext y
    unfold upd fd_up
    by_cases hy : y = x
    · simp [hy]
    · simp [hy]
  rw [h3] at hP1 hD1
  exact kk H1 locs1 ls hP1 hD1 hS1 hL
theorem wj_new (C : fd_C p m c cc nL s args fd_T own D cl tys wl A) {Cn : String} {T : u_T} {N ci index : Nat} (hin : ∀ w ∈ u_ws Cn T N, w ∈ fd_T) (ty0 : Nat → FieldType) (hty : ∀ k, k < N → parseFieldDescriptor (T k).2.2.1 = some (ty0 k)) (hcl : Cond.classLink own index Cn ∈ fd_T) (hinst : Cond.instantiable Cn N ∈ fd_T) (hini : Cond.initialized Cn ∈ fd_T) (hc : cl[ci]? = some (Cn, T, N)) {fs : List Value} (hfs : ∀ j, j < N → defaultValue (ty0 j) = vp_V fs j) (hcs : cells + 1 ≤ R.cells ∧ slots + N ≤ R.slots) (d : decode cc pc = .ok (.new index, 3)) (kk : ∀ q : Nat, wJ p l e R s m args below meth c D cl A nL (cells + 1) (slots + N) Q (ws ++ [(q, .inr (ci, fs))]) (pc + 3) lv (.ref q :: st)) : wJ p l e R s m args below meth c D cl A nL cells slots Q ws pc lv st := by
  intro H locs ls hP hD hS hL
  exact va_new C.1.1 C.1.2.1 C.1.2.2.2.2 hin ty0 hty C.1.2.2.2.1 (C.1.2.2.2.2 _ hcl) (C.1.2.2.2.2 _ hinst) (C.1.2.2.2.2 _ hini) C.2.1 hP hD hS C.2.2.2 hc hfs hcs.1 hcs.2 d (fun q H1 hP1 hD1 hS1 => kk q H1 locs ls hP1 hD1 hS1 hL)
theorem wj_vret (C : fd_C p m c cc nL s args fd_T own D cl tys wl A) (hr : meth.sig.returnType = none) (hlocks : meth.locks = false) {good : va_W → Prop} (hg : good ws) (d : decode cc pc = .ok (.return_, 1)) : wJ p l e R s m args below meth c D cl A nL cells slots (MQ below (va_Qv good (wj_B D cl A) A) args s cells slots A) ws pc lv [] := by
  intro H locs ls hP hD hS hL
  exact W.vret C.1.1 C.1.2.1 hr (fun t ht hW => ⟨⟨ws, rfl, hg, by rw [ht]; exact hP, hD⟩, hS.F ht⟩) hS.2.2 d hlocks
end WR
