/-! contracts over one universe of cells: what the exceptions need of the heap; start and end; entry, returns, calls -/
def fd_Ex (A : Nat → Prop) (U : State) (H : Heap) : Prop := vx_Zq Bundle.tN "UNASSIGNED_STACK" Bundle.steD A U H ∧ vx_Zq Bundle.tN "SUPPRESSED_SENTINEL" Bundle.listD A U H ∧ (∀ w ∈ fd_bad, va_Nw w U) ∧ ∀ q ∈ fd_str, ∃ a : Nat, vk_R "FareDesk" q.1 q.2 a U
theorem fd_Ex.warm {A : Nat → Prop} {u U : State} {H : Heap} (hW : u.WarmedH U.vm) (h : fd_Ex A u H) : fd_Ex A U H := ⟨h.1.moved hW.alike, h.2.1.moved hW.alike, fun w hw => fd_bad_warm hW w hw (h.2.2.1 w hw), fun q hq => by
  obtain ⟨a, ha⟩ := h.2.2.2 q hq
  exact ⟨a, vk_R.warm hW ha⟩⟩
theorem fd_Ex.same {A : Nat → Prop} {u U : State} {H : Heap} (hv : u.vm = U.vm) (h : fd_Ex A u H) : fd_Ex A U H := ⟨h.1.moved (by rw [hv]; exact Vm.Alike.refl _), h.2.1.moved (by rw [hv]; exact Vm.Alike.refl _), fun w hw => va_Nw.same (fd_bad_tab w hw) hv (h.2.2.1 w hw), fun q hq => by
  obtain ⟨a, ha⟩ := h.2.2.2 q hq
  exact ⟨a, vk_R.same hv.symm ha⟩⟩
theorem fd_Ex.kept {A : Nat → Prop} {U : State} {H H1 : Heap} (h : fd_Ex A U H) (hq : ∀ a : Nat, a < H.size → ¬ A a → H1[a]? = H[a]?) : fd_Ex A U H1 := ⟨h.1.kept hq, h.2.1.kept hq, h.2.2⟩
theorem fd_Ex.narrow {A B : Nat → Prop} {U : State} {H : Heap} (h : fd_Ex A U H) (hAB : ∀ q, B q → A q) : fd_Ex B U H := ⟨h.1.narrow hAB, h.2.1.narrow hAB, h.2.2⟩
def fd_Pre (D : va_G) (cl : List vw_C) (tys : List (ClassId × FieldType)) (ad : Nat → Nat → Nat) (en : Nat → Nat → (Nat → Int) → va_E) (wl : List (Nat × Nat)) (M : fd_Mem) (sz : Nat) (U : State) : Prop :=
  U.heap.size = sz ∧ va_P D cl (fd_W ad en wl M) U.heap ∧ va_K D cl tys U ∧ va_D (fun _ => True) (fd_W ad en wl M) ∧ fd_Ex (va_A (fd_W ad en wl M) sz) U U.heap
def fd_B (D : va_G) (cl : List vw_C) (tys : List (ClassId × FieldType)) (ad : Nat → Nat → Nat) (en : Nat → Nat → (Nat → Int) → va_E) (wl : List (Nat × Nat)) (M : fd_Mem) (t : State) : Prop := va_P D cl (fd_W ad en wl M) t.heap ∧ va_K D cl tys t
theorem fd_blind {D : va_G} {cl : List vw_C} {tys : List (ClassId × FieldType)} {ad : Nat → Nat → Nat} {en : Nat → Nat → (Nat → Int) → va_E} {wl : List (Nat × Nat)} {M : fd_Mem} {sz : Nat} {av : List Value} : FrameBlind (va_Pc av (fd_Pre D cl tys ad en wl M sz)) := by
  intro a U g mk q
  obtain ⟨q0, q1, qP, qK, qD, qE⟩ := q
  exact ⟨q0, q1, qP, va_K.moved (u := U) (U := U.calling g mk a) (Vm.Alike.refl U.vm) qK, qD, fd_Ex.same (u := U) (U := U.calling g mk a) rfl qE⟩
/-- the method answers the int z, and the memory is N behind it; mi: int or boolean; mv: nothing; mr: the reference a -/
def fd_Mi (l : Launch) (y : MethodName) (ws : List Cond) (rm : Room) (D : va_G) (cl : List vw_C) (tys : List (ClassId × FieldType)) (ad : Nat → Nat → Nat) (en : Nat → Nat → (Nat → Int) → va_E) (wl : List (Nat × Nat)) (av : List Value) (M : fd_Mem) (z : Int) (N : fd_Mem) : Prop :=
  ∀ sz : Nat, Met l y ws rm (va_Pc av (fd_Pre D cl tys ad en wl M sz)) (va_Qi (fun r M' => r = fd_I z ∧ M' = N) (fd_B D cl tys ad en wl) (va_A (fd_W ad en wl M) sz)) 0 0 (va_A (fd_W ad en wl M) sz)
def fd_Mv (l : Launch) (y : MethodName) (ws : List Cond) (rm : Room) (D : va_G) (cl : List vw_C) (tys : List (ClassId × FieldType)) (ad : Nat → Nat → Nat) (en : Nat → Nat → (Nat → Int) → va_E) (wl : List (Nat × Nat)) (av : List Value) (M : fd_Mem) (N : fd_Mem) : Prop :=
  ∀ sz : Nat, Met l y ws rm (va_Pc av (fd_Pre D cl tys ad en wl M sz)) (va_Qv (fun M' => M' = N) (fd_B D cl tys ad en wl) (va_A (fd_W ad en wl M) sz)) 0 0 (va_A (fd_W ad en wl M) sz)
def fd_Mr (l : Launch) (y : MethodName) (ws : List Cond) (rm : Room) (D : va_G) (cl : List vw_C) (tys : List (ClassId × FieldType)) (ad : Nat → Nat → Nat) (en : Nat → Nat → (Nat → Int) → va_E) (wl : List (Nat × Nat)) (av : List Value) (M : fd_Mem) (a : Nat) (N : fd_Mem) : Prop :=
  ∀ sz : Nat, Met l y ws rm (va_Pc av (fd_Pre D cl tys ad en wl M sz)) (va_Qr (fun M' => M' = N) (fun M' x t => x = a ∧ fd_B D cl tys ad en wl M' t) (va_A (fd_W ad en wl M) sz)) 0 0 (va_A (fd_W ad en wl M) sz)
theorem fd_args_mem : ∀ (av : List Value) (n i : Nat) (v : Value), (∀ w ∈ av, w.category = 1) → av[i]? = some v → (n + i, v) ∈ lv_args n av
  | [], n, i, v, _, h => by simp at h
  | w :: t, n, i, v, hc, h => by
    have hw : ¬ w.category = 2 := by have := hc w List.mem_cons_self; omega
    unfold lv_args
    rw [if_neg hw]
    cases i with
    | zero =>
      rw [List.getElem?_cons_zero] at h
      cases h
      exact List.mem_cons_self
    | succ j =>
      rw [List.getElem?_cons_succ] at h
      have := fd_args_mem t (n + 1) j v (fun x hx => hc x (List.mem_cons_of_mem _ hx)) h
      rw [show n + (j + 1) = n + 1 + j by omega]
      exact List.mem_cons_of_mem _ this
theorem fd_sl_len : ∀ (av : List Value), (∀ w ∈ av, w.category = 1) → (lg_sl av).length = av.length
  | [], _ => rfl
  | w :: t, hc => by
    have hw : ¬ w.category = 2 := by have := hc w List.mem_cons_self; omega
    have ih := fd_sl_len t (fun x hx => hc x (List.mem_cons_of_mem _ hx))
    unfold lg_sl at ih ⊢
    rw [List.flatMap_cons, if_neg hw, List.length_append, ih]
    simp
    omega
theorem fd_L_entry {av : List Value} {n : Nat} (hc : ∀ w ∈ av, w.category = 1) (hl : av.length ≤ n) : fd_L ((lg_sl av ++ List.replicate (n - (lg_sl av).length) Slot.unset).toArray) n (av.map some) := by
  have h := lv_entry av (n := n) (by rw [fd_sl_len av hc]; exact hl)
  refine ⟨h.1, h.2.1, fun i v hi => ?_⟩
  rw [List.getElem?_map] at hi
  cases hv : av[i]? with
  | none => rw [hv] at hi; cases hi
  | some w =>
    rw [hv] at hi
    have hw : w = v := Option.some.inj (Option.some.inj hi)
    subst hw
    have hm := fd_args_mem av 0 i w hc hv
    rw [Nat.zero_add] at hm
    exact ⟨h.2.2 (i, w) hm, hc w (List.mem_of_getElem? hv)⟩
/-- no cell of the world holds statics -/
def fd_N (A : Nat → Prop) (s : State) : Prop := ∀ (q : Nat) (cell : Cell), A q → s.heap[q]? = some cell → cell.vm.isStatics = false
theorem fd_N_of {D : va_G} {cl : List vw_C} {ws : va_W} {s : State} (hP : va_P D cl ws s.heap) : fd_N (va_A ws s.heap.size) s := by
  intro q cell hA hc
  rcases hA with ⟨k, e, h⟩ | h
  · have h1 := hP k (q, e) h
    cases e with
    | inl a =>
      have h2 : s.heap[q]? = some (vp_cell a.1 a.2) := h1
      rw [hc] at h2
      rw [Option.some.inj h2]
      obtain ⟨cA, n, f | f | f | f | f⟩ := a <;> rfl
    | inr ob =>
      obtain ⟨r, -, cell2, h3, -, h4, -⟩ := h1
      have h5 : s.heap[q]? = some cell2 := h3
      rw [hc] at h5
      rw [Option.some.inj h5, h4]
      rfl
  · have := (Array.getElem?_eq_some_iff.mp hc).1
    omega
theorem fd_enter {l : Launch} {D : va_G} {cl : List vw_C} {tys : List (ClassId × FieldType)} {ad : Nat → Nat → Nat} {en : Nat → Nat → (Nat → Int) → va_E} {wl : List (Nat × Nat)} {M : fd_Mem} {y : MethodName} {ws ws' : List Cond} {rm : Room} {cc : ByteArray} {maxL mc ms sz : Nat} {ret : Option FieldType} {av : List Value} {Qc : Array Value → State → Outcome → State → Prop}
    (hy : plainName y.cls = true) (hw : ws = Cond.code y cc maxL ret :: ws') (hnd : wl.Nodup) (hcat : ∀ w ∈ av, w.category = 1) (hle : av.length ≤ maxL)
    (body : ∀ (p : Program) (e : Env) (s : State) (m : MethodId) (args : Array Value) (below : List Frame) (meth : Method) (c : Code), s.heap.size = sz → fd_C p m c cc maxL s args ws' y.cls D cl tys wl (va_A (fd_W ad en wl M) sz) → meth.sig.returnType = ret → meth.locks = false → c.exceptionTable.isEmpty = true → l.admits e → fd_Ex (va_A (fd_W ad en wl M) sz) s s.heap → fd_N (va_A (fd_W ad en wl M) sz) s →
      fd_J p l e rm s m args below meth c D cl (va_A (fd_W ad en wl M) sz) ad en wl maxL 0 0 (MQ below Qc args s mc ms (va_A (fd_W ad en wl M) sz)) M 0 (av.map some) []) :
    Met l y ws rm (va_Pc av (fd_Pre D cl tys ad en wl M sz)) Qc mc ms (va_A (fd_W ad en wl M) sz) := by
  refine Met.ofW (cc := cc) (maxL := maxL) (ret := ret) hy hw ?_
  intro p e s m args below meth c s₁ B hml hv
  obtain ⟨hargs, hsz, hP, hK, hD0, hE⟩ := hv
  have hts := atoms_spec (ws := ws) B.pre
  have hN : fd_N (va_A (fd_W ad en wl M) sz) s := by rw [← hsz]; exact fd_N_of hP
  have hD : va_D (va_A (fd_W ad en wl M) sz) (fd_W ad en wl M) := hD0.self (sz := sz)
  have h := body p e s m args below meth c hsz ⟨⟨B.exec, B.bytes, hml, findClass_of_methodNamed B.named, fun w h => hts w (by rw [hw]; exact List.mem_cons_of_mem _ h)⟩, hK, hnd, fun q hq => Or.inr (by omega)⟩ B.returns B.notSynchronized (B.noHandlers (hts _ (by rw [hw]; exact List.mem_cons_self))) B.admits hE hN
  subst hargs
  rw [lg_entry_eq]
  exact h s.heap [] _ hP hD va_S.rf (fd_L_entry hcat hle)
/-- the method throws an X, and the memory is as it was -/
def fd_QT (D : va_G) (cl : List vw_C) (tys : List (ClassId × FieldType)) (ad : Nat → Nat → Nat) (en : Nat → Nat → (Nat → Int) → va_E) (wl : List (Nat × Nat)) (A : Nat → Prop) : Array Value → State → Outcome → State → Prop := va_Qv (fun _ : fd_Mem => False) (fd_B D cl tys ad en wl) A
def fd_XT (D : va_G) (cl : List vw_C) (tys : List (ClassId × FieldType)) (ad : Nat → Nat → Nat) (en : Nat → Nat → (Nat → Int) → va_E) (wl : List (Nat × Nat)) (A : Nat → Prop) (M : fd_Mem) (X : String) : String → State → State → Prop := vx_X (fun M' => M' = M) (fun E M' t => E = X ∧ fd_B D cl tys ad en wl M' t) A
def fd_MT (l : Launch) (y : MethodName) (ws : List Cond) (rm : Room) (D : va_G) (cl : List vw_C) (tys : List (ClassId × FieldType)) (ad : Nat → Nat → Nat) (en : Nat → Nat → (Nat → Int) → va_E) (wl : List (Nat × Nat)) (av : List Value) (M : fd_Mem) (X : String) : Prop :=
  ∀ sz : Nat, vx_Met l y ws rm (va_Pc av (fd_Pre D cl tys ad en wl M sz)) (fd_QT D cl tys ad en wl (va_A (fd_W ad en wl M) sz)) (fd_XT D cl tys ad en wl (va_A (fd_W ad en wl M) sz) M X) 1 6 (va_A (fd_W ad en wl M) sz)
theorem fd_enterT {l : Launch} {D : va_G} {cl : List vw_C} {tys : List (ClassId × FieldType)} {ad : Nat → Nat → Nat} {en : Nat → Nat → (Nat → Int) → va_E} {wl : List (Nat × Nat)} {M : fd_Mem} {y : MethodName} {ws ws' : List Cond} {rm : Room} {cc : ByteArray} {maxL : Nat} {ret : Option FieldType} {av : List Value} {X : String}
    (hy : plainName y.cls = true) (hw : ws = Cond.code y cc maxL ret :: ws') (hnd : wl.Nodup) (hcat : ∀ w ∈ av, w.category = 1) (hle : av.length ≤ maxL)
    (body : ∀ (A : Nat → Prop) (p : Program) (e : Env) (s : State) (m : MethodId) (args : Array Value) (below : List Frame) (meth : Method) (c : Code), fd_C p m c cc maxL s args ws' y.cls D cl tys wl A → meth.locks = false → (∀ x ∈ c.exceptionTable.toList, False) → fd_Ex A s s.heap →
      fd_J p l e rm s m args below meth c D cl A ad en wl maxL 0 0 (vx_MQ below (fd_QT D cl tys ad en wl A) (fd_XT D cl tys ad en wl A M X) args s 1 6 A) M 0 (av.map some) []) :
    fd_MT l y ws rm D cl tys ad en wl av M X := by
  intro sz
  refine vx_ofW (cc := cc) (maxL := maxL) (ret := ret) hy hw ?_
  intro p e s m args below meth c s₁ B hml hno hv
  obtain ⟨hargs, hsz, hP, hK, hD0, hE⟩ := hv
  have hts := atoms_spec (ws := ws) B.pre
  have hD : va_D (va_A (fd_W ad en wl M) sz) (fd_W ad en wl M) := hD0.self (sz := sz)
  have h := body (va_A (fd_W ad en wl M) sz) p e s m args below meth c ⟨⟨B.exec, B.bytes, hml, findClass_of_methodNamed B.named, fun w h => hts w (by rw [hw]; exact List.mem_cons_of_mem _ h)⟩, hK, hnd, fun q hq => Or.inr (by omega)⟩ B.notSynchronized hno hE
  subst hargs
  rw [lg_entry_eq]
  exact h s.heap [] _ hP hD va_S.rf (fd_L_entry hcat hle)
section FDK
variable {p : Program} {l : Launch} {e : Env} {R : Room} {s : State} {m : MethodId} {args : Array Value} {below : List Frame} {meth : Method} {c : Code} {cells slots : Nat} {Q : State → Prop}
variable {cc : ByteArray} {pc nL : Nat} {own : String} {Ts : List Cond} {D : va_G} {cl : List vw_C} {A : Nat → Prop} {tys : List (ClassId × FieldType)}
variable {ad : Nat → Nat → Nat} {en : Nat → Nat → (Nat → Int) → va_E} {wl : List (Nat × Nat)} {M N : fd_Mem} {lv : List (Option Value)} {st : List Value}
theorem fd_iret (C : fd_C p m c cc nL s args Ts own D cl tys wl A) (hr : meth.sig.returnType = some .int) (hlocks : meth.locks = false) {z z' : Int} (hz : z' = z) (hN : M = N) (d : decode cc pc = .ok (.ireturn, 1)) : fd_J p l e R s m args below meth c D cl A ad en wl nL cells slots (MQ below (va_Qi (fun r M' => r = fd_I z ∧ M' = N) (fd_B D cl tys ad en wl) A) args s cells slots A) M pc lv [.int (fd_I z')] := by
  subst hz; subst hN
  intro H locs ls hP hD hS hL
  exact W.iret C.1.1 C.1.2.1 hr (fun t ht hW => ⟨⟨fd_I z', M, rfl, ⟨rfl, rfl⟩, by rw [ht]; exact hP, va_K.moved hW.alike C.2.1⟩, hS.F ht⟩) hS.2.2 d hlocks
theorem fd_zret (C : fd_C p m c cc nL s args Ts own D cl tys wl A) (hr : meth.sig.returnType = some .boolean) (hlocks : meth.locks = false) {z z' : Int} (hz : z' = z) (hb : z' = 0 ∨ z' = 1) (hN : M = N) (d : decode cc pc = .ok (.ireturn, 1)) : fd_J p l e R s m args below meth c D cl A ad en wl nL cells slots (MQ below (va_Qi (fun r M' => r = fd_I z ∧ M' = N) (fd_B D cl tys ad en wl) A) args s cells slots A) M pc lv [.int (fd_I z')] := by
  subst hz; subst hN
  intro H locs ls hP hD hS hL
  have hn : narrow .boolean (.int (fd_I z')) = .int (fd_I z') := by rcases hb with rfl | rfl <;> decide
  exact W.zret C.1.1 C.1.2.1 hr hn (fun t ht hW => ⟨⟨fd_I z', M, rfl, ⟨rfl, rfl⟩, by rw [ht]; exact hP, va_K.moved hW.alike C.2.1⟩, hS.F ht⟩) hS.2.2 d hlocks
theorem fd_vret (C : fd_C p m c cc nL s args Ts own D cl tys wl A) (hr : meth.sig.returnType = none) (hlocks : meth.locks = false) (hN : M = N) (d : decode cc pc = .ok (.return_, 1)) : fd_J p l e R s m args below meth c D cl A ad en wl nL cells slots (MQ below (va_Qv (fun M' => M' = N) (fd_B D cl tys ad en wl) A) args s cells slots A) M pc lv [] := by
  subst hN
  intro H locs ls hP hD hS hL
  exact W.vret C.1.1 C.1.2.1 hr (fun t ht hW => ⟨⟨M, rfl, rfl, by rw [ht]; exact hP, va_K.moved hW.alike C.2.1⟩, hS.F ht⟩) hS.2.2 d hlocks
theorem fd_aret (C : fd_C p m c cc nL s args Ts own D cl tys wl A) {rc : String} (hr : meth.sig.returnType = some (.object rc)) (hlocks : meth.locks = false) {a : Nat} (hN : M = N) (d : decode cc pc = .ok (.areturn, 1)) : fd_J p l e R s m args below meth c D cl A ad en wl nL cells slots (MQ below (va_Qr (fun M' => M' = N) (fun M' x t => x = a ∧ fd_B D cl tys ad en wl M' t) A) args s cells slots A) M pc lv [.ref a] := by
  subst hN
  intro H locs ls hP hD hS hL
  exact W.aret C.1.1 C.1.2.1 hr (Or.inl ⟨_, rfl⟩) (Or.inr ⟨_, rfl⟩) (fun t ht hW => ⟨⟨M, a, rfl, rfl, rfl, by rw [ht]; exact hP, va_K.moved hW.alike C.2.1⟩, hS.F ht⟩) hS.2.2 d hlocks
theorem fd_go (C : fd_C p m c cc nL s args Ts own D cl tys wl A) (hE : fd_Ex A s s.heap) {H : Heap} {locs : List Loc} (hP : va_P D cl (fd_W ad en wl M) H) (hD : va_D A (fd_W ad en wl M)) (hS : va_S A s.heap H locs) (av : List Value) : (∀ x, va_A (fd_W ad en wl M) H.size x → A x) ∧ ∀ U : State, U.heap = H → s.WarmedH U.vm → va_Pc av (fd_Pre D cl tys ad en wl M H.size) av.toArray U := by
  have hF : ∀ x, va_A (fd_W ad en wl M) H.size x → A x := by
    intro x hx
    rcases hx with ⟨k', e', h'⟩ | h'
    · exact hD.2 k' _ h'
    · exact C.2.2.2 x (Nat.le_trans hS.1 h')
  refine ⟨hF, fun U hU hW => ⟨rfl, by rw [hU], by rw [hU]; exact hP, va_K.moved hW.alike C.2.1, hD.weaken (fun _ _ _ _ => trivial), ?_⟩⟩
  rw [hU]
  exact ((hE.kept hS.2.1).narrow hF).warm hW
theorem fd_callVi (C : fd_C p m c cc nL s args Ts own D cl tys wl A) (hE : fd_Ex A s s.heap) {y : MethodName} {bytes : ByteArray} {maxL n index k i ci NN : Nat} {ret : Option FieldType} {ws : List Cond} {rm : Room} {Cn : String} {T : u_T} {fs : List Value} (As : List Value) {z : Int} (hM : fd_Mi l y ws rm D cl tys ad en wl (.ref (ad k i) :: As) M z N) (cw : CallW R s args own Cn index y bytes maxL ret ws rm 0 0 n) (hm : (k, i) ∈ wl) (he : en k i (M k i) = .inr (ci, fs)) (hc : cl[ci]? = some (Cn, T, NN)) (hn : As.length = n) (hrest : (st.map fun v => v.category).sum ≤ 8) (d : decode cc pc = .ok (.invokevirtual index, 3)) (hf : cells + 0 ≤ R.cells ∧ slots + 0 ≤ R.slots) (kk : fd_J p l e R s m args below meth c D cl A ad en wl nL cells slots Q N (pc + 3) lv (.int (fd_I z) :: st)) : fd_J p l e R s m args below meth c D cl A ad en wl nL cells slots Q M pc lv (As.reverse ++ .ref (ad k i) :: st) := by
  intro H locs ls hP hD hS hL
  obtain ⟨q, hq⟩ := List.getElem?_of_mem hm
  have h1 := fd_W_at (ad := ad) (en := en) (M := M) hq
  rw [he] at h1
  obtain ⟨hF, hpre⟩ := fd_go C hE hP hD hS (.ref (ad k i) :: As)
  refine va_calli (va_runV (As := As) (rest := st) C.1 (hM H.size) cw ⟨fd_blind, va_recv C.2.1 hP hc h1, hpre⟩ rfl hn hL.1 rfl (lv_room hrest) d hf) hS (fun x _ h => hF x h) hF (fun r u t H1 locs1 ht hvm hpost hB hz1 hk1 hS1 => ?_)
  obtain ⟨rfl, rfl⟩ := hpost
  obtain ⟨hP1, hK1⟩ := hB
  rw [ht] at hP1
  exact kk H1 locs1 ls hP1 (fd_D_any hD) hS1 hL
theorem fd_callVv (C : fd_C p m c cc nL s args Ts own D cl tys wl A) (hE : fd_Ex A s s.heap) {y : MethodName} {bytes : ByteArray} {maxL n index k i ci NN : Nat} {ret : Option FieldType} {ws : List Cond} {rm : Room} {Cn : String} {T : u_T} {fs : List Value} (As : List Value)  (hM : fd_Mv l y ws rm D cl tys ad en wl (.ref (ad k i) :: As) M N) (cw : CallW R s args own Cn index y bytes maxL ret ws rm 0 0 n) (hm : (k, i) ∈ wl) (he : en k i (M k i) = .inr (ci, fs)) (hc : cl[ci]? = some (Cn, T, NN)) (hn : As.length = n) (hrest : (st.map fun v => v.category).sum ≤ 8) (d : decode cc pc = .ok (.invokevirtual index, 3)) (hf : cells + 0 ≤ R.cells ∧ slots + 0 ≤ R.slots) (kk : fd_J p l e R s m args below meth c D cl A ad en wl nL cells slots Q N (pc + 3) lv (st)) : fd_J p l e R s m args below meth c D cl A ad en wl nL cells slots Q M pc lv (As.reverse ++ .ref (ad k i) :: st) := by
  intro H locs ls hP hD hS hL
  obtain ⟨q, hq⟩ := List.getElem?_of_mem hm
  have h1 := fd_W_at (ad := ad) (en := en) (M := M) hq
  rw [he] at h1
  obtain ⟨hF, hpre⟩ := fd_go C hE hP hD hS (.ref (ad k i) :: As)
  refine va_callv (va_runV (As := As) (rest := st) C.1 (hM H.size) cw ⟨fd_blind, va_recv C.2.1 hP hc h1, hpre⟩ rfl hn hL.1 rfl (lv_room hrest) d hf) hS (fun x _ h => hF x h) hF (fun u t H1 locs1 ht hvm hpost hB hz1 hk1 hS1 => ?_)
  subst hpost
  obtain ⟨hP1, hK1⟩ := hB
  rw [ht] at hP1
  exact kk H1 locs1 ls hP1 (fd_D_any hD) hS1 hL
theorem fd_callVr (C : fd_C p m c cc nL s args Ts own D cl tys wl A) (hE : fd_Ex A s s.heap) {y : MethodName} {bytes : ByteArray} {maxL n index k i ci NN : Nat} {ret : Option FieldType} {ws : List Cond} {rm : Room} {Cn : String} {T : u_T} {fs : List Value} (As : List Value) {a : Nat} (hM : fd_Mr l y ws rm D cl tys ad en wl (.ref (ad k i) :: As) M a N) (cw : CallW R s args own Cn index y bytes maxL ret ws rm 0 0 n) (hm : (k, i) ∈ wl) (he : en k i (M k i) = .inr (ci, fs)) (hc : cl[ci]? = some (Cn, T, NN)) (hn : As.length = n) (hrest : (st.map fun v => v.category).sum ≤ 8) (d : decode cc pc = .ok (.invokevirtual index, 3)) (hf : cells + 0 ≤ R.cells ∧ slots + 0 ≤ R.slots) (kk : fd_J p l e R s m args below meth c D cl A ad en wl nL cells slots Q N (pc + 3) lv (.ref a :: st)) : fd_J p l e R s m args below meth c D cl A ad en wl nL cells slots Q M pc lv (As.reverse ++ .ref (ad k i) :: st) := by
  intro H locs ls hP hD hS hL
  obtain ⟨q, hq⟩ := List.getElem?_of_mem hm
  have h1 := fd_W_at (ad := ad) (en := en) (M := M) hq
  rw [he] at h1
  obtain ⟨hF, hpre⟩ := fd_go C hE hP hD hS (.ref (ad k i) :: As)
  refine va_callr (va_runV (As := As) (rest := st) C.1 (hM H.size) cw ⟨fd_blind, va_recv C.2.1 hP hc h1, hpre⟩ rfl hn hL.1 rfl (lv_room hrest) d hf) hS (fun x _ h => hF x h) hF (fun u ra t H1 locs1 ht hvm hpost hB hz1 hk1 hS1 => ?_)
  subst hpost
  obtain ⟨rfl, hP1, hK1⟩ := hB
  rw [ht] at hP1
  exact kk H1 locs1 ls hP1 (fd_D_any hD) hS1 hL
theorem fd_callNi (C : fd_C p m c cc nL s args Ts own D cl tys wl A) (hE : fd_Ex A s s.heap) {y : MethodName} {bytes : ByteArray} {maxL n index k i ci NN : Nat} {ret : Option FieldType} {ws : List Cond} {rm : Room} {Cn : String} {T : u_T} {fs : List Value} (As : List Value) {z : Int} (hM : fd_Mi l y ws rm D cl tys ad en wl (.ref (ad k i) :: As) M z N) {host : String} (cw : va_CN R s args own index y host bytes maxL ret ws rm 0 0 n ∧ (Cond.instanceMethod y).before args s = true ∧ (Cond.selects Cn y y).before args s = true) (hm : (k, i) ∈ wl) (he : en k i (M k i) = .inr (ci, fs)) (hc : cl[ci]? = some (Cn, T, NN)) (hn : As.length = n) (hrest : (st.map fun v => v.category).sum ≤ 8) (d : decode cc pc = .ok (.invokevirtual index, 3)) (hf : cells + 0 ≤ R.cells ∧ slots + 0 ≤ R.slots) (kk : fd_J p l e R s m args below meth c D cl A ad en wl nL cells slots Q N (pc + 3) lv (.int (fd_I z) :: st)) : fd_J p l e R s m args below meth c D cl A ad en wl nL cells slots Q M pc lv (As.reverse ++ .ref (ad k i) :: st) := by
  intro H locs ls hP hD hS hL
  obtain ⟨q, hq⟩ := List.getElem?_of_mem hm
  have h1 := fd_W_at (ad := ad) (en := en) (M := M) hq
  rw [he] at h1
  obtain ⟨hF, hpre⟩ := fd_go C hE hP hD hS (.ref (ad k i) :: As)
  refine va_calli (va_runVN (As := As) (rest := st) C.1 (hM H.size) cw ⟨fd_blind, va_recv C.2.1 hP hc h1, hpre⟩ rfl hn hL.1 rfl (lv_room hrest) d hf) hS (fun x _ h => hF x h) hF (fun r u t H1 locs1 ht hvm hpost hB hz1 hk1 hS1 => ?_)
  obtain ⟨rfl, rfl⟩ := hpost
  obtain ⟨hP1, hK1⟩ := hB
  rw [ht] at hP1
  exact kk H1 locs1 ls hP1 (fd_D_any hD) hS1 hL
theorem fd_callNv (C : fd_C p m c cc nL s args Ts own D cl tys wl A) (hE : fd_Ex A s s.heap) {y : MethodName} {bytes : ByteArray} {maxL n index k i ci NN : Nat} {ret : Option FieldType} {ws : List Cond} {rm : Room} {Cn : String} {T : u_T} {fs : List Value} (As : List Value)  (hM : fd_Mv l y ws rm D cl tys ad en wl (.ref (ad k i) :: As) M N) {host : String} (cw : va_CN R s args own index y host bytes maxL ret ws rm 0 0 n ∧ (Cond.instanceMethod y).before args s = true ∧ (Cond.selects Cn y y).before args s = true) (hm : (k, i) ∈ wl) (he : en k i (M k i) = .inr (ci, fs)) (hc : cl[ci]? = some (Cn, T, NN)) (hn : As.length = n) (hrest : (st.map fun v => v.category).sum ≤ 8) (d : decode cc pc = .ok (.invokevirtual index, 3)) (hf : cells + 0 ≤ R.cells ∧ slots + 0 ≤ R.slots) (kk : fd_J p l e R s m args below meth c D cl A ad en wl nL cells slots Q N (pc + 3) lv (st)) : fd_J p l e R s m args below meth c D cl A ad en wl nL cells slots Q M pc lv (As.reverse ++ .ref (ad k i) :: st) := by
  intro H locs ls hP hD hS hL
  obtain ⟨q, hq⟩ := List.getElem?_of_mem hm
  have h1 := fd_W_at (ad := ad) (en := en) (M := M) hq
  rw [he] at h1
  obtain ⟨hF, hpre⟩ := fd_go C hE hP hD hS (.ref (ad k i) :: As)
  refine va_callv (va_runVN (As := As) (rest := st) C.1 (hM H.size) cw ⟨fd_blind, va_recv C.2.1 hP hc h1, hpre⟩ rfl hn hL.1 rfl (lv_room hrest) d hf) hS (fun x _ h => hF x h) hF (fun u t H1 locs1 ht hvm hpost hB hz1 hk1 hS1 => ?_)
  subst hpost
  obtain ⟨hP1, hK1⟩ := hB
  rw [ht] at hP1
  exact kk H1 locs1 ls hP1 (fd_D_any hD) hS1 hL
theorem fd_callNr (C : fd_C p m c cc nL s args Ts own D cl tys wl A) (hE : fd_Ex A s s.heap) {y : MethodName} {bytes : ByteArray} {maxL n index k i ci NN : Nat} {ret : Option FieldType} {ws : List Cond} {rm : Room} {Cn : String} {T : u_T} {fs : List Value} (As : List Value) {a : Nat} (hM : fd_Mr l y ws rm D cl tys ad en wl (.ref (ad k i) :: As) M a N) {host : String} (cw : va_CN R s args own index y host bytes maxL ret ws rm 0 0 n ∧ (Cond.instanceMethod y).before args s = true ∧ (Cond.selects Cn y y).before args s = true) (hm : (k, i) ∈ wl) (he : en k i (M k i) = .inr (ci, fs)) (hc : cl[ci]? = some (Cn, T, NN)) (hn : As.length = n) (hrest : (st.map fun v => v.category).sum ≤ 8) (d : decode cc pc = .ok (.invokevirtual index, 3)) (hf : cells + 0 ≤ R.cells ∧ slots + 0 ≤ R.slots) (kk : fd_J p l e R s m args below meth c D cl A ad en wl nL cells slots Q N (pc + 3) lv (.ref a :: st)) : fd_J p l e R s m args below meth c D cl A ad en wl nL cells slots Q M pc lv (As.reverse ++ .ref (ad k i) :: st) := by
  intro H locs ls hP hD hS hL
  obtain ⟨q, hq⟩ := List.getElem?_of_mem hm
  have h1 := fd_W_at (ad := ad) (en := en) (M := M) hq
  rw [he] at h1
  obtain ⟨hF, hpre⟩ := fd_go C hE hP hD hS (.ref (ad k i) :: As)
  refine va_callr (va_runVN (As := As) (rest := st) C.1 (hM H.size) cw ⟨fd_blind, va_recv C.2.1 hP hc h1, hpre⟩ rfl hn hL.1 rfl (lv_room hrest) d hf) hS (fun x _ h => hF x h) hF (fun u ra t H1 locs1 ht hvm hpost hB hz1 hk1 hS1 => ?_)
  subst hpost
  obtain ⟨rfl, hP1, hK1⟩ := hB
  rw [ht] at hP1
  exact kk H1 locs1 ls hP1 (fd_D_any hD) hS1 hL
/-- a call of a method that throws: the exception goes on to our caller -/
theorem fd_thruV (C : fd_C p m c cc nL s args Ts own D cl tys wl A) (hE : fd_Ex A s s.heap) {y : MethodName} {bytes : ByteArray} {maxL n index k i ci NN : Nat} {ret : Option FieldType} {ws : List Cond} {rm : Room} {Cn : String} {T : u_T} {fs : List Value} (As : List Value) {X : String} {M0 : fd_Mem} (hM0 : M = M0) (hM : fd_MT l y ws rm D cl tys ad en wl (.ref (ad k i) :: As) M X) (cw : CallW R s args own Cn index y bytes maxL ret ws rm 1 6 n) (hm : (k, i) ∈ wl) (he : en k i (M k i) = .inr (ci, fs)) (hc : cl[ci]? = some (Cn, T, NN)) (hn : As.length = n) (hrest : (st.map fun v => v.category).sum ≤ 8) (d : decode cc pc = .ok (.invokevirtual index, 3)) (hf : 0 + 1 ≤ R.cells ∧ 0 + 6 ≤ R.slots) (hno : ∀ x ∈ c.exceptionTable.toList, False) (hlocks : meth.locks = false) : fd_J p l e R s m args below meth c D cl A ad en wl nL 0 0 (vx_MQ below (fd_QT D cl tys ad en wl A) (fd_XT D cl tys ad en wl A M0 X) args s 1 6 A) M pc lv (As.reverse ++ .ref (ad k i) :: st) := by
  subst hM0
  intro H locs ls hP hD hS hL
  obtain ⟨q, hq⟩ := List.getElem?_of_mem hm
  have h1 := fd_W_at (ad := ad) (en := en) (M := M) hq
  rw [he] at h1
  obtain ⟨hF, hpre⟩ := fd_go C hE hP hD hS (.ref (ad k i) :: As)
  refine vx_callv (vx_runV (As := As) (rest := st) C.1 (hM H.size) cw ⟨fd_blind, va_recv C.2.1 hP hc h1, hpre⟩ rfl hn hL.1 rfl (lv_room hrest) d hf) hS (fun x _ h => hF x h) hF (fun x _ h => hF x h) (fun E ce q9 u t H1 locs1 ht hvm hpx hB hz1 hk1 hS1 hce hcv hcl => ?_) (fun u t H1 locs1 ht hvm hpost hB hz1 hk1 hS1 => hpost.elim)
  subst hpx
  obtain ⟨rfl, hP1, hK1⟩ := hB
  rw [ht] at hP1
  exact vx_out (fun x hx => (hno x hx).elim) hlocks hce hcv hcl (fun t2 ht2 hv2 => ⟨u, rfl, ⟨rfl, by rw [ht2]; exact hP1, va_K.moved hv2 C.2.1⟩, hS1.F ht2⟩) hS1.2.2 (Nat.le_refl _) (Nat.le_refl _)
end FDK
