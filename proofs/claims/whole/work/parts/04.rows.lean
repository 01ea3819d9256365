/-! rows over a judgement of our own: fd_J: the heap holds the cells of wl, their contents said by the memory M; locals by number; the machine's ints as ints -/
def fd_W (ad : Nat → Nat → Nat) (en : Nat → Nat → (Nat → Int) → va_E) (wl : List (Nat × Nat)) (M : fd_Mem) : va_W := wl.map (fun q => (ad q.1 q.2, en q.1 q.2 (M q.1 q.2)))
theorem fd_W_at {ad : Nat → Nat → Nat} {en : Nat → Nat → (Nat → Int) → va_E} {wl : List (Nat × Nat)} {M : fd_Mem} {q k i : Nat} (h : wl[q]? = some (k, i)) : (fd_W ad en wl M)[q]? = some (ad k i, en k i (M k i)) := by
  unfold fd_W
  rw [List.getElem?_map, h]
  rfl
theorem fd_W_inv {ad : Nat → Nat → Nat} {en : Nat → Nat → (Nat → Int) → va_E} {wl : List (Nat × Nat)} {M : fd_Mem} {q : Nat} {x : Nat × va_E} (h : (fd_W ad en wl M)[q]? = some x) : ∃ k i, wl[q]? = some (k, i) ∧ x = (ad k i, en k i (M k i)) := by
  unfold fd_W at h
  rw [List.getElem?_map] at h
  cases hq : wl[q]? with
  | none => rw [hq] at h; cases h
  | some y =>
    rw [hq] at h
    obtain ⟨k, i⟩ := y
    exact ⟨k, i, rfl, (Option.some.inj h).symm⟩
theorem fd_W_set {ad : Nat → Nat → Nat} {en : Nat → Nat → (Nat → Int) → va_E} {wl : List (Nat × Nat)} {M : fd_Mem} {q k i : Nat} (hn : wl.Nodup) (h : wl[q]? = some (k, i)) (j : Nat) (z : Int) : (fd_W ad en wl M).set q (ad k i, en k i (fd_up (M k i) j z)) = fd_W ad en wl (fd_u3 M k i j z) := by
  apply List.ext_getElem?
  intro x
  have hql : q < (fd_W ad en wl M).length := (List.getElem?_eq_some_iff.mp (fd_W_at (ad := ad) (en := en) (M := M) h)).1
  by_cases hx : x = q
  · subst hx
    rw [List.getElem?_set_self hql, fd_W_at h, fd_u3_up]
  · rw [List.getElem?_set_ne (Ne.symm hx)]
    unfold fd_W
    rw [List.getElem?_map, List.getElem?_map]
    cases hw : wl[x]? with
    | none => rfl
    | some y =>
      obtain ⟨k', i'⟩ := y
      have hne : ¬ (k' = k ∧ i' = i) := by
        rintro ⟨rfl, rfl⟩
        exact hx ((List.getElem?_inj (List.getElem?_eq_some_iff.mp hw).1 hn).mp (hw.trans h.symm))
      show some (ad k' i', en k' i' (M k' i')) = some (ad k' i', en k' i' (fd_u3 M k i j z k' i'))
      rw [fd_u3_off hne]
theorem fd_D_any {A : Nat → Prop} {ad : Nat → Nat → Nat} {en en' : Nat → Nat → (Nat → Int) → va_E} {wl : List (Nat × Nat)} {M M' : fd_Mem} (h : va_D A (fd_W ad en wl M)) : va_D A (fd_W ad en' wl M') := by
  refine ⟨fun i j x y hi hj hxy => ?_, fun k x hk => ?_⟩
  · obtain ⟨k1, i1, h1, rfl⟩ := fd_W_inv hi
    obtain ⟨k2, i2, h2, rfl⟩ := fd_W_inv hj
    exact h.1 i j _ _ (fd_W_at h1) (fd_W_at h2) hxy
  · obtain ⟨k1, i1, h1, rfl⟩ := fd_W_inv hk
    have h9 := h.2 k (ad k1 i1, en k1 i1 (M k1 i1)) (fd_W_at h1)
    exact h9
theorem fd_A_any {ad : Nat → Nat → Nat} {en en' : Nat → Nat → (Nat → Int) → va_E} {wl : List (Nat × Nat)} {M M' : fd_Mem} {sz q : Nat} (h : va_A (fd_W ad en wl M) sz q) : va_A (fd_W ad en' wl M') sz q := by
  rcases h with ⟨k, e, h⟩ | h
  · obtain ⟨k1, i1, h1, he⟩ := fd_W_inv h
    cases he
    exact Or.inl ⟨k, _, fd_W_at h1⟩
  · exact Or.inr h
/-! locals by number -/
def fd_L (ls : Array Slot) (nL : Nat) (lv : List (Option Value)) : Prop := ls.size = nL ∧ lv_wf ls ∧ ∀ (i : Nat) (v : Value), lv[i]? = some (some v) → ls[i]? = some (.val v) ∧ v.category = 1
def fd_asc (lv : List (Option Value)) : List (Nat × Value) := (List.range lv.length).filterMap (fun i => (lv[i]?).join.map (fun v => (i, v)))
theorem fd_mem_asc {lv : List (Option Value)} {i : Nat} {v : Value} : (i, v) ∈ fd_asc lv ↔ lv[i]? = some (some v) := by
  unfold fd_asc
  rw [List.mem_filterMap]
  constructor
  · rintro ⟨j, -, h⟩
    cases hj : lv[j]? with
    | none => rw [hj] at h; cases h
    | some o =>
      cases o with
      | none => rw [hj] at h; cases h
      | some w =>
        rw [hj] at h
        have h2 := Option.some.inj h
        cases h2
        exact hj
  · intro h
    refine ⟨i, ?_, ?_⟩
    · rw [List.mem_range]
      exact (List.getElem?_eq_some_iff.mp h).1
    · rw [h]
      rfl
theorem fd_L.has {ls : Array Slot} {nL : Nat} {lv : List (Option Value)} (h : fd_L ls nL lv) : lv_has ls nL (fd_asc lv) := ⟨h.1, h.2.1, fun q hq => (h.2.2 q.1 q.2 (fd_mem_asc.mp hq)).1⟩
theorem fd_L_of {ls ls' : Array Slot} {nL i : Nat} {v : Value} {lv : List (Option Value)} (h0 : fd_L ls nL lv) (h' : lv_has ls' nL ((i, v) :: (fd_asc lv).filter (fun q => !(q.1 == i) && !(q.1 + 1 == i && q.2.category == 2)))) (hc : v.category = 1) : fd_L ls' nL (lv.set i (some v)) := by
  refine ⟨h'.1, h'.2.1, fun j w hj => ?_⟩
  rw [List.getElem?_set] at hj
  by_cases hji : i = j
  · subst hji
    rw [if_pos rfl] at hj
    by_cases hl : i < lv.length
    · rw [if_pos hl] at hj
      cases hj
      exact ⟨h'.2.2 (i, v) List.mem_cons_self, hc⟩
    · rw [if_neg hl] at hj
      cases hj
  · rw [if_neg hji] at hj
    have hw := (h0.2.2 j w hj).2
    refine ⟨h'.2.2 (j, w) (List.mem_cons_of_mem _ (List.mem_filter.mpr ⟨fd_mem_asc.mpr hj, ?_⟩)), hw⟩
    have h1 : (j == i) = false := by simp [Ne.symm hji]
    simp [h1, hw]
theorem fd_L_sub {ls : Array Slot} {nL : Nat} {lv lv' : List (Option Value)} (h : fd_L ls nL lv) (hs : ∀ (i : Nat) (v : Value), lv'[i]? = some (some v) → lv[i]? = some (some v)) : fd_L ls nL lv' := ⟨h.1, h.2.1, fun i v hi => h.2.2 i v (hs i v hi)⟩
def fd_C (p : Program) (m : MethodId) (c : Code) (cc : ByteArray) (nL : Nat) (s : State) (args : Array Value) (Ts : List Cond) (own : String) (D : va_G) (cl : List vw_C) (tys : List (ClassId × FieldType)) (wl : List (Nat × Nat)) (A : Nat → Prop) : Prop := CallFix p m c cc nL s args Ts own ∧ va_K D cl tys s ∧ wl.Nodup ∧ ∀ q : Nat, s.heap.size ≤ q → A q
def fd_J (p : Program) (l : Launch) (e : Env) (R : Room) (s : State) (m : MethodId) (args : Array Value) (below : List Frame) (meth : Method) (c : Code) (D : va_G) (cl : List vw_C) (A : Nat → Prop) (ad : Nat → Nat → Nat) (en : Nat → Nat → (Nat → Int) → va_E) (wl : List (Nat × Nat)) (nL cells slots : Nat) (Q : State → Prop) (M : fd_Mem) (pc : Nat) (lv : List (Option Value)) (st : List Value) : Prop :=
  ∀ (H : Heap) (locs : List Loc) (ls : Array Slot), va_P D cl (fd_W ad en wl M) H → va_D A (fd_W ad en wl M) → va_S A s.heap H locs → fd_L ls nL lv → W p l e R s m args below meth c H locs cells slots Q (F0 m pc ls st)
section FDJ
variable {p : Program} {l : Launch} {e : Env} {R : Room} {s : State} {m : MethodId} {args : Array Value} {below : List Frame} {meth : Method} {c : Code} {cells slots : Nat} {Q : State → Prop}
variable {cc : ByteArray} {pc nL : Nat} {own : String} {Ts : List Cond} {D : va_G} {cl : List vw_C} {A : Nat → Prop} {tys : List (ClassId × FieldType)}
variable {ad : Nat → Nat → Nat} {en : Nat → Nat → (Nat → Int) → va_E} {wl : List (Nat × Nat)} {M : fd_Mem} {lv : List (Option Value)} {st : List Value}
theorem fd_iconst (C : fd_C p m c cc nL s args Ts own D cl tys wl A) {n : Int} (d : decode cc pc = .ok (.iconst n, 1)) (k : fd_J p l e R s m args below meth c D cl A ad en wl nL cells slots Q M (pc + 1) lv (.int (fd_I n) :: st)) : fd_J p l e R s m args below meth c D cl A ad en wl nL cells slots Q M pc lv st := by
  intro H locs ls hP hD hS hL
  exact lv_iconst C.1.1 C.1.2.1 d rfl (k H locs ls hP hD hS hL)
theorem fd_bipush (C : fd_C p m c cc nL s args Ts own D cl tys wl A) {n : Int} (d : decode cc pc = .ok (.bipush n, 2)) (hv : (Int8.ofInt n).toInt32 = fd_I n) (k : fd_J p l e R s m args below meth c D cl A ad en wl nL cells slots Q M (pc + 2) lv (.int (fd_I n) :: st)) : fd_J p l e R s m args below meth c D cl A ad en wl nL cells slots Q M pc lv st := by
  intro H locs ls hP hD hS hL
  exact lv_bipush C.1.1 C.1.2.1 d hv (k H locs ls hP hD hS hL)
theorem fd_sipush (C : fd_C p m c cc nL s args Ts own D cl tys wl A) {n : Int} (d : decode cc pc = .ok (.sipush n, 3)) (hv : (Int16.ofInt n).toInt32 = fd_I n) (k : fd_J p l e R s m args below meth c D cl A ad en wl nL cells slots Q M (pc + 3) lv (.int (fd_I n) :: st)) : fd_J p l e R s m args below meth c D cl A ad en wl nL cells slots Q M pc lv st := by
  intro H locs ls hP hD hS hL
  exact lv_sipush C.1.1 C.1.2.1 d hv (k H locs ls hP hD hS hL)
theorem fd_iload_n (C : fd_C p m c cc nL s args Ts own D cl tys wl A) {i : Fin 4} {x : Int32} (d : decode cc pc = .ok (.iload_n i, 1)) (h : lv[(i : Nat)]? = some (some (.int x))) (k : fd_J p l e R s m args below meth c D cl A ad en wl nL cells slots Q M (pc + 1) lv (.int x :: st)) : fd_J p l e R s m args below meth c D cl A ad en wl nL cells slots Q M pc lv st := by
  intro H locs ls hP hD hS hL
  exact lv_iload_n C.1.1 C.1.2.1 d rfl (hL.2.2 _ _ h).1 (k H locs ls hP hD hS hL)
theorem fd_iload (C : fd_C p m c cc nL s args Ts own D cl tys wl A) {i : Nat} {x : Int32} (d : decode cc pc = .ok (.iload i, 2)) (h : lv[i]? = some (some (.int x))) (k : fd_J p l e R s m args below meth c D cl A ad en wl nL cells slots Q M (pc + 2) lv (.int x :: st)) : fd_J p l e R s m args below meth c D cl A ad en wl nL cells slots Q M pc lv st := by
  intro H locs ls hP hD hS hL
  exact lv_iload C.1.1 C.1.2.1 d (hL.2.2 _ _ h).1 (k H locs ls hP hD hS hL)
theorem fd_aload_n (C : fd_C p m c cc nL s args Ts own D cl tys wl A) {i : Fin 4} {x : Nat} (d : decode cc pc = .ok (.aload_n i, 1)) (h : lv[(i : Nat)]? = some (some (.ref x))) (k : fd_J p l e R s m args below meth c D cl A ad en wl nL cells slots Q M (pc + 1) lv (.ref x :: st)) : fd_J p l e R s m args below meth c D cl A ad en wl nL cells slots Q M pc lv st := by
  intro H locs ls hP hD hS hL
  exact lv_aload_n C.1.1 C.1.2.1 d rfl (hL.2.2 _ _ h).1 (k H locs ls hP hD hS hL)
theorem fd_aload (C : fd_C p m c cc nL s args Ts own D cl tys wl A) {i : Nat} {x : Nat} (d : decode cc pc = .ok (.aload i, 2)) (h : lv[i]? = some (some (.ref x))) (k : fd_J p l e R s m args below meth c D cl A ad en wl nL cells slots Q M (pc + 2) lv (.ref x :: st)) : fd_J p l e R s m args below meth c D cl A ad en wl nL cells slots Q M pc lv st := by
  intro H locs ls hP hD hS hL
  exact lv_aload C.1.1 C.1.2.1 d (hL.2.2 _ _ h).1 (k H locs ls hP hD hS hL)
theorem fd_istore_n (C : fd_C p m c cc nL s args Ts own D cl tys wl A) {i : Fin 4} {x : Int32} (d : decode cc pc = .ok (.istore_n i, 1)) (hn : (i : Nat) < nL) (k : fd_J p l e R s m args below meth c D cl A ad en wl nL cells slots Q M (pc + 1) (lv.set (i : Nat) (some (.int x))) st) : fd_J p l e R s m args below meth c D cl A ad en wl nL cells slots Q M pc lv (.int x :: st) := by
  intro H locs ls hP hD hS hL
  exact lv_istore_n C.1.1 C.1.2.1 d rfl hL.has hn rfl (fun ls' h' => k H locs ls' hP hD hS (fd_L_of hL h' rfl))
theorem fd_istore (C : fd_C p m c cc nL s args Ts own D cl tys wl A) {i : Nat} {x : Int32} (d : decode cc pc = .ok (.istore i, 2)) (hn : i < nL) (k : fd_J p l e R s m args below meth c D cl A ad en wl nL cells slots Q M (pc + 2) (lv.set i (some (.int x))) st) : fd_J p l e R s m args below meth c D cl A ad en wl nL cells slots Q M pc lv (.int x :: st) := by
  intro H locs ls hP hD hS hL
  exact lv_istore C.1.1 C.1.2.1 d hL.has hn rfl (fun ls' h' => k H locs ls' hP hD hS (fd_L_of hL h' rfl))
theorem fd_astore_n (C : fd_C p m c cc nL s args Ts own D cl tys wl A) {i : Fin 4} {x : Nat} (d : decode cc pc = .ok (.astore_n i, 1)) (hn : (i : Nat) < nL) (k : fd_J p l e R s m args below meth c D cl A ad en wl nL cells slots Q M (pc + 1) (lv.set (i : Nat) (some (.ref x))) st) : fd_J p l e R s m args below meth c D cl A ad en wl nL cells slots Q M pc lv (.ref x :: st) := by
  intro H locs ls hP hD hS hL
  exact lv_astore_n C.1.1 C.1.2.1 d rfl hL.has hn rfl (fun ls' h' => k H locs ls' hP hD hS (fd_L_of hL h' rfl))
theorem fd_astore (C : fd_C p m c cc nL s args Ts own D cl tys wl A) {i : Nat} {x : Nat} (d : decode cc pc = .ok (.astore i, 2)) (hn : i < nL) (k : fd_J p l e R s m args below meth c D cl A ad en wl nL cells slots Q M (pc + 2) (lv.set i (some (.ref x))) st) : fd_J p l e R s m args below meth c D cl A ad en wl nL cells slots Q M pc lv (.ref x :: st) := by
  intro H locs ls hP hD hS hL
  exact lv_astore C.1.1 C.1.2.1 d hL.has hn rfl (fun ls' h' => k H locs ls' hP hD hS (fd_L_of hL h' rfl))
theorem fd_iinc (C : fd_C p m c cc nL s args Ts own D cl tys wl A) {i : Nat} {n z : Int} (d : decode cc pc = .ok (.iinc i n, 3)) (h : lv[i]? = some (some (.int (fd_I z)))) (hn : i < nL) (k : fd_J p l e R s m args below meth c D cl A ad en wl nL cells slots Q M (pc + 3) (lv.set i (some (.int (fd_I (z + n))))) st) : fd_J p l e R s m args below meth c D cl A ad en wl nL cells slots Q M pc lv st := by
  intro H locs ls hP hD hS hL
  obtain ⟨q, hq⟩ := List.getElem?_of_mem (fd_mem_asc.mpr h)
  exact lv_iinc C.1.1 C.1.2.1 d hL.has hq (fd_I_add z n) hn rfl (fun ls' h' => k H locs ls' hP hD hS (fd_L_of hL h' rfl))
theorem fd_iadd (C : fd_C p m c cc nL s args Ts own D cl tys wl A) {a b : Int} (d : decode cc pc = .ok (.iadd, 1)) (k : fd_J p l e R s m args below meth c D cl A ad en wl nL cells slots Q M (pc + 1) lv (.int (fd_I (a + b)) :: st)) : fd_J p l e R s m args below meth c D cl A ad en wl nL cells slots Q M pc lv (.int (fd_I b) :: .int (fd_I a) :: st) := by
  intro H locs ls hP hD hS hL
  refine lv_iadd C.1.1 C.1.2.1 d ?_
  rw [fd_I_add]
  exact k H locs ls hP hD hS hL
theorem fd_isub (C : fd_C p m c cc nL s args Ts own D cl tys wl A) {a b : Int} (d : decode cc pc = .ok (.isub, 1)) (k : fd_J p l e R s m args below meth c D cl A ad en wl nL cells slots Q M (pc + 1) lv (.int (fd_I (a - b)) :: st)) : fd_J p l e R s m args below meth c D cl A ad en wl nL cells slots Q M pc lv (.int (fd_I b) :: .int (fd_I a) :: st) := by
  intro H locs ls hP hD hS hL
  refine lv_isub C.1.1 C.1.2.1 d ?_
  rw [fd_I_sub]
  exact k H locs ls hP hD hS hL
theorem fd_imul (C : fd_C p m c cc nL s args Ts own D cl tys wl A) {a b : Int} (d : decode cc pc = .ok (.imul, 1)) (k : fd_J p l e R s m args below meth c D cl A ad en wl nL cells slots Q M (pc + 1) lv (.int (fd_I (a * b)) :: st)) : fd_J p l e R s m args below meth c D cl A ad en wl nL cells slots Q M pc lv (.int (fd_I b) :: .int (fd_I a) :: st) := by
  intro H locs ls hP hD hS hL
  refine lv_imul C.1.1 C.1.2.1 d ?_
  rw [fd_I_mul]
  exact k H locs ls hP hD hS hL
theorem fd_idiv (C : fd_C p m c cc nL s args Ts own D cl tys wl A) {a b : Int} (d : decode cc pc = .ok (.idiv, 1)) (ha : fd_in a) (hb : fd_in b) (h0 : 0 ≤ a) (h1 : 0 < b) (k : fd_J p l e R s m args below meth c D cl A ad en wl nL cells slots Q M (pc + 1) lv (.int (fd_I (a / b)) :: st)) : fd_J p l e R s m args below meth c D cl A ad en wl nL cells slots Q M pc lv (.int (fd_I b) :: .int (fd_I a) :: st) := by
  intro H locs ls hP hD hS hL
  refine lv_idiv C.1.1 C.1.2.1 d (fd_ne0 hb (by omega)) ?_
  rw [fd_I_div ha hb h0 h1]
  exact k H locs ls hP hD hS hL
theorem fd_dup (C : fd_C p m c cc nL s args Ts own D cl tys wl A) {va : Value} (d : decode cc pc = .ok (.dup, 1)) (hva : va.category = 1) (k : fd_J p l e R s m args below meth c D cl A ad en wl nL cells slots Q M (pc + 1) lv (va :: va :: st)) : fd_J p l e R s m args below meth c D cl A ad en wl nL cells slots Q M pc lv (va :: st) := by
  intro H locs ls hP hD hS hL
  exact lv_dup C.1.1 C.1.2.1 d hva (k H locs ls hP hD hS hL)
theorem fd_pop (C : fd_C p m c cc nL s args Ts own D cl tys wl A) {va : Value} (d : decode cc pc = .ok (.pop, 1)) (hva : va.category = 1) (k : fd_J p l e R s m args below meth c D cl A ad en wl nL cells slots Q M (pc + 1) lv (st)) : fd_J p l e R s m args below meth c D cl A ad en wl nL cells slots Q M pc lv (va :: st) := by
  intro H locs ls hP hD hS hL
  exact lv_pop C.1.1 C.1.2.1 d hva (k H locs ls hP hD hS hL)
theorem fd_dup_x1 (C : fd_C p m c cc nL s args Ts own D cl tys wl A) {va vb : Value} (d : decode cc pc = .ok (.dup_x1, 1)) (hva : va.category = 1) (hvb : vb.category = 1) (k : fd_J p l e R s m args below meth c D cl A ad en wl nL cells slots Q M (pc + 1) lv (va :: vb :: va :: st)) : fd_J p l e R s m args below meth c D cl A ad en wl nL cells slots Q M pc lv (va :: vb :: st) := by
  intro H locs ls hP hD hS hL
  exact lv_dup_x1 C.1.1 C.1.2.1 d hva hvb (k H locs ls hP hD hS hL)
theorem fd_dup_x2 (C : fd_C p m c cc nL s args Ts own D cl tys wl A) {va vb vd : Value} (d : decode cc pc = .ok (.dup_x2, 1)) (hva : va.category = 1) (hvb : vb.category = 1) (hvd : vd.category = 1) (k : fd_J p l e R s m args below meth c D cl A ad en wl nL cells slots Q M (pc + 1) lv (va :: vb :: vd :: va :: st)) : fd_J p l e R s m args below meth c D cl A ad en wl nL cells slots Q M pc lv (va :: vb :: vd :: st) := by
  intro H locs ls hP hD hS hL
  exact lv_dup_x2 C.1.1 C.1.2.1 d hva hvb hvd (k H locs ls hP hD hS hL)
theorem fd_dup2 (C : fd_C p m c cc nL s args Ts own D cl tys wl A) {va vb : Value} (d : decode cc pc = .ok (.dup2, 1)) (hva : va.category = 1) (hvb : vb.category = 1) (k : fd_J p l e R s m args below meth c D cl A ad en wl nL cells slots Q M (pc + 1) lv (va :: vb :: va :: vb :: st)) : fd_J p l e R s m args below meth c D cl A ad en wl nL cells slots Q M pc lv (va :: vb :: st) := by
  intro H locs ls hP hD hS hL
  exact lv_dup2_11 C.1.1 C.1.2.1 d hva hvb (k H locs ls hP hD hS hL)
theorem fd_goto (C : fd_C p m c cc nL s args Ts own D cl tys wl A) {off : Int} {tgt : Nat} (d : decode cc pc = .ok (.goto off, 3)) (ht : (pc : Int) + off = (tgt : Int)) (k : fd_J p l e R s m args below meth c D cl A ad en wl nL cells slots Q M (tgt) lv st) : fd_J p l e R s m args below meth c D cl A ad en wl nL cells slots Q M pc lv st := by
  intro H locs ls hP hD hS hL
  exact lv_goto C.1.1 C.1.2.1 d ht (k H locs ls hP hD hS hL)
theorem fd_icmp_eq (C : fd_C p m c cc nL s args Ts own D cl tys wl A) {a b off : Int} {tgt : Nat} (d : decode cc pc = .ok (.if_icmp .eq off, 3)) (ht : (pc : Int) + off = (tgt : Int)) (ha : fd_in a) (hb : fd_in b) (kt : a = b → fd_J p l e R s m args below meth c D cl A ad en wl nL cells slots Q M (tgt) lv st) (kf : ¬ a = b → fd_J p l e R s m args below meth c D cl A ad en wl nL cells slots Q M (pc + 3) lv st) : fd_J p l e R s m args below meth c D cl A ad en wl nL cells slots Q M pc lv (.int (fd_I b) :: .int (fd_I a) :: st) := by
  intro H locs ls hP hD hS hL
  exact lv_icmp_eq C.1.1 C.1.2.1 d ht (fun h => kt ((fd_I_eq ha hb).mp h) H locs ls hP hD hS hL) (fun h => kf (fun q => h ((fd_I_eq ha hb).mpr q)) H locs ls hP hD hS hL)
theorem fd_if_eq (C : fd_C p m c cc nL s args Ts own D cl tys wl A) {a off : Int} {tgt : Nat} (d : decode cc pc = .ok (.ifCond .eq off, 3)) (ht : (pc : Int) + off = (tgt : Int)) (ha : fd_in a) (kt : a = 0 → fd_J p l e R s m args below meth c D cl A ad en wl nL cells slots Q M (tgt) lv st) (kf : ¬ a = 0 → fd_J p l e R s m args below meth c D cl A ad en wl nL cells slots Q M (pc + 3) lv st) : fd_J p l e R s m args below meth c D cl A ad en wl nL cells slots Q M pc lv (.int (fd_I a) :: st) := by
  intro H locs ls hP hD hS hL
  exact lv_if_eq C.1.1 C.1.2.1 d ht (fun h => kt ((fd_I_eq ha fd_in0).mp h) H locs ls hP hD hS hL) (fun h => kf (fun q => h ((fd_I_eq ha fd_in0).mpr q)) H locs ls hP hD hS hL)
theorem fd_icmp_ne (C : fd_C p m c cc nL s args Ts own D cl tys wl A) {a b off : Int} {tgt : Nat} (d : decode cc pc = .ok (.if_icmp .ne off, 3)) (ht : (pc : Int) + off = (tgt : Int)) (ha : fd_in a) (hb : fd_in b) (kt : ¬ a = b → fd_J p l e R s m args below meth c D cl A ad en wl nL cells slots Q M (tgt) lv st) (kf : a = b → fd_J p l e R s m args below meth c D cl A ad en wl nL cells slots Q M (pc + 3) lv st) : fd_J p l e R s m args below meth c D cl A ad en wl nL cells slots Q M pc lv (.int (fd_I b) :: .int (fd_I a) :: st) := by
  intro H locs ls hP hD hS hL
  exact lv_icmp_ne C.1.1 C.1.2.1 d ht (fun h => kt (fun q => h ((fd_I_eq ha hb).mpr q)) H locs ls hP hD hS hL) (fun h => kf ((fd_I_eq ha hb).mp h) H locs ls hP hD hS hL)
theorem fd_if_ne (C : fd_C p m c cc nL s args Ts own D cl tys wl A) {a off : Int} {tgt : Nat} (d : decode cc pc = .ok (.ifCond .ne off, 3)) (ht : (pc : Int) + off = (tgt : Int)) (ha : fd_in a) (kt : ¬ a = 0 → fd_J p l e R s m args below meth c D cl A ad en wl nL cells slots Q M (tgt) lv st) (kf : a = 0 → fd_J p l e R s m args below meth c D cl A ad en wl nL cells slots Q M (pc + 3) lv st) : fd_J p l e R s m args below meth c D cl A ad en wl nL cells slots Q M pc lv (.int (fd_I a) :: st) := by
  intro H locs ls hP hD hS hL
  exact lv_if_ne C.1.1 C.1.2.1 d ht (fun h => kt (fun q => h ((fd_I_eq ha fd_in0).mpr q)) H locs ls hP hD hS hL) (fun h => kf ((fd_I_eq ha fd_in0).mp h) H locs ls hP hD hS hL)
theorem fd_icmp_lt (C : fd_C p m c cc nL s args Ts own D cl tys wl A) {a b off : Int} {tgt : Nat} (d : decode cc pc = .ok (.if_icmp .lt off, 3)) (ht : (pc : Int) + off = (tgt : Int)) (ha : fd_in a) (hb : fd_in b) (kt : a < b → fd_J p l e R s m args below meth c D cl A ad en wl nL cells slots Q M (tgt) lv st) (kf : ¬ a < b → fd_J p l e R s m args below meth c D cl A ad en wl nL cells slots Q M (pc + 3) lv st) : fd_J p l e R s m args below meth c D cl A ad en wl nL cells slots Q M pc lv (.int (fd_I b) :: .int (fd_I a) :: st) := by
  intro H locs ls hP hD hS hL
  exact lv_icmp_lt C.1.1 C.1.2.1 d ht (fun h => kt ((fd_I_lt ha hb).mp h) H locs ls hP hD hS hL) (fun h => kf (fun q => h ((fd_I_lt ha hb).mpr q)) H locs ls hP hD hS hL)
theorem fd_if_lt (C : fd_C p m c cc nL s args Ts own D cl tys wl A) {a off : Int} {tgt : Nat} (d : decode cc pc = .ok (.ifCond .lt off, 3)) (ht : (pc : Int) + off = (tgt : Int)) (ha : fd_in a) (kt : a < 0 → fd_J p l e R s m args below meth c D cl A ad en wl nL cells slots Q M (tgt) lv st) (kf : ¬ a < 0 → fd_J p l e R s m args below meth c D cl A ad en wl nL cells slots Q M (pc + 3) lv st) : fd_J p l e R s m args below meth c D cl A ad en wl nL cells slots Q M pc lv (.int (fd_I a) :: st) := by
  intro H locs ls hP hD hS hL
  exact lv_if_lt C.1.1 C.1.2.1 d ht (fun h => kt ((fd_I_lt ha fd_in0).mp h) H locs ls hP hD hS hL) (fun h => kf (fun q => h ((fd_I_lt ha fd_in0).mpr q)) H locs ls hP hD hS hL)
theorem fd_icmp_ge (C : fd_C p m c cc nL s args Ts own D cl tys wl A) {a b off : Int} {tgt : Nat} (d : decode cc pc = .ok (.if_icmp .ge off, 3)) (ht : (pc : Int) + off = (tgt : Int)) (ha : fd_in a) (hb : fd_in b) (kt : b ≤ a → fd_J p l e R s m args below meth c D cl A ad en wl nL cells slots Q M (tgt) lv st) (kf : ¬ b ≤ a → fd_J p l e R s m args below meth c D cl A ad en wl nL cells slots Q M (pc + 3) lv st) : fd_J p l e R s m args below meth c D cl A ad en wl nL cells slots Q M pc lv (.int (fd_I b) :: .int (fd_I a) :: st) := by
  intro H locs ls hP hD hS hL
  exact lv_icmp_ge C.1.1 C.1.2.1 d ht (fun h => kt ((fd_I_le hb ha).mp h) H locs ls hP hD hS hL) (fun h => kf (fun q => h ((fd_I_le hb ha).mpr q)) H locs ls hP hD hS hL)
theorem fd_if_ge (C : fd_C p m c cc nL s args Ts own D cl tys wl A) {a off : Int} {tgt : Nat} (d : decode cc pc = .ok (.ifCond .ge off, 3)) (ht : (pc : Int) + off = (tgt : Int)) (ha : fd_in a) (kt : 0 ≤ a → fd_J p l e R s m args below meth c D cl A ad en wl nL cells slots Q M (tgt) lv st) (kf : ¬ 0 ≤ a → fd_J p l e R s m args below meth c D cl A ad en wl nL cells slots Q M (pc + 3) lv st) : fd_J p l e R s m args below meth c D cl A ad en wl nL cells slots Q M pc lv (.int (fd_I a) :: st) := by
  intro H locs ls hP hD hS hL
  exact lv_if_ge C.1.1 C.1.2.1 d ht (fun h => kt ((fd_I_le fd_in0 ha).mp h) H locs ls hP hD hS hL) (fun h => kf (fun q => h ((fd_I_le fd_in0 ha).mpr q)) H locs ls hP hD hS hL)
theorem fd_icmp_gt (C : fd_C p m c cc nL s args Ts own D cl tys wl A) {a b off : Int} {tgt : Nat} (d : decode cc pc = .ok (.if_icmp .gt off, 3)) (ht : (pc : Int) + off = (tgt : Int)) (ha : fd_in a) (hb : fd_in b) (kt : b < a → fd_J p l e R s m args below meth c D cl A ad en wl nL cells slots Q M (tgt) lv st) (kf : ¬ b < a → fd_J p l e R s m args below meth c D cl A ad en wl nL cells slots Q M (pc + 3) lv st) : fd_J p l e R s m args below meth c D cl A ad en wl nL cells slots Q M pc lv (.int (fd_I b) :: .int (fd_I a) :: st) := by
  intro H locs ls hP hD hS hL
  exact lv_icmp_gt C.1.1 C.1.2.1 d ht (fun h => kt ((fd_I_lt hb ha).mp h) H locs ls hP hD hS hL) (fun h => kf (fun q => h ((fd_I_lt hb ha).mpr q)) H locs ls hP hD hS hL)
theorem fd_if_gt (C : fd_C p m c cc nL s args Ts own D cl tys wl A) {a off : Int} {tgt : Nat} (d : decode cc pc = .ok (.ifCond .gt off, 3)) (ht : (pc : Int) + off = (tgt : Int)) (ha : fd_in a) (kt : 0 < a → fd_J p l e R s m args below meth c D cl A ad en wl nL cells slots Q M (tgt) lv st) (kf : ¬ 0 < a → fd_J p l e R s m args below meth c D cl A ad en wl nL cells slots Q M (pc + 3) lv st) : fd_J p l e R s m args below meth c D cl A ad en wl nL cells slots Q M pc lv (.int (fd_I a) :: st) := by
  intro H locs ls hP hD hS hL
  exact lv_if_gt C.1.1 C.1.2.1 d ht (fun h => kt ((fd_I_lt fd_in0 ha).mp h) H locs ls hP hD hS hL) (fun h => kf (fun q => h ((fd_I_lt fd_in0 ha).mpr q)) H locs ls hP hD hS hL)
theorem fd_icmp_le (C : fd_C p m c cc nL s args Ts own D cl tys wl A) {a b off : Int} {tgt : Nat} (d : decode cc pc = .ok (.if_icmp .le off, 3)) (ht : (pc : Int) + off = (tgt : Int)) (ha : fd_in a) (hb : fd_in b) (kt : a ≤ b → fd_J p l e R s m args below meth c D cl A ad en wl nL cells slots Q M (tgt) lv st) (kf : ¬ a ≤ b → fd_J p l e R s m args below meth c D cl A ad en wl nL cells slots Q M (pc + 3) lv st) : fd_J p l e R s m args below meth c D cl A ad en wl nL cells slots Q M pc lv (.int (fd_I b) :: .int (fd_I a) :: st) := by
  intro H locs ls hP hD hS hL
  exact lv_icmp_le C.1.1 C.1.2.1 d ht (fun h => kt ((fd_I_le ha hb).mp h) H locs ls hP hD hS hL) (fun h => kf (fun q => h ((fd_I_le ha hb).mpr q)) H locs ls hP hD hS hL)
theorem fd_if_le (C : fd_C p m c cc nL s args Ts own D cl tys wl A) {a off : Int} {tgt : Nat} (d : decode cc pc = .ok (.ifCond .le off, 3)) (ht : (pc : Int) + off = (tgt : Int)) (ha : fd_in a) (kt : a ≤ 0 → fd_J p l e R s m args below meth c D cl A ad en wl nL cells slots Q M (tgt) lv st) (kf : ¬ a ≤ 0 → fd_J p l e R s m args below meth c D cl A ad en wl nL cells slots Q M (pc + 3) lv st) : fd_J p l e R s m args below meth c D cl A ad en wl nL cells slots Q M pc lv (.int (fd_I a) :: st) := by
  intro H locs ls hP hD hS hL
  exact lv_if_le C.1.1 C.1.2.1 d ht (fun h => kt ((fd_I_le ha fd_in0).mp h) H locs ls hP hD hS hL) (fun h => kf (fun q => h ((fd_I_le ha fd_in0).mpr q)) H locs ls hP hD hS hL)
theorem fd_tswI (C : fd_C p m c cc nL s args Ts own D cl tys wl A) {a dflt lo hi off : Int} {offs : Array Int} {len tgt : Nat} (d : decode cc pc = .ok (.tableswitch dflt lo hi offs, len)) (ha : fd_in a) (h1 : lo ≤ a) (h2 : a ≤ hi) (ho : offs[(a - lo).toNat]? = some off) (ht : (pc : Int) + off = (tgt : Int)) (k : fd_J p l e R s m args below meth c D cl A ad en wl nL cells slots Q M (tgt) lv st) : fd_J p l e R s m args below meth c D cl A ad en wl nL cells slots Q M pc lv (.int (fd_I a) :: st) := by
  intro H locs ls hP hD hS hL
  exact lv_tableIn C.1.1 C.1.2.1 d (by rw [fd_I_toInt ha]; omega) (by rw [fd_I_toInt ha]; omega) (by rw [fd_I_toInt ha]; exact ho) ht (k H locs ls hP hD hS hL)
theorem fd_tswO (C : fd_C p m c cc nL s args Ts own D cl tys wl A) {a dflt lo hi : Int} {offs : Array Int} {len tgt : Nat} (d : decode cc pc = .ok (.tableswitch dflt lo hi offs, len)) (ha : fd_in a) (h : a < lo ∨ hi < a) (ht : (pc : Int) + dflt = (tgt : Int)) (k : fd_J p l e R s m args below meth c D cl A ad en wl nL cells slots Q M (tgt) lv st) : fd_J p l e R s m args below meth c D cl A ad en wl nL cells slots Q M pc lv (.int (fd_I a) :: st) := by
  intro H locs ls hP hD hS hL
  exact lv_tableOut C.1.1 C.1.2.1 d (by rw [fd_I_toInt ha]; exact h) ht (k H locs ls hP hD hS hL)
theorem fd_get (C : fd_C p m c cc nL s args Ts own D cl tys wl A) {k i ci N idx j : Nat} {fs : List Value} {Cn : String} {T : u_T} {v : Value} (hm : (k, i) ∈ wl) (he : en k i (M k i) = .inr (ci, fs)) (hc : cl[ci]? = some (Cn, T, N)) (hj : j < N) (hin : ∀ w ∈ u_ws Cn T N, w ∈ Ts) (hlink : Cond.fieldLink own idx (T j).1 (T j).2.1 (T j).2.2.1 ∈ Ts) (hv : fs[j]? = some v) (d : decode cc pc = .ok (.getfield idx, 3)) (kk : fd_J p l e R s m args below meth c D cl A ad en wl nL cells slots Q M (pc + 3) lv (v :: st)) : fd_J p l e R s m args below meth c D cl A ad en wl nL cells slots Q M pc lv (.ref (ad k i) :: st) := by
  intro H locs ls hP hD hS hL
  obtain ⟨q, hq⟩ := List.getElem?_of_mem hm
  have h1 := fd_W_at (ad := ad) (en := en) (M := M) hq
  rw [he] at h1
  exact va_get C.1.1 C.1.2.1 C.1.2.2.2.2 hin C.1.2.2.2.1 C.2.1 hP q h1 hc j hj (C.1.2.2.2.2 _ hlink) (fun _ h => h) hv d (kk H locs ls hP hD hS hL)
theorem fd_put (C : fd_C p m c cc nL s args Ts own D cl tys wl A) {k i ci N idx j : Nat} {fs : List Value} {Cn : String} {T : u_T} {ty : FieldType} {z : Int} (ty0 : Nat → FieldType) (hm : (k, i) ∈ wl) (he : en k i (M k i) = .inr (ci, fs)) (he' : en k i (fd_up (M k i) j z) = .inr (ci, fs.set j (.int (fd_I z)))) (hc : cl[ci]? = some (Cn, T, N)) (hj : j < N) (hin : ∀ w ∈ u_ws Cn T N, w ∈ Ts) (hty : ∀ k, k < N → parseFieldDescriptor (T k).2.2.1 = some (ty0 k)) (hnm : ∀ a, a < N → ∀ b, b < N → a ≠ b → (T a).2.1 ≠ (T b).2.1) (hlink : Cond.fieldLink own idx (T j).1 (T j).2.1 (T j).2.2.1 ∈ Ts) (hfin : (T j).2.2.2 = false) (hd : parseFieldDescriptor (T j).2.2.1 = some ty) (hn : narrow ty (.int (fd_I z)) = .int (fd_I z)) (hfit : fits ty (.int (fd_I z)) = true) (hl : j < fs.length) (d : decode cc pc = .ok (.putfield idx, 3)) (kk : fd_J p l e R s m args below meth c D cl A ad en wl nL cells slots Q (fd_u3 M k i j z) (pc + 3) lv st) : fd_J p l e R s m args below meth c D cl A ad en wl nL cells slots Q M pc lv (.int (fd_I z) :: .ref (ad k i) :: st) := by
  intro H locs ls hP hD hS hL
  obtain ⟨q, hq⟩ := List.getElem?_of_mem hm
  have h1 := fd_W_at (ad := ad) (en := en) (M := M) hq
  rw [he] at h1
  refine va_put C.1.1 C.1.2.1 C.1.2.2.2.2 hin ty0 hty hnm C.1.2.2.2.1 C.2.1 hP hD hS q h1 hc j hj (C.1.2.2.2.2 _ hlink) (fun _ h => h) hfin hd hn hfit hl d (fun H1 locs1 hP1 hD1 hS1 => ?_)
  rw [← he', fd_W_set C.2.2.1 hq] at hP1 hD1
  exact kk H1 locs1 ls hP1 hD1 hS1 hL
theorem fd_iald (C : fd_C p m c cc nL s args Ts own D cl tys wl A) {k i n x : Nat} {z v : Int} {cA : ClassId} (hm : (k, i) ∈ wl) (he : ∀ g, en k i g = .inl (cA, n, .inl (fun x => fd_I (g x)))) (ht : (cA, FieldType.int) ∈ tys) (hz : z = (x : Int)) (hx : x < n) (hn : n < 2147483648) (hv : M k i x = v) (d : decode cc pc = .ok (.iaload, 1)) (kk : fd_J p l e R s m args below meth c D cl A ad en wl nL cells slots Q M (pc + 1) lv (.int (fd_I v) :: st)) : fd_J p l e R s m args below meth c D cl A ad en wl nL cells slots Q M pc lv (.int (fd_I z) :: .ref (ad k i) :: st) := by
  intro H locs ls hP hD hS hL
  obtain ⟨q, hq⟩ := List.getElem?_of_mem hm
  obtain ⟨t0, ht0⟩ := List.getElem?_of_mem ht
  have h1 := fd_W_at (ad := ad) (en := en) (M := M) hq
  rw [he] at h1
  subst hz
  have hc : (fd_I (x : Int)).toNatClampNeg = x := by rw [fd_I_clamp (by omega) (by omega)]; rfl
  have h2 := kk H locs ls hP hD hS hL
  rw [← hv, ← hc] at h2
  exact va_iald C.1.1 C.1.2.1 C.2.1 hP q t0 h1 ht0 (fd_vpin (by omega) (by omega) hn) d h2
theorem fd_iast (C : fd_C p m c cc nL s args Ts own D cl tys wl A) {k i n x : Nat} {z v : Int} {cA : ClassId} (hm : (k, i) ∈ wl) (he : ∀ g, en k i g = .inl (cA, n, .inl (fun x => fd_I (g x)))) (ht : (cA, FieldType.int) ∈ tys) (hz : z = (x : Int)) (hx : x < n) (hn : n < 2147483648) (d : decode cc pc = .ok (.iastore, 1)) (kk : fd_J p l e R s m args below meth c D cl A ad en wl nL cells slots Q (fd_u3 M k i x v) (pc + 1) lv st) : fd_J p l e R s m args below meth c D cl A ad en wl nL cells slots Q M pc lv (.int (fd_I v) :: .int (fd_I z) :: .ref (ad k i) :: st) := by
  intro H locs ls hP hD hS hL
  obtain ⟨q, hq⟩ := List.getElem?_of_mem hm
  obtain ⟨t0, ht0⟩ := List.getElem?_of_mem ht
  have h1 := fd_W_at (ad := ad) (en := en) (M := M) hq
  rw [he] at h1
  subst hz
  have hc : (fd_I (x : Int)).toNatClampNeg = x := by rw [fd_I_clamp (by omega) (by omega)]; rfl
  refine va_iast C.1.1 C.1.2.1 C.2.1 hP hD hS q t0 h1 ht0 (fd_vpin (by omega) (by omega) hn) d (fun H1 locs1 hP1 hD1 hS1 => ?_)
  have h3 : (Sum.inl (cA, n, Sum.inl (upd (fun x => fd_I (M k i x)) (fd_I (x : Int)).toNatClampNeg (fd_I v))) : va_E) = en k i (fd_up (M k i) x v) := by
    rw [he, hc]
    refine congrArg (fun f => (Sum.inl (cA, n, Sum.inl f) : va_E)) (funext fun y => ?_)
    unfold upd fd_up
    by_cases hy : y = x
    · simp [hy]
    · simp [hy]
  rw [h3, fd_W_set C.2.2.1 hq] at hP1 hD1
  exact kk H1 locs1 ls hP1 hD1 hS1 hL
theorem fd_aald (C : fd_C p m c cc nL s args Ts own D cl tys wl A) {k i n x a : Nat} {z : Int} {cA : ClassId} {Cn : String} {f : Nat → Option Nat} (hm : (k, i) ∈ wl) (he : en k i (M k i) = .inl (cA, n, .inr (.inr (.inr (.inr f))))) (ht : (cA, FieldType.object Cn) ∈ tys) (hz : z = (x : Int)) (hx : x < n) (hn : n < 2147483648) (hf : f x = some a) (d : decode cc pc = .ok (.aaload, 1)) (kk : fd_J p l e R s m args below meth c D cl A ad en wl nL cells slots Q M (pc + 1) lv (.ref a :: st)) : fd_J p l e R s m args below meth c D cl A ad en wl nL cells slots Q M pc lv (.int (fd_I z) :: .ref (ad k i) :: st) := by
  intro H locs ls hP hD hS hL
  obtain ⟨q, hq⟩ := List.getElem?_of_mem hm
  obtain ⟨t0, ht0⟩ := List.getElem?_of_mem ht
  have h1 := fd_W_at (ad := ad) (en := en) (M := M) hq
  rw [he] at h1
  subst hz
  have hc : (fd_I (x : Int)).toNatClampNeg = x := by rw [fd_I_clamp (by omega) (by omega)]; rfl
  refine va_aldq C.1.1 C.1.2.1 C.2.1 hP q t0 h1 ht0 (fd_vpin (by omega) (by omega) hn) d ?_
  rw [hc, hf]
  exact kk H locs ls hP hD hS hL
theorem fd_alen (C : fd_C p m c cc nL s args Ts own D cl tys wl A) {k i n : Nat} {cA : ClassId} {ty : FieldType} {b : (Nat → Int32) ⊕ (Nat → Int64) ⊕ (Nat → UInt32) ⊕ (Nat → UInt64) ⊕ (Nat → Option Nat)} (hm : (k, i) ∈ wl) (he : en k i (M k i) = .inl (cA, n, b)) (ht : (cA, ty) ∈ tys) (d : decode cc pc = .ok (.arraylength, 1)) (kk : fd_J p l e R s m args below meth c D cl A ad en wl nL cells slots Q M (pc + 1) lv (.int (fd_I (n : Int)) :: st)) : fd_J p l e R s m args below meth c D cl A ad en wl nL cells slots Q M pc lv (.ref (ad k i) :: st) := by
  intro H locs ls hP hD hS hL
  obtain ⟨q, hq⟩ := List.getElem?_of_mem hm
  obtain ⟨t0, ht0⟩ := List.getElem?_of_mem ht
  have h1 := fd_W_at (ad := ad) (en := en) (M := M) hq
  rw [he] at h1
  exact va_alen C.1.1 C.1.2.1 C.2.1 hP q t0 h1 ht0 (fd_I_nat n) d (kk H locs ls hP hD hS hL)
/-- fewer locals, another memory of the same contents -/
theorem fd_weak {lv' : List (Option Value)} (hs : ∀ (i : Nat) (v : Value), lv'[i]? = some (some v) → lv[i]? = some (some v)) (k : fd_J p l e R s m args below meth c D cl A ad en wl nL cells slots Q M pc lv' st) : fd_J p l e R s m args below meth c D cl A ad en wl nL cells slots Q M pc lv st := fun H locs ls hP hD hS hL => k H locs ls hP hD hS (fd_L_sub hL hs)
theorem fd_mem {M' : fd_Mem} (hM : M' = M) (k : fd_J p l e R s m args below meth c D cl A ad en wl nL cells slots Q M' pc lv st) : fd_J p l e R s m args below meth c D cl A ad en wl nL cells slots Q M pc lv st := hM ▸ k
end FDJ
