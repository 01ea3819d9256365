/-! the same rows over any list of cells; the world may grow -/
def wJ (p : Program) (l : Launch) (e : Env) (R : Room) (s : State) (m : MethodId) (args : Array Value) (below : List Frame) (meth : Method) (c : Code) (D : va_G) (cl : List vw_C) (A : Nat → Prop) (nL cells slots : Nat) (Q : State → Prop) (ws : va_W) (pc : Nat) (lv : List (Option Value)) (st : List Value) : Prop := ∀ (H : Heap) (locs : List Loc) (ls : Array Slot), va_P D cl ws H → va_D A ws → va_S A s.heap H locs → fd_L ls nL lv → W p l e R s m args below meth c H locs cells slots Q (F0 m pc ls st)
section WJ
variable {p : Program} {l : Launch} {e : Env} {R : Room} {s : State} {m : MethodId} {args : Array Value} {below : List Frame} {meth : Method} {c : Code} {cells slots : Nat} {Q : State → Prop}
variable {cc : ByteArray} {pc nL : Nat} {own : String} {Ts : List Cond} {D : va_G} {cl : List vw_C} {A : Nat → Prop} {tys : List (ClassId × FieldType)}
variable {wl : List (Nat × Nat)} {ws : va_W} {lv : List (Option Value)} {st : List Value}
theorem wj_iconst (C : fd_C p m c cc nL s args Ts own D cl tys wl A) {n : Int} (d : decode cc pc = .ok (.iconst n, 1)) (k : wJ p l e R s m args below meth c D cl A nL cells slots Q ws (pc + 1) lv (.int (fd_I n) :: st)) : wJ p l e R s m args below meth c D cl A nL cells slots Q ws pc lv st := by
  intro H locs ls hP hD hS hL
  exact lv_iconst C.1.1 C.1.2.1 d rfl (k H locs ls hP hD hS hL)
theorem wj_bipush (C : fd_C p m c cc nL s args Ts own D cl tys wl A) {n : Int} (d : decode cc pc = .ok (.bipush n, 2)) (hv : (Int8.ofInt n).toInt32 = fd_I n) (k : wJ p l e R s m args below meth c D cl A nL cells slots Q ws (pc + 2) lv (.int (fd_I n) :: st)) : wJ p l e R s m args below meth c D cl A nL cells slots Q ws pc lv st := by
  intro H locs ls hP hD hS hL
  exact lv_bipush C.1.1 C.1.2.1 d hv (k H locs ls hP hD hS hL)
theorem wj_sipush (C : fd_C p m c cc nL s args Ts own D cl tys wl A) {n : Int} (d : decode cc pc = .ok (.sipush n, 3)) (hv : (Int16.ofInt n).toInt32 = fd_I n) (k : wJ p l e R s m args below meth c D cl A nL cells slots Q ws (pc + 3) lv (.int (fd_I n) :: st)) : wJ p l e R s m args below meth c D cl A nL cells slots Q ws pc lv st := by
  intro H locs ls hP hD hS hL
  exact lv_sipush C.1.1 C.1.2.1 d hv (k H locs ls hP hD hS hL)
theorem wj_iload_n (C : fd_C p m c cc nL s args Ts own D cl tys wl A) {i : Fin 4} {x : Int32} (d : decode cc pc = .ok (.iload_n i, 1)) (h : lv[(i : Nat)]? = some (some (.int x))) (k : wJ p l e R s m args below meth c D cl A nL cells slots Q ws (pc + 1) lv (.int x :: st)) : wJ p l e R s m args below meth c D cl A nL cells slots Q ws pc lv st := by
  intro H locs ls hP hD hS hL
  exact lv_iload_n C.1.1 C.1.2.1 d rfl (hL.2.2 _ _ h).1 (k H locs ls hP hD hS hL)
theorem wj_iload (C : fd_C p m c cc nL s args Ts own D cl tys wl A) {i : Nat} {x : Int32} (d : decode cc pc = .ok (.iload i, 2)) (h : lv[i]? = some (some (.int x))) (k : wJ p l e R s m args below meth c D cl A nL cells slots Q ws (pc + 2) lv (.int x :: st)) : wJ p l e R s m args below meth c D cl A nL cells slots Q ws pc lv st := by
  intro H locs ls hP hD hS hL
  exact lv_iload C.1.1 C.1.2.1 d (hL.2.2 _ _ h).1 (k H locs ls hP hD hS hL)
theorem wj_aload_n (C : fd_C p m c cc nL s args Ts own D cl tys wl A) {i : Fin 4} {x : Nat} (d : decode cc pc = .ok (.aload_n i, 1)) (h : lv[(i : Nat)]? = some (some (.ref x))) (k : wJ p l e R s m args below meth c D cl A nL cells slots Q ws (pc + 1) lv (.ref x :: st)) : wJ p l e R s m args below meth c D cl A nL cells slots Q ws pc lv st := by
  intro H locs ls hP hD hS hL
  exact lv_aload_n C.1.1 C.1.2.1 d rfl (hL.2.2 _ _ h).1 (k H locs ls hP hD hS hL)
theorem wj_aload (C : fd_C p m c cc nL s args Ts own D cl tys wl A) {i : Nat} {x : Nat} (d : decode cc pc = .ok (.aload i, 2)) (h : lv[i]? = some (some (.ref x))) (k : wJ p l e R s m args below meth c D cl A nL cells slots Q ws (pc + 2) lv (.ref x :: st)) : wJ p l e R s m args below meth c D cl A nL cells slots Q ws pc lv st := by
  intro H locs ls hP hD hS hL
  exact lv_aload C.1.1 C.1.2.1 d (hL.2.2 _ _ h).1 (k H locs ls hP hD hS hL)
theorem wj_istore_n (C : fd_C p m c cc nL s args Ts own D cl tys wl A) {i : Fin 4} {x : Int32} (d : decode cc pc = .ok (.istore_n i, 1)) (hn : (i : Nat) < nL) (k : wJ p l e R s m args below meth c D cl A nL cells slots Q ws (pc + 1) (lv.set (i : Nat) (some (.int x))) st) : wJ p l e R s m args below meth c D cl A nL cells slots Q ws pc lv (.int x :: st) := by
  intro H locs ls hP hD hS hL
  exact lv_istore_n C.1.1 C.1.2.1 d rfl hL.has hn rfl (fun ls' h' => k H locs ls' hP hD hS (fd_L_of hL h' rfl))
theorem wj_istore (C : fd_C p m c cc nL s args Ts own D cl tys wl A) {i : Nat} {x : Int32} (d : decode cc pc = .ok (.istore i, 2)) (hn : i < nL) (k : wJ p l e R s m args below meth c D cl A nL cells slots Q ws (pc + 2) (lv.set i (some (.int x))) st) : wJ p l e R s m args below meth c D cl A nL cells slots Q ws pc lv (.int x :: st) := by
  intro H locs ls hP hD hS hL
  exact lv_istore C.1.1 C.1.2.1 d hL.has hn rfl (fun ls' h' => k H locs ls' hP hD hS (fd_L_of hL h' rfl))
theorem wj_astore_n (C : fd_C p m c cc nL s args Ts own D cl tys wl A) {i : Fin 4} {x : Nat} (d : decode cc pc = .ok (.astore_n i, 1)) (hn : (i : Nat) < nL) (k : wJ p l e R s m args below meth c D cl A nL cells slots Q ws (pc + 1) (lv.set (i : Nat) (some (.ref x))) st) : wJ p l e R s m args below meth c D cl A nL cells slots Q ws pc lv (.ref x :: st) := by
  intro H locs ls hP hD hS hL
  exact lv_astore_n C.1.1 C.1.2.1 d rfl hL.has hn rfl (fun ls' h' => k H locs ls' hP hD hS (fd_L_of hL h' rfl))
theorem wj_astore (C : fd_C p m c cc nL s args Ts own D cl tys wl A) {i : Nat} {x : Nat} (d : decode cc pc = .ok (.astore i, 2)) (hn : i < nL) (k : wJ p l e R s m args below meth c D cl A nL cells slots Q ws (pc + 2) (lv.set i (some (.ref x))) st) : wJ p l e R s m args below meth c D cl A nL cells slots Q ws pc lv (.ref x :: st) := by
  intro H locs ls hP hD hS hL
  exact lv_astore C.1.1 C.1.2.1 d hL.has hn rfl (fun ls' h' => k H locs ls' hP hD hS (fd_L_of hL h' rfl))
theorem wj_iinc (C : fd_C p m c cc nL s args Ts own D cl tys wl A) {i : Nat} {n z : Int} (d : decode cc pc = .ok (.iinc i n, 3)) (h : lv[i]? = some (some (.int (fd_I z)))) (hn : i < nL) (k : wJ p l e R s m args below meth c D cl A nL cells slots Q ws (pc + 3) (lv.set i (some (.int (fd_I (z + n))))) st) : wJ p l e R s m args below meth c D cl A nL cells slots Q ws pc lv st := by
  intro H locs ls hP hD hS hL
  obtain ⟨q, hq⟩ := List.getElem?_of_mem (fd_mem_asc.mpr h)
  exact lv_iinc C.1.1 C.1.2.1 d hL.has hq (fd_I_add z n) hn rfl (fun ls' h' => k H locs ls' hP hD hS (fd_L_of hL h' rfl))
theorem wj_iadd (C : fd_C p m c cc nL s args Ts own D cl tys wl A) {a b : Int} (d : decode cc pc = .ok (.iadd, 1)) (k : wJ p l e R s m args below meth c D cl A nL cells slots Q ws (pc + 1) lv (.int (fd_I (a + b)) :: st)) : wJ p l e R s m args below meth c D cl A nL cells slots Q ws pc lv (.int (fd_I b) :: .int (fd_I a) :: st) := by
  intro H locs ls hP hD hS hL
  refine lv_iadd C.1.1 C.1.2.1 d ?_
  rw [fd_I_add]
  exact k H locs ls hP hD hS hL
theorem wj_isub (C : fd_C p m c cc nL s args Ts own D cl tys wl A) {a b : Int} (d : decode cc pc = .ok (.isub, 1)) (k : wJ p l e R s m args below meth c D cl A nL cells slots Q ws (pc + 1) lv (.int (fd_I (a - b)) :: st)) : wJ p l e R s m args below meth c D cl A nL cells slots Q ws pc lv (.int (fd_I b) :: .int (fd_I a) :: st) := by
  intro H locs ls hP hD hS hL
  refine lv_isub C.1.1 C.1.2.1 d ?_
  rw [fd_I_sub]
  exact k H locs ls hP hD hS hL
theorem wj_imul (C : fd_C p m c cc nL s args Ts own D cl tys wl A) {a b : Int} (d : decode cc pc = .ok (.imul, 1)) (k : wJ p l e R s m args below meth c D cl A nL cells slots Q ws (pc + 1) lv (.int (fd_I (a * b)) :: st)) : wJ p l e R s m args below meth c D cl A nL cells slots Q ws pc lv (.int (fd_I b) :: .int (fd_I a) :: st) := by
  intro H locs ls hP hD hS hL
  refine lv_imul C.1.1 C.1.2.1 d ?_
  rw [fd_I_mul]
  exact k H locs ls hP hD hS hL
theorem wj_dup (C : fd_C p m c cc nL s args Ts own D cl tys wl A) {va : Value} (d : decode cc pc = .ok (.dup, 1)) (hva : va.category = 1) (k : wJ p l e R s m args below meth c D cl A nL cells slots Q ws (pc + 1) lv (va :: va :: st)) : wJ p l e R s m args below meth c D cl A nL cells slots Q ws pc lv (va :: st) := by
  intro H locs ls hP hD hS hL
  exact lv_dup C.1.1 C.1.2.1 d hva (k H locs ls hP hD hS hL)
theorem wj_pop (C : fd_C p m c cc nL s args Ts own D cl tys wl A) {va : Value} (d : decode cc pc = .ok (.pop, 1)) (hva : va.category = 1) (k : wJ p l e R s m args below meth c D cl A nL cells slots Q ws (pc + 1) lv (st)) : wJ p l e R s m args below meth c D cl A nL cells slots Q ws pc lv (va :: st) := by
  intro H locs ls hP hD hS hL
  exact lv_pop C.1.1 C.1.2.1 d hva (k H locs ls hP hD hS hL)
theorem wj_goto (C : fd_C p m c cc nL s args Ts own D cl tys wl A) {off : Int} {tgt : Nat} (d : decode cc pc = .ok (.goto off, 3)) (ht : (pc : Int) + off = (tgt : Int)) (k : wJ p l e R s m args below meth c D cl A nL cells slots Q ws (tgt) lv st) : wJ p l e R s m args below meth c D cl A nL cells slots Q ws pc lv st := by
  intro H locs ls hP hD hS hL
  exact lv_goto C.1.1 C.1.2.1 d ht (k H locs ls hP hD hS hL)
theorem wj_icmp_lt (C : fd_C p m c cc nL s args Ts own D cl tys wl A) {a b off : Int} {tgt : Nat} (d : decode cc pc = .ok (.if_icmp .lt off, 3)) (ht : (pc : Int) + off = (tgt : Int)) (ha : fd_in a) (hb : fd_in b) (kt : a < b → wJ p l e R s m args below meth c D cl A nL cells slots Q ws (tgt) lv st) (kf : ¬ a < b → wJ p l e R s m args below meth c D cl A nL cells slots Q ws (pc + 3) lv st) : wJ p l e R s m args below meth c D cl A nL cells slots Q ws pc lv (.int (fd_I b) :: .int (fd_I a) :: st) := by
  intro H locs ls hP hD hS hL
  exact lv_icmp_lt C.1.1 C.1.2.1 d ht (fun h => kt ((fd_I_lt ha hb).mp h) H locs ls hP hD hS hL) (fun h => kf (fun q => h ((fd_I_lt ha hb).mpr q)) H locs ls hP hD hS hL)
theorem wj_icmp_ge (C : fd_C p m c cc nL s args Ts own D cl tys wl A) {a b off : Int} {tgt : Nat} (d : decode cc pc = .ok (.if_icmp .ge off, 3)) (ht : (pc : Int) + off = (tgt : Int)) (ha : fd_in a) (hb : fd_in b) (kt : b ≤ a → wJ p l e R s m args below meth c D cl A nL cells slots Q ws (tgt) lv st) (kf : ¬ b ≤ a → wJ p l e R s m args below meth c D cl A nL cells slots Q ws (pc + 3) lv st) : wJ p l e R s m args below meth c D cl A nL cells slots Q ws pc lv (.int (fd_I b) :: .int (fd_I a) :: st) := by
  intro H locs ls hP hD hS hL
  exact lv_icmp_ge C.1.1 C.1.2.1 d ht (fun h => kt ((fd_I_le hb ha).mp h) H locs ls hP hD hS hL) (fun h => kf (fun q => h ((fd_I_le hb ha).mpr q)) H locs ls hP hD hS hL)
theorem wj_icmp_gt (C : fd_C p m c cc nL s args Ts own D cl tys wl A) {a b off : Int} {tgt : Nat} (d : decode cc pc = .ok (.if_icmp .gt off, 3)) (ht : (pc : Int) + off = (tgt : Int)) (ha : fd_in a) (hb : fd_in b) (kt : b < a → wJ p l e R s m args below meth c D cl A nL cells slots Q ws (tgt) lv st) (kf : ¬ b < a → wJ p l e R s m args below meth c D cl A nL cells slots Q ws (pc + 3) lv st) : wJ p l e R s m args below meth c D cl A nL cells slots Q ws pc lv (.int (fd_I b) :: .int (fd_I a) :: st) := by
  intro H locs ls hP hD hS hL
  exact lv_icmp_gt C.1.1 C.1.2.1 d ht (fun h => kt ((fd_I_lt hb ha).mp h) H locs ls hP hD hS hL) (fun h => kf (fun q => h ((fd_I_lt hb ha).mpr q)) H locs ls hP hD hS hL)
theorem wj_icmp_le (C : fd_C p m c cc nL s args Ts own D cl tys wl A) {a b off : Int} {tgt : Nat} (d : decode cc pc = .ok (.if_icmp .le off, 3)) (ht : (pc : Int) + off = (tgt : Int)) (ha : fd_in a) (hb : fd_in b) (kt : a ≤ b → wJ p l e R s m args below meth c D cl A nL cells slots Q ws (tgt) lv st) (kf : ¬ a ≤ b → wJ p l e R s m args below meth c D cl A nL cells slots Q ws (pc + 3) lv st) : wJ p l e R s m args below meth c D cl A nL cells slots Q ws pc lv (.int (fd_I b) :: .int (fd_I a) :: st) := by
  intro H locs ls hP hD hS hL
  exact lv_icmp_le C.1.1 C.1.2.1 d ht (fun h => kt ((fd_I_le ha hb).mp h) H locs ls hP hD hS hL) (fun h => kf (fun q => h ((fd_I_le ha hb).mpr q)) H locs ls hP hD hS hL)
end WJ
