/-! Arrays.fill(int[], int) -/
def yA_fill : MethodName := ⟨"java/util/Arrays", "fill", "([II)V"⟩
abbrev cA_fill : ByteArray := prog_15_method_103_code
abbrev wA_fill : List Cond := Cond.code yA_fill cA_fill 4 none :: fd_T
theorem dA_0 : decode cA_fill 0 = .ok (.iconst 0, 1) := by decide +kernel
theorem dA_1 : decode cA_fill 1 = .ok (.istore_n 2, 1) := by decide +kernel
theorem dA_2 : decode cA_fill 2 = .ok (.aload_n 0, 1) := by decide +kernel
theorem dA_3 : decode cA_fill 3 = .ok (.arraylength, 1) := by decide +kernel
theorem dA_4 : decode cA_fill 4 = .ok (.istore_n 3, 1) := by decide +kernel
theorem dA_5 : decode cA_fill 5 = .ok (.iload_n 2, 1) := by decide +kernel
theorem dA_6 : decode cA_fill 6 = .ok (.iload_n 3, 1) := by decide +kernel
theorem dA_7 : decode cA_fill 7 = .ok (.if_icmp .ge 13, 3) := by decide +kernel
theorem dA_10 : decode cA_fill 10 = .ok (.aload_n 0, 1) := by decide +kernel
theorem dA_11 : decode cA_fill 11 = .ok (.iload_n 2, 1) := by decide +kernel
theorem dA_12 : decode cA_fill 12 = .ok (.iload_n 1, 1) := by decide +kernel
theorem dA_13 : decode cA_fill 13 = .ok (.iastore, 1) := by decide +kernel
theorem dA_14 : decode cA_fill 14 = .ok (.iinc 2 1, 3) := by decide +kernel
theorem dA_17 : decode cA_fill 17 = .ok (.goto (-12), 3) := by decide +kernel
theorem dA_20 : decode cA_fill 20 = .ok (.return_, 1) := by decide +kernel
section WF
variable {p : Program} {l : Launch} {e : Env} {R : Room} {s : State} {m : MethodId} {args : Array Value} {below : List Frame} {meth : Method} {c : Code} {cells slots : Nat} {Q : State → Prop}
variable {cc : ByteArray} {pc nL : Nat} {own : String} {D : va_G} {cl : List vw_C} {A : Nat → Prop} {tys : List (ClassId × FieldType)}
variable {wl : List (Nat × Nat)} {ws : va_W} {lv : List (Option Value)} {st : List Value} {a : Nat}
theorem wj_alen (C : fd_C p m c cc nL s args fd_T own D cl tys wl A) {cI : ClassId} (hI : (cI, FieldType.int) ∈ tys) (q0 : Nat) {n : Nat} {f : Nat → Int32} (he : ws[q0]? = some (a, .inl (cI, n, .inl f))) (d : decode cc pc = .ok (.arraylength, 1)) (kk : wJ p l e R s m args below meth c D cl A nL cells slots Q ws (pc + 1) lv (.int (fd_I ((n : Nat) : Int)) :: st)) : wJ p l e R s m args below meth c D cl A nL cells slots Q ws pc lv (.ref a :: st) := by
  intro H locs ls hP hD hS hL
  obtain ⟨t0, ht0⟩ := List.getElem?_of_mem hI
  refine va_alen C.1.1 C.1.2.1 C.2.1 hP q0 t0 he ht0 rfl d ?_
  have h := kk H locs ls hP hD hS hL
  rw [← fd_I_nat] at h
  exact h
/-- a static call that works on one cell of the world -/
theorem wj_callS1 (C : fd_C p m c cc nL s args fd_T own D cl tys wl A) {y : MethodName} {bytes : ByteArray} {maxL n index : Nat} {wsY : List Cond} {rm : Room} {e0 e1 : va_E} (q0 : Nat) (he : ws[q0]? = some (a, e0)) (As : List Value) (hM : wj_M l y wsY rm D cl tys As [(a, e0)] (fun _ => True) (fun w => w = [(a, e1)]) 0 0) (cw : CallB R s args own index y bytes maxL none wsY rm 0 0 n ∧ (Cond.static y).before args s = true) (hn : As.length = n) (hrest : (st.map fun v => v.category).sum ≤ 8) (d : decode cc pc = .ok (.invokestatic index, 3)) (hf : cells + 0 ≤ R.cells ∧ slots + 0 ≤ R.slots) (kk : wJ p l e R s m args below meth c D cl A nL cells slots Q (ws.set q0 (a, e1)) (pc + 3) lv st) : wJ p l e R s m args below meth c D cl A nL cells slots Q ws pc lv (As.reverse ++ st) := by
  intro H locs ls hP hD hS hL
  have hP0 : va_P D cl [(a, e0)] H := by
    intro k q hk
    have hz : k < 1 := (List.getElem?_eq_some_iff.mp hk).1
    rw [show k = 0 by omega] at hk
    cases hk
    exact hP q0 _ he
  have hD0 : va_D A [(a, e0)] := by
    refine ⟨fun i j x y hx hy _ => ?_, fun k q hk => ?_⟩
    · have h1 : i < 1 := (List.getElem?_eq_some_iff.mp hx).1
      have h2 : j < 1 := (List.getElem?_eq_some_iff.mp hy).1
      omega
    · have hz : k < 1 := (List.getElem?_eq_some_iff.mp hk).1
      rw [show k = 0 by omega] at hk
      cases hk
      exact hD.2 q0 _ he
  have hF : ∀ x, va_A [(a, e0)] H.size x → A x := by
    intro x hx
    rcases hx with ⟨k', e', h'⟩ | h'
    · exact hD0.2 k' _ h'
    · exact C.2.2.2 x (Nat.le_trans hS.1 h')
  refine va_callv (va_runS (As := As) (rest := st) C.1 (hM H.size) cw ⟨wj_blind (fun _ _ _ h => h), fun U hU hW => ⟨rfl, by rw [hU], by rw [hU]; exact hP0, va_K.moved hW.alike C.2.1, hD0.weaken (fun _ _ _ _ => trivial), trivial⟩⟩ rfl hn hL.1 rfl (lv_room hrest) d hf) hS (fun x _ h => hF x h) hF (fun w t H1 locs1 ht hvm hpost hB hz1 hk1 hS1 => ?_)
  subst hpost
  obtain ⟨hP1, hD1⟩ := hB
  rw [ht] at hP1
  refine kk H1 locs1 ls ?_ (hD.set he) hS1 hL
  intro k x hk
  by_cases hq : k = q0
  · subst hq
    rw [List.getElem?_set_self (List.getElem?_eq_some_iff.mp he).1] at hk
    cases hk
    exact hP1 0 _ rfl
  · rw [List.getElem?_set_ne (Ne.symm hq)] at hk
    refine (hP k x hk).kept (hk1 _ (hP k x hk).lt ?_)
    rintro (⟨j, e9, hj⟩ | h9)
    · have hz : j < 1 := (List.getElem?_eq_some_iff.mp hj).1
      rw [show j = 0 by omega] at hj
      have hxa : a = x.1 := by cases hj; rfl
      exact hq (hD.1 k q0 x (a, e0) hk he hxa.symm)
    · have := (hP k x hk).lt
      omega
end WF
theorem wi_up (v : Int) (i n : Nat) : (fun j => fd_I (fd_up (fun j => if j < i then v else 0) i v j)) = (fun j => fd_I (if j < i + 1 then v else 0)) := by
  funext j
  unfold fd_up
  by_cases h : j = i
  · subst h
    simp
  · by_cases h2 : j < i
    · rw [if_neg h]
      show fd_I (if j < i then v else 0) = _
      rw [if_pos h2, if_pos (by omega)]
    · rw [if_neg h]
      show fd_I (if j < i then v else 0) = _
      rw [if_neg h2, if_neg (by omega)]
set_option maxRecDepth 20000 in
theorem iA_fill (l : Launch) (D : va_G) (cI : ClassId) {tys : List (ClassId × FieldType)} (hI : (cI, FieldType.int) ∈ tys) (a n : Nat) (hn : n ≤ 1000) (v : Int) : wj_M l yA_fill wA_fill { frames := 0, cells := 0, slots := 0, locals := 0 } D fd_cl tys [.ref a, .int (fd_I v)] [(a, .inl (cI, n, .inl (fun _ => fd_I 0)))] (fun _ => True) (fun w => w = [(a, .inl (cI, n, .inl (fun j => fd_I (if j < n then v else 0))))]) 0 0 := by
  refine wj_enter (by decide) rfl (by simp [Value.category]) (Nat.le_of_ble_eq_true rfl) ?_
  intro A p e s m args below meth c C hr hlk hin _
  have C : fd_C p m c cA_fill 4 s args fd_T "java/util/Arrays" D fd_cl tys [] A := C
  refine wj_pad 2 ?_
  refine wj_iconst C dA_0 ?_
  refine wj_istore_n C dA_1 (by decide) ?_
  refine wj_aload_n C dA_2 rfl ?_
  refine wj_alen C hI 0 (n := n) rfl dA_3 ?_
  refine wj_istore_n C dA_4 (by decide) ?_
  have hloop : ∀ (dd i : Nat), dd = n - i → i ≤ n → wJ p l e { frames := 0, cells := 0, slots := 0, locals := 0 } s m args below meth c D fd_cl A 4 0 0 (MQ below (va_Qv (fun w => w = [(a, .inl (cI, n, .inl (fun j => fd_I (if j < n then v else 0))))]) (wj_B D fd_cl A) A) args s 0 0 A) [(a, .inl (cI, n, .inl (fun j => fd_I (if j < i then v else 0))))] 5 [some (.ref a), some (.int (fd_I v)), some (.int (fd_I ((i : Nat) : Int))), some (.int (fd_I ((n : Nat) : Int)))] [] := by
    intro dd
    induction dd using Nat.strongRecOn with
    | ind dd ih =>
      intro i hdd hi
      refine wj_iload_n C dA_5 rfl ?_
      refine wj_iload_n C dA_6 rfl ?_
      refine wj_icmp_ge C (tgt := 20) dA_7 rfl ⟨by omega, by omega⟩ ⟨by omega, by omega⟩ (fun h7t => ?_) (fun h7f => ?_)
      · exact wj_vret C hr hlk (by rw [show i = n by omega]) dA_20
      · refine wj_aload_n C dA_10 rfl ?_
        refine wj_iload_n C dA_11 rfl ?_
        refine wj_iload_n C dA_12 rfl ?_
        refine wj_iast C hI 0 (x := i) (n := n) (g := fun j => if j < i then v else 0) rfl rfl (by omega) hn dA_13 ?_
        refine wj_iinc C dA_14 rfl (by decide) ?_
        refine wj_goto C (tgt := 5) dA_17 rfl ?_
        rw [wi_up v i n]
        exact ih (n - (i + 1)) (by omega) (i + 1) rfl (by omega)
  exact hloop _ 0 rfl (by omega)
