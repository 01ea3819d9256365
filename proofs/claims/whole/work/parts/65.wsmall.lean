/-! Fares(n), Cabin(n) -/
theorem fd_cwSc {own : String} {idx : Nat} {y : MethodName} {b : ByteArray} {n : Nat} {ret : Option FieldType} (hl : Cond.methodLink own idx y ∈ fd_T) (hi : Cond.static y ∈ fd_T) (hn : Cond.initialized y.cls ∈ fd_T) (hc : Cond.code y b n ret ∈ fd_T) : GoodIn fd_T (va_wsS own idx y (Cond.code y b n ret :: fd_T)) := by
  refine fd_T_all (fun w hw => ?_)
  unfold va_wsS at hw
  rcases List.mem_append.mp hw with h | h
  · simp only [List.mem_cons, List.not_mem_nil, or_false] at h
    rcases h with rfl | rfl | rfl
    · exact hl
    · exact hi
    · exact hn
  · rcases List.mem_cons.mp h with rfl | h
    · exact hc
    · exact h
def wi_pr : Nat → Int := fd_up (fd_up (fd_up (fd_up (fun _ => 0) 0 400) 1 300) 2 200) 3 100
set_option maxRecDepth 20000 in
theorem iF_init (l : Launch) (D : va_G) (cI : ClassId) {tys : List (ClassId × FieldType)} (hI : (cI, FieldType.int) ∈ tys) (h L : Nat) : wj_M l yF_init wF_init { frames := 1, cells := 3, slots := 12, locals := 30 } D fd_cl tys [.ref h, .int (fd_I (L : Int))] [(h, .inr (2, [.null, .null, .null]))] (fun _ => True) (fun w => ∃ q3 q4 q5, w = [(h, .inr (2, [.ref q3, .ref q4, .ref q5])), (q3, .inl (cI, 4, .inl (fun j => fd_I (if j < 4 then (L : Int) else 0)))), (q4, .inl (cI, 4, .inl (fun j => fd_I (wi_pr j)))), (q5, .inl (cI, 4, .inl (fun _ => fd_I 0)))]) 3 12 := by
  refine wj_enter (by decide) rfl (by simp [Value.category]) (Nat.le_of_ble_eq_true rfl) ?_
  intro A p e s m args below meth c C hr hlk hin _
  have C : fd_C p m c cF_init 2 s args fd_T "FareDesk$Fares" D fd_cl tys [] A := C
  refine wj_aload_n C dF_init_0 rfl ?_
  refine wj_obj C fw1_35 ⟨by decide, by decide⟩ dF_init_1 ?_
  refine wj_aload_n C dF_init_4 rfl ?_
  refine wj_iconst C dF_init_5 ?_
  refine wj_newi C hI (n := 4) rfl (by decide) dF_init_6 ⟨by decide, by decide⟩ (fun q3 => ?_)
  refine wj_putF C hin wsF tyF tyF_ok nmF 0 rfl rfl 0 (by decide) fw1_39 rfl rfl (ty := tyF 0) rfl rfl rfl (Nat.le_of_ble_eq_true rfl) dF_init_8 ?_
  refine wj_aload_n C dF_init_11 rfl ?_
  refine wj_iconst C dF_init_12 ?_
  refine wj_newi C hI (n := 4) rfl (by decide) dF_init_13 ⟨by decide, by decide⟩ (fun q4 => ?_)
  refine wj_dup C dF_init_15 rfl ?_
  refine wj_iconst C dF_init_16 ?_
  refine wj_sipush C dF_init_17 (by decide) ?_
  refine wj_iast C hI 2 (x := 0) (n := 4) (g := fun _ => 0) rfl rfl (by decide) (by decide) dF_init_20 ?_
  refine wj_dup C dF_init_21 rfl ?_
  refine wj_iconst C dF_init_22 ?_
  refine wj_sipush C dF_init_23 (by decide) ?_
  refine wj_iast C hI 2 (x := 1) (n := 4) (g := fd_up (fun _ => 0) 0 400) rfl rfl (by decide) (by decide) dF_init_26 ?_
  refine wj_dup C dF_init_27 rfl ?_
  refine wj_iconst C dF_init_28 ?_
  refine wj_sipush C dF_init_29 (by decide) ?_
  refine wj_iast C hI 2 (x := 2) (n := 4) (g := fd_up (fd_up (fun _ => 0) 0 400) 1 300) rfl rfl (by decide) (by decide) dF_init_32 ?_
  refine wj_dup C dF_init_33 rfl ?_
  refine wj_iconst C dF_init_34 ?_
  refine wj_bipush C dF_init_35 (by decide) ?_
  refine wj_iast C hI 2 (x := 3) (n := 4) (g := fd_up (fd_up (fd_up (fun _ => 0) 0 400) 1 300) 2 200) rfl rfl (by decide) (by decide) dF_init_37 ?_
  refine wj_putF C hin wsF tyF tyF_ok nmF 0 rfl rfl 1 (by decide) fw1_41 rfl rfl (ty := tyF 1) rfl rfl rfl (Nat.le_of_ble_eq_true rfl) dF_init_38 ?_
  refine wj_aload_n C dF_init_41 rfl ?_
  refine wj_iconst C dF_init_42 ?_
  refine wj_newi C hI (n := 4) rfl (by decide) dF_init_43 ⟨by decide, by decide⟩ (fun q5 => ?_)
  refine wj_putF C hin wsF tyF tyF_ok nmF 0 rfl rfl 2 (by decide) fw1_43 rfl rfl (ty := tyF 2) rfl rfl rfl (Nat.le_of_ble_eq_true rfl) dF_init_45 ?_
  refine wj_aload_n C dF_init_48 rfl ?_
  refine wj_get C wsF 0 rfl rfl 0 (by decide) fw1_39 rfl dF_init_49 ?_
  refine wj_iload_n C dF_init_52 rfl ?_
  refine wj_callS1 C 1 rfl [.ref q3, .int (fd_I (L : Int))] (iA_fill l D cI hI q3 4 (by decide) (L : Int)) (va_cwS 2 C.1.2.2.2.2 (fd_cwSc fw1_36 fw1_37 fw1_4 fw1_38) rfl rfl rfl ⟨by decide, by decide, by decide +kernel⟩ ⟨by decide, by decide⟩) rfl (Nat.le_of_ble_eq_true rfl) dF_init_53 ⟨by decide, by decide⟩ ?_
  exact wj_vret C hr hlk ⟨q3, q4, q5, rfl⟩ dF_init_56
set_option maxRecDepth 20000 in
theorem iK_init (l : Launch) (D : va_G) (cI : ClassId) {tys : List (ClassId × FieldType)} (hI : (cI, FieldType.int) ∈ tys) (h L : Nat) (hL : L ≤ 60) : wj_M l yK_init wK_init { frames := 1, cells := 1, slots := 60, locals := 30 } D fd_cl tys [.ref h, .int (fd_I (L : Int))] [(h, .inr (3, [.null, .int 0]))] (fun _ => True) (fun w => ∃ q7, w = [(h, .inr (3, [.ref q7, .int (fd_I (L : Int))])), (q7, .inl (cI, L, .inl (fun j => fd_I (if j < L then -1 else 0))))]) 1 60 := by
  refine wj_enter (by decide) rfl (by simp [Value.category]) (Nat.le_of_ble_eq_true rfl) ?_
  intro A p e s m args below meth c C hr hlk hin _
  have C : fd_C p m c cK_init 2 s args fd_T "FareDesk$Cabin" D fd_cl tys [] A := C
  refine wj_aload_n C dK_init_0 rfl ?_
  refine wj_obj C fw1_58 ⟨by decide, by decide⟩ dK_init_1 ?_
  refine wj_aload_n C dK_init_4 rfl ?_
  refine wj_iload_n C dK_init_5 rfl ?_
  refine wj_newi C hI (n := L) rfl (by omega) dK_init_6 ⟨by decide, by show 0 + L ≤ 60; omega⟩ (fun q7 => ?_)
  refine wj_widen (k := 1) (n := 60) (by decide) (by omega) ?_
  refine wj_putF C hin wsK tyK tyK_ok nmK 0 rfl rfl 0 (by decide) fw1_60 rfl rfl (ty := tyK 0) rfl rfl rfl (Nat.le_of_ble_eq_true rfl) dK_init_8 ?_
  refine wj_aload_n C dK_init_11 rfl ?_
  refine wj_get C wsK 0 rfl rfl 0 (by decide) fw1_60 rfl dK_init_12 ?_
  refine wj_iconst C dK_init_15 ?_
  refine wj_callS1 C 1 rfl [.ref q7, .int (fd_I (-1))] (iA_fill l D cI hI q7 L (by omega) (-1)) (va_cwS 2 C.1.2.2.2.2 (fd_cwSc fw1_59 fw1_37 fw1_4 fw1_38) rfl rfl rfl ⟨by decide, by decide, by decide +kernel⟩ ⟨by decide, by decide⟩) rfl (Nat.le_of_ble_eq_true rfl) dK_init_16 ⟨by decide, by decide⟩ ?_
  refine wj_aload_n C dK_init_19 rfl ?_
  refine wj_iload_n C dK_init_20 rfl ?_
  refine wj_put C wsK tyK tyK_ok nmK 0 rfl rfl 1 (by decide) fw1_62 rfl (ty := .int) rfl rfl rfl (Nat.le_of_ble_eq_true rfl) dK_init_21 ?_
  exact wj_vret C hr hlk ⟨q7, rfl⟩ dK_init_24
