/-! FareDeskModel(x) -/
section WT
variable {p : Program} {l : Launch} {e : Env} {R : Room} {s : State} {m : MethodId} {args : Array Value} {below : List Frame} {meth : Method} {c : Code} {cells slots : Nat} {Q : State → Prop} {pc nL : Nat} {D : va_G} {cl : List vw_C} {A : Nat → Prop} {ws : va_W} {lv : List (Option Value)} {st : List Value}
theorem wj_tp {a b : Int} (h : a = b) (k : wJ p l e R s m args below meth c D cl A nL cells slots Q ws pc lv (.int (fd_I b) :: st)) : wJ p l e R s m args below meth c D cl A nL cells slots Q ws pc lv (.int (fd_I a) :: st) := by
  subst h
  exact k
end WT
def wi_mp (i j : Nat) : Int := if j < i then 400 - 100 * (j : Int) else 0
theorem wi_up2 (i : Nat) : (fun j => fd_I (fd_up (wi_mp i) i (400 - 100 * ((i : Nat) : Int)) j)) = (fun j => fd_I (wi_mp (i + 1) j)) := by
  funext j
  unfold fd_up wi_mp
  by_cases h : j = i
  · subst h
    simp
  · by_cases h2 : j < i
    · rw [if_neg h, if_pos h2, if_pos (by omega)]
    · rw [if_neg h, if_neg h2, if_neg (by omega)]
def wi_m (L : Nat) (q : Nat → Nat) : List Value := [.int 0, .int (fd_I (L : Int)), .int 0, .int 0, .int 0, .ref (q 1), .ref (q 2), .int 0, .ref (q 3), .ref (q 4), .ref (q 5), .ref (q 6), .ref (q 7), .ref (q 8), .ref (q 9), .ref (q 10), .ref (q 11)]
def wi_m0 : List Value := [.int 0, .int 0, .int 0, .int 0, .int 0, .null, .null, .int 0, .null, .null, .null, .null, .null, .null, .null, .null, .null]
set_option maxRecDepth 40000 in
set_option maxHeartbeats 1000000 in
theorem iM_init (l : Launch) (D : va_G) (cI : ClassId) {tys : List (ClassId × FieldType)} (hI : (cI, FieldType.int) ∈ tys) (h L : Nat) (x : Int) (hx : fd_in x) (hL : (L : Int) = 6 * (if x < 1 then 1 else if 10 < x then 10 else x)) : wj_M l yM_init wM_init { frames := 1, cells := 11, slots := 848, locals := 20 } D fd_cl tys [.ref h, .int (fd_I x)] [(h, .inr (4, wi_m0))] (fun _ => True) (fun w => ∃ q : Nat → Nat, w = [(h, .inr (4, wi_m L q)), ((q 1), .inl (cI, 4, .inl (fun j => fd_I (wi_mp 4 j)))), ((q 2), .inl (cI, 4, .inl (fun j => fd_I (if j < 4 then (L : Int) else 0)))), ((q 3), .inl (cI, 60, .inl (fun _ => fd_I 0))), ((q 4), .inl (cI, 60, .inl (fun _ => fd_I 0))), ((q 5), .inl (cI, 60, .inl (fun _ => fd_I 0))), ((q 6), .inl (cI, 60, .inl (fun _ => fd_I 0))), ((q 7), .inl (cI, 60, .inl (fun _ => fd_I 0))), ((q 8), .inl (cI, 60, .inl (fun _ => fd_I 0))), ((q 9), .inl (cI, 60, .inl (fun _ => fd_I 0))), ((q 10), .inl (cI, 360, .inl (fun _ => fd_I 0))), ((q 11), .inl (cI, 60, .inl (fun _ => fd_I 0)))]) 11 848 := by
  refine wj_enter (by decide) rfl (by simp [Value.category]) (Nat.le_of_ble_eq_true rfl) ?_
  intro A p e s m args below meth c C hr hlk hin _
  have C : fd_C p m c cM_init 3 s args fd_T "FareDeskModel" D fd_cl tys [] A := C
  have hx2 := hx
  unfold fd_in at hx2
  refine wj_pad 1 ?_
  refine wj_aload_n C dM_init_0 rfl ?_
  refine wj_obj C fw3_36 ⟨by decide, by decide⟩ dM_init_1 ?_
  refine wj_aload_n C dM_init_4 rfl ?_
  refine wj_iconst C dM_init_5 ?_
  refine wj_newi C hI (n := 4) rfl (by decide) dM_init_6 ⟨by decide, by decide⟩ (fun q1 => ?_)
  refine wj_put C wsM tyM tyM_ok nmM 0 rfl rfl 5 (by decide) fw3_42 rfl (ty := tyM 5) rfl rfl rfl (Nat.le_of_ble_eq_true rfl) dM_init_8 ?_
  refine wj_world (ws' := [(h, .inr (4, [.int 0, .int 0, .int 0, .int 0, .int 0, .ref q1, .null, .int 0, .null, .null, .null, .null, .null, .null, .null, .null, .null])), (q1, .inl (cI, 4, .inl (fun _ => fd_I 0)))]) rfl ?_
  refine wj_widen (k := 1) (n := 4) (by decide) (by decide) ?_
  refine wj_aload_n C dM_init_11 rfl ?_
  refine wj_iconst C dM_init_12 ?_
  refine wj_newi C hI (n := 4) rfl (by decide) dM_init_13 ⟨by decide, by decide⟩ (fun q2 => ?_)
  refine wj_put C wsM tyM tyM_ok nmM 0 rfl rfl 6 (by decide) fw3_43 rfl (ty := tyM 6) rfl rfl rfl (Nat.le_of_ble_eq_true rfl) dM_init_15 ?_
  refine wj_world (ws' := [(h, .inr (4, [.int 0, .int 0, .int 0, .int 0, .int 0, .ref q1, .ref q2, .int 0, .null, .null, .null, .null, .null, .null, .null, .null, .null])), (q1, .inl (cI, 4, .inl (fun _ => fd_I 0))), (q2, .inl (cI, 4, .inl (fun _ => fd_I 0)))]) rfl ?_
  refine wj_widen (k := 2) (n := 8) (by decide) (by decide) ?_
  refine wj_aload_n C dM_init_18 rfl ?_
  refine wj_bipush C dM_init_19 (by decide) ?_
  refine wj_newi C hI (n := 60) rfl (by decide) dM_init_21 ⟨by decide, by decide⟩ (fun q3 => ?_)
  refine wj_put C wsM tyM tyM_ok nmM 0 rfl rfl 8 (by decide) fw3_45 rfl (ty := tyM 8) rfl rfl rfl (Nat.le_of_ble_eq_true rfl) dM_init_23 ?_
  refine wj_world (ws' := [(h, .inr (4, [.int 0, .int 0, .int 0, .int 0, .int 0, .ref q1, .ref q2, .int 0, .ref q3, .null, .null, .null, .null, .null, .null, .null, .null])), (q1, .inl (cI, 4, .inl (fun _ => fd_I 0))), (q2, .inl (cI, 4, .inl (fun _ => fd_I 0))), (q3, .inl (cI, 60, .inl (fun _ => fd_I 0)))]) rfl ?_
  refine wj_widen (k := 3) (n := 68) (by decide) (by decide) ?_
  refine wj_aload_n C dM_init_26 rfl ?_
  refine wj_bipush C dM_init_27 (by decide) ?_
  refine wj_newi C hI (n := 60) rfl (by decide) dM_init_29 ⟨by decide, by decide⟩ (fun q4 => ?_)
  refine wj_put C wsM tyM tyM_ok nmM 0 rfl rfl 9 (by decide) fw3_46 rfl (ty := tyM 9) rfl rfl rfl (Nat.le_of_ble_eq_true rfl) dM_init_31 ?_
  refine wj_world (ws' := [(h, .inr (4, [.int 0, .int 0, .int 0, .int 0, .int 0, .ref q1, .ref q2, .int 0, .ref q3, .ref q4, .null, .null, .null, .null, .null, .null, .null])), (q1, .inl (cI, 4, .inl (fun _ => fd_I 0))), (q2, .inl (cI, 4, .inl (fun _ => fd_I 0))), (q3, .inl (cI, 60, .inl (fun _ => fd_I 0))), (q4, .inl (cI, 60, .inl (fun _ => fd_I 0)))]) rfl ?_
  refine wj_widen (k := 4) (n := 128) (by decide) (by decide) ?_
  refine wj_aload_n C dM_init_34 rfl ?_
  refine wj_bipush C dM_init_35 (by decide) ?_
  refine wj_newi C hI (n := 60) rfl (by decide) dM_init_37 ⟨by decide, by decide⟩ (fun q5 => ?_)
  refine wj_put C wsM tyM tyM_ok nmM 0 rfl rfl 10 (by decide) fw3_47 rfl (ty := tyM 10) rfl rfl rfl (Nat.le_of_ble_eq_true rfl) dM_init_39 ?_
  refine wj_world (ws' := [(h, .inr (4, [.int 0, .int 0, .int 0, .int 0, .int 0, .ref q1, .ref q2, .int 0, .ref q3, .ref q4, .ref q5, .null, .null, .null, .null, .null, .null])), (q1, .inl (cI, 4, .inl (fun _ => fd_I 0))), (q2, .inl (cI, 4, .inl (fun _ => fd_I 0))), (q3, .inl (cI, 60, .inl (fun _ => fd_I 0))), (q4, .inl (cI, 60, .inl (fun _ => fd_I 0))), (q5, .inl (cI, 60, .inl (fun _ => fd_I 0)))]) rfl ?_
  refine wj_widen (k := 5) (n := 188) (by decide) (by decide) ?_
  refine wj_aload_n C dM_init_42 rfl ?_
  refine wj_bipush C dM_init_43 (by decide) ?_
  refine wj_newi C hI (n := 60) rfl (by decide) dM_init_45 ⟨by decide, by decide⟩ (fun q6 => ?_)
  refine wj_put C wsM tyM tyM_ok nmM 0 rfl rfl 11 (by decide) fw3_48 rfl (ty := tyM 11) rfl rfl rfl (Nat.le_of_ble_eq_true rfl) dM_init_47 ?_
  refine wj_world (ws' := [(h, .inr (4, [.int 0, .int 0, .int 0, .int 0, .int 0, .ref q1, .ref q2, .int 0, .ref q3, .ref q4, .ref q5, .ref q6, .null, .null, .null, .null, .null])), (q1, .inl (cI, 4, .inl (fun _ => fd_I 0))), (q2, .inl (cI, 4, .inl (fun _ => fd_I 0))), (q3, .inl (cI, 60, .inl (fun _ => fd_I 0))), (q4, .inl (cI, 60, .inl (fun _ => fd_I 0))), (q5, .inl (cI, 60, .inl (fun _ => fd_I 0))), (q6, .inl (cI, 60, .inl (fun _ => fd_I 0)))]) rfl ?_
  refine wj_widen (k := 6) (n := 248) (by decide) (by decide) ?_
  refine wj_aload_n C dM_init_50 rfl ?_
  refine wj_bipush C dM_init_51 (by decide) ?_
  refine wj_newi C hI (n := 60) rfl (by decide) dM_init_53 ⟨by decide, by decide⟩ (fun q7 => ?_)
  refine wj_put C wsM tyM tyM_ok nmM 0 rfl rfl 12 (by decide) fw3_49 rfl (ty := tyM 12) rfl rfl rfl (Nat.le_of_ble_eq_true rfl) dM_init_55 ?_
  refine wj_world (ws' := [(h, .inr (4, [.int 0, .int 0, .int 0, .int 0, .int 0, .ref q1, .ref q2, .int 0, .ref q3, .ref q4, .ref q5, .ref q6, .ref q7, .null, .null, .null, .null])), (q1, .inl (cI, 4, .inl (fun _ => fd_I 0))), (q2, .inl (cI, 4, .inl (fun _ => fd_I 0))), (q3, .inl (cI, 60, .inl (fun _ => fd_I 0))), (q4, .inl (cI, 60, .inl (fun _ => fd_I 0))), (q5, .inl (cI, 60, .inl (fun _ => fd_I 0))), (q6, .inl (cI, 60, .inl (fun _ => fd_I 0))), (q7, .inl (cI, 60, .inl (fun _ => fd_I 0)))]) rfl ?_
  refine wj_widen (k := 7) (n := 308) (by decide) (by decide) ?_
  refine wj_aload_n C dM_init_58 rfl ?_
  refine wj_bipush C dM_init_59 (by decide) ?_
  refine wj_newi C hI (n := 60) rfl (by decide) dM_init_61 ⟨by decide, by decide⟩ (fun q8 => ?_)
  refine wj_put C wsM tyM tyM_ok nmM 0 rfl rfl 13 (by decide) fw3_50 rfl (ty := tyM 13) rfl rfl rfl (Nat.le_of_ble_eq_true rfl) dM_init_63 ?_
  refine wj_world (ws' := [(h, .inr (4, [.int 0, .int 0, .int 0, .int 0, .int 0, .ref q1, .ref q2, .int 0, .ref q3, .ref q4, .ref q5, .ref q6, .ref q7, .ref q8, .null, .null, .null])), (q1, .inl (cI, 4, .inl (fun _ => fd_I 0))), (q2, .inl (cI, 4, .inl (fun _ => fd_I 0))), (q3, .inl (cI, 60, .inl (fun _ => fd_I 0))), (q4, .inl (cI, 60, .inl (fun _ => fd_I 0))), (q5, .inl (cI, 60, .inl (fun _ => fd_I 0))), (q6, .inl (cI, 60, .inl (fun _ => fd_I 0))), (q7, .inl (cI, 60, .inl (fun _ => fd_I 0))), (q8, .inl (cI, 60, .inl (fun _ => fd_I 0)))]) rfl ?_
  refine wj_widen (k := 8) (n := 368) (by decide) (by decide) ?_
  refine wj_aload_n C dM_init_66 rfl ?_
  refine wj_bipush C dM_init_67 (by decide) ?_
  refine wj_newi C hI (n := 60) rfl (by decide) dM_init_69 ⟨by decide, by decide⟩ (fun q9 => ?_)
  refine wj_put C wsM tyM tyM_ok nmM 0 rfl rfl 14 (by decide) fw3_51 rfl (ty := tyM 14) rfl rfl rfl (Nat.le_of_ble_eq_true rfl) dM_init_71 ?_
  refine wj_world (ws' := [(h, .inr (4, [.int 0, .int 0, .int 0, .int 0, .int 0, .ref q1, .ref q2, .int 0, .ref q3, .ref q4, .ref q5, .ref q6, .ref q7, .ref q8, .ref q9, .null, .null])), (q1, .inl (cI, 4, .inl (fun _ => fd_I 0))), (q2, .inl (cI, 4, .inl (fun _ => fd_I 0))), (q3, .inl (cI, 60, .inl (fun _ => fd_I 0))), (q4, .inl (cI, 60, .inl (fun _ => fd_I 0))), (q5, .inl (cI, 60, .inl (fun _ => fd_I 0))), (q6, .inl (cI, 60, .inl (fun _ => fd_I 0))), (q7, .inl (cI, 60, .inl (fun _ => fd_I 0))), (q8, .inl (cI, 60, .inl (fun _ => fd_I 0))), (q9, .inl (cI, 60, .inl (fun _ => fd_I 0)))]) rfl ?_
  refine wj_widen (k := 9) (n := 428) (by decide) (by decide) ?_
  refine wj_aload_n C dM_init_74 rfl ?_
  refine wj_sipush C dM_init_75 (by decide) ?_
  refine wj_newi C hI (n := 360) rfl (by decide) dM_init_78 ⟨by decide, by decide⟩ (fun q10 => ?_)
  refine wj_put C wsM tyM tyM_ok nmM 0 rfl rfl 15 (by decide) fw3_52 rfl (ty := tyM 15) rfl rfl rfl (Nat.le_of_ble_eq_true rfl) dM_init_80 ?_
  refine wj_world (ws' := [(h, .inr (4, [.int 0, .int 0, .int 0, .int 0, .int 0, .ref q1, .ref q2, .int 0, .ref q3, .ref q4, .ref q5, .ref q6, .ref q7, .ref q8, .ref q9, .ref q10, .null])), (q1, .inl (cI, 4, .inl (fun _ => fd_I 0))), (q2, .inl (cI, 4, .inl (fun _ => fd_I 0))), (q3, .inl (cI, 60, .inl (fun _ => fd_I 0))), (q4, .inl (cI, 60, .inl (fun _ => fd_I 0))), (q5, .inl (cI, 60, .inl (fun _ => fd_I 0))), (q6, .inl (cI, 60, .inl (fun _ => fd_I 0))), (q7, .inl (cI, 60, .inl (fun _ => fd_I 0))), (q8, .inl (cI, 60, .inl (fun _ => fd_I 0))), (q9, .inl (cI, 60, .inl (fun _ => fd_I 0))), (q10, .inl (cI, 360, .inl (fun _ => fd_I 0)))]) rfl ?_
  refine wj_widen (k := 10) (n := 788) (by decide) (by decide) ?_
  refine wj_aload_n C dM_init_83 rfl ?_
  refine wj_bipush C dM_init_84 (by decide) ?_
  refine wj_newi C hI (n := 60) rfl (by decide) dM_init_86 ⟨by decide, by decide⟩ (fun q11 => ?_)
  refine wj_put C wsM tyM tyM_ok nmM 0 rfl rfl 16 (by decide) fw3_53 rfl (ty := tyM 16) rfl rfl rfl (Nat.le_of_ble_eq_true rfl) dM_init_88 ?_
  refine wj_world (ws' := [(h, .inr (4, [.int 0, .int 0, .int 0, .int 0, .int 0, .ref q1, .ref q2, .int 0, .ref q3, .ref q4, .ref q5, .ref q6, .ref q7, .ref q8, .ref q9, .ref q10, .ref q11])), (q1, .inl (cI, 4, .inl (fun _ => fd_I 0))), (q2, .inl (cI, 4, .inl (fun _ => fd_I 0))), (q3, .inl (cI, 60, .inl (fun _ => fd_I 0))), (q4, .inl (cI, 60, .inl (fun _ => fd_I 0))), (q5, .inl (cI, 60, .inl (fun _ => fd_I 0))), (q6, .inl (cI, 60, .inl (fun _ => fd_I 0))), (q7, .inl (cI, 60, .inl (fun _ => fd_I 0))), (q8, .inl (cI, 60, .inl (fun _ => fd_I 0))), (q9, .inl (cI, 60, .inl (fun _ => fd_I 0))), (q10, .inl (cI, 360, .inl (fun _ => fd_I 0))), (q11, .inl (cI, 60, .inl (fun _ => fd_I 0)))]) rfl ?_
  refine wj_widen (k := 11) (n := 848) (by decide) (by decide) ?_
  have hloop : ∀ (dd i : Nat), dd = 4 - i → i ≤ 4 → wJ p l e { frames := 1, cells := 11, slots := 848, locals := 20 } s m args below meth c D fd_cl A 3 11 848 (MQ below (va_Qv (fun w => ∃ q : Nat → Nat, w = [(h, .inr (4, wi_m L q)), ((q 1), .inl (cI, 4, .inl (fun j => fd_I (wi_mp 4 j)))), ((q 2), .inl (cI, 4, .inl (fun j => fd_I (if j < 4 then (L : Int) else 0)))), ((q 3), .inl (cI, 60, .inl (fun _ => fd_I 0))), ((q 4), .inl (cI, 60, .inl (fun _ => fd_I 0))), ((q 5), .inl (cI, 60, .inl (fun _ => fd_I 0))), ((q 6), .inl (cI, 60, .inl (fun _ => fd_I 0))), ((q 7), .inl (cI, 60, .inl (fun _ => fd_I 0))), ((q 8), .inl (cI, 60, .inl (fun _ => fd_I 0))), ((q 9), .inl (cI, 60, .inl (fun _ => fd_I 0))), ((q 10), .inl (cI, 360, .inl (fun _ => fd_I 0))), ((q 11), .inl (cI, 60, .inl (fun _ => fd_I 0)))]) (wj_B D fd_cl A) A) args s 11 848 A) [(h, .inr (4, [.int 0, .int (fd_I (L : Int)), .int 0, .int 0, .int 0, .ref q1, .ref q2, .int 0, .ref q3, .ref q4, .ref q5, .ref q6, .ref q7, .ref q8, .ref q9, .ref q10, .ref q11])), (q1, .inl (cI, 4, .inl (fun j => fd_I (wi_mp i j)))), (q2, .inl (cI, 4, .inl (fun j => fd_I (if j < i then (L : Int) else 0)))), (q3, .inl (cI, 60, .inl (fun _ => fd_I 0))), (q4, .inl (cI, 60, .inl (fun _ => fd_I 0))), (q5, .inl (cI, 60, .inl (fun _ => fd_I 0))), (q6, .inl (cI, 60, .inl (fun _ => fd_I 0))), (q7, .inl (cI, 60, .inl (fun _ => fd_I 0))), (q8, .inl (cI, 60, .inl (fun _ => fd_I 0))), (q9, .inl (cI, 60, .inl (fun _ => fd_I 0))), (q10, .inl (cI, 360, .inl (fun _ => fd_I 0))), (q11, .inl (cI, 60, .inl (fun _ => fd_I 0)))] 121 [some (.ref h), some (.int (fd_I x)), some (.int (fd_I ((i : Nat) : Int)))] [] := by
    intro dd
    induction dd using Nat.strongRecOn with
    | ind dd ih =>
      intro i hdd hi
      refine wj_iload_n C dM_init_121 rfl ?_
      refine wj_iconst C dM_init_122 ?_
      refine wj_icmp_ge C (tgt := 156) dM_init_123 rfl ⟨by omega, by omega⟩ ⟨by omega, by omega⟩ (fun h7t => ?_) (fun h7f => ?_)
      · have hi4 : i = 4 := by omega
        subst hi4
        exact wj_vret C hr hlk ⟨fun k => match k with | 1 => q1 | 2 => q2 | 3 => q3 | 4 => q4 | 5 => q5 | 6 => q6 | 7 => q7 | 8 => q8 | 9 => q9 | 10 => q10 | _ => q11, rfl⟩ dM_init_156
      · refine wj_aload_n C dM_init_126 rfl ?_
        refine wj_get C wsM 0 rfl rfl 5 (by decide) fw3_42 rfl dM_init_127 ?_
        refine wj_iload_n C dM_init_130 rfl ?_
        refine wj_sipush C dM_init_131 (by decide) ?_
        refine wj_bipush C dM_init_134 (by decide) ?_
        refine wj_iload_n C dM_init_136 rfl ?_
        refine wj_imul C dM_init_137 ?_
        refine wj_isub C dM_init_138 ?_
        refine wj_iast C hI 1 (x := i) (n := 4) (g := wi_mp i) rfl rfl (by omega) (by decide) dM_init_139 ?_
        rw [wi_up2 i]
        refine wj_aload_n C dM_init_140 rfl ?_
        refine wj_get C wsM 0 rfl rfl 6 (by decide) fw3_43 rfl dM_init_141 ?_
        refine wj_iload_n C dM_init_144 rfl ?_
        refine wj_aload_n C dM_init_145 rfl ?_
        refine wj_get C wsM 0 rfl rfl 1 (by decide) fw3_38 rfl dM_init_146 ?_
        refine wj_iast C hI 2 (x := i) (n := 4) (g := fun j => if j < i then (L : Int) else 0) rfl rfl (by omega) (by decide) dM_init_149 ?_
        rw [wi_up (L : Int) i 4]
        refine wj_iinc C dM_init_150 rfl (by decide) ?_
        refine wj_goto C (tgt := 121) dM_init_153 rfl ?_
        exact ih (4 - (i + 1)) (by omega) (i + 1) rfl (by omega)
  refine wj_aload_n C dM_init_91 rfl ?_
  refine wj_bipush C dM_init_92 (by decide) ?_
  refine wj_iload_n C dM_init_94 rfl ?_
  refine wj_iconst C dM_init_95 ?_
  refine wj_icmp_ge C (tgt := 103) dM_init_96 rfl ⟨by omega, by omega⟩ ⟨by omega, by omega⟩ (fun h1 => ?_) (fun h1 => ?_)
  · refine wj_iload_n C dM_init_103 rfl ?_
    refine wj_bipush C dM_init_104 (by decide) ?_
    refine wj_icmp_le C (tgt := 114) dM_init_106 rfl ⟨by omega, by omega⟩ ⟨by omega, by omega⟩ (fun h2 => ?_) (fun h2 => ?_)
    · refine wj_iload_n C dM_init_114 rfl ?_
      refine wj_imul C dM_init_115 ?_
      refine wj_tp (b := (L : Int)) (by rw [hL]; rw [if_neg (by omega), if_neg (by omega)]) ?_
      refine wj_put C wsM tyM tyM_ok nmM 0 rfl rfl 1 (by decide) fw3_38 rfl (ty := .int) rfl rfl rfl (Nat.le_of_ble_eq_true rfl) dM_init_116 ?_
      refine wj_iconst C dM_init_119 ?_
      refine wj_istore_n C dM_init_120 (by decide) ?_
      exact hloop _ 0 rfl (by omega)
    · refine wj_bipush C dM_init_109 (by decide) ?_
      refine wj_goto C (tgt := 115) dM_init_111 rfl ?_
      refine wj_imul C dM_init_115 ?_
      refine wj_tp (b := (L : Int)) (by rw [hL]; rw [if_neg (by omega), if_pos (by omega)]) ?_
      refine wj_put C wsM tyM tyM_ok nmM 0 rfl rfl 1 (by decide) fw3_38 rfl (ty := .int) rfl rfl rfl (Nat.le_of_ble_eq_true rfl) dM_init_116 ?_
      refine wj_iconst C dM_init_119 ?_
      refine wj_istore_n C dM_init_120 (by decide) ?_
      exact hloop _ 0 rfl (by omega)
  · refine wj_iconst C dM_init_99 ?_
    refine wj_goto C (tgt := 115) dM_init_100 rfl ?_
    refine wj_imul C dM_init_115 ?_
    refine wj_tp (b := (L : Int)) (by rw [hL]; rw [if_pos (by omega)]) ?_
    refine wj_put C wsM tyM tyM_ok nmM 0 rfl rfl 1 (by decide) fw3_38 rfl (ty := .int) rfl rfl rfl (Nat.le_of_ble_eq_true rfl) dM_init_116 ?_
    refine wj_iconst C dM_init_119 ?_
    refine wj_istore_n C dM_init_120 (by decide) ?_
    exact hloop _ 0 rfl (by omega)
