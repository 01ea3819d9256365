theorem fd_cwIc {y : MethodName} {b : ByteArray} {n : Nat} {ret : Option FieldType} (hc : Cond.code y b n ret ∈ fd_T) : GoodIn fd_T (Cond.code y b n ret :: fd_T) := fd_T_all (fun w hw => by
  rcases List.mem_cons.mp hw with rfl | h
  · exact hc
  · exact h)
set_option maxRecDepth 40000 in
set_option maxHeartbeats 2000000 in
theorem iD_init (l : Launch) (D : va_G) (cI cB : ClassId) {tys : List (ClassId × FieldType)} (hI : (cI, FieldType.int) ∈ tys) (hB : (cB, FieldType.object "FareDesk$Booking") ∈ tys) (h L : Nat) (x : Int) (hx : fd_in x) (hL : (L : Int) = 6 * max 1 (min 10 x)) : wj_M l yD_init wD_init { frames := 2, cells := 127, slots := 1037, locals := 51 } D fd_cl tys [.ref h, .int (fd_I x)] [(h, .inr (0, [.null, .null, .null, .int 0, .int 0, .int 0, .int 0]))] (fun U => va_AO "FareDesk$Booking" U) (fun w => ∃ (a1 h2 q3 q4 q5 h6 q7 : Nat) (f8 f9 : Nat → Nat), w = wi_desk cI cB L h a1 h2 q3 q4 q5 h6 q7 f8 f9 60) 127 1037 := by
  refine wj_enter (by decide) rfl (by simp [Value.category]) (Nat.le_of_ble_eq_true rfl) ?_
  intro A p e s m args below meth c C hr hlk hin hAO
  have C : fd_C p m c cD_init 4 s args fd_T "FareDesk" D fd_cl tys [] A := C
  have hx2 := hx
  unfold fd_in at hx2
  have hL60 : L ≤ 60 := by omega
  refine wj_pad 2 ?_
  refine wj_aload_n C dD_init_0 rfl ?_
  refine wj_obj C fw1_19 ⟨by decide, by decide⟩ dD_init_1 ?_
  refine wj_aload_n C dD_init_4 rfl ?_
  refine wj_bipush C dD_init_5 (by decide) ?_
  refine wj_newq C hB hAO (n := 60) rfl (by decide) fw1_22 dD_init_7 ⟨by decide, by decide⟩ (fun a1 => ?_)
  refine wj_putF C hin wsD tyD tyD_ok nmD 0 rfl rfl 2 (by decide) fw1_115 rfl rfl (ty := tyD 2) rfl rfl rfl (Nat.le_of_ble_eq_true rfl) dD_init_10 ?_
  refine wj_world (ws' := [(h, .inr (0, [.null, .null, .ref a1, .int 0, .int 0, .int 0, .int 0])), (a1, .inl (cB, 60, .inr (.inr (.inr (.inr (fun _ => none))))))]) rfl ?_
  refine wj_bipush C dD_init_13 (by decide) ?_
  refine wj_iconst C dD_init_15 ?_
  refine wj_bipush C dD_init_16 (by decide) ?_
  refine wj_iload_n C dD_init_18 rfl ?_
  refine wj_mmin C fw1_24 fw1_25 fw1_26 ⟨by decide, by decide⟩ ⟨by decide, by decide⟩ dD_init_19 ⟨by omega, by omega⟩ hx ?_
  refine wj_mmax C fw1_27 fw1_28 fw1_29 ⟨by decide, by decide⟩ ⟨by decide, by decide⟩ dD_init_22 ⟨by omega, by omega⟩ ⟨by omega, by omega⟩ ?_
  refine wj_imul C dD_init_25 ?_
  refine wj_tp (b := (L : Int)) hL.symm ?_
  refine wj_istore_n C dD_init_26 (by decide) ?_
  refine wj_aload_n C dD_init_27 rfl ?_
  refine wj_new C wsF tyF tyF_ok fw1_30 fw1_31 fw1_3 (ci := 2) (fs := [.null, .null, .null]) rfl (fun j hj => by rcases (show j = 0 ∨ j = 1 ∨ j = 2 by omega) with rfl | rfl | rfl <;> rfl) ⟨by decide, by decide⟩ dD_init_28 (fun h2 => ?_)
  refine wj_dup C dD_init_31 rfl ?_
  refine wj_iload_n C dD_init_32 rfl ?_
  refine wj_callI C (X := fun _ => True) (fun _ _ _ h => h) trivial [.int (fd_I (L : Int))] (iF_init l D cI hI h2 L) (cwI 1 C.1.2.2.2.2 (fd_cwIc kF_init) rfl rfl rfl (C.1.2.2.2.2 _ fw1_3) (C.1.2.2.2.2 _ fw1_32) (C.1.2.2.2.2 _ fw1_33) rfl ⟨by decide, by decide, by decide +kernel⟩ ⟨by decide, by decide⟩) rfl (Nat.le_of_ble_eq_true rfl) dD_init_33 ⟨by decide, by decide⟩ (fun w hw => ?_)
  obtain ⟨q3, q4, q5, rfl⟩ := hw
  refine wj_putF C hin wsD tyD tyD_ok nmD 0 rfl rfl 0 (by decide) fw1_113 rfl rfl (ty := tyD 0) rfl rfl rfl (Nat.le_of_ble_eq_true rfl) dD_init_36 ?_
  refine wj_world (ws' := [(h, .inr (0, [.ref h2, .null, .ref a1, .int 0, .int 0, .int 0, .int 0])), (a1, .inl (cB, 60, .inr (.inr (.inr (.inr (fun _ => none)))))), (h2, .inr (2, [.ref q3, .ref q4, .ref q5])), (q3, .inl (cI, 4, .inl (fun j => fd_I (if j < 4 then (L : Int) else 0)))), (q4, .inl (cI, 4, .inl (fun j => fd_I (wi_pr j)))), (q5, .inl (cI, 4, .inl (fun _ => fd_I 0)))]) rfl ?_
  refine wj_aload_n C dD_init_39 rfl ?_
  refine wj_new C wsK tyK tyK_ok fw1_53 fw1_54 fw1_5 (ci := 3) (fs := [.null, .int 0]) rfl (fun j hj => by rcases (show j = 0 ∨ j = 1 by omega) with rfl | rfl <;> rfl) ⟨by decide, by decide⟩ dD_init_40 (fun h6 => ?_)
  refine wj_dup C dD_init_43 rfl ?_
  refine wj_iload_n C dD_init_44 rfl ?_
  refine wj_callI C (X := fun _ => True) (fun _ _ _ h => h) trivial [.int (fd_I (L : Int))] (iK_init l D cI hI h6 L hL60) (cwI 1 C.1.2.2.2.2 (fd_cwIc kK_init) rfl rfl rfl (C.1.2.2.2.2 _ fw1_5) (C.1.2.2.2.2 _ fw1_55) (C.1.2.2.2.2 _ fw1_56) rfl ⟨by decide, by decide, by decide +kernel⟩ ⟨by decide, by decide⟩) rfl (Nat.le_of_ble_eq_true rfl) dD_init_45 ⟨by decide, by decide⟩ (fun w hw => ?_)
  obtain ⟨q7, rfl⟩ := hw
  refine wj_putF C hin wsD tyD tyD_ok nmD 0 rfl rfl 1 (by decide) fw1_114 rfl rfl (ty := tyD 1) rfl rfl rfl (Nat.le_of_ble_eq_true rfl) dD_init_48 ?_
  refine wj_iconst C dD_init_51 ?_
  refine wj_istore_n C dD_init_52 (by decide) ?_
  have hloop : ∀ (dd n : Nat) (f8 f9 : Nat → Nat), dd = 60 - n → n ≤ 60 → wJ p l e { frames := 2, cells := 127, slots := 1037, locals := 51 } s m args below meth c D fd_cl A 4 (7 + 2 * n) (137 + 15 * n) (MQ below (va_Qv (fun w => ∃ (a1 h2 q3 q4 q5 h6 q7 : Nat) (f8 f9 : Nat → Nat), w = wi_desk cI cB L h a1 h2 q3 q4 q5 h6 q7 f8 f9 60) (wj_B D fd_cl A) A) args s 127 1037 A) (wi_desk cI cB L h a1 h2 q3 q4 q5 h6 q7 f8 f9 n) 53 [some (.ref h), some (.int (fd_I x)), some (.int (fd_I (L : Int))), some (.int (fd_I ((n : Nat) : Int)))] [] := by
    intro dd
    induction dd using Nat.strongRecOn with
    | ind dd ih =>
      intro n f8 f9 hdd hn
      refine wj_iload_n C dD_init_53 rfl ?_
      refine wj_bipush C dD_init_54 (by decide) ?_
      refine wj_icmp_ge C (tgt := 79) dD_init_56 rfl ⟨by omega, by omega⟩ ⟨by omega, by omega⟩ (fun h7t => ?_) (fun h7f => ?_)
      · have hn60 : n = 60 := by omega
        subst hn60
        exact wj_vret C hr hlk ⟨a1, h2, q3, q4, q5, h6, q7, f8, f9, rfl⟩ dD_init_79
      · refine wj_aload_n C dD_init_59 rfl ?_
        refine wj_get C wsD 0 rfl rfl 2 (by decide) fw1_115 rfl dD_init_60 ?_
        refine wj_iload_n C dD_init_63 rfl ?_
        refine wj_new C wsB tyB tyB_ok fw1_22 fw1_69 fw1_6 (ci := 1) (fs := wi_b0) rfl (fun j hj => by rcases (show j = 0 ∨ j = 1 ∨ j = 2 ∨ j = 3 ∨ j = 4 ∨ j = 5 ∨ j = 6 ∨ j = 7 ∨ j = 8 by omega) with rfl | rfl | rfl | rfl | rfl | rfl | rfl | rfl | rfl <;> rfl) ⟨by show 7 + 2 * n + 1 ≤ 127; omega, by show 137 + 15 * n + 9 ≤ 1037; omega⟩ dD_init_64 (fun q => ?_)
        refine wj_dup C dD_init_67 rfl ?_
        refine wj_iload_n C dD_init_68 rfl ?_
        refine wj_callI C (X := fun _ => True) (fun _ _ _ h => h) trivial [.int (fd_I ((n : Nat) : Int))] (iB_init l D cI hI q n) (cwI 1 C.1.2.2.2.2 (fd_cwIc kB_init) rfl rfl rfl (C.1.2.2.2.2 _ fw1_6) (C.1.2.2.2.2 _ fw1_70) (C.1.2.2.2.2 _ fw1_71) rfl ⟨by decide, by decide, by decide +kernel⟩ ⟨by decide, by decide⟩) rfl (Nat.le_of_ble_eq_true rfl) dD_init_69 ⟨by show 7 + 2 * n + 1 + 1 ≤ 127; omega, by show 137 + 15 * n + 9 + 6 ≤ 1037; omega⟩ (fun w hw => ?_)
        obtain ⟨q2, rfl⟩ := hw
        refine wj_astq C hB 1 (8 + 2 * n) (x := n) (n := 60) (f := wi_arr f8 n) (vs := wi_b n q2) rfl ?_ rfl (by omega) (by decide) dD_init_72 ?_
        · show (_ :: _ :: _ :: _ :: _ :: _ :: _ :: _ :: (wi_pair cI f8 f9 n ++ _))[8 + 2 * n]? = _
          rw [show 8 + 2 * n = (2 * n) + 1 + 1 + 1 + 1 + 1 + 1 + 1 + 1 by omega]
          simp only [List.getElem?_cons_succ]
          rw [List.getElem?_append_right (by rw [wi_len]; omega), wi_len, Nat.sub_self]
          rfl
        · rw [← wi_step]
          refine wj_iinc C dD_init_73 rfl (by decide) ?_
          refine wj_goto C (tgt := 53) dD_init_76 rfl ?_
          refine wj_widen (k := 7 + 2 * (n + 1)) (n := 137 + 15 * (n + 1)) (by omega) (by omega) ?_
          exact ih (60 - (n + 1)) (by omega) (n + 1) _ _ rfl (by omega)
  exact hloop _ 0 (fun _ => 0) (fun _ => 0) rfl (by omega)
