/-! the model: its methods, second half -/
set_option maxRecDepth 20000 in
theorem mM_giveBack (l : Launch) (D : va_G) (cI : ClassId) (ad : Nat → Nat → Nat) (M : fd_Mem) (i : Nat) (hi : i < 60) (n : Int) (hok : mo_ok M) (hp : 1 ≤ M 5 0 i) (hn : 0 ≤ n ∧ n ≤ 6) : mo_Mi l D cI ad yM_giveBack wM_giveBack ({ frames := 0, cells := 0, slots := 0, locals := 0 }) [.ref (ad 0 0), .int (fd_I ((i : Nat) : Int)), .int (fd_I (n))] M (mo_bk M i n) (mo_gbk M i n) := by
  have e1 := ds_mul_bd (hok.pai hi) hn
  have e2 := mo_bx_bd hp e1
  have e3 := hok.far hi
  have e4 := hok.pla hi
  refine fd_enterI (by decide) rfl mo_nd (by simp [Value.category]) (Nat.le_of_ble_eq_true rfl) ?_
  intro A p e s m args below meth c C hr hlk hE
  have C : fd_C p m c cM_giveBack 6 s args fd_T "FareDeskModel" D fd_cl (mo_tys cI) mo_wl A := C
  refine fd_pad 3 ?_
  refine fd_aload_n C dM_giveBack_0 rfl ?_
  refine fd_get C (k := 0) (i := 0) (j := 13) (v := .ref (ad 8 0)) (mo_m (by decide)) rfl rfl (by decide) wsM fw3_50 rfl dM_giveBack_1 ?_
  refine fd_iload_n C dM_giveBack_4 rfl ?_
  refine fd_iald C (k := 8) (i := 0) (x := i) (v := M 8 0 i) (mo_m (by decide)) (fun _ => rfl) (mo_tI cI) rfl (by omega) (by decide) rfl dM_giveBack_5 ?_
  refine fd_iload_n C dM_giveBack_6 rfl ?_
  refine fd_imul C dM_giveBack_7 ?_
  refine fd_aload_n C dM_giveBack_8 rfl ?_
  refine fd_get C (k := 0) (i := 0) (j := 10) (v := .ref (ad 5 0)) (mo_m (by decide)) rfl rfl (by decide) wsM fw3_47 rfl dM_giveBack_9 ?_
  refine fd_iload_n C dM_giveBack_12 rfl ?_
  refine fd_iald C (k := 5) (i := 0) (x := i) (v := M 5 0 i) (mo_m (by decide)) (fun _ => rfl) (mo_tI cI) rfl (by omega) (by decide) rfl dM_giveBack_13 ?_
  refine fd_idiv C dM_giveBack_14 ⟨by omega, by omega⟩ ⟨by omega, by omega⟩ (by omega) (by omega) ?_
  refine fd_istore_n C dM_giveBack_15 (by decide) ?_
  refine fd_aload_n C dM_giveBack_16 rfl ?_
  refine fd_get C (k := 0) (i := 0) (j := 9) (v := .ref (ad 4 0)) (mo_m (by decide)) rfl rfl (by decide) wsM fw3_46 rfl dM_giveBack_17 ?_
  refine fd_iload_n C dM_giveBack_20 rfl ?_
  refine fd_iald C (k := 4) (i := 0) (x := i) (v := M 4 0 i) (mo_m (by decide)) (fun _ => rfl) (mo_tI cI) rfl (by omega) (by decide) rfl dM_giveBack_21 ?_
  refine fd_istore C dM_giveBack_22 (by decide) ?_
  refine fd_iload C dM_giveBack_24 rfl ?_
  refine fd_if_ne C (tgt := 33) dM_giveBack_26 rfl ⟨by omega, by omega⟩ (fun h26t => ?_) (fun h26f => ?_)
  · skip
    refine fd_iload C dM_giveBack_33 rfl ?_
    refine fd_iconst C dM_giveBack_35 ?_
    refine fd_icmp_ne C (tgt := 47) dM_giveBack_36 rfl ⟨by omega, by omega⟩ ⟨by omega, by omega⟩ (fun h36t => ?_) (fun h36f => ?_)
    · skip
      refine fd_iload C dM_giveBack_47 rfl ?_
      refine fd_iconst C dM_giveBack_49 ?_
      refine fd_icmp_ne C (tgt := 59) dM_giveBack_50 rfl ⟨by omega, by omega⟩ ⟨by omega, by omega⟩ (fun h50t => ?_) (fun h50f => ?_)
      · skip
        refine fd_iconst C dM_giveBack_59 ?_
        refine fd_istore C dM_giveBack_60 (by decide) ?_
        refine fd_aload_n C dM_giveBack_62 rfl ?_
        refine fd_get C (k := 0) (i := 0) (j := 13) (v := .ref (ad 8 0)) (mo_m (by decide)) rfl rfl (by decide) wsM fw3_50 rfl dM_giveBack_63 ?_
        refine fd_iload_n C dM_giveBack_66 rfl ?_
        refine fd_dup2 C dM_giveBack_67 rfl rfl ?_
        refine fd_iald C (k := 8) (i := 0) (x := i) (v := M 8 0 i) (mo_m (by decide)) (fun _ => rfl) (mo_tI cI) rfl (by omega) (by decide) rfl dM_giveBack_68 ?_
        refine fd_iload_n C dM_giveBack_69 rfl ?_
        refine fd_isub C dM_giveBack_70 ?_
        refine fd_iast C (k := 8) (i := 0) (x := i) (v := ((M 8 0 i) - (((M 8 0 i) * n) / (M 5 0 i)))) (mo_m (by decide)) (fun _ => rfl) (mo_tI cI) rfl (by omega) (by decide) dM_giveBack_71 ?_
        refine fd_aload_n C dM_giveBack_72 rfl ?_
        refine fd_dup C dM_giveBack_73 rfl ?_
        refine fd_get C (k := 0) (i := 0) (j := 3) (v := .int (fd_I (M 0 0 3))) (mo_m (by decide)) rfl rfl (by decide) wsM fw3_40 rfl dM_giveBack_74 ?_
        refine fd_iload C dM_giveBack_77 rfl ?_
        refine fd_isub C dM_giveBack_79 ?_
        refine fd_put C (k := 0) (i := 0) (j := 3) (z := ((M 0 0 3) - 0)) (ty := .int) tyM (mo_m (by decide)) rfl rfl rfl (by decide) wsM tyM_ok nmM fw3_40 rfl (by decide +kernel) rfl rfl (Nat.le_of_ble_eq_true rfl) dM_giveBack_80 ?_
        refine fd_iload C dM_giveBack_83 rfl ?_
        exact fd_iret C hr hlk (by unfold mo_bk mo_bx; repeat (first | rw [if_pos (by omega)] | rw [if_neg (by omega)])) (by unfold mo_gbk mo_bk mo_bx; repeat (first | rw [if_pos (by omega)] | rw [if_neg (by omega)])) dM_giveBack_85
      · skip
        refine fd_iload_n C dM_giveBack_53 rfl ?_
        refine fd_iconst C dM_giveBack_54 ?_
        refine fd_idiv C dM_giveBack_55 ⟨by omega, by omega⟩ ⟨by omega, by omega⟩ (by omega) (by omega) ?_
        refine fd_goto C (tgt := 60) dM_giveBack_56 rfl ?_
        refine fd_istore C dM_giveBack_60 (by decide) ?_
        refine fd_aload_n C dM_giveBack_62 rfl ?_
        refine fd_get C (k := 0) (i := 0) (j := 13) (v := .ref (ad 8 0)) (mo_m (by decide)) rfl rfl (by decide) wsM fw3_50 rfl dM_giveBack_63 ?_
        refine fd_iload_n C dM_giveBack_66 rfl ?_
        refine fd_dup2 C dM_giveBack_67 rfl rfl ?_
        refine fd_iald C (k := 8) (i := 0) (x := i) (v := M 8 0 i) (mo_m (by decide)) (fun _ => rfl) (mo_tI cI) rfl (by omega) (by decide) rfl dM_giveBack_68 ?_
        refine fd_iload_n C dM_giveBack_69 rfl ?_
        refine fd_isub C dM_giveBack_70 ?_
        refine fd_iast C (k := 8) (i := 0) (x := i) (v := ((M 8 0 i) - (((M 8 0 i) * n) / (M 5 0 i)))) (mo_m (by decide)) (fun _ => rfl) (mo_tI cI) rfl (by omega) (by decide) dM_giveBack_71 ?_
        refine fd_aload_n C dM_giveBack_72 rfl ?_
        refine fd_dup C dM_giveBack_73 rfl ?_
        refine fd_get C (k := 0) (i := 0) (j := 3) (v := .int (fd_I (M 0 0 3))) (mo_m (by decide)) rfl rfl (by decide) wsM fw3_40 rfl dM_giveBack_74 ?_
        refine fd_iload C dM_giveBack_77 rfl ?_
        refine fd_isub C dM_giveBack_79 ?_
        refine fd_put C (k := 0) (i := 0) (j := 3) (z := ((M 0 0 3) - ((((M 8 0 i) * n) / (M 5 0 i)) / 2))) (ty := .int) tyM (mo_m (by decide)) rfl rfl rfl (by decide) wsM tyM_ok nmM fw3_40 rfl (by decide +kernel) rfl rfl (Nat.le_of_ble_eq_true rfl) dM_giveBack_80 ?_
        refine fd_iload C dM_giveBack_83 rfl ?_
        exact fd_iret C hr hlk (by unfold mo_bk mo_bx; repeat (first | rw [if_pos (by omega)] | rw [if_neg (by omega)])) (by unfold mo_gbk mo_bk mo_bx; repeat (first | rw [if_pos (by omega)] | rw [if_neg (by omega)])) dM_giveBack_85
    · skip
      refine fd_iconst C dM_giveBack_39 ?_
      refine fd_iload_n C dM_giveBack_40 rfl ?_
      refine fd_imul C dM_giveBack_41 ?_
      refine fd_iconst C dM_giveBack_42 ?_
      refine fd_idiv C dM_giveBack_43 ⟨by omega, by omega⟩ ⟨by omega, by omega⟩ (by omega) (by omega) ?_
      refine fd_goto C (tgt := 60) dM_giveBack_44 rfl ?_
      refine fd_istore C dM_giveBack_60 (by decide) ?_
      refine fd_aload_n C dM_giveBack_62 rfl ?_
      refine fd_get C (k := 0) (i := 0) (j := 13) (v := .ref (ad 8 0)) (mo_m (by decide)) rfl rfl (by decide) wsM fw3_50 rfl dM_giveBack_63 ?_
      refine fd_iload_n C dM_giveBack_66 rfl ?_
      refine fd_dup2 C dM_giveBack_67 rfl rfl ?_
      refine fd_iald C (k := 8) (i := 0) (x := i) (v := M 8 0 i) (mo_m (by decide)) (fun _ => rfl) (mo_tI cI) rfl (by omega) (by decide) rfl dM_giveBack_68 ?_
      refine fd_iload_n C dM_giveBack_69 rfl ?_
      refine fd_isub C dM_giveBack_70 ?_
      refine fd_iast C (k := 8) (i := 0) (x := i) (v := ((M 8 0 i) - (((M 8 0 i) * n) / (M 5 0 i)))) (mo_m (by decide)) (fun _ => rfl) (mo_tI cI) rfl (by omega) (by decide) dM_giveBack_71 ?_
      refine fd_aload_n C dM_giveBack_72 rfl ?_
      refine fd_dup C dM_giveBack_73 rfl ?_
      refine fd_get C (k := 0) (i := 0) (j := 3) (v := .int (fd_I (M 0 0 3))) (mo_m (by decide)) rfl rfl (by decide) wsM fw3_40 rfl dM_giveBack_74 ?_
      refine fd_iload C dM_giveBack_77 rfl ?_
      refine fd_isub C dM_giveBack_79 ?_
      refine fd_put C (k := 0) (i := 0) (j := 3) (z := ((M 0 0 3) - ((3 * (((M 8 0 i) * n) / (M 5 0 i))) / 4))) (ty := .int) tyM (mo_m (by decide)) rfl rfl rfl (by decide) wsM tyM_ok nmM fw3_40 rfl (by decide +kernel) rfl rfl (Nat.le_of_ble_eq_true rfl) dM_giveBack_80 ?_
      refine fd_iload C dM_giveBack_83 rfl ?_
      exact fd_iret C hr hlk (by unfold mo_bk mo_bx; repeat (first | rw [if_pos (by omega)] | rw [if_neg (by omega)])) (by unfold mo_gbk mo_bk mo_bx; repeat (first | rw [if_pos (by omega)] | rw [if_neg (by omega)])) dM_giveBack_85
  · skip
    refine fd_iload_n C dM_giveBack_29 rfl ?_
    refine fd_goto C (tgt := 60) dM_giveBack_30 rfl ?_
    refine fd_istore C dM_giveBack_60 (by decide) ?_
    refine fd_aload_n C dM_giveBack_62 rfl ?_
    refine fd_get C (k := 0) (i := 0) (j := 13) (v := .ref (ad 8 0)) (mo_m (by decide)) rfl rfl (by decide) wsM fw3_50 rfl dM_giveBack_63 ?_
    refine fd_iload_n C dM_giveBack_66 rfl ?_
    refine fd_dup2 C dM_giveBack_67 rfl rfl ?_
    refine fd_iald C (k := 8) (i := 0) (x := i) (v := M 8 0 i) (mo_m (by decide)) (fun _ => rfl) (mo_tI cI) rfl (by omega) (by decide) rfl dM_giveBack_68 ?_
    refine fd_iload_n C dM_giveBack_69 rfl ?_
    refine fd_isub C dM_giveBack_70 ?_
    refine fd_iast C (k := 8) (i := 0) (x := i) (v := ((M 8 0 i) - (((M 8 0 i) * n) / (M 5 0 i)))) (mo_m (by decide)) (fun _ => rfl) (mo_tI cI) rfl (by omega) (by decide) dM_giveBack_71 ?_
    refine fd_aload_n C dM_giveBack_72 rfl ?_
    refine fd_dup C dM_giveBack_73 rfl ?_
    refine fd_get C (k := 0) (i := 0) (j := 3) (v := .int (fd_I (M 0 0 3))) (mo_m (by decide)) rfl rfl (by decide) wsM fw3_40 rfl dM_giveBack_74 ?_
    refine fd_iload C dM_giveBack_77 rfl ?_
    refine fd_isub C dM_giveBack_79 ?_
    refine fd_put C (k := 0) (i := 0) (j := 3) (z := ((M 0 0 3) - (((M 8 0 i) * n) / (M 5 0 i)))) (ty := .int) tyM (mo_m (by decide)) rfl rfl rfl (by decide) wsM tyM_ok nmM fw3_40 rfl (by decide +kernel) rfl rfl (Nat.le_of_ble_eq_true rfl) dM_giveBack_80 ?_
    refine fd_iload C dM_giveBack_83 rfl ?_
    exact fd_iret C hr hlk (by unfold mo_bk mo_bx; repeat (first | rw [if_pos (by omega)] | rw [if_neg (by omega)])) (by unfold mo_gbk mo_bk mo_bx; repeat (first | rw [if_pos (by omega)] | rw [if_neg (by omega)])) dM_giveBack_85
set_option maxRecDepth 20000 in
theorem mM_leaveSeats (l : Launch) (D : va_G) (cI : ClassId) (ad : Nat → Nat → Nat) (M : fd_Mem) (i : Nat) (hi : i < 60) (k : Int) (hk : 0 ≤ k ∧ k ≤ 6) (ht : mo_tb M i) : mo_Mv l D cI ad yM_leaveSeats wM_leaveSeats ({ frames := 0, cells := 0, slots := 0, locals := 0 }) [.ref (ad 0 0), .int (fd_I ((i : Nat) : Int)), .int (fd_I (k))] M (mo_lv i (M 9 0 i - k).toNat M) := by
  refine fd_enterV (by decide) rfl mo_nd (by simp [Value.category]) (Nat.le_of_ble_eq_true rfl) ?_
  intro A p e s m args below meth c C hr hlk hE
  have C : fd_C p m c cM_leaveSeats 3 s args fd_T "FareDeskModel" D fd_cl (mo_tys cI) mo_wl A := C
  refine fd_pad 0 ?_
  have hloop0 : ∀ (dd0 : Nat) (P : fd_Mem), dd0 = (P 9 0 i - k).toNat → (mo_tb P i) → (mo_lv i (P 9 0 i - k).toNat P = mo_lv i (M 9 0 i - k).toNat M) → fd_J p l e ({ frames := 0, cells := 0, slots := 0, locals := 0 }) s m args below meth c D fd_cl A ad (mo_en cI ad) mo_wl 3 0 0 (MQ below (fd_QV D fd_cl (mo_tys cI) ad (mo_en cI ad) mo_wl A (mo_lv i (M 9 0 i - k).toNat M)) args s 0 0 A) P 0 [some (.ref (ad 0 0)), some (.int (fd_I ((i : Nat) : Int))), some (.int (fd_I (k)))] [] := by
    intro dd0
    induction dd0 using Nat.strongRecOn with
    | ind dd0 ih0 =>
      intro P hdd0 htP hN
      refine fd_aload_n C dM_leaveSeats_0 rfl ?_
      refine fd_get C (k := 0) (i := 0) (j := 14) (v := .ref (ad 9 0)) (mo_m (by decide)) rfl rfl (by decide) wsM fw3_51 rfl dM_leaveSeats_1 ?_
      refine fd_iload_n C dM_leaveSeats_4 rfl ?_
      refine fd_iald C (k := 9) (i := 0) (x := i) (v := P 9 0 i) (mo_m (by decide)) (fun _ => rfl) (mo_tI cI) rfl (by omega) (by decide) rfl dM_leaveSeats_5 ?_
      refine fd_iload_n C dM_leaveSeats_6 rfl ?_
      have e1 := htP.1
      refine fd_icmp_le C (tgt := 45) dM_leaveSeats_7 rfl ⟨by omega, by omega⟩ ⟨by omega, by omega⟩ (fun h7t => ?_) (fun h7f => ?_)
      · skip
        exact fd_vret C hr hlk (by rw [← hN, show (P 9 0 i - k).toNat = 0 by omega]; rfl) dM_leaveSeats_45
      · skip
        refine fd_aload_n C dM_leaveSeats_10 rfl ?_
        refine fd_get C (k := 0) (i := 0) (j := 14) (v := .ref (ad 9 0)) (mo_m (by decide)) rfl rfl (by decide) wsM fw3_51 rfl dM_leaveSeats_11 ?_
        refine fd_iload_n C dM_leaveSeats_14 rfl ?_
        refine fd_dup2 C dM_leaveSeats_15 rfl rfl ?_
        refine fd_iald C (k := 9) (i := 0) (x := i) (v := P 9 0 i) (mo_m (by decide)) (fun _ => rfl) (mo_tI cI) rfl (by omega) (by decide) rfl dM_leaveSeats_16 ?_
        refine fd_iconst C dM_leaveSeats_17 ?_
        refine fd_isub C dM_leaveSeats_18 ?_
        refine fd_iast C (k := 9) (i := 0) (x := i) (v := ((P 9 0 i) - 1)) (mo_m (by decide)) (fun _ => rfl) (mo_tI cI) rfl (by omega) (by decide) dM_leaveSeats_19 ?_
        refine fd_aload_n C dM_leaveSeats_20 rfl ?_
        refine fd_get C (k := 0) (i := 0) (j := 16) (v := .ref (ad 11 0)) (mo_m (by decide)) rfl rfl (by decide) wsM fw3_53 rfl dM_leaveSeats_21 ?_
        refine fd_aload_n C dM_leaveSeats_24 rfl ?_
        refine fd_get C (k := 0) (i := 0) (j := 15) (v := .ref (ad 10 0)) (mo_m (by decide)) rfl rfl (by decide) wsM fw3_52 rfl dM_leaveSeats_25 ?_
        refine fd_bipush C dM_leaveSeats_28 (by decide) ?_
        refine fd_iload_n C dM_leaveSeats_30 rfl ?_
        refine fd_imul C dM_leaveSeats_31 ?_
        refine fd_aload_n C dM_leaveSeats_32 rfl ?_
        refine fd_get C (k := 0) (i := 0) (j := 14) (v := .ref (ad 9 0)) (mo_m (by decide)) rfl rfl (by decide) wsM fw3_51 rfl dM_leaveSeats_33 ?_
        refine fd_iload_n C dM_leaveSeats_36 rfl ?_
        refine fd_iald C (k := 9) (i := 0) (x := i) (v := (P 9 0 i) - 1) (mo_m (by decide)) (fun _ => rfl) (mo_tI cI) rfl (by omega) (by decide) (fd_u3_same P 9 0 i ((P 9 0 i) - 1)) dM_leaveSeats_37 ?_
        refine fd_iadd C dM_leaveSeats_38 ?_
        refine fd_iald C (k := 10) (i := 0) (x := ((6 * (((i : Nat) : Int))) + ((P 9 0 i) - 1)).toNat) (v := P 10 0 (((6 * (((i : Nat) : Int))) + ((P 9 0 i) - 1)).toNat)) (mo_m (by decide)) (fun _ => rfl) (mo_tI cI) (Int.toNat_of_nonneg (by omega)).symm (by omega) (by decide) rfl dM_leaveSeats_39 ?_
        have e2 := htP.2 (6 * (i : Int) + (P 9 0 i - 1)).toNat (by omega)
        refine fd_iconst C dM_leaveSeats_40 ?_
        refine fd_iast C (k := 11) (i := 0) (x := (P 10 0 (((6 * (((i : Nat) : Int))) + ((P 9 0 i) - 1)).toNat)).toNat) (v := 0) (mo_m (by decide)) (fun _ => rfl) (mo_tI cI) (Int.toNat_of_nonneg (by omega)).symm (by omega) (by decide) dM_leaveSeats_41 ?_
        refine fd_goto C (tgt := 0) dM_leaveSeats_42 rfl ?_
        have e9 : (mo_lv1 P i) 9 0 i = P 9 0 i - 1 := by simp [mo_lv1, fd_u3_at]
        rw [show (P 9 0 i - k).toNat = ((mo_lv1 P i) 9 0 i - k).toNat + 1 by rw [e9]; omega] at hN
        exact ih0 ((mo_lv1 P i) 9 0 i - k).toNat (by rw [e9]; omega) (mo_lv1 P i) rfl (mo_tb_lv htP (by omega)) hN
  exact hloop0 _ M rfl ht rfl
set_option maxRecDepth 20000 in
theorem mM_cancel_B (l : Launch) (D : va_G) (cI : ClassId) (ad : Nat → Nat → Nat) (M : fd_Mem) (n : Int) (hn : -2147483648 ≤ n ∧ n < 2147483648) (hok : mo_ok M) (hb : n < 0 ∨ M 0 0 7 ≤ n) : mo_Mi l D cI ad yM_cancel wM_cancel ({ frames := 1, cells := 0, slots := 0, locals := 21 }) [.ref (ad 0 0), .int (fd_I (n))] M (0) ((fd_u3 M 0 0 0 1)) := by
  refine fd_enterI (by decide) rfl mo_nd (by simp [Value.category]) (Nat.le_of_ble_eq_true rfl) ?_
  intro A p e s m args below meth c C hr hlk hE
  have C : fd_C p m c cM_cancel 3 s args fd_T "FareDeskModel" D fd_cl (mo_tys cI) mo_wl A := C
  refine fd_pad 1 ?_
  refine fd_aload_n C dM_cancel_0 rfl ?_
  refine fd_aload_n C dM_cancel_1 rfl ?_
  refine fd_iload_n C dM_cancel_2 rfl ?_
  refine fd_callVi C hE [.int (fd_I (n))] (k := 0) (i := 0) (mM_noBooking_1 l D cI ad M n hn hok.made hb) (cwV 1 C.1.2.2.2.2 (gM_noBooking fw3_141) rfl rfl rfl ⟨rfl, by decide, by decide, by decide +kernel⟩ ⟨by decide, by decide⟩) (mo_m (by decide)) rfl rfl rfl (Nat.le_of_ble_eq_true rfl) dM_cancel_3 ⟨by decide, by decide⟩ ?_
  refine fd_if_eq C (tgt := 13) dM_cancel_6 rfl ⟨by omega, by omega⟩ (fun h6t => ?_) (fun h6f => ?_)
  · exfalso; omega
  refine fd_iconst C dM_cancel_9 ?_
  refine fd_goto C (tgt := 36) dM_cancel_10 rfl ?_
  refine fd_put C (k := 0) (i := 0) (j := 0) (z := 1) (ty := .int) tyM (mo_m (by decide)) rfl rfl rfl (by decide) wsM tyM_ok nmM fw3_37 rfl (by decide +kernel) rfl rfl (Nat.le_of_ble_eq_true rfl) dM_cancel_36 ?_
  refine fd_aload_n C dM_cancel_39 rfl ?_
  refine fd_get C (k := 0) (i := 0) (j := 0) (v := .int (fd_I (1))) (mo_m (by decide)) rfl rfl (by decide) wsM fw3_37 (congrArg (fun z => some (Value.int (fd_I z))) (fd_u3_same M 0 0 0 (1))) dM_cancel_40 ?_
  refine fd_if_eq C (tgt := 48) dM_cancel_43 rfl ⟨by omega, by omega⟩ (fun h43t => ?_) (fun h43f => ?_)
  · exfalso; omega
  refine fd_iconst C dM_cancel_46 ?_
  exact fd_iret C hr hlk (by first | rfl | omega | (split <;> omega) | (simp; omega)) rfl dM_cancel_47
set_option maxRecDepth 20000 in
theorem mM_cancel_2 (l : Launch) (D : va_G) (cI : ClassId) (ad : Nat → Nat → Nat) (M : fd_Mem) (n : Nat) (hn : (n : Int) < M 0 0 7) (hok : mo_ok M) (hs : ¬ (M 3 0 n = 1 ∨ M 3 0 n = 2 ∨ M 3 0 n = 3)) : mo_Mi l D cI ad yM_cancel wM_cancel ({ frames := 1, cells := 0, slots := 0, locals := 21 }) [.ref (ad 0 0), .int (fd_I ((n : Nat) : Int))] M (0) ((fd_u3 M 0 0 0 2)) := by
  have hm := hok.made
  have hn6 : n < 60 := by omega
  have e3 := hok.sta hn6
  have e4 := hok.far hn6
  have e5 := hok.pla hn6
  have e6 := hok.sea hn6
  have e8 := hok.pai hn6
  refine fd_enterI (by decide) rfl mo_nd (by simp [Value.category]) (Nat.le_of_ble_eq_true rfl) ?_
  intro A p e s m args below meth c C hr hlk hE
  have C : fd_C p m c cM_cancel 3 s args fd_T "FareDeskModel" D fd_cl (mo_tys cI) mo_wl A := C
  refine fd_pad 1 ?_
  refine fd_aload_n C dM_cancel_0 rfl ?_
  refine fd_aload_n C dM_cancel_1 rfl ?_
  refine fd_iload_n C dM_cancel_2 rfl ?_
  refine fd_callVi C hE [.int (fd_I ((n : Nat) : Int))] (k := 0) (i := 0) (mM_noBooking_0 l D cI ad M n hok.made hn) (cwV 1 C.1.2.2.2.2 (gM_noBooking fw3_141) rfl rfl rfl ⟨rfl, by decide, by decide, by decide +kernel⟩ ⟨by decide, by decide⟩) (mo_m (by decide)) rfl rfl rfl (Nat.le_of_ble_eq_true rfl) dM_cancel_3 ⟨by decide, by decide⟩ ?_
  refine fd_if_eq C (tgt := 13) dM_cancel_6 rfl ⟨by omega, by omega⟩ (fun h6t => ?_) (fun h6f => ?_)
  rotate_left
  · exfalso; omega
  refine fd_aload_n C dM_cancel_13 rfl ?_
  refine fd_iload_n C dM_cancel_14 rfl ?_
  refine fd_callVi C hE [.int (fd_I ((n : Nat) : Int))] (k := 0) (i := 0) (mM_counts_0 l D cI ad M n hn6 e3 (by omega)) (cwV 1 C.1.2.2.2.2 (gM_counts fw3_109) rfl rfl rfl ⟨rfl, by decide, by decide, by decide +kernel⟩ ⟨by decide, by decide⟩) (mo_m (by decide)) rfl rfl rfl (Nat.le_of_ble_eq_true rfl) dM_cancel_15 ⟨by decide, by decide⟩ ?_
  refine fd_if_ne C (tgt := 35) dM_cancel_18 rfl ⟨by omega, by omega⟩ (fun h18t => ?_) (fun h18f => ?_)
  · exfalso; omega
  refine fd_aload_n C dM_cancel_21 rfl ?_
  refine fd_get C (k := 0) (i := 0) (j := 8) (v := .ref (ad 3 0)) (mo_m (by decide)) rfl rfl (by decide) wsM fw3_45 rfl dM_cancel_22 ?_
  refine fd_iload_n C dM_cancel_25 rfl ?_
  refine fd_iald C (k := 3) (i := 0) (x := n) (v := M 3 0 n) (mo_m (by decide)) (fun _ => rfl) (mo_tI cI) rfl (by omega) (by decide) rfl dM_cancel_26 ?_
  refine fd_iconst C dM_cancel_27 ?_
  refine fd_icmp_eq C (tgt := 35) dM_cancel_28 rfl ⟨by omega, by omega⟩ ⟨by omega, by omega⟩ (fun h28t => ?_) (fun h28f => ?_)
  · skip
    exfalso; omega
  · skip
    refine fd_iconst C dM_cancel_31 ?_
    refine fd_goto C (tgt := 36) dM_cancel_32 rfl ?_
    refine fd_put C (k := 0) (i := 0) (j := 0) (z := 2) (ty := .int) tyM (mo_m (by decide)) rfl rfl rfl (by decide) wsM tyM_ok nmM fw3_37 rfl (by decide +kernel) rfl rfl (Nat.le_of_ble_eq_true rfl) dM_cancel_36 ?_
    refine fd_aload_n C dM_cancel_39 rfl ?_
    refine fd_get C (k := 0) (i := 0) (j := 0) (v := .int (fd_I (2))) (mo_m (by decide)) rfl rfl (by decide) wsM fw3_37 (congrArg (fun z => some (Value.int (fd_I z))) (fd_u3_same M 0 0 0 (2))) dM_cancel_40 ?_
    refine fd_if_eq C (tgt := 48) dM_cancel_43 rfl ⟨by omega, by omega⟩ (fun h43t => ?_) (fun h43f => ?_)
    · exfalso; omega
    refine fd_iconst C dM_cancel_46 ?_
    exact fd_iret C hr hlk (by first | rfl | omega | (split <;> omega) | (simp; omega)) rfl dM_cancel_47
set_option maxRecDepth 20000 in
theorem mM_cancel (l : Launch) (D : va_G) (cI : ClassId) (ad : Nat → Nat → Nat) (M : fd_Mem) (n : Nat) (hn : (n : Int) < M 0 0 7) (hok : mo_ok M) (hs : M 3 0 n = 1 ∨ M 3 0 n = 3) (hok2 : mo_ok (fd_u3 (mo_lv n ((fd_u3 M 0 0 0 (0)) 9 0 n - 0).toNat (fd_u3 M 0 0 0 (0))) 3 0 n (4))) (dv : Nat) (Nv : fd_Mem) (hd : mo_sv dv 0 (fd_u3 (mo_lv n ((fd_u3 M 0 0 0 (0)) 9 0 n - 0).toNat (fd_u3 M 0 0 0 (0))) 3 0 n (4)) = some Nv) : mo_Mi l D cI ad yM_cancel wM_cancel ({ frames := 3, cells := 0, slots := 0, locals := 69 }) [.ref (ad 0 0), .int (fd_I ((n : Nat) : Int))] M (0) (Nv) := by
  have hm := hok.made
  have hn6 : n < 60 := by omega
  have e3 := hok.sta hn6
  have e4 := hok.far hn6
  have e5 := hok.pla hn6
  have e6 := hok.sea hn6
  have e8 := hok.pai hn6
  refine fd_enterI (by decide) rfl mo_nd (by simp [Value.category]) (Nat.le_of_ble_eq_true rfl) ?_
  intro A p e s m args below meth c C hr hlk hE
  have C : fd_C p m c cM_cancel 3 s args fd_T "FareDeskModel" D fd_cl (mo_tys cI) mo_wl A := C
  refine fd_pad 1 ?_
  refine fd_aload_n C dM_cancel_0 rfl ?_
  refine fd_aload_n C dM_cancel_1 rfl ?_
  refine fd_iload_n C dM_cancel_2 rfl ?_
  refine fd_callVi C hE [.int (fd_I ((n : Nat) : Int))] (k := 0) (i := 0) (mM_noBooking_0 l D cI ad M n hok.made hn) (cwV 1 C.1.2.2.2.2 (gM_noBooking fw3_141) rfl rfl rfl ⟨rfl, by decide, by decide, by decide +kernel⟩ ⟨by decide, by decide⟩) (mo_m (by decide)) rfl rfl rfl (Nat.le_of_ble_eq_true rfl) dM_cancel_3 ⟨by decide, by decide⟩ ?_
  refine fd_if_eq C (tgt := 13) dM_cancel_6 rfl ⟨by omega, by omega⟩ (fun h6t => ?_) (fun h6f => ?_)
  rotate_left
  · exfalso; omega
  refine fd_aload_n C dM_cancel_13 rfl ?_
  refine fd_iload_n C dM_cancel_14 rfl ?_
  by_cases hs15 : M 3 0 n = 1 ∨ M 3 0 n = 2
  · skip
    refine fd_callVi C hE [.int (fd_I ((n : Nat) : Int))] (k := 0) (i := 0) (mM_counts_1 l D cI ad M n (by omega) e3 hs15) (cwV 1 C.1.2.2.2.2 (gM_counts fw3_109) rfl rfl rfl ⟨rfl, by decide, by decide, by decide +kernel⟩ ⟨by decide, by decide⟩) (mo_m (by decide)) rfl rfl rfl (Nat.le_of_ble_eq_true rfl) dM_cancel_15 ⟨by decide, by decide⟩ ?_
    refine fd_if_ne C (tgt := 35) dM_cancel_18 rfl ⟨by omega, by omega⟩ (fun h18t => ?_) (fun h18f => ?_)
    rotate_left
    · exfalso; omega
    refine fd_iconst C dM_cancel_35 ?_
    refine fd_put C (k := 0) (i := 0) (j := 0) (z := 0) (ty := .int) tyM (mo_m (by decide)) rfl rfl rfl (by decide) wsM tyM_ok nmM fw3_37 rfl (by decide +kernel) rfl rfl (Nat.le_of_ble_eq_true rfl) dM_cancel_36 ?_
    refine fd_aload_n C dM_cancel_39 rfl ?_
    refine fd_get C (k := 0) (i := 0) (j := 0) (v := .int (fd_I (0))) (mo_m (by decide)) rfl rfl (by decide) wsM fw3_37 (congrArg (fun z => some (Value.int (fd_I z))) (fd_u3_same M 0 0 0 (0))) dM_cancel_40 ?_
    refine fd_if_eq C (tgt := 48) dM_cancel_43 rfl ⟨by omega, by omega⟩ (fun h43t => ?_) (fun h43f => ?_)
    rotate_left
    · exfalso; omega
    refine fd_aload_n C dM_cancel_48 rfl ?_
    refine fd_get C (k := 0) (i := 0) (j := 8) (v := .ref (ad 3 0)) (mo_m (by decide)) rfl rfl (by decide) wsM fw3_45 rfl dM_cancel_49 ?_
    refine fd_iload_n C dM_cancel_52 rfl ?_
    refine fd_iald C (k := 3) (i := 0) (x := n) (v := M 3 0 n) (mo_m (by decide)) (fun _ => rfl) (mo_tI cI) rfl (by omega) (by decide) rfl dM_cancel_53 ?_
    refine fd_iconst C dM_cancel_54 ?_
    refine fd_icmp_ne C (tgt := 72) dM_cancel_55 rfl ⟨by omega, by omega⟩ ⟨by omega, by omega⟩ (fun h55t => ?_) (fun h55f => ?_)
    · skip
      refine fd_iconst C dM_cancel_72 ?_
      refine fd_istore_n C dM_cancel_73 (by decide) ?_
      refine fd_aload_n C dM_cancel_74 rfl ?_
      refine fd_iload_n C dM_cancel_75 rfl ?_
      refine fd_iconst C dM_cancel_76 ?_
      refine fd_callVv C hE [.int (fd_I ((n : Nat) : Int)), .int (fd_I (0))] (k := 0) (i := 0) (mM_leaveSeats l D cI ad (fd_u3 M 0 0 0 (0)) n hn6 0 (by omega) ((hok.thr 0).tb hn6)) (cwV 2 C.1.2.2.2.2 (gM_leaveSeats fw3_153) rfl rfl rfl ⟨rfl, by decide, by decide, by decide +kernel⟩ ⟨by decide, by decide⟩) (mo_m (by decide)) rfl rfl rfl (Nat.le_of_ble_eq_true rfl) dM_cancel_77 ⟨by decide, by decide⟩ ?_
      refine fd_aload_n C dM_cancel_80 rfl ?_
      refine fd_get C (k := 0) (i := 0) (j := 8) (v := .ref (ad 3 0)) (mo_m (by decide)) rfl rfl (by decide) wsM fw3_45 rfl dM_cancel_81 ?_
      refine fd_iload_n C dM_cancel_84 rfl ?_
      refine fd_iconst C dM_cancel_85 ?_
      refine fd_iast C (k := 3) (i := 0) (x := n) (v := 4) (mo_m (by decide)) (fun _ => rfl) (mo_tI cI) rfl (by omega) (by decide) dM_cancel_86 ?_
      refine fd_aload_n C dM_cancel_87 rfl ?_
      refine fd_callVv C hE [] (k := 0) (i := 0) (mM_serve l D cI ad (fd_u3 (mo_lv n ((fd_u3 M 0 0 0 (0)) 9 0 n - 0).toNat (fd_u3 M 0 0 0 (0))) 3 0 n (4)) hok2 dv Nv hd) (cwV 0 C.1.2.2.2.2 (gM_serve fw3_101) rfl rfl rfl ⟨rfl, by decide, by decide, by decide +kernel⟩ ⟨by decide, by decide⟩) (mo_m (by decide)) rfl rfl rfl (Nat.le_of_ble_eq_true rfl) dM_cancel_88 ⟨by decide, by decide⟩ ?_
      refine fd_iload_n C dM_cancel_91 rfl ?_
      exact fd_iret C hr hlk (by first | rfl | omega | (split <;> omega) | (simp; omega)) rfl dM_cancel_92
    · skip
      exfalso; omega
  · skip
    refine fd_callVi C hE [.int (fd_I ((n : Nat) : Int))] (k := 0) (i := 0) (mM_counts_0 l D cI ad M n (by omega) e3 hs15) (cwV 1 C.1.2.2.2.2 (gM_counts fw3_109) rfl rfl rfl ⟨rfl, by decide, by decide, by decide +kernel⟩ ⟨by decide, by decide⟩) (mo_m (by decide)) rfl rfl rfl (Nat.le_of_ble_eq_true rfl) dM_cancel_15 ⟨by decide, by decide⟩ ?_
    refine fd_if_ne C (tgt := 35) dM_cancel_18 rfl ⟨by omega, by omega⟩ (fun h18t => ?_) (fun h18f => ?_)
    · exfalso; omega
    refine fd_aload_n C dM_cancel_21 rfl ?_
    refine fd_get C (k := 0) (i := 0) (j := 8) (v := .ref (ad 3 0)) (mo_m (by decide)) rfl rfl (by decide) wsM fw3_45 rfl dM_cancel_22 ?_
    refine fd_iload_n C dM_cancel_25 rfl ?_
    refine fd_iald C (k := 3) (i := 0) (x := n) (v := M 3 0 n) (mo_m (by decide)) (fun _ => rfl) (mo_tI cI) rfl (by omega) (by decide) rfl dM_cancel_26 ?_
    refine fd_iconst C dM_cancel_27 ?_
    refine fd_icmp_eq C (tgt := 35) dM_cancel_28 rfl ⟨by omega, by omega⟩ ⟨by omega, by omega⟩ (fun h28t => ?_) (fun h28f => ?_)
    · skip
      refine fd_iconst C dM_cancel_35 ?_
      refine fd_put C (k := 0) (i := 0) (j := 0) (z := 0) (ty := .int) tyM (mo_m (by decide)) rfl rfl rfl (by decide) wsM tyM_ok nmM fw3_37 rfl (by decide +kernel) rfl rfl (Nat.le_of_ble_eq_true rfl) dM_cancel_36 ?_
      refine fd_aload_n C dM_cancel_39 rfl ?_
      refine fd_get C (k := 0) (i := 0) (j := 0) (v := .int (fd_I (0))) (mo_m (by decide)) rfl rfl (by decide) wsM fw3_37 (congrArg (fun z => some (Value.int (fd_I z))) (fd_u3_same M 0 0 0 (0))) dM_cancel_40 ?_
      refine fd_if_eq C (tgt := 48) dM_cancel_43 rfl ⟨by omega, by omega⟩ (fun h43t => ?_) (fun h43f => ?_)
      rotate_left
      · exfalso; omega
      refine fd_aload_n C dM_cancel_48 rfl ?_
      refine fd_get C (k := 0) (i := 0) (j := 8) (v := .ref (ad 3 0)) (mo_m (by decide)) rfl rfl (by decide) wsM fw3_45 rfl dM_cancel_49 ?_
      refine fd_iload_n C dM_cancel_52 rfl ?_
      refine fd_iald C (k := 3) (i := 0) (x := n) (v := M 3 0 n) (mo_m (by decide)) (fun _ => rfl) (mo_tI cI) rfl (by omega) (by decide) rfl dM_cancel_53 ?_
      refine fd_iconst C dM_cancel_54 ?_
      refine fd_icmp_ne C (tgt := 72) dM_cancel_55 rfl ⟨by omega, by omega⟩ ⟨by omega, by omega⟩ (fun h55t => ?_) (fun h55f => ?_)
      · skip
        refine fd_iconst C dM_cancel_72 ?_
        refine fd_istore_n C dM_cancel_73 (by decide) ?_
        refine fd_aload_n C dM_cancel_74 rfl ?_
        refine fd_iload_n C dM_cancel_75 rfl ?_
        refine fd_iconst C dM_cancel_76 ?_
        refine fd_callVv C hE [.int (fd_I ((n : Nat) : Int)), .int (fd_I (0))] (k := 0) (i := 0) (mM_leaveSeats l D cI ad (fd_u3 M 0 0 0 (0)) n hn6 0 (by omega) ((hok.thr 0).tb hn6)) (cwV 2 C.1.2.2.2.2 (gM_leaveSeats fw3_153) rfl rfl rfl ⟨rfl, by decide, by decide, by decide +kernel⟩ ⟨by decide, by decide⟩) (mo_m (by decide)) rfl rfl rfl (Nat.le_of_ble_eq_true rfl) dM_cancel_77 ⟨by decide, by decide⟩ ?_
        refine fd_aload_n C dM_cancel_80 rfl ?_
        refine fd_get C (k := 0) (i := 0) (j := 8) (v := .ref (ad 3 0)) (mo_m (by decide)) rfl rfl (by decide) wsM fw3_45 rfl dM_cancel_81 ?_
        refine fd_iload_n C dM_cancel_84 rfl ?_
        refine fd_iconst C dM_cancel_85 ?_
        refine fd_iast C (k := 3) (i := 0) (x := n) (v := 4) (mo_m (by decide)) (fun _ => rfl) (mo_tI cI) rfl (by omega) (by decide) dM_cancel_86 ?_
        refine fd_aload_n C dM_cancel_87 rfl ?_
        refine fd_callVv C hE [] (k := 0) (i := 0) (mM_serve l D cI ad (fd_u3 (mo_lv n ((fd_u3 M 0 0 0 (0)) 9 0 n - 0).toNat (fd_u3 M 0 0 0 (0))) 3 0 n (4)) hok2 dv Nv hd) (cwV 0 C.1.2.2.2.2 (gM_serve fw3_101) rfl rfl rfl ⟨rfl, by decide, by decide, by decide +kernel⟩ ⟨by decide, by decide⟩) (mo_m (by decide)) rfl rfl rfl (Nat.le_of_ble_eq_true rfl) dM_cancel_88 ⟨by decide, by decide⟩ ?_
        refine fd_iload_n C dM_cancel_91 rfl ?_
        exact fd_iret C hr hlk (by first | rfl | omega | (split <;> omega) | (simp; omega)) rfl dM_cancel_92
      · skip
        exfalso; omega
    · skip
      exfalso; omega
set_option maxRecDepth 20000 in
theorem mM_cancel_c (l : Launch) (D : va_G) (cI : ClassId) (ad : Nat → Nat → Nat) (M : fd_Mem) (n : Nat) (hn : (n : Int) < M 0 0 7) (hok : mo_ok M) (hs : M 3 0 n = 2) (hp : 1 ≤ M 5 0 n) (hok2 : mo_ok (fd_u3 (mo_lv n ((mo_gbk (fd_u3 M 0 0 0 (0)) n (M 5 0 n)) 9 0 n - 0).toNat (mo_gbk (fd_u3 M 0 0 0 (0)) n (M 5 0 n))) 3 0 n (4))) (dv : Nat) (Nv : fd_Mem) (hd : mo_sv dv 0 (fd_u3 (mo_lv n ((mo_gbk (fd_u3 M 0 0 0 (0)) n (M 5 0 n)) 9 0 n - 0).toNat (mo_gbk (fd_u3 M 0 0 0 (0)) n (M 5 0 n))) 3 0 n (4)) = some Nv) : mo_Mi l D cI ad yM_cancel wM_cancel ({ frames := 3, cells := 0, slots := 0, locals := 69 }) [.ref (ad 0 0), .int (fd_I ((n : Nat) : Int))] M (mo_bk (fd_u3 M 0 0 0 (0)) n (M 5 0 n)) (Nv) := by
  have hm := hok.made
  have hn6 : n < 60 := by omega
  have e3 := hok.sta hn6
  have e4 := hok.far hn6
  have e5 := hok.pla hn6
  have e6 := hok.sea hn6
  have e8 := hok.pai hn6
  refine fd_enterI (by decide) rfl mo_nd (by simp [Value.category]) (Nat.le_of_ble_eq_true rfl) ?_
  intro A p e s m args below meth c C hr hlk hE
  have C : fd_C p m c cM_cancel 3 s args fd_T "FareDeskModel" D fd_cl (mo_tys cI) mo_wl A := C
  refine fd_pad 1 ?_
  refine fd_aload_n C dM_cancel_0 rfl ?_
  refine fd_aload_n C dM_cancel_1 rfl ?_
  refine fd_iload_n C dM_cancel_2 rfl ?_
  refine fd_callVi C hE [.int (fd_I ((n : Nat) : Int))] (k := 0) (i := 0) (mM_noBooking_0 l D cI ad M n hok.made hn) (cwV 1 C.1.2.2.2.2 (gM_noBooking fw3_141) rfl rfl rfl ⟨rfl, by decide, by decide, by decide +kernel⟩ ⟨by decide, by decide⟩) (mo_m (by decide)) rfl rfl rfl (Nat.le_of_ble_eq_true rfl) dM_cancel_3 ⟨by decide, by decide⟩ ?_
  refine fd_if_eq C (tgt := 13) dM_cancel_6 rfl ⟨by omega, by omega⟩ (fun h6t => ?_) (fun h6f => ?_)
  rotate_left
  · exfalso; omega
  refine fd_aload_n C dM_cancel_13 rfl ?_
  refine fd_iload_n C dM_cancel_14 rfl ?_
  refine fd_callVi C hE [.int (fd_I ((n : Nat) : Int))] (k := 0) (i := 0) (mM_counts_1 l D cI ad M n hn6 e3 (by omega)) (cwV 1 C.1.2.2.2.2 (gM_counts fw3_109) rfl rfl rfl ⟨rfl, by decide, by decide, by decide +kernel⟩ ⟨by decide, by decide⟩) (mo_m (by decide)) rfl rfl rfl (Nat.le_of_ble_eq_true rfl) dM_cancel_15 ⟨by decide, by decide⟩ ?_
  refine fd_if_ne C (tgt := 35) dM_cancel_18 rfl ⟨by omega, by omega⟩ (fun h18t => ?_) (fun h18f => ?_)
  rotate_left
  · exfalso; omega
  refine fd_iconst C dM_cancel_35 ?_
  refine fd_put C (k := 0) (i := 0) (j := 0) (z := 0) (ty := .int) tyM (mo_m (by decide)) rfl rfl rfl (by decide) wsM tyM_ok nmM fw3_37 rfl (by decide +kernel) rfl rfl (Nat.le_of_ble_eq_true rfl) dM_cancel_36 ?_
  refine fd_aload_n C dM_cancel_39 rfl ?_
  refine fd_get C (k := 0) (i := 0) (j := 0) (v := .int (fd_I (0))) (mo_m (by decide)) rfl rfl (by decide) wsM fw3_37 (congrArg (fun z => some (Value.int (fd_I z))) (fd_u3_same M 0 0 0 (0))) dM_cancel_40 ?_
  refine fd_if_eq C (tgt := 48) dM_cancel_43 rfl ⟨by omega, by omega⟩ (fun h43t => ?_) (fun h43f => ?_)
  rotate_left
  · exfalso; omega
  refine fd_aload_n C dM_cancel_48 rfl ?_
  refine fd_get C (k := 0) (i := 0) (j := 8) (v := .ref (ad 3 0)) (mo_m (by decide)) rfl rfl (by decide) wsM fw3_45 rfl dM_cancel_49 ?_
  refine fd_iload_n C dM_cancel_52 rfl ?_
  refine fd_iald C (k := 3) (i := 0) (x := n) (v := M 3 0 n) (mo_m (by decide)) (fun _ => rfl) (mo_tI cI) rfl (by omega) (by decide) rfl dM_cancel_53 ?_
  refine fd_iconst C dM_cancel_54 ?_
  refine fd_icmp_ne C (tgt := 72) dM_cancel_55 rfl ⟨by omega, by omega⟩ ⟨by omega, by omega⟩ (fun h55t => ?_) (fun h55f => ?_)
  · skip
    exfalso; omega
  · skip
    refine fd_aload_n C dM_cancel_58 rfl ?_
    refine fd_iload_n C dM_cancel_59 rfl ?_
    refine fd_aload_n C dM_cancel_60 rfl ?_
    refine fd_get C (k := 0) (i := 0) (j := 10) (v := .ref (ad 5 0)) (mo_m (by decide)) rfl rfl (by decide) wsM fw3_47 rfl dM_cancel_61 ?_
    refine fd_iload_n C dM_cancel_64 rfl ?_
    refine fd_iald C (k := 5) (i := 0) (x := n) (v := M 5 0 n) (mo_m (by decide)) (fun _ => rfl) (mo_tI cI) rfl (by omega) (by decide) rfl dM_cancel_65 ?_
    refine fd_callVi C hE [.int (fd_I ((n : Nat) : Int)), .int (fd_I (M 5 0 n))] (k := 0) (i := 0) (mM_giveBack l D cI ad (fd_u3 M 0 0 0 (0)) n hn6 (M 5 0 n) (hok.thr 0) hp (by omega)) (cwV 2 C.1.2.2.2.2 (gM_giveBack fw3_149) rfl rfl rfl ⟨rfl, by decide, by decide, by decide +kernel⟩ ⟨by decide, by decide⟩) (mo_m (by decide)) rfl rfl rfl (Nat.le_of_ble_eq_true rfl) dM_cancel_66 ⟨by decide, by decide⟩ ?_
    refine fd_goto C (tgt := 73) dM_cancel_69 rfl ?_
    refine fd_istore_n C dM_cancel_73 (by decide) ?_
    refine fd_aload_n C dM_cancel_74 rfl ?_
    refine fd_iload_n C dM_cancel_75 rfl ?_
    refine fd_iconst C dM_cancel_76 ?_
    refine fd_callVv C hE [.int (fd_I ((n : Nat) : Int)), .int (fd_I (0))] (k := 0) (i := 0) (mM_leaveSeats l D cI ad (mo_gbk (fd_u3 M 0 0 0 (0)) n (M 5 0 n)) n hn6 0 (by omega) (mo_tb_of ((hok.thr 0).tb hn6) rfl (fun _ => rfl))) (cwV 2 C.1.2.2.2.2 (gM_leaveSeats fw3_153) rfl rfl rfl ⟨rfl, by decide, by decide, by decide +kernel⟩ ⟨by decide, by decide⟩) (mo_m (by decide)) rfl rfl rfl (Nat.le_of_ble_eq_true rfl) dM_cancel_77 ⟨by decide, by decide⟩ ?_
    refine fd_aload_n C dM_cancel_80 rfl ?_
    refine fd_get C (k := 0) (i := 0) (j := 8) (v := .ref (ad 3 0)) (mo_m (by decide)) rfl rfl (by decide) wsM fw3_45 rfl dM_cancel_81 ?_
    refine fd_iload_n C dM_cancel_84 rfl ?_
    refine fd_iconst C dM_cancel_85 ?_
    refine fd_iast C (k := 3) (i := 0) (x := n) (v := 4) (mo_m (by decide)) (fun _ => rfl) (mo_tI cI) rfl (by omega) (by decide) dM_cancel_86 ?_
    refine fd_aload_n C dM_cancel_87 rfl ?_
    refine fd_callVv C hE [] (k := 0) (i := 0) (mM_serve l D cI ad (fd_u3 (mo_lv n ((mo_gbk (fd_u3 M 0 0 0 (0)) n (M 5 0 n)) 9 0 n - 0).toNat (mo_gbk (fd_u3 M 0 0 0 (0)) n (M 5 0 n))) 3 0 n (4)) hok2 dv Nv hd) (cwV 0 C.1.2.2.2.2 (gM_serve fw3_101) rfl rfl rfl ⟨rfl, by decide, by decide, by decide +kernel⟩ ⟨by decide, by decide⟩) (mo_m (by decide)) rfl rfl rfl (Nat.le_of_ble_eq_true rfl) dM_cancel_88 ⟨by decide, by decide⟩ ?_
    refine fd_iload_n C dM_cancel_91 rfl ?_
    exact fd_iret C hr hlk (by first | rfl | omega | (split <;> omega) | (simp; omega)) rfl dM_cancel_92
set_option maxRecDepth 20000 in
theorem mM_shrink_B (l : Launch) (D : va_G) (cI : ClassId) (ad : Nat → Nat → Nat) (M : fd_Mem) (n x : Int) (hn : -2147483648 ≤ n ∧ n < 2147483648) (hok : mo_ok M) (hb : n < 0 ∨ M 0 0 7 ≤ n) : mo_Mi l D cI ad yM_shrink wM_shrink ({ frames := 1, cells := 0, slots := 0, locals := 21 }) [.ref (ad 0 0), .int (fd_I (n)), .int (fd_I (x))] M (0) ((fd_u3 M 0 0 0 1)) := by
  refine fd_enterI (by decide) rfl mo_nd (by simp [Value.category]) (Nat.le_of_ble_eq_true rfl) ?_
  intro A p e s m args below meth c C hr hlk hE
  have C : fd_C p m c cM_shrink 4 s args fd_T "FareDeskModel" D fd_cl (mo_tys cI) mo_wl A := C
  refine fd_pad 1 ?_
  refine fd_aload_n C dM_shrink_0 rfl ?_
  refine fd_aload_n C dM_shrink_1 rfl ?_
  refine fd_iload_n C dM_shrink_2 rfl ?_
  refine fd_callVi C hE [.int (fd_I (n))] (k := 0) (i := 0) (mM_noBooking_1 l D cI ad M n hn hok.made hb) (cwV 1 C.1.2.2.2.2 (gM_noBooking fw3_141) rfl rfl rfl ⟨rfl, by decide, by decide, by decide +kernel⟩ ⟨by decide, by decide⟩) (mo_m (by decide)) rfl rfl rfl (Nat.le_of_ble_eq_true rfl) dM_shrink_3 ⟨by decide, by decide⟩ ?_
  refine fd_if_ne C (tgt := 24) dM_shrink_6 rfl ⟨by omega, by omega⟩ (fun h6t => ?_) (fun h6f => ?_)
  rotate_left
  · exfalso; omega
  refine fd_iconst C dM_shrink_24 ?_
  refine fd_goto C (tgt := 51) dM_shrink_25 rfl ?_
  refine fd_put C (k := 0) (i := 0) (j := 0) (z := 1) (ty := .int) tyM (mo_m (by decide)) rfl rfl rfl (by decide) wsM tyM_ok nmM fw3_37 rfl (by decide +kernel) rfl rfl (Nat.le_of_ble_eq_true rfl) dM_shrink_51 ?_
  refine fd_aload_n C dM_shrink_54 rfl ?_
  refine fd_get C (k := 0) (i := 0) (j := 0) (v := .int (fd_I (1))) (mo_m (by decide)) rfl rfl (by decide) wsM fw3_37 (congrArg (fun z => some (Value.int (fd_I z))) (fd_u3_same M 0 0 0 (1))) dM_shrink_55 ?_
  refine fd_if_eq C (tgt := 63) dM_shrink_58 rfl ⟨by omega, by omega⟩ (fun h58t => ?_) (fun h58f => ?_)
  · exfalso; omega
  refine fd_iconst C dM_shrink_61 ?_
  exact fd_iret C hr hlk (by first | rfl | omega | (split <;> omega) | (simp; omega)) rfl dM_shrink_62
set_option maxRecDepth 20000 in
theorem mM_shrink_1 (l : Launch) (D : va_G) (cI : ClassId) (ad : Nat → Nat → Nat) (M : fd_Mem) (n : Nat) (hn : (n : Int) < M 0 0 7) (hok : mo_ok M) (x : Int) (hx : -2147483648 ≤ x ∧ x < 2147483648) (hb : x < 1 ∨ M 5 0 n ≤ x) : mo_Mi l D cI ad yM_shrink wM_shrink ({ frames := 1, cells := 0, slots := 0, locals := 21 }) [.ref (ad 0 0), .int (fd_I ((n : Nat) : Int)), .int (fd_I (x))] M (0) ((fd_u3 M 0 0 0 1)) := by
  have hm := hok.made
  have hn6 : n < 60 := by omega
  have e3 := hok.sta hn6
  have e4 := hok.far hn6
  have e5 := hok.pla hn6
  have e6 := hok.sea hn6
  have e8 := hok.pai hn6
  refine fd_enterI (by decide) rfl mo_nd (by simp [Value.category]) (Nat.le_of_ble_eq_true rfl) ?_
  intro A p e s m args below meth c C hr hlk hE
  have C : fd_C p m c cM_shrink 4 s args fd_T "FareDeskModel" D fd_cl (mo_tys cI) mo_wl A := C
  refine fd_pad 1 ?_
  refine fd_aload_n C dM_shrink_0 rfl ?_
  refine fd_aload_n C dM_shrink_1 rfl ?_
  refine fd_iload_n C dM_shrink_2 rfl ?_
  refine fd_callVi C hE [.int (fd_I ((n : Nat) : Int))] (k := 0) (i := 0) (mM_noBooking_0 l D cI ad M n hok.made hn) (cwV 1 C.1.2.2.2.2 (gM_noBooking fw3_141) rfl rfl rfl ⟨rfl, by decide, by decide, by decide +kernel⟩ ⟨by decide, by decide⟩) (mo_m (by decide)) rfl rfl rfl (Nat.le_of_ble_eq_true rfl) dM_shrink_3 ⟨by decide, by decide⟩ ?_
  refine fd_if_ne C (tgt := 24) dM_shrink_6 rfl ⟨by omega, by omega⟩ (fun h6t => ?_) (fun h6f => ?_)
  · exfalso; omega
  refine fd_iload_n C dM_shrink_9 rfl ?_
  refine fd_iconst C dM_shrink_10 ?_
  refine fd_icmp_lt C (tgt := 24) dM_shrink_11 rfl ⟨by omega, by omega⟩ ⟨by omega, by omega⟩ (fun h11t => ?_) (fun h11f => ?_)
  · skip
    refine fd_iconst C dM_shrink_24 ?_
    refine fd_goto C (tgt := 51) dM_shrink_25 rfl ?_
    refine fd_put C (k := 0) (i := 0) (j := 0) (z := 1) (ty := .int) tyM (mo_m (by decide)) rfl rfl rfl (by decide) wsM tyM_ok nmM fw3_37 rfl (by decide +kernel) rfl rfl (Nat.le_of_ble_eq_true rfl) dM_shrink_51 ?_
    refine fd_aload_n C dM_shrink_54 rfl ?_
    refine fd_get C (k := 0) (i := 0) (j := 0) (v := .int (fd_I (1))) (mo_m (by decide)) rfl rfl (by decide) wsM fw3_37 (congrArg (fun z => some (Value.int (fd_I z))) (fd_u3_same M 0 0 0 (1))) dM_shrink_55 ?_
    refine fd_if_eq C (tgt := 63) dM_shrink_58 rfl ⟨by omega, by omega⟩ (fun h58t => ?_) (fun h58f => ?_)
    · exfalso; omega
    refine fd_iconst C dM_shrink_61 ?_
    exact fd_iret C hr hlk (by first | rfl | omega | (split <;> omega) | (simp; omega)) rfl dM_shrink_62
  · skip
    refine fd_iload_n C dM_shrink_14 rfl ?_
    refine fd_aload_n C dM_shrink_15 rfl ?_
    refine fd_get C (k := 0) (i := 0) (j := 10) (v := .ref (ad 5 0)) (mo_m (by decide)) rfl rfl (by decide) wsM fw3_47 rfl dM_shrink_16 ?_
    refine fd_iload_n C dM_shrink_19 rfl ?_
    refine fd_iald C (k := 5) (i := 0) (x := n) (v := M 5 0 n) (mo_m (by decide)) (fun _ => rfl) (mo_tI cI) rfl (by omega) (by decide) rfl dM_shrink_20 ?_
    refine fd_icmp_lt C (tgt := 28) dM_shrink_21 rfl ⟨by omega, by omega⟩ ⟨by omega, by omega⟩ (fun h21t => ?_) (fun h21f => ?_)
    · skip
      exfalso; omega
    · skip
      refine fd_iconst C dM_shrink_24 ?_
      refine fd_goto C (tgt := 51) dM_shrink_25 rfl ?_
      refine fd_put C (k := 0) (i := 0) (j := 0) (z := 1) (ty := .int) tyM (mo_m (by decide)) rfl rfl rfl (by decide) wsM tyM_ok nmM fw3_37 rfl (by decide +kernel) rfl rfl (Nat.le_of_ble_eq_true rfl) dM_shrink_51 ?_
      refine fd_aload_n C dM_shrink_54 rfl ?_
      refine fd_get C (k := 0) (i := 0) (j := 0) (v := .int (fd_I (1))) (mo_m (by decide)) rfl rfl (by decide) wsM fw3_37 (congrArg (fun z => some (Value.int (fd_I z))) (fd_u3_same M 0 0 0 (1))) dM_shrink_55 ?_
      refine fd_if_eq C (tgt := 63) dM_shrink_58 rfl ⟨by omega, by omega⟩ (fun h58t => ?_) (fun h58f => ?_)
      · exfalso; omega
      refine fd_iconst C dM_shrink_61 ?_
      exact fd_iret C hr hlk (by first | rfl | omega | (split <;> omega) | (simp; omega)) rfl dM_shrink_62
set_option maxRecDepth 20000 in
theorem mM_shrink_2 (l : Launch) (D : va_G) (cI : ClassId) (ad : Nat → Nat → Nat) (M : fd_Mem) (n : Nat) (hn : (n : Int) < M 0 0 7) (hok : mo_ok M) (x : Int) (hx : 1 ≤ x ∧ x < M 5 0 n) (hs : ¬ (M 3 0 n = 1 ∨ M 3 0 n = 2 ∨ M 3 0 n = 3)) : mo_Mi l D cI ad yM_shrink wM_shrink ({ frames := 1, cells := 0, slots := 0, locals := 21 }) [.ref (ad 0 0), .int (fd_I ((n : Nat) : Int)), .int (fd_I (x))] M (0) ((fd_u3 M 0 0 0 2)) := by
  have hm := hok.made
  have hn6 : n < 60 := by omega
  have e3 := hok.sta hn6
  have e4 := hok.far hn6
  have e5 := hok.pla hn6
  have e6 := hok.sea hn6
  have e8 := hok.pai hn6
  refine fd_enterI (by decide) rfl mo_nd (by simp [Value.category]) (Nat.le_of_ble_eq_true rfl) ?_
  intro A p e s m args below meth c C hr hlk hE
  have C : fd_C p m c cM_shrink 4 s args fd_T "FareDeskModel" D fd_cl (mo_tys cI) mo_wl A := C
  refine fd_pad 1 ?_
  refine fd_aload_n C dM_shrink_0 rfl ?_
  refine fd_aload_n C dM_shrink_1 rfl ?_
  refine fd_iload_n C dM_shrink_2 rfl ?_
  refine fd_callVi C hE [.int (fd_I ((n : Nat) : Int))] (k := 0) (i := 0) (mM_noBooking_0 l D cI ad M n hok.made hn) (cwV 1 C.1.2.2.2.2 (gM_noBooking fw3_141) rfl rfl rfl ⟨rfl, by decide, by decide, by decide +kernel⟩ ⟨by decide, by decide⟩) (mo_m (by decide)) rfl rfl rfl (Nat.le_of_ble_eq_true rfl) dM_shrink_3 ⟨by decide, by decide⟩ ?_
  refine fd_if_ne C (tgt := 24) dM_shrink_6 rfl ⟨by omega, by omega⟩ (fun h6t => ?_) (fun h6f => ?_)
  · exfalso; omega
  refine fd_iload_n C dM_shrink_9 rfl ?_
  refine fd_iconst C dM_shrink_10 ?_
  refine fd_icmp_lt C (tgt := 24) dM_shrink_11 rfl ⟨by omega, by omega⟩ ⟨by omega, by omega⟩ (fun h11t => ?_) (fun h11f => ?_)
  · skip
    exfalso; omega
  · skip
    refine fd_iload_n C dM_shrink_14 rfl ?_
    refine fd_aload_n C dM_shrink_15 rfl ?_
    refine fd_get C (k := 0) (i := 0) (j := 10) (v := .ref (ad 5 0)) (mo_m (by decide)) rfl rfl (by decide) wsM fw3_47 rfl dM_shrink_16 ?_
    refine fd_iload_n C dM_shrink_19 rfl ?_
    refine fd_iald C (k := 5) (i := 0) (x := n) (v := M 5 0 n) (mo_m (by decide)) (fun _ => rfl) (mo_tI cI) rfl (by omega) (by decide) rfl dM_shrink_20 ?_
    refine fd_icmp_lt C (tgt := 28) dM_shrink_21 rfl ⟨by omega, by omega⟩ ⟨by omega, by omega⟩ (fun h21t => ?_) (fun h21f => ?_)
    · skip
      refine fd_aload_n C dM_shrink_28 rfl ?_
      refine fd_iload_n C dM_shrink_29 rfl ?_
      refine fd_callVi C hE [.int (fd_I ((n : Nat) : Int))] (k := 0) (i := 0) (mM_counts_0 l D cI ad M n hn6 e3 (by omega)) (cwV 1 C.1.2.2.2.2 (gM_counts fw3_109) rfl rfl rfl ⟨rfl, by decide, by decide, by decide +kernel⟩ ⟨by decide, by decide⟩) (mo_m (by decide)) rfl rfl rfl (Nat.le_of_ble_eq_true rfl) dM_shrink_30 ⟨by decide, by decide⟩ ?_
      refine fd_if_ne C (tgt := 50) dM_shrink_33 rfl ⟨by omega, by omega⟩ (fun h33t => ?_) (fun h33f => ?_)
      · exfalso; omega
      refine fd_aload_n C dM_shrink_36 rfl ?_
      refine fd_get C (k := 0) (i := 0) (j := 8) (v := .ref (ad 3 0)) (mo_m (by decide)) rfl rfl (by decide) wsM fw3_45 rfl dM_shrink_37 ?_
      refine fd_iload_n C dM_shrink_40 rfl ?_
      refine fd_iald C (k := 3) (i := 0) (x := n) (v := M 3 0 n) (mo_m (by decide)) (fun _ => rfl) (mo_tI cI) rfl (by omega) (by decide) rfl dM_shrink_41 ?_
      refine fd_iconst C dM_shrink_42 ?_
      refine fd_icmp_eq C (tgt := 50) dM_shrink_43 rfl ⟨by omega, by omega⟩ ⟨by omega, by omega⟩ (fun h43t => ?_) (fun h43f => ?_)
      · skip
        exfalso; omega
      · skip
        refine fd_iconst C dM_shrink_46 ?_
        refine fd_goto C (tgt := 51) dM_shrink_47 rfl ?_
        refine fd_put C (k := 0) (i := 0) (j := 0) (z := 2) (ty := .int) tyM (mo_m (by decide)) rfl rfl rfl (by decide) wsM tyM_ok nmM fw3_37 rfl (by decide +kernel) rfl rfl (Nat.le_of_ble_eq_true rfl) dM_shrink_51 ?_
        refine fd_aload_n C dM_shrink_54 rfl ?_
        refine fd_get C (k := 0) (i := 0) (j := 0) (v := .int (fd_I (2))) (mo_m (by decide)) rfl rfl (by decide) wsM fw3_37 (congrArg (fun z => some (Value.int (fd_I z))) (fd_u3_same M 0 0 0 (2))) dM_shrink_55 ?_
        refine fd_if_eq C (tgt := 63) dM_shrink_58 rfl ⟨by omega, by omega⟩ (fun h58t => ?_) (fun h58f => ?_)
        · exfalso; omega
        refine fd_iconst C dM_shrink_61 ?_
        exact fd_iret C hr hlk (by first | rfl | omega | (split <;> omega) | (simp; omega)) rfl dM_shrink_62
    · skip
      exfalso; omega
set_option maxRecDepth 20000 in
theorem mM_shrink (l : Launch) (D : va_G) (cI : ClassId) (ad : Nat → Nat → Nat) (M : fd_Mem) (n : Nat) (hn : (n : Int) < M 0 0 7) (hok : mo_ok M) (x : Int) (hx : 1 ≤ x ∧ x < M 5 0 n) (hs : M 3 0 n = 1 ∨ M 3 0 n = 3) (hok2 : mo_ok (mo_lv n ((fd_u3 (fd_u3 M 0 0 0 (0)) 5 0 n ((M 5 0 n) - x)) 9 0 n - (M 5 0 n - x)).toNat (fd_u3 (fd_u3 M 0 0 0 (0)) 5 0 n ((M 5 0 n) - x)))) (dv : Nat) (Nv : fd_Mem) (hd : mo_sv dv 0 (mo_lv n ((fd_u3 (fd_u3 M 0 0 0 (0)) 5 0 n ((M 5 0 n) - x)) 9 0 n - (M 5 0 n - x)).toNat (fd_u3 (fd_u3 M 0 0 0 (0)) 5 0 n ((M 5 0 n) - x))) = some Nv) : mo_Mi l D cI ad yM_shrink wM_shrink ({ frames := 3, cells := 0, slots := 0, locals := 69 }) [.ref (ad 0 0), .int (fd_I ((n : Nat) : Int)), .int (fd_I (x))] M (0) (Nv) := by
  have hm := hok.made
  have hn6 : n < 60 := by omega
  have e3 := hok.sta hn6
  have e4 := hok.far hn6
  have e5 := hok.pla hn6
  have e6 := hok.sea hn6
  have e8 := hok.pai hn6
  refine fd_enterI (by decide) rfl mo_nd (by simp [Value.category]) (Nat.le_of_ble_eq_true rfl) ?_
  intro A p e s m args below meth c C hr hlk hE
  have C : fd_C p m c cM_shrink 4 s args fd_T "FareDeskModel" D fd_cl (mo_tys cI) mo_wl A := C
  refine fd_pad 1 ?_
  refine fd_aload_n C dM_shrink_0 rfl ?_
  refine fd_aload_n C dM_shrink_1 rfl ?_
  refine fd_iload_n C dM_shrink_2 rfl ?_
  refine fd_callVi C hE [.int (fd_I ((n : Nat) : Int))] (k := 0) (i := 0) (mM_noBooking_0 l D cI ad M n hok.made hn) (cwV 1 C.1.2.2.2.2 (gM_noBooking fw3_141) rfl rfl rfl ⟨rfl, by decide, by decide, by decide +kernel⟩ ⟨by decide, by decide⟩) (mo_m (by decide)) rfl rfl rfl (Nat.le_of_ble_eq_true rfl) dM_shrink_3 ⟨by decide, by decide⟩ ?_
  refine fd_if_ne C (tgt := 24) dM_shrink_6 rfl ⟨by omega, by omega⟩ (fun h6t => ?_) (fun h6f => ?_)
  · exfalso; omega
  refine fd_iload_n C dM_shrink_9 rfl ?_
  refine fd_iconst C dM_shrink_10 ?_
  refine fd_icmp_lt C (tgt := 24) dM_shrink_11 rfl ⟨by omega, by omega⟩ ⟨by omega, by omega⟩ (fun h11t => ?_) (fun h11f => ?_)
  · skip
    exfalso; omega
  · skip
    refine fd_iload_n C dM_shrink_14 rfl ?_
    refine fd_aload_n C dM_shrink_15 rfl ?_
    refine fd_get C (k := 0) (i := 0) (j := 10) (v := .ref (ad 5 0)) (mo_m (by decide)) rfl rfl (by decide) wsM fw3_47 rfl dM_shrink_16 ?_
    refine fd_iload_n C dM_shrink_19 rfl ?_
    refine fd_iald C (k := 5) (i := 0) (x := n) (v := M 5 0 n) (mo_m (by decide)) (fun _ => rfl) (mo_tI cI) rfl (by omega) (by decide) rfl dM_shrink_20 ?_
    refine fd_icmp_lt C (tgt := 28) dM_shrink_21 rfl ⟨by omega, by omega⟩ ⟨by omega, by omega⟩ (fun h21t => ?_) (fun h21f => ?_)
    · skip
      refine fd_aload_n C dM_shrink_28 rfl ?_
      refine fd_iload_n C dM_shrink_29 rfl ?_
      by_cases hs30 : M 3 0 n = 1 ∨ M 3 0 n = 2
      · skip
        refine fd_callVi C hE [.int (fd_I ((n : Nat) : Int))] (k := 0) (i := 0) (mM_counts_1 l D cI ad M n (by omega) e3 hs30) (cwV 1 C.1.2.2.2.2 (gM_counts fw3_109) rfl rfl rfl ⟨rfl, by decide, by decide, by decide +kernel⟩ ⟨by decide, by decide⟩) (mo_m (by decide)) rfl rfl rfl (Nat.le_of_ble_eq_true rfl) dM_shrink_30 ⟨by decide, by decide⟩ ?_
        refine fd_if_ne C (tgt := 50) dM_shrink_33 rfl ⟨by omega, by omega⟩ (fun h33t => ?_) (fun h33f => ?_)
        rotate_left
        · exfalso; omega
        refine fd_iconst C dM_shrink_50 ?_
        refine fd_put C (k := 0) (i := 0) (j := 0) (z := 0) (ty := .int) tyM (mo_m (by decide)) rfl rfl rfl (by decide) wsM tyM_ok nmM fw3_37 rfl (by decide +kernel) rfl rfl (Nat.le_of_ble_eq_true rfl) dM_shrink_51 ?_
        refine fd_aload_n C dM_shrink_54 rfl ?_
        refine fd_get C (k := 0) (i := 0) (j := 0) (v := .int (fd_I (0))) (mo_m (by decide)) rfl rfl (by decide) wsM fw3_37 (congrArg (fun z => some (Value.int (fd_I z))) (fd_u3_same M 0 0 0 (0))) dM_shrink_55 ?_
        refine fd_if_eq C (tgt := 63) dM_shrink_58 rfl ⟨by omega, by omega⟩ (fun h58t => ?_) (fun h58f => ?_)
        rotate_left
        · exfalso; omega
        refine fd_aload_n C dM_shrink_63 rfl ?_
        refine fd_get C (k := 0) (i := 0) (j := 8) (v := .ref (ad 3 0)) (mo_m (by decide)) rfl rfl (by decide) wsM fw3_45 rfl dM_shrink_64 ?_
        refine fd_iload_n C dM_shrink_67 rfl ?_
        refine fd_iald C (k := 3) (i := 0) (x := n) (v := M 3 0 n) (mo_m (by decide)) (fun _ => rfl) (mo_tI cI) rfl (by omega) (by decide) rfl dM_shrink_68 ?_
        refine fd_iconst C dM_shrink_69 ?_
        refine fd_icmp_ne C (tgt := 82) dM_shrink_70 rfl ⟨by omega, by omega⟩ ⟨by omega, by omega⟩ (fun h70t => ?_) (fun h70f => ?_)
        · skip
          refine fd_iconst C dM_shrink_82 ?_
          refine fd_istore_n C dM_shrink_83 (by decide) ?_
          refine fd_aload_n C dM_shrink_84 rfl ?_
          refine fd_get C (k := 0) (i := 0) (j := 10) (v := .ref (ad 5 0)) (mo_m (by decide)) rfl rfl (by decide) wsM fw3_47 rfl dM_shrink_85 ?_
          refine fd_iload_n C dM_shrink_88 rfl ?_
          refine fd_dup2 C dM_shrink_89 rfl rfl ?_
          refine fd_iald C (k := 5) (i := 0) (x := n) (v := M 5 0 n) (mo_m (by decide)) (fun _ => rfl) (mo_tI cI) rfl (by omega) (by decide) rfl dM_shrink_90 ?_
          refine fd_iload_n C dM_shrink_91 rfl ?_
          refine fd_isub C dM_shrink_92 ?_
          refine fd_iast C (k := 5) (i := 0) (x := n) (v := ((M 5 0 n) - x)) (mo_m (by decide)) (fun _ => rfl) (mo_tI cI) rfl (by omega) (by decide) dM_shrink_93 ?_
          refine fd_aload_n C dM_shrink_94 rfl ?_
          refine fd_iload_n C dM_shrink_95 rfl ?_
          refine fd_aload_n C dM_shrink_96 rfl ?_
          refine fd_get C (k := 0) (i := 0) (j := 10) (v := .ref (ad 5 0)) (mo_m (by decide)) rfl rfl (by decide) wsM fw3_47 rfl dM_shrink_97 ?_
          refine fd_iload_n C dM_shrink_100 rfl ?_
          refine fd_iald C (k := 5) (i := 0) (x := n) (v := (M 5 0 n) - x) (mo_m (by decide)) (fun _ => rfl) (mo_tI cI) rfl (by omega) (by decide) (fd_u3_same (fd_u3 M 0 0 0 (0)) 5 0 n ((M 5 0 n) - x)) dM_shrink_101 ?_
          refine fd_callVv C hE [.int (fd_I ((n : Nat) : Int)), .int (fd_I ((M 5 0 n) - x))] (k := 0) (i := 0) (mM_leaveSeats l D cI ad (fd_u3 (fd_u3 M 0 0 0 (0)) 5 0 n ((M 5 0 n) - x)) n hn6 (M 5 0 n - x) (by omega) (mo_tb_of ((hok.thr 0).tb hn6) rfl (fun _ => rfl))) (cwV 2 C.1.2.2.2.2 (gM_leaveSeats fw3_153) rfl rfl rfl ⟨rfl, by decide, by decide, by decide +kernel⟩ ⟨by decide, by decide⟩) (mo_m (by decide)) rfl rfl rfl (Nat.le_of_ble_eq_true rfl) dM_shrink_102 ⟨by decide, by decide⟩ ?_
          refine fd_aload_n C dM_shrink_105 rfl ?_
          refine fd_callVv C hE [] (k := 0) (i := 0) (mM_serve l D cI ad (mo_lv n ((fd_u3 (fd_u3 M 0 0 0 (0)) 5 0 n ((M 5 0 n) - x)) 9 0 n - (M 5 0 n - x)).toNat (fd_u3 (fd_u3 M 0 0 0 (0)) 5 0 n ((M 5 0 n) - x))) hok2 dv Nv hd) (cwV 0 C.1.2.2.2.2 (gM_serve fw3_101) rfl rfl rfl ⟨rfl, by decide, by decide, by decide +kernel⟩ ⟨by decide, by decide⟩) (mo_m (by decide)) rfl rfl rfl (Nat.le_of_ble_eq_true rfl) dM_shrink_106 ⟨by decide, by decide⟩ ?_
          refine fd_iload_n C dM_shrink_109 rfl ?_
          exact fd_iret C hr hlk (by first | rfl | omega | (split <;> omega) | (simp; omega)) rfl dM_shrink_110
        · skip
          exfalso; omega
      · skip
        refine fd_callVi C hE [.int (fd_I ((n : Nat) : Int))] (k := 0) (i := 0) (mM_counts_0 l D cI ad M n (by omega) e3 hs30) (cwV 1 C.1.2.2.2.2 (gM_counts fw3_109) rfl rfl rfl ⟨rfl, by decide, by decide, by decide +kernel⟩ ⟨by decide, by decide⟩) (mo_m (by decide)) rfl rfl rfl (Nat.le_of_ble_eq_true rfl) dM_shrink_30 ⟨by decide, by decide⟩ ?_
        refine fd_if_ne C (tgt := 50) dM_shrink_33 rfl ⟨by omega, by omega⟩ (fun h33t => ?_) (fun h33f => ?_)
        · exfalso; omega
        refine fd_aload_n C dM_shrink_36 rfl ?_
        refine fd_get C (k := 0) (i := 0) (j := 8) (v := .ref (ad 3 0)) (mo_m (by decide)) rfl rfl (by decide) wsM fw3_45 rfl dM_shrink_37 ?_
        refine fd_iload_n C dM_shrink_40 rfl ?_
        refine fd_iald C (k := 3) (i := 0) (x := n) (v := M 3 0 n) (mo_m (by decide)) (fun _ => rfl) (mo_tI cI) rfl (by omega) (by decide) rfl dM_shrink_41 ?_
        refine fd_iconst C dM_shrink_42 ?_
        refine fd_icmp_eq C (tgt := 50) dM_shrink_43 rfl ⟨by omega, by omega⟩ ⟨by omega, by omega⟩ (fun h43t => ?_) (fun h43f => ?_)
        · skip
          refine fd_iconst C dM_shrink_50 ?_
          refine fd_put C (k := 0) (i := 0) (j := 0) (z := 0) (ty := .int) tyM (mo_m (by decide)) rfl rfl rfl (by decide) wsM tyM_ok nmM fw3_37 rfl (by decide +kernel) rfl rfl (Nat.le_of_ble_eq_true rfl) dM_shrink_51 ?_
          refine fd_aload_n C dM_shrink_54 rfl ?_
          refine fd_get C (k := 0) (i := 0) (j := 0) (v := .int (fd_I (0))) (mo_m (by decide)) rfl rfl (by decide) wsM fw3_37 (congrArg (fun z => some (Value.int (fd_I z))) (fd_u3_same M 0 0 0 (0))) dM_shrink_55 ?_
          refine fd_if_eq C (tgt := 63) dM_shrink_58 rfl ⟨by omega, by omega⟩ (fun h58t => ?_) (fun h58f => ?_)
          rotate_left
          · exfalso; omega
          refine fd_aload_n C dM_shrink_63 rfl ?_
          refine fd_get C (k := 0) (i := 0) (j := 8) (v := .ref (ad 3 0)) (mo_m (by decide)) rfl rfl (by decide) wsM fw3_45 rfl dM_shrink_64 ?_
          refine fd_iload_n C dM_shrink_67 rfl ?_
          refine fd_iald C (k := 3) (i := 0) (x := n) (v := M 3 0 n) (mo_m (by decide)) (fun _ => rfl) (mo_tI cI) rfl (by omega) (by decide) rfl dM_shrink_68 ?_
          refine fd_iconst C dM_shrink_69 ?_
          refine fd_icmp_ne C (tgt := 82) dM_shrink_70 rfl ⟨by omega, by omega⟩ ⟨by omega, by omega⟩ (fun h70t => ?_) (fun h70f => ?_)
          · skip
            refine fd_iconst C dM_shrink_82 ?_
            refine fd_istore_n C dM_shrink_83 (by decide) ?_
            refine fd_aload_n C dM_shrink_84 rfl ?_
            refine fd_get C (k := 0) (i := 0) (j := 10) (v := .ref (ad 5 0)) (mo_m (by decide)) rfl rfl (by decide) wsM fw3_47 rfl dM_shrink_85 ?_
            refine fd_iload_n C dM_shrink_88 rfl ?_
            refine fd_dup2 C dM_shrink_89 rfl rfl ?_
            refine fd_iald C (k := 5) (i := 0) (x := n) (v := M 5 0 n) (mo_m (by decide)) (fun _ => rfl) (mo_tI cI) rfl (by omega) (by decide) rfl dM_shrink_90 ?_
            refine fd_iload_n C dM_shrink_91 rfl ?_
            refine fd_isub C dM_shrink_92 ?_
            refine fd_iast C (k := 5) (i := 0) (x := n) (v := ((M 5 0 n) - x)) (mo_m (by decide)) (fun _ => rfl) (mo_tI cI) rfl (by omega) (by decide) dM_shrink_93 ?_
            refine fd_aload_n C dM_shrink_94 rfl ?_
            refine fd_iload_n C dM_shrink_95 rfl ?_
            refine fd_aload_n C dM_shrink_96 rfl ?_
            refine fd_get C (k := 0) (i := 0) (j := 10) (v := .ref (ad 5 0)) (mo_m (by decide)) rfl rfl (by decide) wsM fw3_47 rfl dM_shrink_97 ?_
            refine fd_iload_n C dM_shrink_100 rfl ?_
            refine fd_iald C (k := 5) (i := 0) (x := n) (v := (M 5 0 n) - x) (mo_m (by decide)) (fun _ => rfl) (mo_tI cI) rfl (by omega) (by decide) (fd_u3_same (fd_u3 M 0 0 0 (0)) 5 0 n ((M 5 0 n) - x)) dM_shrink_101 ?_
            refine fd_callVv C hE [.int (fd_I ((n : Nat) : Int)), .int (fd_I ((M 5 0 n) - x))] (k := 0) (i := 0) (mM_leaveSeats l D cI ad (fd_u3 (fd_u3 M 0 0 0 (0)) 5 0 n ((M 5 0 n) - x)) n hn6 (M 5 0 n - x) (by omega) (mo_tb_of ((hok.thr 0).tb hn6) rfl (fun _ => rfl))) (cwV 2 C.1.2.2.2.2 (gM_leaveSeats fw3_153) rfl rfl rfl ⟨rfl, by decide, by decide, by decide +kernel⟩ ⟨by decide, by decide⟩) (mo_m (by decide)) rfl rfl rfl (Nat.le_of_ble_eq_true rfl) dM_shrink_102 ⟨by decide, by decide⟩ ?_
            refine fd_aload_n C dM_shrink_105 rfl ?_
            refine fd_callVv C hE [] (k := 0) (i := 0) (mM_serve l D cI ad (mo_lv n ((fd_u3 (fd_u3 M 0 0 0 (0)) 5 0 n ((M 5 0 n) - x)) 9 0 n - (M 5 0 n - x)).toNat (fd_u3 (fd_u3 M 0 0 0 (0)) 5 0 n ((M 5 0 n) - x))) hok2 dv Nv hd) (cwV 0 C.1.2.2.2.2 (gM_serve fw3_101) rfl rfl rfl ⟨rfl, by decide, by decide, by decide +kernel⟩ ⟨by decide, by decide⟩) (mo_m (by decide)) rfl rfl rfl (Nat.le_of_ble_eq_true rfl) dM_shrink_106 ⟨by decide, by decide⟩ ?_
            refine fd_iload_n C dM_shrink_109 rfl ?_
            exact fd_iret C hr hlk (by first | rfl | omega | (split <;> omega) | (simp; omega)) rfl dM_shrink_110
          · skip
            exfalso; omega
        · skip
          exfalso; omega
    · skip
      exfalso; omega
set_option maxRecDepth 20000 in
theorem mM_shrink_c (l : Launch) (D : va_G) (cI : ClassId) (ad : Nat → Nat → Nat) (M : fd_Mem) (n : Nat) (hn : (n : Int) < M 0 0 7) (hok : mo_ok M) (x : Int) (hx : 1 ≤ x ∧ x < M 5 0 n) (hs : M 3 0 n = 2) (hok2 : mo_ok (mo_lv n ((fd_u3 (mo_gbk (fd_u3 M 0 0 0 (0)) n x) 5 0 n ((mo_gbk (fd_u3 M 0 0 0 (0)) n x) 5 0 n - x)) 9 0 n - ((mo_gbk (fd_u3 M 0 0 0 (0)) n x) 5 0 n - x)).toNat (fd_u3 (mo_gbk (fd_u3 M 0 0 0 (0)) n x) 5 0 n ((mo_gbk (fd_u3 M 0 0 0 (0)) n x) 5 0 n - x)))) (dv : Nat) (Nv : fd_Mem) (hd : mo_sv dv 0 (mo_lv n ((fd_u3 (mo_gbk (fd_u3 M 0 0 0 (0)) n x) 5 0 n ((mo_gbk (fd_u3 M 0 0 0 (0)) n x) 5 0 n - x)) 9 0 n - ((mo_gbk (fd_u3 M 0 0 0 (0)) n x) 5 0 n - x)).toNat (fd_u3 (mo_gbk (fd_u3 M 0 0 0 (0)) n x) 5 0 n ((mo_gbk (fd_u3 M 0 0 0 (0)) n x) 5 0 n - x))) = some Nv) : mo_Mi l D cI ad yM_shrink wM_shrink ({ frames := 3, cells := 0, slots := 0, locals := 69 }) [.ref (ad 0 0), .int (fd_I ((n : Nat) : Int)), .int (fd_I (x))] M (mo_bk (fd_u3 M 0 0 0 (0)) n x) (Nv) := by
  have hm := hok.made
  have hn6 : n < 60 := by omega
  have e3 := hok.sta hn6
  have e4 := hok.far hn6
  have e5 := hok.pla hn6
  have e6 := hok.sea hn6
  have e8 := hok.pai hn6
  have e9 : (mo_gbk (fd_u3 M 0 0 0 (0)) n x) 5 0 n = M 5 0 n := rfl
  refine fd_enterI (by decide) rfl mo_nd (by simp [Value.category]) (Nat.le_of_ble_eq_true rfl) ?_
  intro A p e s m args below meth c C hr hlk hE
  have C : fd_C p m c cM_shrink 4 s args fd_T "FareDeskModel" D fd_cl (mo_tys cI) mo_wl A := C
  refine fd_pad 1 ?_
  refine fd_aload_n C dM_shrink_0 rfl ?_
  refine fd_aload_n C dM_shrink_1 rfl ?_
  refine fd_iload_n C dM_shrink_2 rfl ?_
  refine fd_callVi C hE [.int (fd_I ((n : Nat) : Int))] (k := 0) (i := 0) (mM_noBooking_0 l D cI ad M n hok.made hn) (cwV 1 C.1.2.2.2.2 (gM_noBooking fw3_141) rfl rfl rfl ⟨rfl, by decide, by decide, by decide +kernel⟩ ⟨by decide, by decide⟩) (mo_m (by decide)) rfl rfl rfl (Nat.le_of_ble_eq_true rfl) dM_shrink_3 ⟨by decide, by decide⟩ ?_
  refine fd_if_ne C (tgt := 24) dM_shrink_6 rfl ⟨by omega, by omega⟩ (fun h6t => ?_) (fun h6f => ?_)
  · exfalso; omega
  refine fd_iload_n C dM_shrink_9 rfl ?_
  refine fd_iconst C dM_shrink_10 ?_
  refine fd_icmp_lt C (tgt := 24) dM_shrink_11 rfl ⟨by omega, by omega⟩ ⟨by omega, by omega⟩ (fun h11t => ?_) (fun h11f => ?_)
  · skip
    exfalso; omega
  · skip
    refine fd_iload_n C dM_shrink_14 rfl ?_
    refine fd_aload_n C dM_shrink_15 rfl ?_
    refine fd_get C (k := 0) (i := 0) (j := 10) (v := .ref (ad 5 0)) (mo_m (by decide)) rfl rfl (by decide) wsM fw3_47 rfl dM_shrink_16 ?_
    refine fd_iload_n C dM_shrink_19 rfl ?_
    refine fd_iald C (k := 5) (i := 0) (x := n) (v := M 5 0 n) (mo_m (by decide)) (fun _ => rfl) (mo_tI cI) rfl (by omega) (by decide) rfl dM_shrink_20 ?_
    refine fd_icmp_lt C (tgt := 28) dM_shrink_21 rfl ⟨by omega, by omega⟩ ⟨by omega, by omega⟩ (fun h21t => ?_) (fun h21f => ?_)
    · skip
      refine fd_aload_n C dM_shrink_28 rfl ?_
      refine fd_iload_n C dM_shrink_29 rfl ?_
      refine fd_callVi C hE [.int (fd_I ((n : Nat) : Int))] (k := 0) (i := 0) (mM_counts_1 l D cI ad M n hn6 e3 (by omega)) (cwV 1 C.1.2.2.2.2 (gM_counts fw3_109) rfl rfl rfl ⟨rfl, by decide, by decide, by decide +kernel⟩ ⟨by decide, by decide⟩) (mo_m (by decide)) rfl rfl rfl (Nat.le_of_ble_eq_true rfl) dM_shrink_30 ⟨by decide, by decide⟩ ?_
      refine fd_if_ne C (tgt := 50) dM_shrink_33 rfl ⟨by omega, by omega⟩ (fun h33t => ?_) (fun h33f => ?_)
      rotate_left
      · exfalso; omega
      refine fd_iconst C dM_shrink_50 ?_
      refine fd_put C (k := 0) (i := 0) (j := 0) (z := 0) (ty := .int) tyM (mo_m (by decide)) rfl rfl rfl (by decide) wsM tyM_ok nmM fw3_37 rfl (by decide +kernel) rfl rfl (Nat.le_of_ble_eq_true rfl) dM_shrink_51 ?_
      refine fd_aload_n C dM_shrink_54 rfl ?_
      refine fd_get C (k := 0) (i := 0) (j := 0) (v := .int (fd_I (0))) (mo_m (by decide)) rfl rfl (by decide) wsM fw3_37 (congrArg (fun z => some (Value.int (fd_I z))) (fd_u3_same M 0 0 0 (0))) dM_shrink_55 ?_
      refine fd_if_eq C (tgt := 63) dM_shrink_58 rfl ⟨by omega, by omega⟩ (fun h58t => ?_) (fun h58f => ?_)
      rotate_left
      · exfalso; omega
      refine fd_aload_n C dM_shrink_63 rfl ?_
      refine fd_get C (k := 0) (i := 0) (j := 8) (v := .ref (ad 3 0)) (mo_m (by decide)) rfl rfl (by decide) wsM fw3_45 rfl dM_shrink_64 ?_
      refine fd_iload_n C dM_shrink_67 rfl ?_
      refine fd_iald C (k := 3) (i := 0) (x := n) (v := M 3 0 n) (mo_m (by decide)) (fun _ => rfl) (mo_tI cI) rfl (by omega) (by decide) rfl dM_shrink_68 ?_
      refine fd_iconst C dM_shrink_69 ?_
      refine fd_icmp_ne C (tgt := 82) dM_shrink_70 rfl ⟨by omega, by omega⟩ ⟨by omega, by omega⟩ (fun h70t => ?_) (fun h70f => ?_)
      · skip
        exfalso; omega
      · skip
        refine fd_aload_n C dM_shrink_73 rfl ?_
        refine fd_iload_n C dM_shrink_74 rfl ?_
        refine fd_iload_n C dM_shrink_75 rfl ?_
        refine fd_callVi C hE [.int (fd_I ((n : Nat) : Int)), .int (fd_I (x))] (k := 0) (i := 0) (mM_giveBack l D cI ad (fd_u3 M 0 0 0 (0)) n hn6 x (hok.thr 0) (show 1 ≤ M 5 0 n by omega) (by omega)) (cwV 2 C.1.2.2.2.2 (gM_giveBack fw3_149) rfl rfl rfl ⟨rfl, by decide, by decide, by decide +kernel⟩ ⟨by decide, by decide⟩) (mo_m (by decide)) rfl rfl rfl (Nat.le_of_ble_eq_true rfl) dM_shrink_76 ⟨by decide, by decide⟩ ?_
        refine fd_goto C (tgt := 83) dM_shrink_79 rfl ?_
        refine fd_istore_n C dM_shrink_83 (by decide) ?_
        refine fd_aload_n C dM_shrink_84 rfl ?_
        refine fd_get C (k := 0) (i := 0) (j := 10) (v := .ref (ad 5 0)) (mo_m (by decide)) rfl rfl (by decide) wsM fw3_47 rfl dM_shrink_85 ?_
        refine fd_iload_n C dM_shrink_88 rfl ?_
        refine fd_dup2 C dM_shrink_89 rfl rfl ?_
        refine fd_iald C (k := 5) (i := 0) (x := n) (v := (mo_gbk (fd_u3 M 0 0 0 (0)) n x) 5 0 n) (mo_m (by decide)) (fun _ => rfl) (mo_tI cI) rfl (by omega) (by decide) rfl dM_shrink_90 ?_
        refine fd_iload_n C dM_shrink_91 rfl ?_
        refine fd_isub C dM_shrink_92 ?_
        refine fd_iast C (k := 5) (i := 0) (x := n) (v := (((mo_gbk (fd_u3 M 0 0 0 (0)) n x) 5 0 n) - x)) (mo_m (by decide)) (fun _ => rfl) (mo_tI cI) rfl (by omega) (by decide) dM_shrink_93 ?_
        refine fd_aload_n C dM_shrink_94 rfl ?_
        refine fd_iload_n C dM_shrink_95 rfl ?_
        refine fd_aload_n C dM_shrink_96 rfl ?_
        refine fd_get C (k := 0) (i := 0) (j := 10) (v := .ref (ad 5 0)) (mo_m (by decide)) rfl rfl (by decide) wsM fw3_47 rfl dM_shrink_97 ?_
        refine fd_iload_n C dM_shrink_100 rfl ?_
        refine fd_iald C (k := 5) (i := 0) (x := n) (v := ((mo_gbk (fd_u3 M 0 0 0 (0)) n x) 5 0 n) - x) (mo_m (by decide)) (fun _ => rfl) (mo_tI cI) rfl (by omega) (by decide) (fd_u3_same (mo_gbk (fd_u3 M 0 0 0 (0)) n x) 5 0 n (((mo_gbk (fd_u3 M 0 0 0 (0)) n x) 5 0 n) - x)) dM_shrink_101 ?_
        refine fd_callVv C hE [.int (fd_I ((n : Nat) : Int)), .int (fd_I (((mo_gbk (fd_u3 M 0 0 0 (0)) n x) 5 0 n) - x))] (k := 0) (i := 0) (mM_leaveSeats l D cI ad (fd_u3 (mo_gbk (fd_u3 M 0 0 0 (0)) n x) 5 0 n (((mo_gbk (fd_u3 M 0 0 0 (0)) n x) 5 0 n) - x)) n hn6 ((mo_gbk (fd_u3 M 0 0 0 (0)) n x) 5 0 n - x) (by omega) (mo_tb_of ((hok.thr 0).tb hn6) rfl (fun _ => rfl))) (cwV 2 C.1.2.2.2.2 (gM_leaveSeats fw3_153) rfl rfl rfl ⟨rfl, by decide, by decide, by decide +kernel⟩ ⟨by decide, by decide⟩) (mo_m (by decide)) rfl rfl rfl (Nat.le_of_ble_eq_true rfl) dM_shrink_102 ⟨by decide, by decide⟩ ?_
        refine fd_aload_n C dM_shrink_105 rfl ?_
        refine fd_callVv C hE [] (k := 0) (i := 0) (mM_serve l D cI ad (mo_lv n ((fd_u3 (mo_gbk (fd_u3 M 0 0 0 (0)) n x) 5 0 n ((mo_gbk (fd_u3 M 0 0 0 (0)) n x) 5 0 n - x)) 9 0 n - ((mo_gbk (fd_u3 M 0 0 0 (0)) n x) 5 0 n - x)).toNat (fd_u3 (mo_gbk (fd_u3 M 0 0 0 (0)) n x) 5 0 n ((mo_gbk (fd_u3 M 0 0 0 (0)) n x) 5 0 n - x))) hok2 dv Nv hd) (cwV 0 C.1.2.2.2.2 (gM_serve fw3_101) rfl rfl rfl ⟨rfl, by decide, by decide, by decide +kernel⟩ ⟨by decide, by decide⟩) (mo_m (by decide)) rfl rfl rfl (Nat.le_of_ble_eq_true rfl) dM_shrink_106 ⟨by decide, by decide⟩ ?_
        refine fd_iload_n C dM_shrink_109 rfl ?_
        exact fd_iret C hr hlk (by first | rfl | omega | (split <;> omega) | (simp; omega)) rfl dM_shrink_110
    · skip
      exfalso; omega
set_option maxRecDepth 20000 in
theorem mM_change_B (l : Launch) (D : va_G) (cI : ClassId) (ad : Nat → Nat → Nat) (M : fd_Mem) (n f : Int) (hn : -2147483648 ≤ n ∧ n < 2147483648) (hok : mo_ok M) (hb : n < 0 ∨ M 0 0 7 ≤ n) : mo_Mv l D cI ad yM_change wM_change ({ frames := 1, cells := 0, slots := 0, locals := 21 }) [.ref (ad 0 0), .int (fd_I (n)), .int (fd_I (f))] M ((fd_u3 M 0 0 0 1)) := by
  refine fd_enterV (by decide) rfl mo_nd (by simp [Value.category]) (Nat.le_of_ble_eq_true rfl) ?_
  intro A p e s m args below meth c C hr hlk hE
  have C : fd_C p m c cM_change 3 s args fd_T "FareDeskModel" D fd_cl (mo_tys cI) mo_wl A := C
  refine fd_pad 0 ?_
  refine fd_aload_n C dM_change_0 rfl ?_
  refine fd_aload_n C dM_change_1 rfl ?_
  refine fd_iload_n C dM_change_2 rfl ?_
  refine fd_callVi C hE [.int (fd_I (n))] (k := 0) (i := 0) (mM_noBooking_1 l D cI ad M n hn hok.made hb) (cwV 1 C.1.2.2.2.2 (gM_noBooking fw3_141) rfl rfl rfl ⟨rfl, by decide, by decide, by decide +kernel⟩ ⟨by decide, by decide⟩) (mo_m (by decide)) rfl rfl rfl (Nat.le_of_ble_eq_true rfl) dM_change_3 ⟨by decide, by decide⟩ ?_
  refine fd_if_ne C (tgt := 17) dM_change_6 rfl ⟨by omega, by omega⟩ (fun h6t => ?_) (fun h6f => ?_)
  rotate_left
  · exfalso; omega
  refine fd_iconst C dM_change_17 ?_
  refine fd_goto C (tgt := 53) dM_change_18 rfl ?_
  refine fd_put C (k := 0) (i := 0) (j := 0) (z := 1) (ty := .int) tyM (mo_m (by decide)) rfl rfl rfl (by decide) wsM tyM_ok nmM fw3_37 rfl (by decide +kernel) rfl rfl (Nat.le_of_ble_eq_true rfl) dM_change_53 ?_
  refine fd_aload_n C dM_change_56 rfl ?_
  refine fd_get C (k := 0) (i := 0) (j := 0) (v := .int (fd_I (1))) (mo_m (by decide)) rfl rfl (by decide) wsM fw3_37 (congrArg (fun z => some (Value.int (fd_I z))) (fd_u3_same M 0 0 0 (1))) dM_change_57 ?_
  refine fd_if_ne C (tgt := 74) dM_change_60 rfl ⟨by omega, by omega⟩ (fun h60t => ?_) (fun h60f => ?_)
  rotate_left
  · exfalso; omega
  exact fd_vret C hr hlk rfl dM_change_74
set_option maxRecDepth 20000 in
theorem mM_change_F (l : Launch) (D : va_G) (cI : ClassId) (ad : Nat → Nat → Nat) (M : fd_Mem) (n : Nat) (hn : (n : Int) < M 0 0 7) (hok : mo_ok M) (f : Int) (hf : -2147483648 ≤ f ∧ f < 2147483648) (hb : f < 0 ∨ 4 ≤ f) : mo_Mv l D cI ad yM_change wM_change ({ frames := 1, cells := 0, slots := 0, locals := 21 }) [.ref (ad 0 0), .int (fd_I ((n : Nat) : Int)), .int (fd_I (f))] M ((fd_u3 M 0 0 0 1)) := by
  have hm := hok.made
  have hn6 : n < 60 := by omega
  have e3 := hok.sta hn6
  have e4 := hok.far hn6
  have e5 := hok.pla hn6
  have e6 := hok.sea hn6
  have e8 := hok.pai hn6
  refine fd_enterV (by decide) rfl mo_nd (by simp [Value.category]) (Nat.le_of_ble_eq_true rfl) ?_
  intro A p e s m args below meth c C hr hlk hE
  have C : fd_C p m c cM_change 3 s args fd_T "FareDeskModel" D fd_cl (mo_tys cI) mo_wl A := C
  refine fd_pad 0 ?_
  refine fd_aload_n C dM_change_0 rfl ?_
  refine fd_aload_n C dM_change_1 rfl ?_
  refine fd_iload_n C dM_change_2 rfl ?_
  refine fd_callVi C hE [.int (fd_I ((n : Nat) : Int))] (k := 0) (i := 0) (mM_noBooking_0 l D cI ad M n hok.made hn) (cwV 1 C.1.2.2.2.2 (gM_noBooking fw3_141) rfl rfl rfl ⟨rfl, by decide, by decide, by decide +kernel⟩ ⟨by decide, by decide⟩) (mo_m (by decide)) rfl rfl rfl (Nat.le_of_ble_eq_true rfl) dM_change_3 ⟨by decide, by decide⟩ ?_
  refine fd_if_ne C (tgt := 17) dM_change_6 rfl ⟨by omega, by omega⟩ (fun h6t => ?_) (fun h6f => ?_)
  · exfalso; omega
  refine fd_aload_n C dM_change_9 rfl ?_
  refine fd_iload_n C dM_change_10 rfl ?_
  refine fd_callVi C hE [.int (fd_I (f))] (k := 0) (i := 0) (mM_noFare_1 l D cI ad M f hf hb) (cwV 1 C.1.2.2.2.2 (gM_noFare fw3_97) rfl rfl rfl ⟨rfl, by decide, by decide, by decide +kernel⟩ ⟨by decide, by decide⟩) (mo_m (by decide)) rfl rfl rfl (Nat.le_of_ble_eq_true rfl) dM_change_11 ⟨by decide, by decide⟩ ?_
  refine fd_if_eq C (tgt := 21) dM_change_14 rfl ⟨by omega, by omega⟩ (fun h14t => ?_) (fun h14f => ?_)
  · exfalso; omega
  refine fd_iconst C dM_change_17 ?_
  refine fd_goto C (tgt := 53) dM_change_18 rfl ?_
  refine fd_put C (k := 0) (i := 0) (j := 0) (z := 1) (ty := .int) tyM (mo_m (by decide)) rfl rfl rfl (by decide) wsM tyM_ok nmM fw3_37 rfl (by decide +kernel) rfl rfl (Nat.le_of_ble_eq_true rfl) dM_change_53 ?_
  refine fd_aload_n C dM_change_56 rfl ?_
  refine fd_get C (k := 0) (i := 0) (j := 0) (v := .int (fd_I (1))) (mo_m (by decide)) rfl rfl (by decide) wsM fw3_37 (congrArg (fun z => some (Value.int (fd_I z))) (fd_u3_same M 0 0 0 (1))) dM_change_57 ?_
  refine fd_if_ne C (tgt := 74) dM_change_60 rfl ⟨by omega, by omega⟩ (fun h60t => ?_) (fun h60f => ?_)
  rotate_left
  · exfalso; omega
  exact fd_vret C hr hlk rfl dM_change_74
set_option maxRecDepth 20000 in
theorem mM_change_2 (l : Launch) (D : va_G) (cI : ClassId) (ad : Nat → Nat → Nat) (M : fd_Mem) (n : Nat) (hn : (n : Int) < M 0 0 7) (hok : mo_ok M) (f : Int) (hf : 0 ≤ f ∧ f < 4) (hs : ¬ (M 3 0 n = 1 ∨ M 3 0 n = 2)) : mo_Mv l D cI ad yM_change wM_change ({ frames := 1, cells := 0, slots := 0, locals := 21 }) [.ref (ad 0 0), .int (fd_I ((n : Nat) : Int)), .int (fd_I (f))] M ((fd_u3 M 0 0 0 2)) := by
  have hm := hok.made
  have hn6 : n < 60 := by omega
  have e3 := hok.sta hn6
  have e4 := hok.far hn6
  have e5 := hok.pla hn6
  have e6 := hok.sea hn6
  have e8 := hok.pai hn6
  refine fd_enterV (by decide) rfl mo_nd (by simp [Value.category]) (Nat.le_of_ble_eq_true rfl) ?_
  intro A p e s m args below meth c C hr hlk hE
  have C : fd_C p m c cM_change 3 s args fd_T "FareDeskModel" D fd_cl (mo_tys cI) mo_wl A := C
  refine fd_pad 0 ?_
  refine fd_aload_n C dM_change_0 rfl ?_
  refine fd_aload_n C dM_change_1 rfl ?_
  refine fd_iload_n C dM_change_2 rfl ?_
  refine fd_callVi C hE [.int (fd_I ((n : Nat) : Int))] (k := 0) (i := 0) (mM_noBooking_0 l D cI ad M n hok.made hn) (cwV 1 C.1.2.2.2.2 (gM_noBooking fw3_141) rfl rfl rfl ⟨rfl, by decide, by decide, by decide +kernel⟩ ⟨by decide, by decide⟩) (mo_m (by decide)) rfl rfl rfl (Nat.le_of_ble_eq_true rfl) dM_change_3 ⟨by decide, by decide⟩ ?_
  refine fd_if_ne C (tgt := 17) dM_change_6 rfl ⟨by omega, by omega⟩ (fun h6t => ?_) (fun h6f => ?_)
  · exfalso; omega
  refine fd_aload_n C dM_change_9 rfl ?_
  refine fd_iload_n C dM_change_10 rfl ?_
  refine fd_callVi C hE [.int (fd_I (f))] (k := 0) (i := 0) (mM_noFare_0 l D cI ad M f hf) (cwV 1 C.1.2.2.2.2 (gM_noFare fw3_97) rfl rfl rfl ⟨rfl, by decide, by decide, by decide +kernel⟩ ⟨by decide, by decide⟩) (mo_m (by decide)) rfl rfl rfl (Nat.le_of_ble_eq_true rfl) dM_change_11 ⟨by decide, by decide⟩ ?_
  refine fd_if_eq C (tgt := 21) dM_change_14 rfl ⟨by omega, by omega⟩ (fun h14t => ?_) (fun h14f => ?_)
  rotate_left
  · exfalso; omega
  refine fd_aload_n C dM_change_21 rfl ?_
  refine fd_iload_n C dM_change_22 rfl ?_
  refine fd_callVi C hE [.int (fd_I ((n : Nat) : Int))] (k := 0) (i := 0) (mM_counts_0 l D cI ad M n hn6 e3 hs) (cwV 1 C.1.2.2.2.2 (gM_counts fw3_109) rfl rfl rfl ⟨rfl, by decide, by decide, by decide +kernel⟩ ⟨by decide, by decide⟩) (mo_m (by decide)) rfl rfl rfl (Nat.le_of_ble_eq_true rfl) dM_change_23 ⟨by decide, by decide⟩ ?_
  refine fd_if_ne C (tgt := 33) dM_change_26 rfl ⟨by omega, by omega⟩ (fun h26t => ?_) (fun h26f => ?_)
  · exfalso; omega
  refine fd_iconst C dM_change_29 ?_
  refine fd_goto C (tgt := 53) dM_change_30 rfl ?_
  refine fd_put C (k := 0) (i := 0) (j := 0) (z := 2) (ty := .int) tyM (mo_m (by decide)) rfl rfl rfl (by decide) wsM tyM_ok nmM fw3_37 rfl (by decide +kernel) rfl rfl (Nat.le_of_ble_eq_true rfl) dM_change_53 ?_
  refine fd_aload_n C dM_change_56 rfl ?_
  refine fd_get C (k := 0) (i := 0) (j := 0) (v := .int (fd_I (2))) (mo_m (by decide)) rfl rfl (by decide) wsM fw3_37 (congrArg (fun z => some (Value.int (fd_I z))) (fd_u3_same M 0 0 0 (2))) dM_change_57 ?_
  refine fd_if_ne C (tgt := 74) dM_change_60 rfl ⟨by omega, by omega⟩ (fun h60t => ?_) (fun h60f => ?_)
  rotate_left
  · exfalso; omega
  exact fd_vret C hr hlk rfl dM_change_74
set_option maxRecDepth 20000 in
theorem mM_change_3 (l : Launch) (D : va_G) (cI : ClassId) (ad : Nat → Nat → Nat) (M : fd_Mem) (n : Nat) (hn : (n : Int) < M 0 0 7) (hok : mo_ok M) (f : Int) (hf : 0 ≤ f ∧ f < 4) (hs : M 3 0 n = 1 ∨ M 3 0 n = 2) (hr9 : mo_r M ((n : Nat) : Int) (f.toNat + 1) < M 5 0 n) : mo_Mv l D cI ad yM_change wM_change ({ frames := 2, cells := 0, slots := 0, locals := 48 }) [.ref (ad 0 0), .int (fd_I ((n : Nat) : Int)), .int (fd_I (f))] M ((fd_u3 M 0 0 0 3)) := by
  have hm := hok.made
  have hn6 : n < 60 := by omega
  have e3 := hok.sta hn6
  have e4 := hok.far hn6
  have e5 := hok.pla hn6
  have e6 := hok.sea hn6
  have e8 := hok.pai hn6
  refine fd_enterV (by decide) rfl mo_nd (by simp [Value.category]) (Nat.le_of_ble_eq_true rfl) ?_
  intro A p e s m args below meth c C hr hlk hE
  have C : fd_C p m c cM_change 3 s args fd_T "FareDeskModel" D fd_cl (mo_tys cI) mo_wl A := C
  refine fd_pad 0 ?_
  refine fd_aload_n C dM_change_0 rfl ?_
  refine fd_aload_n C dM_change_1 rfl ?_
  refine fd_iload_n C dM_change_2 rfl ?_
  refine fd_callVi C hE [.int (fd_I ((n : Nat) : Int))] (k := 0) (i := 0) (mM_noBooking_0 l D cI ad M n hok.made hn) (cwV 1 C.1.2.2.2.2 (gM_noBooking fw3_141) rfl rfl rfl ⟨rfl, by decide, by decide, by decide +kernel⟩ ⟨by decide, by decide⟩) (mo_m (by decide)) rfl rfl rfl (Nat.le_of_ble_eq_true rfl) dM_change_3 ⟨by decide, by decide⟩ ?_
  refine fd_if_ne C (tgt := 17) dM_change_6 rfl ⟨by omega, by omega⟩ (fun h6t => ?_) (fun h6f => ?_)
  · exfalso; omega
  refine fd_aload_n C dM_change_9 rfl ?_
  refine fd_iload_n C dM_change_10 rfl ?_
  refine fd_callVi C hE [.int (fd_I (f))] (k := 0) (i := 0) (mM_noFare_0 l D cI ad M f hf) (cwV 1 C.1.2.2.2.2 (gM_noFare fw3_97) rfl rfl rfl ⟨rfl, by decide, by decide, by decide +kernel⟩ ⟨by decide, by decide⟩) (mo_m (by decide)) rfl rfl rfl (Nat.le_of_ble_eq_true rfl) dM_change_11 ⟨by decide, by decide⟩ ?_
  refine fd_if_eq C (tgt := 21) dM_change_14 rfl ⟨by omega, by omega⟩ (fun h14t => ?_) (fun h14f => ?_)
  rotate_left
  · exfalso; omega
  refine fd_aload_n C dM_change_21 rfl ?_
  refine fd_iload_n C dM_change_22 rfl ?_
  refine fd_callVi C hE [.int (fd_I ((n : Nat) : Int))] (k := 0) (i := 0) (mM_counts_1 l D cI ad M n hn6 e3 hs) (cwV 1 C.1.2.2.2.2 (gM_counts fw3_109) rfl rfl rfl ⟨rfl, by decide, by decide, by decide +kernel⟩ ⟨by decide, by decide⟩) (mo_m (by decide)) rfl rfl rfl (Nat.le_of_ble_eq_true rfl) dM_change_23 ⟨by decide, by decide⟩ ?_
  refine fd_if_ne C (tgt := 33) dM_change_26 rfl ⟨by omega, by omega⟩ (fun h26t => ?_) (fun h26f => ?_)
  rotate_left
  · exfalso; omega
  refine fd_aload_n C dM_change_33 rfl ?_
  refine fd_iload_n C dM_change_34 rfl ?_
  refine fd_iload_n C dM_change_35 rfl ?_
  refine fd_callVi C hE [.int (fd_I (f)), .int (fd_I ((n : Nat) : Int))] (k := 0) (i := 0) (mM_roomOf l D cI ad M f ((n : Nat) : Int) hf (by omega) hok) (cwV 2 C.1.2.2.2.2 (gM_roomOf fw3_105) rfl rfl rfl ⟨rfl, by decide, by decide, by decide +kernel⟩ ⟨by decide, by decide⟩) (mo_m (by decide)) rfl rfl rfl (Nat.le_of_ble_eq_true rfl) dM_change_36 ⟨by decide, by decide⟩ ?_
  refine fd_aload_n C dM_change_39 rfl ?_
  refine fd_get C (k := 0) (i := 0) (j := 10) (v := .ref (ad 5 0)) (mo_m (by decide)) rfl rfl (by decide) wsM fw3_47 rfl dM_change_40 ?_
  refine fd_iload_n C dM_change_43 rfl ?_
  refine fd_iald C (k := 5) (i := 0) (x := n) (v := M 5 0 n) (mo_m (by decide)) (fun _ => rfl) (mo_tI cI) rfl (by omega) (by decide) rfl dM_change_44 ?_
  have e9 := mo_r_bd hok ((n : Nat) : Int) (f.toNat + 1) (by omega)
  refine fd_icmp_ge C (tgt := 52) dM_change_45 rfl ⟨by omega, by omega⟩ ⟨by omega, by omega⟩ (fun h45t => ?_) (fun h45f => ?_)
  · skip
    exfalso; omega
  · skip
    refine fd_iconst C dM_change_48 ?_
    refine fd_goto C (tgt := 53) dM_change_49 rfl ?_
    refine fd_put C (k := 0) (i := 0) (j := 0) (z := 3) (ty := .int) tyM (mo_m (by decide)) rfl rfl rfl (by decide) wsM tyM_ok nmM fw3_37 rfl (by decide +kernel) rfl rfl (Nat.le_of_ble_eq_true rfl) dM_change_53 ?_
    refine fd_aload_n C dM_change_56 rfl ?_
    refine fd_get C (k := 0) (i := 0) (j := 0) (v := .int (fd_I (3))) (mo_m (by decide)) rfl rfl (by decide) wsM fw3_37 (congrArg (fun z => some (Value.int (fd_I z))) (fd_u3_same M 0 0 0 (3))) dM_change_57 ?_
    refine fd_if_ne C (tgt := 74) dM_change_60 rfl ⟨by omega, by omega⟩ (fun h60t => ?_) (fun h60f => ?_)
    rotate_left
    · exfalso; omega
    exact fd_vret C hr hlk rfl dM_change_74
set_option maxRecDepth 20000 in
theorem mM_change (l : Launch) (D : va_G) (cI : ClassId) (ad : Nat → Nat → Nat) (M : fd_Mem) (n : Nat) (hn : (n : Int) < M 0 0 7) (hok : mo_ok M) (f : Int) (hf : 0 ≤ f ∧ f < 4) (hs : M 3 0 n = 1 ∨ M 3 0 n = 2) (hr9 : M 5 0 n ≤ mo_r M ((n : Nat) : Int) (f.toNat + 1)) (hok2 : mo_ok (fd_u3 (fd_u3 M 0 0 0 (0)) 4 0 n (f))) (dv : Nat) (Nv : fd_Mem) (hd : mo_sv dv 0 (fd_u3 (fd_u3 M 0 0 0 (0)) 4 0 n (f)) = some Nv) : mo_Mv l D cI ad yM_change wM_change ({ frames := 3, cells := 0, slots := 0, locals := 69 }) [.ref (ad 0 0), .int (fd_I ((n : Nat) : Int)), .int (fd_I (f))] M (Nv) := by
  have hm := hok.made
  have hn6 : n < 60 := by omega
  have e3 := hok.sta hn6
  have e4 := hok.far hn6
  have e5 := hok.pla hn6
  have e6 := hok.sea hn6
  have e8 := hok.pai hn6
  refine fd_enterV (by decide) rfl mo_nd (by simp [Value.category]) (Nat.le_of_ble_eq_true rfl) ?_
  intro A p e s m args below meth c C hr hlk hE
  have C : fd_C p m c cM_change 3 s args fd_T "FareDeskModel" D fd_cl (mo_tys cI) mo_wl A := C
  refine fd_pad 0 ?_
  refine fd_aload_n C dM_change_0 rfl ?_
  refine fd_aload_n C dM_change_1 rfl ?_
  refine fd_iload_n C dM_change_2 rfl ?_
  refine fd_callVi C hE [.int (fd_I ((n : Nat) : Int))] (k := 0) (i := 0) (mM_noBooking_0 l D cI ad M n hok.made hn) (cwV 1 C.1.2.2.2.2 (gM_noBooking fw3_141) rfl rfl rfl ⟨rfl, by decide, by decide, by decide +kernel⟩ ⟨by decide, by decide⟩) (mo_m (by decide)) rfl rfl rfl (Nat.le_of_ble_eq_true rfl) dM_change_3 ⟨by decide, by decide⟩ ?_
  refine fd_if_ne C (tgt := 17) dM_change_6 rfl ⟨by omega, by omega⟩ (fun h6t => ?_) (fun h6f => ?_)
  · exfalso; omega
  refine fd_aload_n C dM_change_9 rfl ?_
  refine fd_iload_n C dM_change_10 rfl ?_
  refine fd_callVi C hE [.int (fd_I (f))] (k := 0) (i := 0) (mM_noFare_0 l D cI ad M f hf) (cwV 1 C.1.2.2.2.2 (gM_noFare fw3_97) rfl rfl rfl ⟨rfl, by decide, by decide, by decide +kernel⟩ ⟨by decide, by decide⟩) (mo_m (by decide)) rfl rfl rfl (Nat.le_of_ble_eq_true rfl) dM_change_11 ⟨by decide, by decide⟩ ?_
  refine fd_if_eq C (tgt := 21) dM_change_14 rfl ⟨by omega, by omega⟩ (fun h14t => ?_) (fun h14f => ?_)
  rotate_left
  · exfalso; omega
  refine fd_aload_n C dM_change_21 rfl ?_
  refine fd_iload_n C dM_change_22 rfl ?_
  refine fd_callVi C hE [.int (fd_I ((n : Nat) : Int))] (k := 0) (i := 0) (mM_counts_1 l D cI ad M n hn6 e3 hs) (cwV 1 C.1.2.2.2.2 (gM_counts fw3_109) rfl rfl rfl ⟨rfl, by decide, by decide, by decide +kernel⟩ ⟨by decide, by decide⟩) (mo_m (by decide)) rfl rfl rfl (Nat.le_of_ble_eq_true rfl) dM_change_23 ⟨by decide, by decide⟩ ?_
  refine fd_if_ne C (tgt := 33) dM_change_26 rfl ⟨by omega, by omega⟩ (fun h26t => ?_) (fun h26f => ?_)
  rotate_left
  · exfalso; omega
  refine fd_aload_n C dM_change_33 rfl ?_
  refine fd_iload_n C dM_change_34 rfl ?_
  refine fd_iload_n C dM_change_35 rfl ?_
  refine fd_callVi C hE [.int (fd_I (f)), .int (fd_I ((n : Nat) : Int))] (k := 0) (i := 0) (mM_roomOf l D cI ad M f ((n : Nat) : Int) hf (by omega) hok) (cwV 2 C.1.2.2.2.2 (gM_roomOf fw3_105) rfl rfl rfl ⟨rfl, by decide, by decide, by decide +kernel⟩ ⟨by decide, by decide⟩) (mo_m (by decide)) rfl rfl rfl (Nat.le_of_ble_eq_true rfl) dM_change_36 ⟨by decide, by decide⟩ ?_
  refine fd_aload_n C dM_change_39 rfl ?_
  refine fd_get C (k := 0) (i := 0) (j := 10) (v := .ref (ad 5 0)) (mo_m (by decide)) rfl rfl (by decide) wsM fw3_47 rfl dM_change_40 ?_
  refine fd_iload_n C dM_change_43 rfl ?_
  refine fd_iald C (k := 5) (i := 0) (x := n) (v := M 5 0 n) (mo_m (by decide)) (fun _ => rfl) (mo_tI cI) rfl (by omega) (by decide) rfl dM_change_44 ?_
  have e9 := mo_r_bd hok ((n : Nat) : Int) (f.toNat + 1) (by omega)
  refine fd_icmp_ge C (tgt := 52) dM_change_45 rfl ⟨by omega, by omega⟩ ⟨by omega, by omega⟩ (fun h45t => ?_) (fun h45f => ?_)
  · skip
    refine fd_iconst C dM_change_52 ?_
    refine fd_put C (k := 0) (i := 0) (j := 0) (z := 0) (ty := .int) tyM (mo_m (by decide)) rfl rfl rfl (by decide) wsM tyM_ok nmM fw3_37 rfl (by decide +kernel) rfl rfl (Nat.le_of_ble_eq_true rfl) dM_change_53 ?_
    refine fd_aload_n C dM_change_56 rfl ?_
    refine fd_get C (k := 0) (i := 0) (j := 0) (v := .int (fd_I (0))) (mo_m (by decide)) rfl rfl (by decide) wsM fw3_37 (congrArg (fun z => some (Value.int (fd_I z))) (fd_u3_same M 0 0 0 (0))) dM_change_57 ?_
    refine fd_if_ne C (tgt := 74) dM_change_60 rfl ⟨by omega, by omega⟩ (fun h60t => ?_) (fun h60f => ?_)
    · exfalso; omega
    refine fd_aload_n C dM_change_63 rfl ?_
    refine fd_get C (k := 0) (i := 0) (j := 9) (v := .ref (ad 4 0)) (mo_m (by decide)) rfl rfl (by decide) wsM fw3_46 rfl dM_change_64 ?_
    refine fd_iload_n C dM_change_67 rfl ?_
    refine fd_iload_n C dM_change_68 rfl ?_
    refine fd_iast C (k := 4) (i := 0) (x := n) (v := f) (mo_m (by decide)) (fun _ => rfl) (mo_tI cI) rfl (by omega) (by decide) dM_change_69 ?_
    refine fd_aload_n C dM_change_70 rfl ?_
    refine fd_callVv C hE [] (k := 0) (i := 0) (mM_serve l D cI ad (fd_u3 (fd_u3 M 0 0 0 (0)) 4 0 n (f)) hok2 dv Nv hd) (cwV 0 C.1.2.2.2.2 (gM_serve fw3_101) rfl rfl rfl ⟨rfl, by decide, by decide, by decide +kernel⟩ ⟨by decide, by decide⟩) (mo_m (by decide)) rfl rfl rfl (Nat.le_of_ble_eq_true rfl) dM_change_71 ⟨by decide, by decide⟩ ?_
    exact fd_vret C hr hlk rfl dM_change_74
  · skip
    exfalso; omega
set_option maxRecDepth 20000 in
theorem mM_give (l : Launch) (D : va_G) (cI : ClassId) (ad : Nat → Nat → Nat) (M : fd_Mem) (i : Nat) (hi : i < 60) (sq : Nat) (hq : sq < 60) (h9 : 0 ≤ M 9 0 i ∧ M 9 0 i < 6) : mo_Mv l D cI ad yM_give wM_give ({ frames := 0, cells := 0, slots := 0, locals := 0 }) [.ref (ad 0 0), .int (fd_I ((i : Nat) : Int)), .int (fd_I ((sq : Nat) : Int))] M (mo_gv M i sq) := by
  refine fd_enterV (by decide) rfl mo_nd (by simp [Value.category]) (Nat.le_of_ble_eq_true rfl) ?_
  intro A p e s m args below meth c C hr hlk hE
  have C : fd_C p m c cM_give 3 s args fd_T "FareDeskModel" D fd_cl (mo_tys cI) mo_wl A := C
  refine fd_pad 0 ?_
  refine fd_aload_n C dM_give_0 rfl ?_
  refine fd_get C (k := 0) (i := 0) (j := 15) (v := .ref (ad 10 0)) (mo_m (by decide)) rfl rfl (by decide) wsM fw3_52 rfl dM_give_1 ?_
  refine fd_bipush C dM_give_4 (by decide) ?_
  refine fd_iload_n C dM_give_6 rfl ?_
  refine fd_imul C dM_give_7 ?_
  refine fd_aload_n C dM_give_8 rfl ?_
  refine fd_get C (k := 0) (i := 0) (j := 14) (v := .ref (ad 9 0)) (mo_m (by decide)) rfl rfl (by decide) wsM fw3_51 rfl dM_give_9 ?_
  refine fd_iload_n C dM_give_12 rfl ?_
  refine fd_iald C (k := 9) (i := 0) (x := i) (v := M 9 0 i) (mo_m (by decide)) (fun _ => rfl) (mo_tI cI) rfl (by omega) (by decide) rfl dM_give_13 ?_
  refine fd_iadd C dM_give_14 ?_
  refine fd_iload_n C dM_give_15 rfl ?_
  refine fd_iast C (k := 10) (i := 0) (x := ((6 * (((i : Nat) : Int))) + (M 9 0 i)).toNat) (v := (((sq : Nat) : Int))) (mo_m (by decide)) (fun _ => rfl) (mo_tI cI) (Int.toNat_of_nonneg (by omega)).symm (by omega) (by decide) dM_give_16 ?_
  refine fd_aload_n C dM_give_17 rfl ?_
  refine fd_get C (k := 0) (i := 0) (j := 14) (v := .ref (ad 9 0)) (mo_m (by decide)) rfl rfl (by decide) wsM fw3_51 rfl dM_give_18 ?_
  refine fd_iload_n C dM_give_21 rfl ?_
  refine fd_dup2 C dM_give_22 rfl rfl ?_
  refine fd_iald C (k := 9) (i := 0) (x := i) (v := M 9 0 i) (mo_m (by decide)) (fun _ => rfl) (mo_tI cI) rfl (by omega) (by decide) rfl dM_give_23 ?_
  refine fd_iconst C dM_give_24 ?_
  refine fd_iadd C dM_give_25 ?_
  refine fd_iast C (k := 9) (i := 0) (x := i) (v := ((M 9 0 i) + 1)) (mo_m (by decide)) (fun _ => rfl) (mo_tI cI) rfl (by omega) (by decide) dM_give_26 ?_
  refine fd_aload_n C dM_give_27 rfl ?_
  refine fd_get C (k := 0) (i := 0) (j := 16) (v := .ref (ad 11 0)) (mo_m (by decide)) rfl rfl (by decide) wsM fw3_53 rfl dM_give_28 ?_
  refine fd_iload_n C dM_give_31 rfl ?_
  refine fd_iload_n C dM_give_32 rfl ?_
  refine fd_iconst C dM_give_33 ?_
  refine fd_iadd C dM_give_34 ?_
  refine fd_iast C (k := 11) (i := 0) (x := sq) (v := (((i + 1 : Nat) : Int))) (mo_m (by decide)) (fun _ => rfl) (mo_tI cI) rfl (by omega) (by decide) dM_give_35 ?_
  exact fd_vret C hr hlk rfl dM_give_36
set_option maxRecDepth 20000 in
theorem mM_freeSeats (l : Launch) (D : va_G) (cI : ClassId) (ad : Nat → Nat → Nat) (M : fd_Mem) (hm : 0 ≤ M 0 0 1 ∧ M 0 0 1 ≤ 60) (h11 : ∀ sq, sq < 60 → 0 ≤ M 11 0 sq ∧ M 11 0 sq ≤ 60) : mo_Mi l D cI ad yM_freeSeats wM_freeSeats ({ frames := 0, cells := 0, slots := 0, locals := 0 }) [.ref (ad 0 0)] M (mo_fr M (M 0 0 1).toNat) (M) := by
  refine fd_enterI (by decide) rfl mo_nd (by simp [Value.category]) (Nat.le_of_ble_eq_true rfl) ?_
  intro A p e s m args below meth c C hr hlk hE
  have C : fd_C p m c cM_freeSeats 3 s args fd_T "FareDeskModel" D fd_cl (mo_tys cI) mo_wl A := C
  refine fd_pad 2 ?_
  refine fd_iconst C dM_freeSeats_0 ?_
  refine fd_istore_n C dM_freeSeats_1 (by decide) ?_
  refine fd_iconst C dM_freeSeats_2 ?_
  refine fd_istore_n C dM_freeSeats_3 (by decide) ?_
  have hloop4 : ∀ (dd4 : Nat) (n : Nat), dd4 = (M 0 0 1).toNat - n → ((n : Int) ≤ M 0 0 1) → fd_J p l e ({ frames := 0, cells := 0, slots := 0, locals := 0 }) s m args below meth c D fd_cl A ad (mo_en cI ad) mo_wl 3 0 0 (MQ below (fd_QI D fd_cl (mo_tys cI) ad (mo_en cI ad) mo_wl A (mo_fr M (M 0 0 1).toNat) (M)) args s 0 0 A) M 4 [some (.ref (ad 0 0)), some (.int (fd_I (mo_fr M n))), some (.int (fd_I ((n : Nat) : Int)))] [] := by
    intro dd4
    induction dd4 using Nat.strongRecOn with
    | ind dd4 ih4 =>
      intro n hdd4 hn
      refine fd_iload_n C dM_freeSeats_4 rfl ?_
      refine fd_aload_n C dM_freeSeats_5 rfl ?_
      refine fd_get C (k := 0) (i := 0) (j := 1) (v := .int (fd_I (M 0 0 1))) (mo_m (by decide)) rfl rfl (by decide) wsM fw3_38 rfl dM_freeSeats_6 ?_
      refine fd_icmp_ge C (tgt := 35) dM_freeSeats_9 rfl ⟨by omega, by omega⟩ ⟨by omega, by omega⟩ (fun h9t => ?_) (fun h9f => ?_)
      · skip
        refine fd_iload_n C dM_freeSeats_35 rfl ?_
        exact fd_iret C hr hlk (by rw [show n = (M 0 0 1).toNat by omega]) rfl dM_freeSeats_36
      · skip
        refine fd_iload_n C dM_freeSeats_12 rfl ?_
        refine fd_aload_n C dM_freeSeats_13 rfl ?_
        refine fd_get C (k := 0) (i := 0) (j := 16) (v := .ref (ad 11 0)) (mo_m (by decide)) rfl rfl (by decide) wsM fw3_53 rfl dM_freeSeats_14 ?_
        refine fd_iload_n C dM_freeSeats_17 rfl ?_
        refine fd_iald C (k := 11) (i := 0) (x := n) (v := M 11 0 n) (mo_m (by decide)) (fun _ => rfl) (mo_tI cI) rfl (by omega) (by decide) rfl dM_freeSeats_18 ?_
        have e1 := h11 n (by omega)
        refine fd_if_ne C (tgt := 26) dM_freeSeats_19 rfl ⟨by omega, by omega⟩ (fun h19t => ?_) (fun h19f => ?_)
        · skip
          refine fd_iconst C dM_freeSeats_26 ?_
          refine fd_iadd C dM_freeSeats_27 ?_
          refine fd_istore_n C dM_freeSeats_28 (by decide) ?_
          refine fd_iinc C dM_freeSeats_29 rfl (by decide) ?_
          refine fd_goto C (tgt := 4) dM_freeSeats_32 rfl ?_
          have h9 := ih4 ((M 0 0 1).toNat - (n + 1)) (by omega) (n + 1) rfl (by omega)
          rw [mo_fr_s, if_neg (by omega)] at h9
          exact h9
        · skip
          refine fd_iconst C dM_freeSeats_22 ?_
          refine fd_goto C (tgt := 27) dM_freeSeats_23 rfl ?_
          refine fd_iadd C dM_freeSeats_27 ?_
          refine fd_istore_n C dM_freeSeats_28 (by decide) ?_
          refine fd_iinc C dM_freeSeats_29 rfl (by decide) ?_
          refine fd_goto C (tgt := 4) dM_freeSeats_32 rfl ?_
          have h9 := ih4 ((M 0 0 1).toNat - (n + 1)) (by omega) (n + 1) rfl (by omega)
          rw [mo_fr_s, if_pos (by omega)] at h9
          exact h9
  exact hloop4 _ 0 rfl (by omega)
set_option maxRecDepth 20000 in
theorem mM_hasAll_1 (l : Launch) (D : va_G) (cI : ClassId) (ad : Nat → Nat → Nat) (M : fd_Mem) (n : Nat) (hn6 : n < 60) (e3 : 0 ≤ M 3 0 n ∧ M 3 0 n ≤ 7) (e5 : 0 ≤ M 5 0 n ∧ M 5 0 n ≤ 6) (e6 : 0 ≤ M 9 0 n ∧ M 9 0 n ≤ M 5 0 n) (hs : ¬ (M 3 0 n = 2 ∧ M 9 0 n < M 5 0 n)) : mo_Mi l D cI ad yM_hasAll wM_hasAll ({ frames := 0, cells := 0, slots := 0, locals := 0 }) [.ref (ad 0 0), .int (fd_I ((n : Nat) : Int))] M (1) (M) := by
  refine fd_enterI (by decide) rfl mo_nd (by simp [Value.category]) (Nat.le_of_ble_eq_true rfl) ?_
  intro A p e s m args below meth c C hr hlk hE
  have C : fd_C p m c cM_hasAll 2 s args fd_T "FareDeskModel" D fd_cl (mo_tys cI) mo_wl A := C
  refine fd_pad 0 ?_
  refine fd_aload_n C dM_hasAll_0 rfl ?_
  refine fd_get C (k := 0) (i := 0) (j := 8) (v := .ref (ad 3 0)) (mo_m (by decide)) rfl rfl (by decide) wsM fw3_45 rfl dM_hasAll_1 ?_
  refine fd_iload_n C dM_hasAll_4 rfl ?_
  refine fd_iald C (k := 3) (i := 0) (x := n) (v := M 3 0 n) (mo_m (by decide)) (fun _ => rfl) (mo_tI cI) rfl (by omega) (by decide) rfl dM_hasAll_5 ?_
  refine fd_iconst C dM_hasAll_6 ?_
  refine fd_icmp_ne C (tgt := 25) dM_hasAll_7 rfl ⟨by omega, by omega⟩ ⟨by omega, by omega⟩ (fun h7t => ?_) (fun h7f => ?_)
  · skip
    refine fd_iconst C dM_hasAll_25 ?_
    refine fd_goto C (tgt := 30) dM_hasAll_26 rfl ?_
    exact fd_zret C hr hlk (by first | rfl | omega | (split <;> omega) | (simp; omega)) (by omega) rfl dM_hasAll_30
  · skip
    refine fd_aload_n C dM_hasAll_10 rfl ?_
    refine fd_get C (k := 0) (i := 0) (j := 14) (v := .ref (ad 9 0)) (mo_m (by decide)) rfl rfl (by decide) wsM fw3_51 rfl dM_hasAll_11 ?_
    refine fd_iload_n C dM_hasAll_14 rfl ?_
    refine fd_iald C (k := 9) (i := 0) (x := n) (v := M 9 0 n) (mo_m (by decide)) (fun _ => rfl) (mo_tI cI) rfl (by omega) (by decide) rfl dM_hasAll_15 ?_
    refine fd_aload_n C dM_hasAll_16 rfl ?_
    refine fd_get C (k := 0) (i := 0) (j := 10) (v := .ref (ad 5 0)) (mo_m (by decide)) rfl rfl (by decide) wsM fw3_47 rfl dM_hasAll_17 ?_
    refine fd_iload_n C dM_hasAll_20 rfl ?_
    refine fd_iald C (k := 5) (i := 0) (x := n) (v := M 5 0 n) (mo_m (by decide)) (fun _ => rfl) (mo_tI cI) rfl (by omega) (by decide) rfl dM_hasAll_21 ?_
    refine fd_icmp_ne C (tgt := 29) dM_hasAll_22 rfl ⟨by omega, by omega⟩ ⟨by omega, by omega⟩ (fun h22t => ?_) (fun h22f => ?_)
    · skip
      exfalso; omega
    · skip
      refine fd_iconst C dM_hasAll_25 ?_
      refine fd_goto C (tgt := 30) dM_hasAll_26 rfl ?_
      exact fd_zret C hr hlk (by first | rfl | omega | (split <;> omega) | (simp; omega)) (by omega) rfl dM_hasAll_30
set_option maxRecDepth 20000 in
theorem mM_hasAll_0 (l : Launch) (D : va_G) (cI : ClassId) (ad : Nat → Nat → Nat) (M : fd_Mem) (n : Nat) (hn6 : n < 60) (e3 : 0 ≤ M 3 0 n ∧ M 3 0 n ≤ 7) (e5 : 0 ≤ M 5 0 n ∧ M 5 0 n ≤ 6) (e6 : 0 ≤ M 9 0 n ∧ M 9 0 n ≤ M 5 0 n) (hs : M 3 0 n = 2 ∧ M 9 0 n < M 5 0 n) : mo_Mi l D cI ad yM_hasAll wM_hasAll ({ frames := 0, cells := 0, slots := 0, locals := 0 }) [.ref (ad 0 0), .int (fd_I ((n : Nat) : Int))] M (0) (M) := by
  refine fd_enterI (by decide) rfl mo_nd (by simp [Value.category]) (Nat.le_of_ble_eq_true rfl) ?_
  intro A p e s m args below meth c C hr hlk hE
  have C : fd_C p m c cM_hasAll 2 s args fd_T "FareDeskModel" D fd_cl (mo_tys cI) mo_wl A := C
  refine fd_pad 0 ?_
  refine fd_aload_n C dM_hasAll_0 rfl ?_
  refine fd_get C (k := 0) (i := 0) (j := 8) (v := .ref (ad 3 0)) (mo_m (by decide)) rfl rfl (by decide) wsM fw3_45 rfl dM_hasAll_1 ?_
  refine fd_iload_n C dM_hasAll_4 rfl ?_
  refine fd_iald C (k := 3) (i := 0) (x := n) (v := M 3 0 n) (mo_m (by decide)) (fun _ => rfl) (mo_tI cI) rfl (by omega) (by decide) rfl dM_hasAll_5 ?_
  refine fd_iconst C dM_hasAll_6 ?_
  refine fd_icmp_ne C (tgt := 25) dM_hasAll_7 rfl ⟨by omega, by omega⟩ ⟨by omega, by omega⟩ (fun h7t => ?_) (fun h7f => ?_)
  · skip
    exfalso; omega
  · skip
    refine fd_aload_n C dM_hasAll_10 rfl ?_
    refine fd_get C (k := 0) (i := 0) (j := 14) (v := .ref (ad 9 0)) (mo_m (by decide)) rfl rfl (by decide) wsM fw3_51 rfl dM_hasAll_11 ?_
    refine fd_iload_n C dM_hasAll_14 rfl ?_
    refine fd_iald C (k := 9) (i := 0) (x := n) (v := M 9 0 n) (mo_m (by decide)) (fun _ => rfl) (mo_tI cI) rfl (by omega) (by decide) rfl dM_hasAll_15 ?_
    refine fd_aload_n C dM_hasAll_16 rfl ?_
    refine fd_get C (k := 0) (i := 0) (j := 10) (v := .ref (ad 5 0)) (mo_m (by decide)) rfl rfl (by decide) wsM fw3_47 rfl dM_hasAll_17 ?_
    refine fd_iload_n C dM_hasAll_20 rfl ?_
    refine fd_iald C (k := 5) (i := 0) (x := n) (v := M 5 0 n) (mo_m (by decide)) (fun _ => rfl) (mo_tI cI) rfl (by omega) (by decide) rfl dM_hasAll_21 ?_
    refine fd_icmp_ne C (tgt := 29) dM_hasAll_22 rfl ⟨by omega, by omega⟩ ⟨by omega, by omega⟩ (fun h22t => ?_) (fun h22f => ?_)
    · skip
      refine fd_iconst C dM_hasAll_29 ?_
      exact fd_zret C hr hlk (by first | rfl | omega | (split <;> omega) | (simp; omega)) (by omega) rfl dM_hasAll_30
    · skip
      exfalso; omega
set_option maxRecDepth 20000 in
theorem mM_seat_B (l : Launch) (D : va_G) (cI : ClassId) (ad : Nat → Nat → Nat) (M : fd_Mem) (n x : Int) (hn : -2147483648 ≤ n ∧ n < 2147483648) (hok : mo_ok M) (hb : n < 0 ∨ M 0 0 7 ≤ n) : mo_Mi l D cI ad yM_seat wM_seat ({ frames := 1, cells := 0, slots := 0, locals := 21 }) [.ref (ad 0 0), .int (fd_I (n)), .int (fd_I (x))] M (0) ((fd_u3 M 0 0 0 1)) := by
  refine fd_enterI (by decide) rfl mo_nd (by simp [Value.category]) (Nat.le_of_ble_eq_true rfl) ?_
  intro A p e s m args below meth c C hr hlk hE
  have C : fd_C p m c cM_seat 3 s args fd_T "FareDeskModel" D fd_cl (mo_tys cI) mo_wl A := C
  refine fd_pad 0 ?_
  refine fd_aload_n C dM_seat_0 rfl ?_
  refine fd_aload_n C dM_seat_1 rfl ?_
  refine fd_iload_n C dM_seat_2 rfl ?_
  refine fd_callVi C hE [.int (fd_I (n))] (k := 0) (i := 0) (mM_noBooking_1 l D cI ad M n hn hok.made hb) (cwV 1 C.1.2.2.2.2 (gM_noBooking fw3_141) rfl rfl rfl ⟨rfl, by decide, by decide, by decide +kernel⟩ ⟨by decide, by decide⟩) (mo_m (by decide)) rfl rfl rfl (Nat.le_of_ble_eq_true rfl) dM_seat_3 ⟨by decide, by decide⟩ ?_
  refine fd_if_ne C (tgt := 21) dM_seat_6 rfl ⟨by omega, by omega⟩ (fun h6t => ?_) (fun h6f => ?_)
  rotate_left
  · exfalso; omega
  refine fd_iconst C dM_seat_21 ?_
  refine fd_goto C (tgt := 51) dM_seat_22 rfl ?_
  refine fd_put C (k := 0) (i := 0) (j := 0) (z := 1) (ty := .int) tyM (mo_m (by decide)) rfl rfl rfl (by decide) wsM tyM_ok nmM fw3_37 rfl (by decide +kernel) rfl rfl (Nat.le_of_ble_eq_true rfl) dM_seat_51 ?_
  refine fd_aload_n C dM_seat_54 rfl ?_
  refine fd_get C (k := 0) (i := 0) (j := 0) (v := .int (fd_I (1))) (mo_m (by decide)) rfl rfl (by decide) wsM fw3_37 (congrArg (fun z => some (Value.int (fd_I z))) (fd_u3_same M 0 0 0 (1))) dM_seat_55 ?_
  refine fd_if_eq C (tgt := 63) dM_seat_58 rfl ⟨by omega, by omega⟩ (fun h58t => ?_) (fun h58f => ?_)
  · exfalso; omega
  refine fd_iconst C dM_seat_61 ?_
  exact fd_iret C hr hlk (by first | rfl | omega | (split <;> omega) | (simp; omega)) rfl dM_seat_62
set_option maxRecDepth 20000 in
theorem mM_seat_1 (l : Launch) (D : va_G) (cI : ClassId) (ad : Nat → Nat → Nat) (M : fd_Mem) (n : Nat) (hn : (n : Int) < M 0 0 7) (hok : mo_ok M) (x : Int) (hx : -2147483648 ≤ x ∧ x < 2147483648) (hb : x < 0 ∨ M 0 0 1 ≤ x) : mo_Mi l D cI ad yM_seat wM_seat ({ frames := 1, cells := 0, slots := 0, locals := 21 }) [.ref (ad 0 0), .int (fd_I ((n : Nat) : Int)), .int (fd_I (x))] M (0) ((fd_u3 M 0 0 0 1)) := by
  have hm := hok.made
  have hn6 : n < 60 := by omega
  have e3 := hok.sta hn6
  have e4 := hok.far hn6
  have e5 := hok.pla hn6
  have e6 := hok.sea hn6
  have e8 := hok.pai hn6
  have e1 := hok.cnt
  refine fd_enterI (by decide) rfl mo_nd (by simp [Value.category]) (Nat.le_of_ble_eq_true rfl) ?_
  intro A p e s m args below meth c C hr hlk hE
  have C : fd_C p m c cM_seat 3 s args fd_T "FareDeskModel" D fd_cl (mo_tys cI) mo_wl A := C
  refine fd_pad 0 ?_
  refine fd_aload_n C dM_seat_0 rfl ?_
  refine fd_aload_n C dM_seat_1 rfl ?_
  refine fd_iload_n C dM_seat_2 rfl ?_
  refine fd_callVi C hE [.int (fd_I ((n : Nat) : Int))] (k := 0) (i := 0) (mM_noBooking_0 l D cI ad M n hok.made hn) (cwV 1 C.1.2.2.2.2 (gM_noBooking fw3_141) rfl rfl rfl ⟨rfl, by decide, by decide, by decide +kernel⟩ ⟨by decide, by decide⟩) (mo_m (by decide)) rfl rfl rfl (Nat.le_of_ble_eq_true rfl) dM_seat_3 ⟨by decide, by decide⟩ ?_
  refine fd_if_ne C (tgt := 21) dM_seat_6 rfl ⟨by omega, by omega⟩ (fun h6t => ?_) (fun h6f => ?_)
  · exfalso; omega
  refine fd_iload_n C dM_seat_9 rfl ?_
  refine fd_if_lt C (tgt := 21) dM_seat_10 rfl ⟨by omega, by omega⟩ (fun h10t => ?_) (fun h10f => ?_)
  · skip
    refine fd_iconst C dM_seat_21 ?_
    refine fd_goto C (tgt := 51) dM_seat_22 rfl ?_
    refine fd_put C (k := 0) (i := 0) (j := 0) (z := 1) (ty := .int) tyM (mo_m (by decide)) rfl rfl rfl (by decide) wsM tyM_ok nmM fw3_37 rfl (by decide +kernel) rfl rfl (Nat.le_of_ble_eq_true rfl) dM_seat_51 ?_
    refine fd_aload_n C dM_seat_54 rfl ?_
    refine fd_get C (k := 0) (i := 0) (j := 0) (v := .int (fd_I (1))) (mo_m (by decide)) rfl rfl (by decide) wsM fw3_37 (congrArg (fun z => some (Value.int (fd_I z))) (fd_u3_same M 0 0 0 (1))) dM_seat_55 ?_
    refine fd_if_eq C (tgt := 63) dM_seat_58 rfl ⟨by omega, by omega⟩ (fun h58t => ?_) (fun h58f => ?_)
    · exfalso; omega
    refine fd_iconst C dM_seat_61 ?_
    exact fd_iret C hr hlk (by first | rfl | omega | (split <;> omega) | (simp; omega)) rfl dM_seat_62
  · skip
    refine fd_iload_n C dM_seat_13 rfl ?_
    refine fd_aload_n C dM_seat_14 rfl ?_
    refine fd_get C (k := 0) (i := 0) (j := 1) (v := .int (fd_I (M 0 0 1))) (mo_m (by decide)) rfl rfl (by decide) wsM fw3_38 rfl dM_seat_15 ?_
    refine fd_icmp_lt C (tgt := 25) dM_seat_18 rfl ⟨by omega, by omega⟩ ⟨by omega, by omega⟩ (fun h18t => ?_) (fun h18f => ?_)
    · skip
      exfalso; omega
    · skip
      refine fd_iconst C dM_seat_21 ?_
      refine fd_goto C (tgt := 51) dM_seat_22 rfl ?_
      refine fd_put C (k := 0) (i := 0) (j := 0) (z := 1) (ty := .int) tyM (mo_m (by decide)) rfl rfl rfl (by decide) wsM tyM_ok nmM fw3_37 rfl (by decide +kernel) rfl rfl (Nat.le_of_ble_eq_true rfl) dM_seat_51 ?_
      refine fd_aload_n C dM_seat_54 rfl ?_
      refine fd_get C (k := 0) (i := 0) (j := 0) (v := .int (fd_I (1))) (mo_m (by decide)) rfl rfl (by decide) wsM fw3_37 (congrArg (fun z => some (Value.int (fd_I z))) (fd_u3_same M 0 0 0 (1))) dM_seat_55 ?_
      refine fd_if_eq C (tgt := 63) dM_seat_58 rfl ⟨by omega, by omega⟩ (fun h58t => ?_) (fun h58f => ?_)
      · exfalso; omega
      refine fd_iconst C dM_seat_61 ?_
      exact fd_iret C hr hlk (by first | rfl | omega | (split <;> omega) | (simp; omega)) rfl dM_seat_62
set_option maxRecDepth 20000 in
theorem mM_seat_2 (l : Launch) (D : va_G) (cI : ClassId) (ad : Nat → Nat → Nat) (M : fd_Mem) (n : Nat) (hn : (n : Int) < M 0 0 7) (hok : mo_ok M) (sq : Nat) (hq : (sq : Int) < M 0 0 1) (hs : ¬ (M 3 0 n = 2 ∧ M 9 0 n < M 5 0 n))  : mo_Mi l D cI ad yM_seat wM_seat ({ frames := 1, cells := 0, slots := 0, locals := 21 }) [.ref (ad 0 0), .int (fd_I ((n : Nat) : Int)), .int (fd_I ((sq : Nat) : Int))] M (0) ((fd_u3 M 0 0 0 2)) := by
  have hm := hok.made
  have hn6 : n < 60 := by omega
  have e3 := hok.sta hn6
  have e4 := hok.far hn6
  have e5 := hok.pla hn6
  have e6 := hok.sea hn6
  have e8 := hok.pai hn6
  have e1 := hok.cnt
  refine fd_enterI (by decide) rfl mo_nd (by simp [Value.category]) (Nat.le_of_ble_eq_true rfl) ?_
  intro A p e s m args below meth c C hr hlk hE
  have C : fd_C p m c cM_seat 3 s args fd_T "FareDeskModel" D fd_cl (mo_tys cI) mo_wl A := C
  refine fd_pad 0 ?_
  refine fd_aload_n C dM_seat_0 rfl ?_
  refine fd_aload_n C dM_seat_1 rfl ?_
  refine fd_iload_n C dM_seat_2 rfl ?_
  refine fd_callVi C hE [.int (fd_I ((n : Nat) : Int))] (k := 0) (i := 0) (mM_noBooking_0 l D cI ad M n hok.made hn) (cwV 1 C.1.2.2.2.2 (gM_noBooking fw3_141) rfl rfl rfl ⟨rfl, by decide, by decide, by decide +kernel⟩ ⟨by decide, by decide⟩) (mo_m (by decide)) rfl rfl rfl (Nat.le_of_ble_eq_true rfl) dM_seat_3 ⟨by decide, by decide⟩ ?_
  refine fd_if_ne C (tgt := 21) dM_seat_6 rfl ⟨by omega, by omega⟩ (fun h6t => ?_) (fun h6f => ?_)
  · exfalso; omega
  refine fd_iload_n C dM_seat_9 rfl ?_
  refine fd_if_lt C (tgt := 21) dM_seat_10 rfl ⟨by omega, by omega⟩ (fun h10t => ?_) (fun h10f => ?_)
  · skip
    exfalso; omega
  · skip
    refine fd_iload_n C dM_seat_13 rfl ?_
    refine fd_aload_n C dM_seat_14 rfl ?_
    refine fd_get C (k := 0) (i := 0) (j := 1) (v := .int (fd_I (M 0 0 1))) (mo_m (by decide)) rfl rfl (by decide) wsM fw3_38 rfl dM_seat_15 ?_
    refine fd_icmp_lt C (tgt := 25) dM_seat_18 rfl ⟨by omega, by omega⟩ ⟨by omega, by omega⟩ (fun h18t => ?_) (fun h18f => ?_)
    · skip
      refine fd_aload_n C dM_seat_25 rfl ?_
      refine fd_iload_n C dM_seat_26 rfl ?_
      refine fd_callVi C hE [.int (fd_I ((n : Nat) : Int))] (k := 0) (i := 0) (mM_hasAll_1 l D cI ad M n hn6 e3 e5 e6 hs) (cwV 1 C.1.2.2.2.2 (gM_hasAll fw3_169) rfl rfl rfl ⟨rfl, by decide, by decide, by decide +kernel⟩ ⟨by decide, by decide⟩) (mo_m (by decide)) rfl rfl rfl (Nat.le_of_ble_eq_true rfl) dM_seat_27 ⟨by decide, by decide⟩ ?_
      refine fd_if_eq C (tgt := 37) dM_seat_30 rfl ⟨by omega, by omega⟩ (fun h30t => ?_) (fun h30f => ?_)
      · exfalso; omega
      refine fd_iconst C dM_seat_33 ?_
      refine fd_goto C (tgt := 51) dM_seat_34 rfl ?_
      refine fd_put C (k := 0) (i := 0) (j := 0) (z := 2) (ty := .int) tyM (mo_m (by decide)) rfl rfl rfl (by decide) wsM tyM_ok nmM fw3_37 rfl (by decide +kernel) rfl rfl (Nat.le_of_ble_eq_true rfl) dM_seat_51 ?_
      refine fd_aload_n C dM_seat_54 rfl ?_
      refine fd_get C (k := 0) (i := 0) (j := 0) (v := .int (fd_I (2))) (mo_m (by decide)) rfl rfl (by decide) wsM fw3_37 (congrArg (fun z => some (Value.int (fd_I z))) (fd_u3_same M 0 0 0 (2))) dM_seat_55 ?_
      refine fd_if_eq C (tgt := 63) dM_seat_58 rfl ⟨by omega, by omega⟩ (fun h58t => ?_) (fun h58f => ?_)
      · exfalso; omega
      refine fd_iconst C dM_seat_61 ?_
      exact fd_iret C hr hlk (by first | rfl | omega | (split <;> omega) | (simp; omega)) rfl dM_seat_62
    · skip
      exfalso; omega
set_option maxRecDepth 20000 in
theorem mM_seat_3 (l : Launch) (D : va_G) (cI : ClassId) (ad : Nat → Nat → Nat) (M : fd_Mem) (n : Nat) (hn : (n : Int) < M 0 0 7) (hok : mo_ok M) (sq : Nat) (hq : (sq : Int) < M 0 0 1) (hs : M 3 0 n = 2 ∧ M 9 0 n < M 5 0 n) (hf : M 11 0 sq ≠ 0) : mo_Mi l D cI ad yM_seat wM_seat ({ frames := 1, cells := 0, slots := 0, locals := 21 }) [.ref (ad 0 0), .int (fd_I ((n : Nat) : Int)), .int (fd_I ((sq : Nat) : Int))] M (0) ((fd_u3 M 0 0 0 3)) := by
  have hm := hok.made
  have hn6 : n < 60 := by omega
  have e3 := hok.sta hn6
  have e4 := hok.far hn6
  have e5 := hok.pla hn6
  have e6 := hok.sea hn6
  have e8 := hok.pai hn6
  have e1 := hok.cnt
  refine fd_enterI (by decide) rfl mo_nd (by simp [Value.category]) (Nat.le_of_ble_eq_true rfl) ?_
  intro A p e s m args below meth c C hr hlk hE
  have C : fd_C p m c cM_seat 3 s args fd_T "FareDeskModel" D fd_cl (mo_tys cI) mo_wl A := C
  refine fd_pad 0 ?_
  refine fd_aload_n C dM_seat_0 rfl ?_
  refine fd_aload_n C dM_seat_1 rfl ?_
  refine fd_iload_n C dM_seat_2 rfl ?_
  refine fd_callVi C hE [.int (fd_I ((n : Nat) : Int))] (k := 0) (i := 0) (mM_noBooking_0 l D cI ad M n hok.made hn) (cwV 1 C.1.2.2.2.2 (gM_noBooking fw3_141) rfl rfl rfl ⟨rfl, by decide, by decide, by decide +kernel⟩ ⟨by decide, by decide⟩) (mo_m (by decide)) rfl rfl rfl (Nat.le_of_ble_eq_true rfl) dM_seat_3 ⟨by decide, by decide⟩ ?_
  refine fd_if_ne C (tgt := 21) dM_seat_6 rfl ⟨by omega, by omega⟩ (fun h6t => ?_) (fun h6f => ?_)
  · exfalso; omega
  refine fd_iload_n C dM_seat_9 rfl ?_
  refine fd_if_lt C (tgt := 21) dM_seat_10 rfl ⟨by omega, by omega⟩ (fun h10t => ?_) (fun h10f => ?_)
  · skip
    exfalso; omega
  · skip
    refine fd_iload_n C dM_seat_13 rfl ?_
    refine fd_aload_n C dM_seat_14 rfl ?_
    refine fd_get C (k := 0) (i := 0) (j := 1) (v := .int (fd_I (M 0 0 1))) (mo_m (by decide)) rfl rfl (by decide) wsM fw3_38 rfl dM_seat_15 ?_
    refine fd_icmp_lt C (tgt := 25) dM_seat_18 rfl ⟨by omega, by omega⟩ ⟨by omega, by omega⟩ (fun h18t => ?_) (fun h18f => ?_)
    · skip
      refine fd_aload_n C dM_seat_25 rfl ?_
      refine fd_iload_n C dM_seat_26 rfl ?_
      refine fd_callVi C hE [.int (fd_I ((n : Nat) : Int))] (k := 0) (i := 0) (mM_hasAll_0 l D cI ad M n hn6 e3 e5 e6 hs) (cwV 1 C.1.2.2.2.2 (gM_hasAll fw3_169) rfl rfl rfl ⟨rfl, by decide, by decide, by decide +kernel⟩ ⟨by decide, by decide⟩) (mo_m (by decide)) rfl rfl rfl (Nat.le_of_ble_eq_true rfl) dM_seat_27 ⟨by decide, by decide⟩ ?_
      refine fd_if_eq C (tgt := 37) dM_seat_30 rfl ⟨by omega, by omega⟩ (fun h30t => ?_) (fun h30f => ?_)
      rotate_left
      · exfalso; omega
      refine fd_aload_n C dM_seat_37 rfl ?_
      refine fd_get C (k := 0) (i := 0) (j := 16) (v := .ref (ad 11 0)) (mo_m (by decide)) rfl rfl (by decide) wsM fw3_53 rfl dM_seat_38 ?_
      refine fd_iload_n C dM_seat_41 rfl ?_
      refine fd_iald C (k := 11) (i := 0) (x := sq) (v := M 11 0 sq) (mo_m (by decide)) (fun _ => rfl) (mo_tI cI) rfl (by omega) (by decide) rfl dM_seat_42 ?_
      have e7 := hok.own (show sq < 60 by omega)
      refine fd_if_le C (tgt := 50) dM_seat_43 rfl ⟨by omega, by omega⟩ (fun h43t => ?_) (fun h43f => ?_)
      · skip
        exfalso; omega
      · skip
        refine fd_iconst C dM_seat_46 ?_
        refine fd_goto C (tgt := 51) dM_seat_47 rfl ?_
        refine fd_put C (k := 0) (i := 0) (j := 0) (z := 3) (ty := .int) tyM (mo_m (by decide)) rfl rfl rfl (by decide) wsM tyM_ok nmM fw3_37 rfl (by decide +kernel) rfl rfl (Nat.le_of_ble_eq_true rfl) dM_seat_51 ?_
        refine fd_aload_n C dM_seat_54 rfl ?_
        refine fd_get C (k := 0) (i := 0) (j := 0) (v := .int (fd_I (3))) (mo_m (by decide)) rfl rfl (by decide) wsM fw3_37 (congrArg (fun z => some (Value.int (fd_I z))) (fd_u3_same M 0 0 0 (3))) dM_seat_55 ?_
        refine fd_if_eq C (tgt := 63) dM_seat_58 rfl ⟨by omega, by omega⟩ (fun h58t => ?_) (fun h58f => ?_)
        · exfalso; omega
        refine fd_iconst C dM_seat_61 ?_
        exact fd_iret C hr hlk (by first | rfl | omega | (split <;> omega) | (simp; omega)) rfl dM_seat_62
    · skip
      exfalso; omega
set_option maxRecDepth 20000 in
theorem mM_seat (l : Launch) (D : va_G) (cI : ClassId) (ad : Nat → Nat → Nat) (M : fd_Mem) (n : Nat) (hn : (n : Int) < M 0 0 7) (hok : mo_ok M) (sq : Nat) (hq : (sq : Int) < M 0 0 1) (hs : M 3 0 n = 2 ∧ M 9 0 n < M 5 0 n) (hf : M 11 0 sq = 0) : mo_Mi l D cI ad yM_seat wM_seat ({ frames := 1, cells := 0, slots := 0, locals := 22 }) [.ref (ad 0 0), .int (fd_I ((n : Nat) : Int)), .int (fd_I ((sq : Nat) : Int))] M (M 9 0 n + 1) (mo_gv (fd_u3 M 0 0 0 0) n sq) := by
  have hm := hok.made
  have hn6 : n < 60 := by omega
  have e3 := hok.sta hn6
  have e4 := hok.far hn6
  have e5 := hok.pla hn6
  have e6 := hok.sea hn6
  have e8 := hok.pai hn6
  have e1 := hok.cnt
  refine fd_enterI (by decide) rfl mo_nd (by simp [Value.category]) (Nat.le_of_ble_eq_true rfl) ?_
  intro A p e s m args below meth c C hr hlk hE
  have C : fd_C p m c cM_seat 3 s args fd_T "FareDeskModel" D fd_cl (mo_tys cI) mo_wl A := C
  refine fd_pad 0 ?_
  refine fd_aload_n C dM_seat_0 rfl ?_
  refine fd_aload_n C dM_seat_1 rfl ?_
  refine fd_iload_n C dM_seat_2 rfl ?_
  refine fd_callVi C hE [.int (fd_I ((n : Nat) : Int))] (k := 0) (i := 0) (mM_noBooking_0 l D cI ad M n hok.made hn) (cwV 1 C.1.2.2.2.2 (gM_noBooking fw3_141) rfl rfl rfl ⟨rfl, by decide, by decide, by decide +kernel⟩ ⟨by decide, by decide⟩) (mo_m (by decide)) rfl rfl rfl (Nat.le_of_ble_eq_true rfl) dM_seat_3 ⟨by decide, by decide⟩ ?_
  refine fd_if_ne C (tgt := 21) dM_seat_6 rfl ⟨by omega, by omega⟩ (fun h6t => ?_) (fun h6f => ?_)
  · exfalso; omega
  refine fd_iload_n C dM_seat_9 rfl ?_
  refine fd_if_lt C (tgt := 21) dM_seat_10 rfl ⟨by omega, by omega⟩ (fun h10t => ?_) (fun h10f => ?_)
  · skip
    exfalso; omega
  · skip
    refine fd_iload_n C dM_seat_13 rfl ?_
    refine fd_aload_n C dM_seat_14 rfl ?_
    refine fd_get C (k := 0) (i := 0) (j := 1) (v := .int (fd_I (M 0 0 1))) (mo_m (by decide)) rfl rfl (by decide) wsM fw3_38 rfl dM_seat_15 ?_
    refine fd_icmp_lt C (tgt := 25) dM_seat_18 rfl ⟨by omega, by omega⟩ ⟨by omega, by omega⟩ (fun h18t => ?_) (fun h18f => ?_)
    · skip
      refine fd_aload_n C dM_seat_25 rfl ?_
      refine fd_iload_n C dM_seat_26 rfl ?_
      refine fd_callVi C hE [.int (fd_I ((n : Nat) : Int))] (k := 0) (i := 0) (mM_hasAll_0 l D cI ad M n hn6 e3 e5 e6 hs) (cwV 1 C.1.2.2.2.2 (gM_hasAll fw3_169) rfl rfl rfl ⟨rfl, by decide, by decide, by decide +kernel⟩ ⟨by decide, by decide⟩) (mo_m (by decide)) rfl rfl rfl (Nat.le_of_ble_eq_true rfl) dM_seat_27 ⟨by decide, by decide⟩ ?_
      refine fd_if_eq C (tgt := 37) dM_seat_30 rfl ⟨by omega, by omega⟩ (fun h30t => ?_) (fun h30f => ?_)
      rotate_left
      · exfalso; omega
      refine fd_aload_n C dM_seat_37 rfl ?_
      refine fd_get C (k := 0) (i := 0) (j := 16) (v := .ref (ad 11 0)) (mo_m (by decide)) rfl rfl (by decide) wsM fw3_53 rfl dM_seat_38 ?_
      refine fd_iload_n C dM_seat_41 rfl ?_
      refine fd_iald C (k := 11) (i := 0) (x := sq) (v := M 11 0 sq) (mo_m (by decide)) (fun _ => rfl) (mo_tI cI) rfl (by omega) (by decide) rfl dM_seat_42 ?_
      have e7 := hok.own (show sq < 60 by omega)
      refine fd_if_le C (tgt := 50) dM_seat_43 rfl ⟨by omega, by omega⟩ (fun h43t => ?_) (fun h43f => ?_)
      · skip
        refine fd_iconst C dM_seat_50 ?_
        refine fd_put C (k := 0) (i := 0) (j := 0) (z := 0) (ty := .int) tyM (mo_m (by decide)) rfl rfl rfl (by decide) wsM tyM_ok nmM fw3_37 rfl (by decide +kernel) rfl rfl (Nat.le_of_ble_eq_true rfl) dM_seat_51 ?_
        refine fd_aload_n C dM_seat_54 rfl ?_
        refine fd_get C (k := 0) (i := 0) (j := 0) (v := .int (fd_I (0))) (mo_m (by decide)) rfl rfl (by decide) wsM fw3_37 (congrArg (fun z => some (Value.int (fd_I z))) (fd_u3_same M 0 0 0 (0))) dM_seat_55 ?_
        refine fd_if_eq C (tgt := 63) dM_seat_58 rfl ⟨by omega, by omega⟩ (fun h58t => ?_) (fun h58f => ?_)
        rotate_left
        · exfalso; omega
        refine fd_aload_n C dM_seat_63 rfl ?_
        refine fd_iload_n C dM_seat_64 rfl ?_
        refine fd_iload_n C dM_seat_65 rfl ?_
        refine fd_callVv C hE [.int (fd_I ((n : Nat) : Int)), .int (fd_I ((sq : Nat) : Int))] (k := 0) (i := 0) (mM_give l D cI ad (fd_u3 M 0 0 0 (0)) n hn6 sq (by omega) (show 0 ≤ M 9 0 n ∧ M 9 0 n < 6 by omega)) (cwV 2 C.1.2.2.2.2 (gM_give fw3_173) rfl rfl rfl ⟨rfl, by decide, by decide, by decide +kernel⟩ ⟨by decide, by decide⟩) (mo_m (by decide)) rfl rfl rfl (Nat.le_of_ble_eq_true rfl) dM_seat_66 ⟨by decide, by decide⟩ ?_
        refine fd_aload_n C dM_seat_69 rfl ?_
        refine fd_get C (k := 0) (i := 0) (j := 14) (v := .ref (ad 9 0)) (mo_m (by decide)) rfl rfl (by decide) wsM fw3_51 rfl dM_seat_70 ?_
        refine fd_iload_n C dM_seat_73 rfl ?_
        refine fd_iald C (k := 9) (i := 0) (x := n) (v := (mo_gv (fd_u3 M 0 0 0 (0)) n sq) 9 0 n) (mo_m (by decide)) (fun _ => rfl) (mo_tI cI) rfl (by omega) (by decide) rfl dM_seat_74 ?_
        exact fd_iret C hr hlk (by simp [mo_gv, fd_u3_at]) rfl dM_seat_75
      · skip
        exfalso; omega
    · skip
      exfalso; omega
