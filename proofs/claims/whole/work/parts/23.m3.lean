/-! the desk: its own small methods -/
set_option maxRecDepth 20000 in
theorem mD_find (l : Launch) (D : va_G) (cI cB : ClassId) (L : Nat) (ad : Nat → Nat → Nat) (M : fd_Mem) (n : Nat) (hn : (n : Int) < M 0 0 3) (hm : 0 ≤ M 0 0 3 ∧ M 0 0 3 ≤ 60)  : ds_Mr l D cI cB L ad yD_find wD_find ({ frames := 0, cells := 0, slots := 0, locals := 0 }) [.ref (ad 0 0), .int (fd_I ((n : Nat) : Int))] M (ad 8 n) (M) := by
  refine fd_enterR (by decide) rfl ds_nd (by simp [Value.category]) (Nat.le_of_ble_eq_true rfl) ?_
  intro A p e s m args below meth c C hr hlk hE
  have C : fd_C p m c cD_find 2 s args fd_T "FareDesk" D fd_cl (ds_tys cI cB) ds_wl A := C
  refine fd_pad 0 ?_
  refine fd_iload_n C dD_find_0 rfl ?_
  refine fd_if_lt C (tgt := 12) dD_find_1 rfl ⟨by omega, by omega⟩ (fun h1t => ?_) (fun h1f => ?_)
  · skip
    exfalso; omega
  · skip
    refine fd_iload_n C dD_find_4 rfl ?_
    refine fd_aload_n C dD_find_5 rfl ?_
    refine fd_get C (k := 0) (i := 0) (j := 3) (v := .int (fd_I (M 0 0 3))) (ds_m (by decide)) rfl rfl (by decide) wsD fw1_116 rfl dD_find_6 ?_
    refine fd_icmp_lt C (tgt := 22) dD_find_9 rfl ⟨by omega, by omega⟩ ⟨by omega, by omega⟩ (fun h9t => ?_) (fun h9f => ?_)
    · skip
      refine fd_aload_n C dD_find_22 rfl ?_
      refine fd_get C (k := 0) (i := 0) (j := 2) (v := .ref (ad 1 0)) (ds_m (by decide)) rfl rfl (by decide) wsD fw1_115 rfl dD_find_23 ?_
      refine fd_iload_n C dD_find_26 rfl ?_
      refine fd_aald C (k := 1) (i := 0) (x := n) (a := ad 8 n) (ds_m (by decide)) rfl (ds_tB cI cB) rfl (by omega) (by decide) rfl dD_find_27 ?_
      exact fd_aret C hr hlk rfl dD_find_28
    · skip
      exfalso; omega
set_option maxRecDepth 20000 in
theorem mD_find_T (l : Launch) (D : va_G) (cI cB : ClassId) (L : Nat) (ad : Nat → Nat → Nat) (M : fd_Mem) (n : Int) (hn : -2147483648 ≤ n ∧ n < 2147483648) (hb : n < 0 ∨ M 0 0 3 ≤ n) (hm : 0 ≤ M 0 0 3 ∧ M 0 0 3 ≤ 60)  (hl : l.stackTraces = false) : ds_MT l D cI cB L ad yD_find wD_find ({ frames := 6, cells := 1, slots := 6, locals := 90 }) [.ref (ad 0 0), .int (fd_I (n))] M "java/lang/IllegalArgumentException" := by
  refine fd_enterT (by decide) rfl ds_nd (by simp [Value.category]) (Nat.le_of_ble_eq_true rfl) ?_
  intro A p e s m args below meth c C hlk hno hE
  have C : fd_C p m c cD_find 2 s args fd_T "FareDesk" D fd_cl (ds_tys cI cB) ds_wl A := C
  refine fd_pad 0 ?_
  refine fd_iload_n C dD_find_0 rfl ?_
  refine fd_if_lt C (tgt := 12) dD_find_1 rfl ⟨by omega, by omega⟩ (fun h1t => ?_) (fun h1f => ?_)
  · skip
    exact fd_throwI C hl hE (text := "no such booking") (List.mem_of_getElem? (i := 8) rfl) dD_find_12 dD_find_15 dD_find_16 dD_find_18 dD_find_21 hno hlk ⟨by decide, by decide, by decide, by decide⟩ rfl
  · skip
    refine fd_iload_n C dD_find_4 rfl ?_
    refine fd_aload_n C dD_find_5 rfl ?_
    refine fd_get C (k := 0) (i := 0) (j := 3) (v := .int (fd_I (M 0 0 3))) (ds_m (by decide)) rfl rfl (by decide) wsD fw1_116 rfl dD_find_6 ?_
    refine fd_icmp_lt C (tgt := 22) dD_find_9 rfl ⟨by omega, by omega⟩ ⟨by omega, by omega⟩ (fun h9t => ?_) (fun h9f => ?_)
    · skip
      exfalso; omega
    · skip
      exact fd_throwI C hl hE (text := "no such booking") (List.mem_of_getElem? (i := 8) rfl) dD_find_12 dD_find_15 dD_find_16 dD_find_18 dD_find_21 hno hlk ⟨by decide, by decide, by decide, by decide⟩ rfl
set_option maxRecDepth 20000 in
theorem mD_newBooking (l : Launch) (D : va_G) (cI cB : ClassId) (L : Nat) (ad : Nat → Nat → Nat) (M : fd_Mem) (f pl tk : Int) (hm : 0 ≤ M 0 0 3 ∧ M 0 0 3 < 60) : ds_Mr l D cI cB L ad yD_newBooking wD_newBooking ({ frames := 0, cells := 0, slots := 0, locals := 0 }) [.ref (ad 0 0), .int (fd_I (f)), .int (fd_I (pl)), .int (fd_I (tk))] M (ad 8 (M 0 0 3).toNat) (ds_new M f pl tk) := by
  refine fd_enterR (by decide) rfl ds_nd (by simp [Value.category]) (Nat.le_of_ble_eq_true rfl) ?_
  intro A p e s m args below meth c C hr hlk hE
  have C : fd_C p m c cD_newBooking 5 s args fd_T "FareDesk" D fd_cl (ds_tys cI cB) ds_wl A := C
  refine fd_pad 1 ?_
  refine fd_aload_n C dD_newBooking_0 rfl ?_
  refine fd_get C (k := 0) (i := 0) (j := 2) (v := .ref (ad 1 0)) (ds_m (by decide)) rfl rfl (by decide) wsD fw1_115 rfl dD_newBooking_1 ?_
  refine fd_aload_n C dD_newBooking_4 rfl ?_
  refine fd_get C (k := 0) (i := 0) (j := 3) (v := .int (fd_I (M 0 0 3))) (ds_m (by decide)) rfl rfl (by decide) wsD fw1_116 rfl dD_newBooking_5 ?_
  refine fd_aald C (k := 1) (i := 0) (x := (M 0 0 3).toNat) (a := ad 8 ((M 0 0 3).toNat)) (ds_m (by decide)) rfl (ds_tB cI cB) (Int.toNat_of_nonneg (by omega)).symm (by omega) (by decide) rfl dD_newBooking_8 ?_
  refine fd_astore C dD_newBooking_9 (by decide) ?_
  refine fd_aload_n C dD_newBooking_11 rfl ?_
  refine fd_dup C dD_newBooking_12 rfl ?_
  refine fd_get C (k := 0) (i := 0) (j := 3) (v := .int (fd_I (M 0 0 3))) (ds_m (by decide)) rfl rfl (by decide) wsD fw1_116 rfl dD_newBooking_13 ?_
  refine fd_iconst C dD_newBooking_16 ?_
  refine fd_iadd C dD_newBooking_17 ?_
  refine fd_put C (k := 0) (i := 0) (j := 3) (z := ((M 0 0 3) + 1)) (ty := .int) tyD (ds_m (by decide)) rfl rfl rfl (by decide) wsD tyD_ok nmD fw1_116 rfl (by decide +kernel) rfl rfl (Nat.le_of_ble_eq_true rfl) dD_newBooking_18 ?_
  refine fd_aload C dD_newBooking_21 rfl ?_
  refine fd_iload_n C dD_newBooking_23 rfl ?_
  refine fd_put C (k := 8) (i := ((M 0 0 3).toNat)) (j := 4) (z := f) (ty := .int) tyB (ds_m8 (by omega)) rfl rfl rfl (by decide) wsB tyB_ok nmB fw1_86 rfl (by decide +kernel) rfl rfl (Nat.le_of_ble_eq_true rfl) dD_newBooking_24 ?_
  refine fd_aload C dD_newBooking_27 rfl ?_
  refine fd_iload_n C dD_newBooking_29 rfl ?_
  refine fd_put C (k := 8) (i := ((M 0 0 3).toNat)) (j := 5) (z := pl) (ty := .int) tyB (ds_m8 (by omega)) rfl rfl rfl (by decide) wsB tyB_ok nmB fw1_89 rfl (by decide +kernel) rfl rfl (Nat.le_of_ble_eq_true rfl) dD_newBooking_30 ?_
  refine fd_aload C dD_newBooking_33 rfl ?_
  refine fd_iload_n C dD_newBooking_35 rfl ?_
  refine fd_put C (k := 8) (i := ((M 0 0 3).toNat)) (j := 7) (z := tk) (ty := .int) tyB (ds_m8 (by omega)) rfl rfl rfl (by decide) wsB tyB_ok nmB fw1_92 rfl (by decide +kernel) rfl rfl (Nat.le_of_ble_eq_true rfl) dD_newBooking_36 ?_
  refine fd_aload C dD_newBooking_39 rfl ?_
  exact fd_aret C hr hlk rfl dD_newBooking_41
set_option maxRecDepth 20000 in
theorem mD_startHolding (l : Launch) (D : va_G) (cI cB : ClassId) (L : Nat) (ad : Nat → Nat → Nat) (M : fd_Mem) (i : Nat) (hi : i < 60) (h4 : 0 ≤ M 8 i 4 ∧ M 8 i 4 ≤ 3)  : ds_Mv l D cI cB L ad yD_startHolding wD_startHolding ({ frames := 0, cells := 0, slots := 0, locals := 0 }) [.ref (ad 0 0), .ref (ad 8 i)] M (ds_hold M i) := by
  refine fd_enterV (by decide) rfl ds_nd (by simp [Value.category]) (Nat.le_of_ble_eq_true rfl) ?_
  intro A p e s m args below meth c C hr hlk hE
  have C : fd_C p m c cD_startHolding 2 s args fd_T "FareDesk" D fd_cl (ds_tys cI cB) ds_wl A := C
  refine fd_pad 0 ?_
  refine fd_aload_n C dD_startHolding_0 rfl ?_
  refine fd_iconst C dD_startHolding_1 ?_
  refine fd_put C (k := 8) (i := i) (j := 3) (z := 1) (ty := .int) tyB (ds_m8 hi) rfl rfl rfl (by decide) wsB tyB_ok nmB fw1_84 rfl (by decide +kernel) rfl rfl (Nat.le_of_ble_eq_true rfl) dD_startHolding_2 ?_
  refine fd_aload_n C dD_startHolding_5 rfl ?_
  refine fd_aload_n C dD_startHolding_6 rfl ?_
  refine fd_get C (k := 0) (i := 0) (j := 4) (v := .int (fd_I (M 0 0 4))) (ds_m (by decide)) rfl rfl (by decide) wsD fw1_117 rfl dD_startHolding_7 ?_
  refine fd_aload_n C dD_startHolding_10 rfl ?_
  refine fd_get C (k := 8) (i := i) (j := 7) (v := .int (fd_I (M 8 i 7))) (ds_m8 hi) rfl rfl (by decide) wsB fw1_92 rfl dD_startHolding_11 ?_
  refine fd_iadd C dD_startHolding_14 ?_
  refine fd_put C (k := 8) (i := i) (j := 8) (z := ((M 0 0 4) + (M 8 i 7))) (ty := .int) tyB (ds_m8 hi) rfl rfl rfl (by decide) wsB tyB_ok nmB fw1_93 rfl (by decide +kernel) rfl rfl (Nat.le_of_ble_eq_true rfl) dD_startHolding_15 ?_
  refine fd_aload_n C dD_startHolding_18 rfl ?_
  refine fd_get C (k := 0) (i := 0) (j := 0) (v := .ref (ad 2 0)) (ds_m (by decide)) rfl rfl (by decide) wsD fw1_113 rfl dD_startHolding_19 ?_
  refine fd_get C (k := 2) (i := 0) (j := 2) (v := .ref (ad 5 0)) (ds_m (by decide)) rfl rfl (by decide) wsF fw1_44 rfl dD_startHolding_22 ?_
  refine fd_aload_n C dD_startHolding_25 rfl ?_
  refine fd_get C (k := 8) (i := i) (j := 4) (v := .int (fd_I (M 8 i 4))) (ds_m8 hi) rfl rfl (by decide) wsB fw1_86 rfl dD_startHolding_26 ?_
  refine fd_dup2 C dD_startHolding_29 rfl rfl ?_
  refine fd_iald C (k := 5) (i := 0) (x := (M 8 i 4).toNat) (v := M 5 0 ((M 8 i 4).toNat)) (ds_m (by decide)) (fun _ => rfl) (ds_tI cI cB) (Int.toNat_of_nonneg (by omega)).symm (by omega) (by decide) rfl dD_startHolding_30 ?_
  refine fd_aload_n C dD_startHolding_31 rfl ?_
  refine fd_get C (k := 8) (i := i) (j := 5) (v := .int (fd_I (M 8 i 5))) (ds_m8 hi) rfl rfl (by decide) wsB fw1_89 rfl dD_startHolding_32 ?_
  refine fd_iadd C dD_startHolding_35 ?_
  refine fd_iast C (k := 5) (i := 0) (x := (M 8 i 4).toNat) (v := ((M 5 0 ((M 8 i 4).toNat)) + (M 8 i 5))) (ds_m (by decide)) (fun _ => rfl) (ds_tI cI cB) (Int.toNat_of_nonneg (by omega)).symm (by omega) (by decide) dD_startHolding_36 ?_
  exact fd_vret C hr hlk rfl dD_startHolding_37
set_option maxRecDepth 20000 in
theorem mD_requireNewBooking (l : Launch) (D : va_G) (cI cB : ClassId) (L : Nat) (ad : Nat → Nat → Nat) (M : fd_Mem) (f pl tk : Int) (hf : (0 ≤ f ∧ f < 4)) (hp : (1 ≤ pl ∧ pl ≤ 6)) (ht : (1 ≤ tk ∧ tk ≤ 50)) (hc : M 0 0 6 = 0) (hm : 0 ≤ M 0 0 3 ∧ M 0 0 3 < 60) : ds_Mv l D cI cB L ad yD_requireNewBooking wD_requireNewBooking ({ frames := 1, cells := 0, slots := 0, locals := 21 }) [.ref (ad 0 0), .int (fd_I (f)), .int (fd_I (pl)), .int (fd_I (tk))] M (M) := by
  refine fd_enterV (by decide) rfl ds_nd (by simp [Value.category]) (Nat.le_of_ble_eq_true rfl) ?_
  intro A p e s m args below meth c C hr hlk hE
  have C : fd_C p m c cD_requireNewBooking 4 s args fd_T "FareDesk" D fd_cl (ds_tys cI cB) ds_wl A := C
  refine fd_pad 0 ?_
  refine fd_aload_n C dD_requireNewBooking_0 rfl ?_
  refine fd_iload_n C dD_requireNewBooking_1 rfl ?_
  refine fd_callVv C hE [.int (fd_I (f))] (k := 0) (i := 0) (mD_requireFare l D cI cB L ad M f hf) (cwV 1 C.1.2.2.2.2 (gD_requireFare fw1_155) rfl rfl rfl ⟨rfl, by decide, by decide, by decide +kernel⟩ ⟨by decide, by decide⟩) (ds_m (by decide)) rfl rfl rfl (Nat.le_of_ble_eq_true rfl) dD_requireNewBooking_2 ⟨by decide, by decide⟩ ?_
  refine fd_iload_n C dD_requireNewBooking_5 rfl ?_
  refine fd_iconst C dD_requireNewBooking_6 ?_
  refine fd_icmp_lt C (tgt := 16) dD_requireNewBooking_7 rfl ⟨by omega, by omega⟩ ⟨by omega, by omega⟩ (fun h7t => ?_) (fun h7f => ?_)
  · skip
    exfalso; omega
  · skip
    refine fd_iload_n C dD_requireNewBooking_10 rfl ?_
    refine fd_bipush C dD_requireNewBooking_11 (by decide) ?_
    refine fd_icmp_le C (tgt := 26) dD_requireNewBooking_13 rfl ⟨by omega, by omega⟩ ⟨by omega, by omega⟩ (fun h13t => ?_) (fun h13f => ?_)
    · skip
      refine fd_iload_n C dD_requireNewBooking_26 rfl ?_
      refine fd_iconst C dD_requireNewBooking_27 ?_
      refine fd_icmp_lt C (tgt := 37) dD_requireNewBooking_28 rfl ⟨by omega, by omega⟩ ⟨by omega, by omega⟩ (fun h28t => ?_) (fun h28f => ?_)
      · skip
        exfalso; omega
      · skip
        refine fd_iload_n C dD_requireNewBooking_31 rfl ?_
        refine fd_bipush C dD_requireNewBooking_32 (by decide) ?_
        refine fd_icmp_le C (tgt := 47) dD_requireNewBooking_34 rfl ⟨by omega, by omega⟩ ⟨by omega, by omega⟩ (fun h34t => ?_) (fun h34f => ?_)
        · skip
          refine fd_aload_n C dD_requireNewBooking_47 rfl ?_
          refine fd_callVv C hE [] (k := 0) (i := 0) (mD_requireOpen l D cI cB L ad M hc) (cwV 0 C.1.2.2.2.2 (gD_requireOpen fw1_232) rfl rfl rfl ⟨rfl, by decide, by decide, by decide +kernel⟩ ⟨by decide, by decide⟩) (ds_m (by decide)) rfl rfl rfl (Nat.le_of_ble_eq_true rfl) dD_requireNewBooking_48 ⟨by decide, by decide⟩ ?_
          refine fd_aload_n C dD_requireNewBooking_51 rfl ?_
          refine fd_get C (k := 0) (i := 0) (j := 3) (v := .int (fd_I (M 0 0 3))) (ds_m (by decide)) rfl rfl (by decide) wsD fw1_116 rfl dD_requireNewBooking_52 ?_
          refine fd_bipush C dD_requireNewBooking_55 (by decide) ?_
          refine fd_icmp_lt C (tgt := 70) dD_requireNewBooking_57 rfl ⟨by omega, by omega⟩ ⟨by omega, by omega⟩ (fun h57t => ?_) (fun h57f => ?_)
          · skip
            exact fd_vret C hr hlk rfl dD_requireNewBooking_70
          · skip
            exfalso; omega
        · skip
          exfalso; omega
    · skip
      exfalso; omega
set_option maxRecDepth 20000 in
theorem mD_requireNewBooking_TI (l : Launch) (D : va_G) (cI cB : ClassId) (L : Nat) (ad : Nat → Nat → Nat) (M : fd_Mem) (f pl tk : Int) (hf : -2147483648 ≤ f ∧ f < 2147483648) (hpl : -2147483648 ≤ pl ∧ pl < 2147483648) (htk : -2147483648 ≤ tk ∧ tk < 2147483648) (hb : ¬ ((0 ≤ f ∧ f < 4) ∧ (1 ≤ pl ∧ pl ≤ 6) ∧ (1 ≤ tk ∧ tk ≤ 50))) (hl : l.stackTraces = false) : ds_MT l D cI cB L ad yD_requireNewBooking wD_requireNewBooking ({ frames := 7, cells := 1, slots := 6, locals := 111 }) [.ref (ad 0 0), .int (fd_I (f)), .int (fd_I (pl)), .int (fd_I (tk))] M "java/lang/IllegalArgumentException" := by
  refine fd_enterT (by decide) rfl ds_nd (by simp [Value.category]) (Nat.le_of_ble_eq_true rfl) ?_
  intro A p e s m args below meth c C hlk hno hE
  have C : fd_C p m c cD_requireNewBooking 4 s args fd_T "FareDesk" D fd_cl (ds_tys cI cB) ds_wl A := C
  refine fd_pad 0 ?_
  refine fd_aload_n C dD_requireNewBooking_0 rfl ?_
  refine fd_iload_n C dD_requireNewBooking_1 rfl ?_
  by_cases hs2 : (0 ≤ f ∧ f < 4)
  · skip
    refine fd_callVv C hE [.int (fd_I (f))] (k := 0) (i := 0) (mD_requireFare l D cI cB L ad M f hs2) (cwV 1 C.1.2.2.2.2 (gD_requireFare fw1_155) rfl rfl rfl ⟨rfl, by decide, by decide, by decide +kernel⟩ ⟨by decide, by decide⟩) (ds_m (by decide)) rfl rfl rfl (Nat.le_of_ble_eq_true rfl) dD_requireNewBooking_2 ⟨by decide, by decide⟩ ?_
    refine fd_iload_n C dD_requireNewBooking_5 rfl ?_
    refine fd_iconst C dD_requireNewBooking_6 ?_
    refine fd_icmp_lt C (tgt := 16) dD_requireNewBooking_7 rfl ⟨by omega, by omega⟩ ⟨by omega, by omega⟩ (fun h7t => ?_) (fun h7f => ?_)
    · skip
      exact fd_throwI C hl hE (text := "no booking has so many places") (List.mem_of_getElem? (i := 4) rfl) dD_requireNewBooking_16 dD_requireNewBooking_19 dD_requireNewBooking_20 dD_requireNewBooking_22 dD_requireNewBooking_25 hno hlk ⟨by decide, by decide, by decide, by decide⟩ rfl
    · skip
      refine fd_iload_n C dD_requireNewBooking_10 rfl ?_
      refine fd_bipush C dD_requireNewBooking_11 (by decide) ?_
      refine fd_icmp_le C (tgt := 26) dD_requireNewBooking_13 rfl ⟨by omega, by omega⟩ ⟨by omega, by omega⟩ (fun h13t => ?_) (fun h13f => ?_)
      · skip
        refine fd_iload_n C dD_requireNewBooking_26 rfl ?_
        refine fd_iconst C dD_requireNewBooking_27 ?_
        refine fd_icmp_lt C (tgt := 37) dD_requireNewBooking_28 rfl ⟨by omega, by omega⟩ ⟨by omega, by omega⟩ (fun h28t => ?_) (fun h28f => ?_)
        · skip
          exact fd_throwI C hl hE (text := "none is held for so many ticks") (List.mem_of_getElem? (i := 5) rfl) dD_requireNewBooking_37 dD_requireNewBooking_40 dD_requireNewBooking_41 dD_requireNewBooking_43 dD_requireNewBooking_46 hno hlk ⟨by decide, by decide, by decide, by decide⟩ rfl
        · skip
          refine fd_iload_n C dD_requireNewBooking_31 rfl ?_
          refine fd_bipush C dD_requireNewBooking_32 (by decide) ?_
          refine fd_icmp_le C (tgt := 47) dD_requireNewBooking_34 rfl ⟨by omega, by omega⟩ ⟨by omega, by omega⟩ (fun h34t => ?_) (fun h34f => ?_)
          · skip
            exfalso; omega
          · skip
            exact fd_throwI C hl hE (text := "none is held for so many ticks") (List.mem_of_getElem? (i := 5) rfl) dD_requireNewBooking_37 dD_requireNewBooking_40 dD_requireNewBooking_41 dD_requireNewBooking_43 dD_requireNewBooking_46 hno hlk ⟨by decide, by decide, by decide, by decide⟩ rfl
      · skip
        exact fd_throwI C hl hE (text := "no booking has so many places") (List.mem_of_getElem? (i := 4) rfl) dD_requireNewBooking_16 dD_requireNewBooking_19 dD_requireNewBooking_20 dD_requireNewBooking_22 dD_requireNewBooking_25 hno hlk ⟨by decide, by decide, by decide, by decide⟩ rfl
  · skip
    exact fd_thruV C hE [.int (fd_I (f))] (k := 0) (i := 0) rfl (mD_requireFare_T l D cI cB L ad M f hf (by omega) hl) (cwV 1 C.1.2.2.2.2 (gD_requireFare fw1_155) rfl rfl rfl ⟨rfl, by decide, by decide, by decide +kernel⟩ ⟨by decide, by decide⟩) (ds_m (by decide)) rfl rfl rfl (Nat.le_of_ble_eq_true rfl) dD_requireNewBooking_2 ⟨by decide, by decide⟩ hno hlk
set_option maxRecDepth 20000 in
theorem mD_requireNewBooking_TS (l : Launch) (D : va_G) (cI cB : ClassId) (L : Nat) (ad : Nat → Nat → Nat) (M : fd_Mem) (f pl tk : Int) (hf : (0 ≤ f ∧ f < 4)) (hp : (1 ≤ pl ∧ pl ≤ 6)) (ht : (1 ≤ tk ∧ tk ≤ 50)) (hc : 0 ≤ M 0 0 6 ∧ M 0 0 6 ≤ 1) (hb : M 0 0 6 = 1 ∨ 60 ≤ M 0 0 3) (hm : 0 ≤ M 0 0 3 ∧ M 0 0 3 ≤ 60) (hl : l.stackTraces = false) : ds_MT l D cI cB L ad yD_requireNewBooking wD_requireNewBooking ({ frames := 7, cells := 1, slots := 6, locals := 110 }) [.ref (ad 0 0), .int (fd_I (f)), .int (fd_I (pl)), .int (fd_I (tk))] M "java/lang/IllegalStateException" := by
  refine fd_enterT (by decide) rfl ds_nd (by simp [Value.category]) (Nat.le_of_ble_eq_true rfl) ?_
  intro A p e s m args below meth c C hlk hno hE
  have C : fd_C p m c cD_requireNewBooking 4 s args fd_T "FareDesk" D fd_cl (ds_tys cI cB) ds_wl A := C
  refine fd_pad 0 ?_
  refine fd_aload_n C dD_requireNewBooking_0 rfl ?_
  refine fd_iload_n C dD_requireNewBooking_1 rfl ?_
  refine fd_callVv C hE [.int (fd_I (f))] (k := 0) (i := 0) (mD_requireFare l D cI cB L ad M f hf) (cwV 1 C.1.2.2.2.2 (gD_requireFare fw1_155) rfl rfl rfl ⟨rfl, by decide, by decide, by decide +kernel⟩ ⟨by decide, by decide⟩) (ds_m (by decide)) rfl rfl rfl (Nat.le_of_ble_eq_true rfl) dD_requireNewBooking_2 ⟨by decide, by decide⟩ ?_
  refine fd_iload_n C dD_requireNewBooking_5 rfl ?_
  refine fd_iconst C dD_requireNewBooking_6 ?_
  refine fd_icmp_lt C (tgt := 16) dD_requireNewBooking_7 rfl ⟨by omega, by omega⟩ ⟨by omega, by omega⟩ (fun h7t => ?_) (fun h7f => ?_)
  · skip
    exfalso; omega
  · skip
    refine fd_iload_n C dD_requireNewBooking_10 rfl ?_
    refine fd_bipush C dD_requireNewBooking_11 (by decide) ?_
    refine fd_icmp_le C (tgt := 26) dD_requireNewBooking_13 rfl ⟨by omega, by omega⟩ ⟨by omega, by omega⟩ (fun h13t => ?_) (fun h13f => ?_)
    · skip
      refine fd_iload_n C dD_requireNewBooking_26 rfl ?_
      refine fd_iconst C dD_requireNewBooking_27 ?_
      refine fd_icmp_lt C (tgt := 37) dD_requireNewBooking_28 rfl ⟨by omega, by omega⟩ ⟨by omega, by omega⟩ (fun h28t => ?_) (fun h28f => ?_)
      · skip
        exfalso; omega
      · skip
        refine fd_iload_n C dD_requireNewBooking_31 rfl ?_
        refine fd_bipush C dD_requireNewBooking_32 (by decide) ?_
        refine fd_icmp_le C (tgt := 47) dD_requireNewBooking_34 rfl ⟨by omega, by omega⟩ ⟨by omega, by omega⟩ (fun h34t => ?_) (fun h34f => ?_)
        · skip
          refine fd_aload_n C dD_requireNewBooking_47 rfl ?_
          by_cases hs48 : M 0 0 6 = 0
          · skip
            refine fd_callVv C hE [] (k := 0) (i := 0) (mD_requireOpen l D cI cB L ad M hs48) (cwV 0 C.1.2.2.2.2 (gD_requireOpen fw1_232) rfl rfl rfl ⟨rfl, by decide, by decide, by decide +kernel⟩ ⟨by decide, by decide⟩) (ds_m (by decide)) rfl rfl rfl (Nat.le_of_ble_eq_true rfl) dD_requireNewBooking_48 ⟨by decide, by decide⟩ ?_
            refine fd_aload_n C dD_requireNewBooking_51 rfl ?_
            refine fd_get C (k := 0) (i := 0) (j := 3) (v := .int (fd_I (M 0 0 3))) (ds_m (by decide)) rfl rfl (by decide) wsD fw1_116 rfl dD_requireNewBooking_52 ?_
            refine fd_bipush C dD_requireNewBooking_55 (by decide) ?_
            refine fd_icmp_lt C (tgt := 70) dD_requireNewBooking_57 rfl ⟨by omega, by omega⟩ ⟨by omega, by omega⟩ (fun h57t => ?_) (fun h57f => ?_)
            · skip
              exfalso; omega
            · skip
              exact fd_throwS C hl hE (text := "no more bookings") (List.mem_of_getElem? (i := 6) rfl) dD_requireNewBooking_60 dD_requireNewBooking_63 dD_requireNewBooking_64 dD_requireNewBooking_66 dD_requireNewBooking_69 hno hlk ⟨by decide, by decide, by decide, by decide⟩ rfl
          · skip
            exact fd_thruV C hE [] (k := 0) (i := 0) rfl (mD_requireOpen_T l D cI cB L ad M (by omega) hl) (cwV 0 C.1.2.2.2.2 (gD_requireOpen fw1_232) rfl rfl rfl ⟨rfl, by decide, by decide, by decide +kernel⟩ ⟨by decide, by decide⟩) (ds_m (by decide)) rfl rfl rfl (Nat.le_of_ble_eq_true rfl) dD_requireNewBooking_48 ⟨by decide, by decide⟩ hno hlk
        · skip
          exfalso; omega
    · skip
      exfalso; omega
set_option maxRecDepth 20000 in
theorem mD_requireRoom (l : Launch) (D : va_G) (cI cB : ClassId) (L : Nat) (ad : Nat → Nat → Nat) (M : fd_Mem) (f : Nat) (hf : f < 4) (pl : Int) (hp : 0 ≤ pl ∧ pl ≤ 6) (hb : ds_b35 M) (hr9 : pl ≤ ds_rm M f) : ds_Mv l D cI cB L ad yD_requireRoom wD_requireRoom ({ frames := 2, cells := 0, slots := 0, locals := 46 }) [.ref (ad 0 0), .int (fd_I ((f : Nat) : Int)), .int (fd_I (pl))] M (M) := by
  refine fd_enterV (by decide) rfl ds_nd (by simp [Value.category]) (Nat.le_of_ble_eq_true rfl) ?_
  intro A p e s m args below meth c C hr hlk hE
  have C : fd_C p m c cD_requireRoom 3 s args fd_T "FareDesk" D fd_cl (ds_tys cI cB) ds_wl A := C
  refine fd_pad 0 ?_
  refine fd_aload_n C dD_requireRoom_0 rfl ?_
  refine fd_get C (k := 0) (i := 0) (j := 0) (v := .ref (ad 2 0)) (ds_m (by decide)) rfl rfl (by decide) wsD fw1_113 rfl dD_requireRoom_1 ?_
  refine fd_iload_n C dD_requireRoom_4 rfl ?_
  refine fd_callVi C hE [.int (fd_I ((f : Nat) : Int))] (k := 2) (i := 0) (mF_roomIn l D cI cB L ad M f hf hb) (cwV 1 C.1.2.2.2.2 (gF_roomIn fw2_16) rfl rfl rfl ⟨rfl, by decide, by decide, by decide +kernel⟩ ⟨by decide, by decide⟩) (ds_m (by decide)) rfl rfl rfl (Nat.le_of_ble_eq_true rfl) dD_requireRoom_5 ⟨by decide, by decide⟩ ?_
  have e1 := ds_rm_bd hb f hf
  refine fd_iload_n C dD_requireRoom_8 rfl ?_
  refine fd_icmp_ge C (tgt := 22) dD_requireRoom_9 rfl ⟨by omega, by omega⟩ ⟨by omega, by omega⟩ (fun h9t => ?_) (fun h9f => ?_)
  · skip
    exact fd_vret C hr hlk rfl dD_requireRoom_22
  · skip
    exfalso; omega
set_option maxRecDepth 20000 in
theorem mD_requireRoom_T (l : Launch) (D : va_G) (cI cB : ClassId) (L : Nat) (ad : Nat → Nat → Nat) (M : fd_Mem) (f : Nat) (hf : f < 4) (pl : Int) (hp : 0 ≤ pl ∧ pl ≤ 6) (hb : ds_b35 M) (hr9 : ds_rm M f < pl) (hl : l.stackTraces = false) : ds_MT l D cI cB L ad yD_requireRoom wD_requireRoom ({ frames := 6, cells := 1, slots := 6, locals := 90 }) [.ref (ad 0 0), .int (fd_I ((f : Nat) : Int)), .int (fd_I (pl))] M "java/lang/UnsupportedOperationException" := by
  refine fd_enterT (by decide) rfl ds_nd (by simp [Value.category]) (Nat.le_of_ble_eq_true rfl) ?_
  intro A p e s m args below meth c C hlk hno hE
  have C : fd_C p m c cD_requireRoom 3 s args fd_T "FareDesk" D fd_cl (ds_tys cI cB) ds_wl A := C
  refine fd_pad 0 ?_
  refine fd_aload_n C dD_requireRoom_0 rfl ?_
  refine fd_get C (k := 0) (i := 0) (j := 0) (v := .ref (ad 2 0)) (ds_m (by decide)) rfl rfl (by decide) wsD fw1_113 rfl dD_requireRoom_1 ?_
  refine fd_iload_n C dD_requireRoom_4 rfl ?_
  refine fd_callVi C hE [.int (fd_I ((f : Nat) : Int))] (k := 2) (i := 0) (mF_roomIn l D cI cB L ad M f hf hb) (cwV 1 C.1.2.2.2.2 (gF_roomIn fw2_16) rfl rfl rfl ⟨rfl, by decide, by decide, by decide +kernel⟩ ⟨by decide, by decide⟩) (ds_m (by decide)) rfl rfl rfl (Nat.le_of_ble_eq_true rfl) dD_requireRoom_5 ⟨by decide, by decide⟩ ?_
  have e1 := ds_rm_bd hb f hf
  refine fd_iload_n C dD_requireRoom_8 rfl ?_
  refine fd_icmp_ge C (tgt := 22) dD_requireRoom_9 rfl ⟨by omega, by omega⟩ ⟨by omega, by omega⟩ (fun h9t => ?_) (fun h9f => ?_)
  · skip
    exfalso; omega
  · skip
    exact fd_throwU C hl hE (text := "no room in this fare") (List.mem_of_getElem? (i := 7) rfl) dD_requireRoom_12 dD_requireRoom_15 dD_requireRoom_16 dD_requireRoom_18 dD_requireRoom_21 hno hlk ⟨by decide, by decide, by decide, by decide⟩ rfl
set_option maxRecDepth 20000 in
theorem mD_requireCountingOrWaiting (l : Launch) (D : va_G) (cI cB : ClassId) (L : Nat) (ad : Nat → Nat → Nat) (M : fd_Mem) (i : Nat) (hi : i < 60) (h3 : 0 ≤ M 8 i 3 ∧ M 8 i 3 ≤ 7) (hs : M 8 i 3 = 1 ∨ M 8 i 3 = 2 ∨ M 8 i 3 = 3) : ds_Mv l D cI cB L ad yD_requireCountingOrWaiting wD_requireCountingOrWaiting ({ frames := 1, cells := 0, slots := 0, locals := 20 }) [.ref (ad 0 0), .ref (ad 8 i)] M (M) := by
  refine fd_enterV (by decide) rfl ds_nd (by simp [Value.category]) (Nat.le_of_ble_eq_true rfl) ?_
  intro A p e s m args below meth c C hr hlk hE
  have C : fd_C p m c cD_requireCountingOrWaiting 2 s args fd_T "FareDesk" D fd_cl (ds_tys cI cB) ds_wl A := C
  refine fd_pad 0 ?_
  refine fd_aload_n C dD_requireCountingOrWaiting_0 rfl ?_
  refine fd_callVi C hE [] (k := 8) (i := i) (mB_isCounting l D cI cB L ad M i hi h3) (cwV 0 C.1.2.2.2.2 (gB_isCounting fw2_114) rfl rfl rfl ⟨rfl, by decide, by decide, by decide +kernel⟩ ⟨by decide, by decide⟩) (ds_m8 hi) rfl rfl rfl (Nat.le_of_ble_eq_true rfl) dD_requireCountingOrWaiting_1 ⟨by decide, by decide⟩ ?_
  refine fd_if_ne C (tgt := 25) dD_requireCountingOrWaiting_4 rfl ⟨by split <;> omega, by split <;> omega⟩ (fun h4t => ?_) (fun h4f => ?_)
  · skip
    exact fd_vret C hr hlk rfl dD_requireCountingOrWaiting_25
  · skip
    refine fd_aload_n C dD_requireCountingOrWaiting_7 rfl ?_
    refine fd_get C (k := 8) (i := i) (j := 3) (v := .int (fd_I (M 8 i 3))) (ds_m8 hi) rfl rfl (by decide) wsB fw1_84 rfl dD_requireCountingOrWaiting_8 ?_
    refine fd_iconst C dD_requireCountingOrWaiting_11 ?_
    refine fd_icmp_eq C (tgt := 25) dD_requireCountingOrWaiting_12 rfl ⟨by omega, by omega⟩ ⟨by omega, by omega⟩ (fun h12t => ?_) (fun h12f => ?_)
    · skip
      exact fd_vret C hr hlk rfl dD_requireCountingOrWaiting_25
    · skip
      exfalso; split at h4f <;> omega
set_option maxRecDepth 20000 in
theorem mD_requireCountingOrWaiting_T (l : Launch) (D : va_G) (cI cB : ClassId) (L : Nat) (ad : Nat → Nat → Nat) (M : fd_Mem) (i : Nat) (hi : i < 60) (h3 : 0 ≤ M 8 i 3 ∧ M 8 i 3 ≤ 7) (hs : ¬ (M 8 i 3 = 1 ∨ M 8 i 3 = 2 ∨ M 8 i 3 = 3)) (hl : l.stackTraces = false) : ds_MT l D cI cB L ad yD_requireCountingOrWaiting wD_requireCountingOrWaiting ({ frames := 6, cells := 1, slots := 6, locals := 90 }) [.ref (ad 0 0), .ref (ad 8 i)] M "java/lang/IllegalStateException" := by
  refine fd_enterT (by decide) rfl ds_nd (by simp [Value.category]) (Nat.le_of_ble_eq_true rfl) ?_
  intro A p e s m args below meth c C hlk hno hE
  have C : fd_C p m c cD_requireCountingOrWaiting 2 s args fd_T "FareDesk" D fd_cl (ds_tys cI cB) ds_wl A := C
  refine fd_pad 0 ?_
  refine fd_aload_n C dD_requireCountingOrWaiting_0 rfl ?_
  refine fd_callVi C hE [] (k := 8) (i := i) (mB_isCounting l D cI cB L ad M i hi h3) (cwV 0 C.1.2.2.2.2 (gB_isCounting fw2_114) rfl rfl rfl ⟨rfl, by decide, by decide, by decide +kernel⟩ ⟨by decide, by decide⟩) (ds_m8 hi) rfl rfl rfl (Nat.le_of_ble_eq_true rfl) dD_requireCountingOrWaiting_1 ⟨by decide, by decide⟩ ?_
  refine fd_if_ne C (tgt := 25) dD_requireCountingOrWaiting_4 rfl ⟨by split <;> omega, by split <;> omega⟩ (fun h4t => ?_) (fun h4f => ?_)
  · skip
    exfalso; first | omega | (split at h4t <;> omega)
  · skip
    refine fd_aload_n C dD_requireCountingOrWaiting_7 rfl ?_
    refine fd_get C (k := 8) (i := i) (j := 3) (v := .int (fd_I (M 8 i 3))) (ds_m8 hi) rfl rfl (by decide) wsB fw1_84 rfl dD_requireCountingOrWaiting_8 ?_
    refine fd_iconst C dD_requireCountingOrWaiting_11 ?_
    refine fd_icmp_eq C (tgt := 25) dD_requireCountingOrWaiting_12 rfl ⟨by omega, by omega⟩ ⟨by omega, by omega⟩ (fun h12t => ?_) (fun h12f => ?_)
    · skip
      exfalso; first | omega | (split at h4t <;> omega)
    · skip
      exact fd_throwS C hl hE (text := "neither held, confirmed nor waiting") (List.mem_of_getElem? (i := 10) rfl) dD_requireCountingOrWaiting_15 dD_requireCountingOrWaiting_18 dD_requireCountingOrWaiting_19 dD_requireCountingOrWaiting_21 dD_requireCountingOrWaiting_24 hno hlk ⟨by decide, by decide, by decide, by decide⟩ rfl
set_option maxRecDepth 20000 in
theorem mD_requireSeatsMissing (l : Launch) (D : va_G) (cI cB : ClassId) (L : Nat) (ad : Nat → Nat → Nat) (M : fd_Mem) (i : Nat) (hi : i < 60) (h3 : 0 ≤ M 8 i 3 ∧ M 8 i 3 ≤ 7) (h2 : 0 ≤ M 8 i 2 ∧ M 8 i 2 ≤ M 8 i 5 ∧ M 8 i 5 ≤ 6) (hs : M 8 i 3 = 2 ∧ M 8 i 2 < M 8 i 5) : ds_Mv l D cI cB L ad yD_requireSeatsMissing wD_requireSeatsMissing ({ frames := 1, cells := 0, slots := 0, locals := 20 }) [.ref (ad 0 0), .ref (ad 8 i)] M (M) := by
  refine fd_enterV (by decide) rfl ds_nd (by simp [Value.category]) (Nat.le_of_ble_eq_true rfl) ?_
  intro A p e s m args below meth c C hr hlk hE
  have C : fd_C p m c cD_requireSeatsMissing 2 s args fd_T "FareDesk" D fd_cl (ds_tys cI cB) ds_wl A := C
  refine fd_pad 0 ?_
  refine fd_aload_n C dD_requireSeatsMissing_0 rfl ?_
  refine fd_get C (k := 8) (i := i) (j := 3) (v := .int (fd_I (M 8 i 3))) (ds_m8 hi) rfl rfl (by decide) wsB fw1_84 rfl dD_requireSeatsMissing_1 ?_
  refine fd_iconst C dD_requireSeatsMissing_4 ?_
  refine fd_icmp_eq C (tgt := 18) dD_requireSeatsMissing_5 rfl ⟨by omega, by omega⟩ ⟨by omega, by omega⟩ (fun h5t => ?_) (fun h5f => ?_)
  · skip
    refine fd_aload_n C dD_requireSeatsMissing_18 rfl ?_
    refine fd_callVi C hE [] (k := 8) (i := i) (mB_seatsMissing l D cI cB L ad M i hi) (cwV 0 C.1.2.2.2.2 (gB_seatsMissing fw2_174) rfl rfl rfl ⟨rfl, by decide, by decide, by decide +kernel⟩ ⟨by decide, by decide⟩) (ds_m8 hi) rfl rfl rfl (Nat.le_of_ble_eq_true rfl) dD_requireSeatsMissing_19 ⟨by decide, by decide⟩ ?_
    refine fd_if_gt C (tgt := 35) dD_requireSeatsMissing_22 rfl ⟨by omega, by omega⟩ (fun h22t => ?_) (fun h22f => ?_)
    · skip
      exact fd_vret C hr hlk rfl dD_requireSeatsMissing_35
    · skip
      exfalso; omega
  · skip
    exfalso; omega
set_option maxRecDepth 20000 in
theorem mD_requireSeatsMissing_T (l : Launch) (D : va_G) (cI cB : ClassId) (L : Nat) (ad : Nat → Nat → Nat) (M : fd_Mem) (i : Nat) (hi : i < 60) (h3 : 0 ≤ M 8 i 3 ∧ M 8 i 3 ≤ 7) (h2 : 0 ≤ M 8 i 2 ∧ M 8 i 2 ≤ M 8 i 5 ∧ M 8 i 5 ≤ 6) (hs : ¬ (M 8 i 3 = 2 ∧ M 8 i 2 < M 8 i 5)) (hl : l.stackTraces = false) : ds_MT l D cI cB L ad yD_requireSeatsMissing wD_requireSeatsMissing ({ frames := 6, cells := 1, slots := 6, locals := 90 }) [.ref (ad 0 0), .ref (ad 8 i)] M "java/lang/IllegalStateException" := by
  refine fd_enterT (by decide) rfl ds_nd (by simp [Value.category]) (Nat.le_of_ble_eq_true rfl) ?_
  intro A p e s m args below meth c C hlk hno hE
  have C : fd_C p m c cD_requireSeatsMissing 2 s args fd_T "FareDesk" D fd_cl (ds_tys cI cB) ds_wl A := C
  refine fd_pad 0 ?_
  refine fd_aload_n C dD_requireSeatsMissing_0 rfl ?_
  refine fd_get C (k := 8) (i := i) (j := 3) (v := .int (fd_I (M 8 i 3))) (ds_m8 hi) rfl rfl (by decide) wsB fw1_84 rfl dD_requireSeatsMissing_1 ?_
  refine fd_iconst C dD_requireSeatsMissing_4 ?_
  refine fd_icmp_eq C (tgt := 18) dD_requireSeatsMissing_5 rfl ⟨by omega, by omega⟩ ⟨by omega, by omega⟩ (fun h5t => ?_) (fun h5f => ?_)
  · skip
    refine fd_aload_n C dD_requireSeatsMissing_18 rfl ?_
    refine fd_callVi C hE [] (k := 8) (i := i) (mB_seatsMissing l D cI cB L ad M i hi) (cwV 0 C.1.2.2.2.2 (gB_seatsMissing fw2_174) rfl rfl rfl ⟨rfl, by decide, by decide, by decide +kernel⟩ ⟨by decide, by decide⟩) (ds_m8 hi) rfl rfl rfl (Nat.le_of_ble_eq_true rfl) dD_requireSeatsMissing_19 ⟨by decide, by decide⟩ ?_
    refine fd_if_gt C (tgt := 35) dD_requireSeatsMissing_22 rfl ⟨by omega, by omega⟩ (fun h22t => ?_) (fun h22f => ?_)
    · skip
      exfalso; omega
    · skip
      exact fd_throwS C hl hE (text := "each place has a seat") (List.mem_of_getElem? (i := 16) rfl) dD_requireSeatsMissing_25 dD_requireSeatsMissing_28 dD_requireSeatsMissing_29 dD_requireSeatsMissing_31 dD_requireSeatsMissing_34 hno hlk ⟨by decide, by decide, by decide, by decide⟩ rfl
  · skip
    exact fd_throwS C hl hE (text := "not confirmed") (List.mem_of_getElem? (i := 15) rfl) dD_requireSeatsMissing_8 dD_requireSeatsMissing_11 dD_requireSeatsMissing_12 dD_requireSeatsMissing_14 dD_requireSeatsMissing_17 hno hlk ⟨by decide, by decide, by decide, by decide⟩ rfl
set_option maxRecDepth 20000 in
theorem mD_serveWaiting (l : Launch) (D : va_G) (cI cB : ClassId) (L : Nat) (ad : Nat → Nat → Nat) (M : fd_Mem) (hm : 0 ≤ M 0 0 3 ∧ M 0 0 3 ≤ 60) (hok : ∀ n : Nat, (n : Int) ≤ M 0 0 3 → ds_ok L (ds_srv M n)) : ds_Mv l D cI cB L ad yD_serveWaiting wD_serveWaiting ({ frames := 2, cells := 0, slots := 0, locals := 46 }) [.ref (ad 0 0)] M (ds_serve M) := by
  refine fd_enterV (by decide) rfl ds_nd (by simp [Value.category]) (Nat.le_of_ble_eq_true rfl) ?_
  intro A p e s m args below meth c C hr hlk hE
  have C : fd_C p m c cD_serveWaiting 3 s args fd_T "FareDesk" D fd_cl (ds_tys cI cB) ds_wl A := C
  refine fd_pad 2 ?_
  refine fd_iconst C dD_serveWaiting_0 ?_
  refine fd_istore_n C dD_serveWaiting_1 (by decide) ?_
  have hloop2 : ∀ (dd2 : Nat) (n : Nat), dd2 = (M 0 0 3).toNat - n → ((n : Int) ≤ M 0 0 3) → fd_J p l e ({ frames := 2, cells := 0, slots := 0, locals := 46 }) s m args below meth c D fd_cl A ad (ds_en cI cB L ad) ds_wl 3 0 0 (MQ below (fd_QV D fd_cl (ds_tys cI cB) ad (ds_en cI cB L ad) ds_wl A (ds_serve M)) args s 0 0 A) (ds_srv M n) 2 [some (.ref (ad 0 0)), some (.int (fd_I ((n : Nat) : Int))), none] [] := by
    intro dd2
    induction dd2 using Nat.strongRecOn with
    | ind dd2 ih2 =>
      intro n hdd2 hn
      refine fd_iload_n C dD_serveWaiting_2 rfl ?_
      refine fd_aload_n C dD_serveWaiting_3 rfl ?_
      refine fd_get C (k := 0) (i := 0) (j := 3) (v := .int (fd_I ((ds_srv M n) 0 0 3))) (ds_m (by decide)) rfl rfl (by decide) wsD fw1_116 rfl dD_serveWaiting_4 ?_
      have e0 := ds_srv_0 M 3 n
      have ok := hok n hn
      refine fd_icmp_ge C (tgt := 54) dD_serveWaiting_7 rfl ⟨by omega, by omega⟩ ⟨by omega, by omega⟩ (fun h7t => ?_) (fun h7f => ?_)
      · skip
        exact fd_vret C hr hlk (by rw [show n = (M 0 0 3).toNat by omega]; rfl) dD_serveWaiting_54
      · skip
        refine fd_aload_n C dD_serveWaiting_10 rfl ?_
        refine fd_get C (k := 0) (i := 0) (j := 2) (v := .ref (ad 1 0)) (ds_m (by decide)) rfl rfl (by decide) wsD fw1_115 rfl dD_serveWaiting_11 ?_
        refine fd_iload_n C dD_serveWaiting_14 rfl ?_
        refine fd_aald C (k := 1) (i := 0) (x := n) (a := ad 8 n) (ds_m (by decide)) rfl (ds_tB cI cB) rfl (by omega) (by decide) rfl dD_serveWaiting_15 ?_
        refine fd_astore_n C dD_serveWaiting_16 (by decide) ?_
        refine fd_aload_n C dD_serveWaiting_17 rfl ?_
        refine fd_get C (k := 8) (i := n) (j := 3) (v := .int (fd_I ((ds_srv M n) 8 n 3))) (ds_m8 (by omega)) rfl rfl (by decide) wsB fw1_84 rfl dD_serveWaiting_18 ?_
        refine fd_iconst C dD_serveWaiting_21 ?_
        have e3 := ok.sta (show n < 60 by omega)
        have e4 := ok.far (show n < 60 by omega)
        have e5 := ok.sea (show n < 60 by omega)
        refine fd_icmp_ne C (tgt := 48) dD_serveWaiting_22 rfl ⟨by omega, by omega⟩ ⟨by omega, by omega⟩ (fun h22t => ?_) (fun h22f => ?_)
        · skip
          refine fd_iinc C dD_serveWaiting_48 rfl (by decide) ?_
          refine fd_goto C (tgt := 2) dD_serveWaiting_51 rfl ?_
          refine fd_drop 2 ?_
          have h9 := ih2 ((M 0 0 3).toNat - (n + 1)) (by omega) (n + 1) rfl (by omega)
          rw [ds_srv_s, if_neg (by omega)] at h9
          exact h9
        · skip
          refine fd_aload_n C dD_serveWaiting_25 rfl ?_
          refine fd_get C (k := 0) (i := 0) (j := 0) (v := .ref (ad 2 0)) (ds_m (by decide)) rfl rfl (by decide) wsD fw1_113 rfl dD_serveWaiting_26 ?_
          refine fd_aload_n C dD_serveWaiting_29 rfl ?_
          refine fd_get C (k := 8) (i := n) (j := 4) (v := .int (fd_I ((ds_srv M n) 8 n 4))) (ds_m8 (by omega)) rfl rfl (by decide) wsB fw1_86 rfl dD_serveWaiting_30 ?_
          refine fd_tp (b := ((((ds_srv M n) 8 n 4).toNat : Nat) : Int)) (Int.toNat_of_nonneg (by omega)).symm ?_
          refine fd_callVi C hE [.int (fd_I ((((ds_srv M n) 8 n 4).toNat : Nat) : Int))] (k := 2) (i := 0) (mF_roomIn l D cI cB L ad (ds_srv M n) ((ds_srv M n) 8 n 4).toNat (by omega) ok.b35) (cwV 1 C.1.2.2.2.2 (gF_roomIn fw2_16) rfl rfl rfl ⟨rfl, by decide, by decide, by decide +kernel⟩ ⟨by decide, by decide⟩) (ds_m (by decide)) rfl rfl rfl (Nat.le_of_ble_eq_true rfl) dD_serveWaiting_33 ⟨by decide, by decide⟩ ?_
          refine fd_aload_n C dD_serveWaiting_36 rfl ?_
          refine fd_get C (k := 8) (i := n) (j := 5) (v := .int (fd_I ((ds_srv M n) 8 n 5))) (ds_m8 (by omega)) rfl rfl (by decide) wsB fw1_89 rfl dD_serveWaiting_37 ?_
          have e6 := ds_rm_bd ok.b35 ((ds_srv M n) 8 n 4).toNat (by omega)
          refine fd_icmp_lt C (tgt := 48) dD_serveWaiting_40 rfl ⟨by omega, by omega⟩ ⟨by omega, by omega⟩ (fun h40t => ?_) (fun h40f => ?_)
          · skip
            refine fd_iinc C dD_serveWaiting_48 rfl (by decide) ?_
            refine fd_goto C (tgt := 2) dD_serveWaiting_51 rfl ?_
            refine fd_drop 2 ?_
            have h9 := ih2 ((M 0 0 3).toNat - (n + 1)) (by omega) (n + 1) rfl (by omega)
            rw [ds_srv_s, if_neg (by omega)] at h9
            exact h9
          · skip
            refine fd_aload_n C dD_serveWaiting_43 rfl ?_
            refine fd_aload_n C dD_serveWaiting_44 rfl ?_
            refine fd_callVv C hE [.ref (ad 8 n)] (k := 0) (i := 0) (mD_startHolding l D cI cB L ad (ds_srv M n) n (by omega) (by omega)) (cwV 1 C.1.2.2.2.2 (gD_startHolding fw2_25) rfl rfl rfl ⟨rfl, by decide, by decide, by decide +kernel⟩ ⟨by decide, by decide⟩) (ds_m (by decide)) rfl rfl rfl (Nat.le_of_ble_eq_true rfl) dD_serveWaiting_45 ⟨by decide, by decide⟩ ?_
            refine fd_iinc C dD_serveWaiting_48 rfl (by decide) ?_
            refine fd_goto C (tgt := 2) dD_serveWaiting_51 rfl ?_
            refine fd_drop 2 ?_
            have h9 := ih2 ((M 0 0 3).toNat - (n + 1)) (by omega) (n + 1) rfl (by omega)
            rw [ds_srv_s, if_pos ⟨by omega, by omega⟩] at h9
            exact h9
  exact hloop2 _ 0 rfl (by omega)
set_option maxRecDepth 20000 in
theorem mD_waitingBookings (l : Launch) (D : va_G) (cI cB : ClassId) (L : Nat) (ad : Nat → Nat → Nat) (M : fd_Mem) (hok : ds_ok L M) : ds_Mi l D cI cB L ad yD_waitingBookings wD_waitingBookings ({ frames := 0, cells := 0, slots := 0, locals := 0 }) [.ref (ad 0 0)] M (ds_wt M (M 0 0 3).toNat) (M) := by
  refine fd_enterI (by decide) rfl ds_nd (by simp [Value.category]) (Nat.le_of_ble_eq_true rfl) ?_
  intro A p e s m args below meth c C hr hlk hE
  have C : fd_C p m c cD_waitingBookings 3 s args fd_T "FareDesk" D fd_cl (ds_tys cI cB) ds_wl A := C
  refine fd_pad 2 ?_
  refine fd_iconst C dD_waitingBookings_0 ?_
  refine fd_istore_n C dD_waitingBookings_1 (by decide) ?_
  refine fd_iconst C dD_waitingBookings_2 ?_
  refine fd_istore_n C dD_waitingBookings_3 (by decide) ?_
  have hloop4 : ∀ (dd4 : Nat) (n : Nat), dd4 = (M 0 0 3).toNat - n → ((n : Int) ≤ M 0 0 3) → fd_J p l e ({ frames := 0, cells := 0, slots := 0, locals := 0 }) s m args below meth c D fd_cl A ad (ds_en cI cB L ad) ds_wl 3 0 0 (MQ below (fd_QI D fd_cl (ds_tys cI cB) ad (ds_en cI cB L ad) ds_wl A (ds_wt M (M 0 0 3).toNat) (M)) args s 0 0 A) M 4 [some (.ref (ad 0 0)), some (.int (fd_I (ds_wt M n))), some (.int (fd_I ((n : Nat) : Int)))] [] := by
    intro dd4
    induction dd4 using Nat.strongRecOn with
    | ind dd4 ih4 =>
      intro n hdd4 hn
      refine fd_iload_n C dD_waitingBookings_4 rfl ?_
      refine fd_aload_n C dD_waitingBookings_5 rfl ?_
      refine fd_get C (k := 0) (i := 0) (j := 3) (v := .int (fd_I (M 0 0 3))) (ds_m (by decide)) rfl rfl (by decide) wsD fw1_116 rfl dD_waitingBookings_6 ?_
      have e0 := hok.made
      refine fd_icmp_ge C (tgt := 34) dD_waitingBookings_9 rfl ⟨by omega, by omega⟩ ⟨by omega, by omega⟩ (fun h9t => ?_) (fun h9f => ?_)
      · skip
        refine fd_iload_n C dD_waitingBookings_34 rfl ?_
        exact fd_iret C hr hlk (by rw [show n = (M 0 0 3).toNat by omega]) rfl dD_waitingBookings_35
      · skip
        refine fd_aload_n C dD_waitingBookings_12 rfl ?_
        refine fd_get C (k := 0) (i := 0) (j := 2) (v := .ref (ad 1 0)) (ds_m (by decide)) rfl rfl (by decide) wsD fw1_115 rfl dD_waitingBookings_13 ?_
        refine fd_iload_n C dD_waitingBookings_16 rfl ?_
        refine fd_aald C (k := 1) (i := 0) (x := n) (a := ad 8 n) (ds_m (by decide)) rfl (ds_tB cI cB) rfl (by omega) (by decide) rfl dD_waitingBookings_17 ?_
        refine fd_get C (k := 8) (i := n) (j := 3) (v := .int (fd_I (M 8 n 3))) (ds_m8 (by omega)) rfl rfl (by decide) wsB fw1_84 rfl dD_waitingBookings_18 ?_
        refine fd_iconst C dD_waitingBookings_21 ?_
        have e3 := hok.sta (show n < 60 by omega)
        refine fd_icmp_ne C (tgt := 28) dD_waitingBookings_22 rfl ⟨by omega, by omega⟩ ⟨by omega, by omega⟩ (fun h22t => ?_) (fun h22f => ?_)
        · skip
          refine fd_iinc C dD_waitingBookings_28 rfl (by decide) ?_
          refine fd_goto C (tgt := 4) dD_waitingBookings_31 rfl ?_
          have h9 := ih4 ((M 0 0 3).toNat - (n + 1)) (by omega) (n + 1) rfl (by omega)
          rw [ds_wt_s, if_neg (by omega)] at h9
          exact h9
        · skip
          refine fd_iinc C dD_waitingBookings_25 rfl (by decide) ?_
          refine fd_iinc C dD_waitingBookings_28 rfl (by decide) ?_
          refine fd_goto C (tgt := 4) dD_waitingBookings_31 rfl ?_
          have h9 := ih4 ((M 0 0 3).toNat - (n + 1)) (by omega) (n + 1) rfl (by omega)
          rw [ds_wt_s, if_pos (by omega)] at h9
          exact h9
  exact hloop4 _ 0 rfl (by have := hok.made; omega)
set_option maxRecDepth 20000 in
theorem mD_payBack (l : Launch) (D : va_G) (cI cB : ClassId) (L : Nat) (ad : Nat → Nat → Nat) (M : fd_Mem) (i : Nat) (hi : i < 60) (n : Int) (hok : ds_ok L M) (hn : 0 ≤ n ∧ n ≤ 6) : ds_Mi l D cI cB L ad yD_payBack wD_payBack ({ frames := 1, cells := 0, slots := 0, locals := 22 }) [.ref (ad 0 0), .ref (ad 8 i), .int (fd_I (n))] M (ds_back M i n) (ds_pay M i n) := by
  have e1 := hok.sea hi
  have e2 := hok.far hi
  have e3 := ds_mul_bd (hok.pai hi) hn
  have e4 := ds_pf_bd (M := M) (i := i) (n := n) e3
  refine fd_enterI (by decide) rfl ds_nd (by simp [Value.category]) (Nat.le_of_ble_eq_true rfl) ?_
  intro A p e s m args below meth c C hr hlk hE
  have C : fd_C p m c cD_payBack 5 s args fd_T "FareDesk" D fd_cl (ds_tys cI cB) ds_wl A := C
  refine fd_pad 2 ?_
  refine fd_aload_n C dD_payBack_0 rfl ?_
  refine fd_iload_n C dD_payBack_1 rfl ?_
  refine fd_callVi C hE [.int (fd_I (n))] (k := 8) (i := i) (mB_paidFor l D cI cB L ad M i hi n (by omega) e3) (cwV 1 C.1.2.2.2.2 (gB_paidFor fw2_123) rfl rfl rfl ⟨rfl, by decide, by decide, by decide +kernel⟩ ⟨by decide, by decide⟩) (ds_m8 hi) rfl rfl rfl (Nat.le_of_ble_eq_true rfl) dD_payBack_2 ⟨by decide, by decide⟩ ?_
  refine fd_istore_n C dD_payBack_5 (by decide) ?_
  refine fd_aload_n C dD_payBack_6 rfl ?_
  refine fd_get C (k := 0) (i := 0) (j := 0) (v := .ref (ad 2 0)) (ds_m (by decide)) rfl rfl (by decide) wsD fw1_113 rfl dD_payBack_7 ?_
  refine fd_aload_n C dD_payBack_10 rfl ?_
  refine fd_get C (k := 8) (i := i) (j := 4) (v := .int (fd_I (M 8 i 4))) (ds_m8 hi) rfl rfl (by decide) wsB fw1_86 rfl dD_payBack_11 ?_
  refine fd_iload_n C dD_payBack_14 rfl ?_
  refine fd_callVi C hE [.int (fd_I (M 8 i 4)), .int (fd_I (ds_pf M i n))] (k := 2) (i := 0) (mF_partBack l D cI cB L ad M (M 8 i 4) (ds_pf M i n) (by omega) e4) (cwV 2 C.1.2.2.2.2 (gF_partBack fw2_127) rfl rfl rfl ⟨rfl, by decide, by decide, by decide +kernel⟩ ⟨by decide, by decide⟩) (ds_m (by decide)) rfl rfl rfl (Nat.le_of_ble_eq_true rfl) dD_payBack_15 ⟨by decide, by decide⟩ ?_
  refine fd_istore C dD_payBack_18 (by decide) ?_
  refine fd_aload_n C dD_payBack_20 rfl ?_
  refine fd_dup C dD_payBack_21 rfl ?_
  refine fd_get C (k := 8) (i := i) (j := 6) (v := .int (fd_I (M 8 i 6))) (ds_m8 hi) rfl rfl (by decide) wsB fw1_91 rfl dD_payBack_22 ?_
  refine fd_iload_n C dD_payBack_25 rfl ?_
  refine fd_isub C dD_payBack_26 ?_
  refine fd_put C (k := 8) (i := i) (j := 6) (z := ((M 8 i 6) - (ds_pf M i n))) (ty := .int) tyB (ds_m8 hi) rfl rfl rfl (by decide) wsB tyB_ok nmB fw1_91 rfl (by decide +kernel) rfl rfl (Nat.le_of_ble_eq_true rfl) dD_payBack_27 ?_
  refine fd_aload_n C dD_payBack_30 rfl ?_
  refine fd_dup C dD_payBack_31 rfl ?_
  refine fd_get C (k := 0) (i := 0) (j := 5) (v := .int (fd_I (M 0 0 5))) (ds_m (by decide)) rfl rfl (by decide) wsD fw1_118 rfl dD_payBack_32 ?_
  refine fd_iload C dD_payBack_35 rfl ?_
  refine fd_isub C dD_payBack_37 ?_
  refine fd_put C (k := 0) (i := 0) (j := 5) (z := ((M 0 0 5) - (ds_back M i n))) (ty := .int) tyD (ds_m (by decide)) rfl rfl rfl (by decide) wsD tyD_ok nmD fw1_118 rfl (by decide +kernel) rfl rfl (Nat.le_of_ble_eq_true rfl) dD_payBack_38 ?_
  refine fd_iload C dD_payBack_41 rfl ?_
  exact fd_iret C hr hlk (by first | rfl | omega | (split <;> omega) | (simp; omega)) rfl dD_payBack_43
set_option maxRecDepth 20000 in
theorem mD_giveUp (l : Launch) (D : va_G) (cI cB : ClassId) (L : Nat) (ad : Nat → Nat → Nat) (M : fd_Mem) (i : Nat) (hi : i < 60) (st9 : Int) (hok : ds_ok L M) (hL : L ≤ 60) : ds_Mv l D cI cB L ad yD_giveUp wD_giveUp ({ frames := 1, cells := 0, slots := 0, locals := 22 }) [.ref (ad 0 0), .ref (ad 8 i), .int (fd_I (st9))] M (ds_up M i st9) := by
  have h3 := hok.sta hi
  have h4 := hok.far hi
  refine fd_enterV (by decide) rfl ds_nd (by simp [Value.category]) (Nat.le_of_ble_eq_true rfl) ?_
  intro A p e s m args below meth c C hr hlk hE
  have C : fd_C p m c cD_giveUp 3 s args fd_T "FareDesk" D fd_cl (ds_tys cI cB) ds_wl A := C
  refine fd_pad 0 ?_
  refine fd_aload_n C dD_giveUp_0 rfl ?_
  refine fd_callVi C hE [] (k := 8) (i := i) (mB_isCounting l D cI cB L ad M i hi h3) (cwV 0 C.1.2.2.2.2 (gB_isCounting fw2_114) rfl rfl rfl ⟨rfl, by decide, by decide, by decide +kernel⟩ ⟨by decide, by decide⟩) (ds_m8 hi) rfl rfl rfl (Nat.le_of_ble_eq_true rfl) dD_giveUp_1 ⟨by decide, by decide⟩ ?_
  refine fd_if_eq C (tgt := 26) dD_giveUp_4 rfl ⟨by split <;> omega, by split <;> omega⟩ (fun h4t => ?_) (fun h4f => ?_)
  · skip
    refine fd_aload_n C dD_giveUp_26 rfl ?_
    refine fd_get C (k := 0) (i := 0) (j := 1) (v := .ref (ad 6 0)) (ds_m (by decide)) rfl rfl (by decide) wsD fw1_114 rfl dD_giveUp_27 ?_
    refine fd_aload_n C dD_giveUp_30 rfl ?_
    refine fd_iconst C dD_giveUp_31 ?_
    refine fd_callVv C hE [.ref (ad 8 i), .int (fd_I (0))] (k := 6) (i := 0) (mK_takeAllBut l D cI cB L ad M i hi 0 (by omega) hL (hok.tb hi)) (cwV 2 C.1.2.2.2.2 (gK_takeAllBut fw2_135) rfl rfl rfl ⟨rfl, by decide, by decide, by decide +kernel⟩ ⟨by decide, by decide⟩) (ds_m (by decide)) rfl rfl rfl (Nat.le_of_ble_eq_true rfl) dD_giveUp_32 ⟨by decide, by decide⟩ ?_
    refine fd_aload_n C dD_giveUp_35 rfl ?_
    refine fd_iload_n C dD_giveUp_36 rfl ?_
    refine fd_put C (k := 8) (i := i) (j := 3) (z := st9) (ty := .int) tyB (ds_m8 hi) rfl rfl rfl (by decide) wsB tyB_ok nmB fw1_84 rfl (by decide +kernel) rfl rfl (Nat.le_of_ble_eq_true rfl) dD_giveUp_37 ?_
    exact fd_vret C hr hlk (by
            unfold ds_up ds_less
            rw [if_neg (by split at h4t <;> omega)]
            show fd_u3 (ds_take i (M 8 i 2 - 0).toNat _) 8 i 3 st9 = _
            rw [Int.sub_zero]) dD_giveUp_40
  · skip
    refine fd_aload_n C dD_giveUp_7 rfl ?_
    refine fd_get C (k := 0) (i := 0) (j := 0) (v := .ref (ad 2 0)) (ds_m (by decide)) rfl rfl (by decide) wsD fw1_113 rfl dD_giveUp_8 ?_
    refine fd_get C (k := 2) (i := 0) (j := 2) (v := .ref (ad 5 0)) (ds_m (by decide)) rfl rfl (by decide) wsF fw1_44 rfl dD_giveUp_11 ?_
    refine fd_aload_n C dD_giveUp_14 rfl ?_
    refine fd_get C (k := 8) (i := i) (j := 4) (v := .int (fd_I (M 8 i 4))) (ds_m8 hi) rfl rfl (by decide) wsB fw1_86 rfl dD_giveUp_15 ?_
    refine fd_dup2 C dD_giveUp_18 rfl rfl ?_
    refine fd_iald C (k := 5) (i := 0) (x := (M 8 i 4).toNat) (v := M 5 0 ((M 8 i 4).toNat)) (ds_m (by decide)) (fun _ => rfl) (ds_tI cI cB) (Int.toNat_of_nonneg (by omega)).symm (by omega) (by decide) rfl dD_giveUp_19 ?_
    refine fd_aload_n C dD_giveUp_20 rfl ?_
    refine fd_get C (k := 8) (i := i) (j := 5) (v := .int (fd_I (M 8 i 5))) (ds_m8 hi) rfl rfl (by decide) wsB fw1_89 rfl dD_giveUp_21 ?_
    refine fd_isub C dD_giveUp_24 ?_
    refine fd_iast C (k := 5) (i := 0) (x := (M 8 i 4).toNat) (v := ((M 5 0 ((M 8 i 4).toNat)) - (M 8 i 5))) (ds_m (by decide)) (fun _ => rfl) (ds_tI cI cB) (Int.toNat_of_nonneg (by omega)).symm (by omega) (by decide) dD_giveUp_25 ?_
    refine fd_aload_n C dD_giveUp_26 rfl ?_
    refine fd_get C (k := 0) (i := 0) (j := 1) (v := .ref (ad 6 0)) (ds_m (by decide)) rfl rfl (by decide) wsD fw1_114 rfl dD_giveUp_27 ?_
    refine fd_aload_n C dD_giveUp_30 rfl ?_
    refine fd_iconst C dD_giveUp_31 ?_
    refine fd_callVv C hE [.ref (ad 8 i), .int (fd_I (0))] (k := 6) (i := 0) (mK_takeAllBut l D cI cB L ad (fd_u3 M 5 0 ((M 8 i 4).toNat) ((M 5 0 ((M 8 i 4).toNat)) - (M 8 i 5))) i hi 0 (by omega) hL (by have := hok.tb hi; unfold ds_tb at this ⊢; simpa [fd_u3_at] using this)) (cwV 2 C.1.2.2.2.2 (gK_takeAllBut fw2_135) rfl rfl rfl ⟨rfl, by decide, by decide, by decide +kernel⟩ ⟨by decide, by decide⟩) (ds_m (by decide)) rfl rfl rfl (Nat.le_of_ble_eq_true rfl) dD_giveUp_32 ⟨by decide, by decide⟩ ?_
    refine fd_aload_n C dD_giveUp_35 rfl ?_
    refine fd_iload_n C dD_giveUp_36 rfl ?_
    refine fd_put C (k := 8) (i := i) (j := 3) (z := st9) (ty := .int) tyB (ds_m8 hi) rfl rfl rfl (by decide) wsB tyB_ok nmB fw1_84 rfl (by decide +kernel) rfl rfl (Nat.le_of_ble_eq_true rfl) dD_giveUp_37 ?_
    exact fd_vret C hr hlk (by
            unfold ds_up ds_less
            rw [if_pos (by split at h4f <;> omega)]
            show fd_u3 (ds_take i (M 8 i 2 - 0).toNat _) 8 i 3 st9 = _
            rw [Int.sub_zero]) dD_giveUp_40
set_option maxRecDepth 20000 in
theorem mD_expireDue (l : Launch) (D : va_G) (cI cB : ClassId) (L : Nat) (ad : Nat → Nat → Nat) (M : fd_Mem) (hm : 0 ≤ M 0 0 3 ∧ M 0 0 3 ≤ 60) (hL : L ≤ 60) (hok : ∀ n : Nat, (n : Int) ≤ M 0 0 3 → ds_ok L (ds_ex M n).1) : ds_Mi l D cI cB L ad yD_expireDue wD_expireDue ({ frames := 2, cells := 0, slots := 0, locals := 44 }) [.ref (ad 0 0)] M ((ds_ex M (M 0 0 3).toNat).2) ((ds_ex M (M 0 0 3).toNat).1) := by
  refine fd_enterI (by decide) rfl ds_nd (by simp [Value.category]) (Nat.le_of_ble_eq_true rfl) ?_
  intro A p e s m args below meth c C hr hlk hE
  have C : fd_C p m c cD_expireDue 4 s args fd_T "FareDesk" D fd_cl (ds_tys cI cB) ds_wl A := C
  refine fd_pad 3 ?_
  refine fd_iconst C dD_expireDue_0 ?_
  refine fd_istore_n C dD_expireDue_1 (by decide) ?_
  refine fd_iconst C dD_expireDue_2 ?_
  refine fd_istore_n C dD_expireDue_3 (by decide) ?_
  have hloop4 : ∀ (dd4 : Nat) (n : Nat), dd4 = (M 0 0 3).toNat - n → ((n : Int) ≤ M 0 0 3) → fd_J p l e ({ frames := 2, cells := 0, slots := 0, locals := 44 }) s m args below meth c D fd_cl A ad (ds_en cI cB L ad) ds_wl 4 0 0 (MQ below (fd_QI D fd_cl (ds_tys cI cB) ad (ds_en cI cB L ad) ds_wl A ((ds_ex M (M 0 0 3).toNat).2) ((ds_ex M (M 0 0 3).toNat).1)) args s 0 0 A) ((ds_ex M n).1) 4 [some (.ref (ad 0 0)), some (.int (fd_I ((ds_ex M n).2))), some (.int (fd_I ((n : Nat) : Int))), none] [] := by
    intro dd4
    induction dd4 using Nat.strongRecOn with
    | ind dd4 ih4 =>
      intro n hdd4 hn
      refine fd_iload_n C dD_expireDue_4 rfl ?_
      refine fd_aload_n C dD_expireDue_5 rfl ?_
      refine fd_get C (k := 0) (i := 0) (j := 3) (v := .int (fd_I (((ds_ex M n).1) 0 0 3))) (ds_m (by decide)) rfl rfl (by decide) wsD fw1_116 rfl dD_expireDue_6 ?_
      have e0 := ds_ex_0 M 3 n
      have ok := hok n hn
      have e1 := ok.time
      refine fd_icmp_ge C (tgt := 52) dD_expireDue_9 rfl ⟨by omega, by omega⟩ ⟨by omega, by omega⟩ (fun h9t => ?_) (fun h9f => ?_)
      · skip
        have e9 := ds_ex_01 M n
        refine fd_iload_n C dD_expireDue_52 rfl ?_
        exact fd_zret C hr hlk (by rw [show n = (M 0 0 3).toNat by omega]) (by omega) (by rw [show n = (M 0 0 3).toNat by omega]) dD_expireDue_53
      · skip
        refine fd_aload_n C dD_expireDue_12 rfl ?_
        refine fd_get C (k := 0) (i := 0) (j := 2) (v := .ref (ad 1 0)) (ds_m (by decide)) rfl rfl (by decide) wsD fw1_115 rfl dD_expireDue_13 ?_
        refine fd_iload_n C dD_expireDue_16 rfl ?_
        refine fd_aald C (k := 1) (i := 0) (x := n) (a := ad 8 n) (ds_m (by decide)) rfl (ds_tB cI cB) rfl (by omega) (by decide) rfl dD_expireDue_17 ?_
        refine fd_astore_n C dD_expireDue_18 (by decide) ?_
        refine fd_aload_n C dD_expireDue_19 rfl ?_
        refine fd_get C (k := 8) (i := n) (j := 3) (v := .int (fd_I (((ds_ex M n).1) 8 n 3))) (ds_m8 (by omega)) rfl rfl (by decide) wsB fw1_84 rfl dD_expireDue_20 ?_
        refine fd_iconst C dD_expireDue_23 ?_
        have e3 := ok.sta (show n < 60 by omega)
        have e4 := ok.exp (show n < 60 by omega)
        refine fd_icmp_ne C (tgt := 46) dD_expireDue_24 rfl ⟨by omega, by omega⟩ ⟨by omega, by omega⟩ (fun h24t => ?_) (fun h24f => ?_)
        · skip
          refine fd_iinc C dD_expireDue_46 rfl (by decide) ?_
          refine fd_goto C (tgt := 4) dD_expireDue_49 rfl ?_
          refine fd_drop 3 ?_
          have h9 := ih4 ((M 0 0 3).toNat - (n + 1)) (by omega) (n + 1) rfl (by omega)
          rw [ds_ex_s, if_neg (by omega)] at h9
          exact h9
        · skip
          refine fd_aload_n C dD_expireDue_27 rfl ?_
          refine fd_get C (k := 8) (i := n) (j := 8) (v := .int (fd_I (((ds_ex M n).1) 8 n 8))) (ds_m8 (by omega)) rfl rfl (by decide) wsB fw1_93 rfl dD_expireDue_28 ?_
          refine fd_aload_n C dD_expireDue_31 rfl ?_
          refine fd_get C (k := 0) (i := 0) (j := 4) (v := .int (fd_I (((ds_ex M n).1) 0 0 4))) (ds_m (by decide)) rfl rfl (by decide) wsD fw1_117 rfl dD_expireDue_32 ?_
          refine fd_icmp_gt C (tgt := 46) dD_expireDue_35 rfl ⟨by omega, by omega⟩ ⟨by omega, by omega⟩ (fun h35t => ?_) (fun h35f => ?_)
          · skip
            refine fd_iinc C dD_expireDue_46 rfl (by decide) ?_
            refine fd_goto C (tgt := 4) dD_expireDue_49 rfl ?_
            refine fd_drop 3 ?_
            have h9 := ih4 ((M 0 0 3).toNat - (n + 1)) (by omega) (n + 1) rfl (by omega)
            rw [ds_ex_s, if_neg (by omega)] at h9
            exact h9
          · skip
            refine fd_aload_n C dD_expireDue_38 rfl ?_
            refine fd_aload_n C dD_expireDue_39 rfl ?_
            refine fd_iconst C dD_expireDue_40 ?_
            refine fd_callVv C hE [.ref (ad 8 n), .int (fd_I (5))] (k := 0) (i := 0) (mD_giveUp l D cI cB L ad ((ds_ex M n).1) n (by omega) 5 ok hL) (cwV 2 C.1.2.2.2.2 (gD_giveUp fw2_131) rfl rfl rfl ⟨rfl, by decide, by decide, by decide +kernel⟩ ⟨by decide, by decide⟩) (ds_m (by decide)) rfl rfl rfl (Nat.le_of_ble_eq_true rfl) dD_expireDue_41 ⟨by decide, by decide⟩ ?_
            refine fd_iconst C dD_expireDue_44 ?_
            refine fd_istore_n C dD_expireDue_45 (by decide) ?_
            refine fd_iinc C dD_expireDue_46 rfl (by decide) ?_
            refine fd_goto C (tgt := 4) dD_expireDue_49 rfl ?_
            refine fd_drop 3 ?_
            have h9 := ih4 ((M 0 0 3).toNat - (n + 1)) (by omega) (n + 1) rfl (by omega)
            rw [ds_ex_s, if_pos ⟨by omega, by omega⟩] at h9
            exact h9
  exact hloop4 _ 0 rfl (by omega)
set_option maxRecDepth 20000 in
theorem mD_endUnconfirmed (l : Launch) (D : va_G) (cI cB : ClassId) (L : Nat) (ad : Nat → Nat → Nat) (M : fd_Mem) (hm : 0 ≤ M 0 0 3 ∧ M 0 0 3 ≤ 60) (hL : L ≤ 60) (hok : ∀ n : Nat, (n : Int) ≤ M 0 0 3 → ds_ok L (ds_end M n)) : ds_Mv l D cI cB L ad yD_endUnconfirmed wD_endUnconfirmed ({ frames := 2, cells := 0, slots := 0, locals := 44 }) [.ref (ad 0 0)] M (ds_end M (M 0 0 3).toNat) := by
  refine fd_enterV (by decide) rfl ds_nd (by simp [Value.category]) (Nat.le_of_ble_eq_true rfl) ?_
  intro A p e s m args below meth c C hr hlk hE
  have C : fd_C p m c cD_endUnconfirmed 3 s args fd_T "FareDesk" D fd_cl (ds_tys cI cB) ds_wl A := C
  refine fd_pad 2 ?_
  refine fd_iconst C dD_endUnconfirmed_0 ?_
  refine fd_istore_n C dD_endUnconfirmed_1 (by decide) ?_
  have hloop2 : ∀ (dd2 : Nat) (n : Nat), dd2 = (M 0 0 3).toNat - n → ((n : Int) ≤ M 0 0 3) → fd_J p l e ({ frames := 2, cells := 0, slots := 0, locals := 44 }) s m args below meth c D fd_cl A ad (ds_en cI cB L ad) ds_wl 3 0 0 (MQ below (fd_QV D fd_cl (ds_tys cI cB) ad (ds_en cI cB L ad) ds_wl A (ds_end M (M 0 0 3).toNat)) args s 0 0 A) (ds_end M n) 2 [some (.ref (ad 0 0)), some (.int (fd_I ((n : Nat) : Int))), none] [] := by
    intro dd2
    induction dd2 using Nat.strongRecOn with
    | ind dd2 ih2 =>
      intro n hdd2 hn
      refine fd_iload_n C dD_endUnconfirmed_2 rfl ?_
      refine fd_aload_n C dD_endUnconfirmed_3 rfl ?_
      refine fd_get C (k := 0) (i := 0) (j := 3) (v := .int (fd_I ((ds_end M n) 0 0 3))) (ds_m (by decide)) rfl rfl (by decide) wsD fw1_116 rfl dD_endUnconfirmed_4 ?_
      have e0 := ds_end_0 M 3 n
      have ok := hok n hn
      refine fd_icmp_ge C (tgt := 54) dD_endUnconfirmed_7 rfl ⟨by omega, by omega⟩ ⟨by omega, by omega⟩ (fun h7t => ?_) (fun h7f => ?_)
      · skip
        exact fd_vret C hr hlk (by rw [show n = (M 0 0 3).toNat by omega]) dD_endUnconfirmed_54
      · skip
        refine fd_aload_n C dD_endUnconfirmed_10 rfl ?_
        refine fd_get C (k := 0) (i := 0) (j := 2) (v := .ref (ad 1 0)) (ds_m (by decide)) rfl rfl (by decide) wsD fw1_115 rfl dD_endUnconfirmed_11 ?_
        refine fd_iload_n C dD_endUnconfirmed_14 rfl ?_
        refine fd_aald C (k := 1) (i := 0) (x := n) (a := ad 8 n) (ds_m (by decide)) rfl (ds_tB cI cB) rfl (by omega) (by decide) rfl dD_endUnconfirmed_15 ?_
        refine fd_astore_n C dD_endUnconfirmed_16 (by decide) ?_
        refine fd_aload_n C dD_endUnconfirmed_17 rfl ?_
        refine fd_get C (k := 8) (i := n) (j := 3) (v := .int (fd_I ((ds_end M n) 8 n 3))) (ds_m8 (by omega)) rfl rfl (by decide) wsB fw1_84 rfl dD_endUnconfirmed_18 ?_
        refine fd_iconst C dD_endUnconfirmed_21 ?_
        have e3 := ok.sta (show n < 60 by omega)
        refine fd_icmp_ne C (tgt := 34) dD_endUnconfirmed_22 rfl ⟨by omega, by omega⟩ ⟨by omega, by omega⟩ (fun h22t => ?_) (fun h22f => ?_)
        · skip
          refine fd_aload_n C dD_endUnconfirmed_34 rfl ?_
          refine fd_get C (k := 8) (i := n) (j := 3) (v := .int (fd_I ((ds_end M n) 8 n 3))) (ds_m8 (by omega)) rfl rfl (by decide) wsB fw1_84 rfl dD_endUnconfirmed_35 ?_
          refine fd_iconst C dD_endUnconfirmed_38 ?_
          refine fd_icmp_ne C (tgt := 48) dD_endUnconfirmed_39 rfl ⟨by omega, by omega⟩ ⟨by omega, by omega⟩ (fun h39t => ?_) (fun h39f => ?_)
          · skip
            refine fd_iinc C dD_endUnconfirmed_48 rfl (by decide) ?_
            refine fd_goto C (tgt := 2) dD_endUnconfirmed_51 rfl ?_
            refine fd_drop 2 ?_
            have h9 := ih2 ((M 0 0 3).toNat - (n + 1)) (by omega) (n + 1) rfl (by omega)
            rw [ds_end_s, if_neg (by omega), if_neg (by omega)] at h9
            exact h9
          · skip
            refine fd_aload_n C dD_endUnconfirmed_42 rfl ?_
            refine fd_aload_n C dD_endUnconfirmed_43 rfl ?_
            refine fd_iconst C dD_endUnconfirmed_44 ?_
            refine fd_callVv C hE [.ref (ad 8 n), .int (fd_I (4))] (k := 0) (i := 0) (mD_giveUp l D cI cB L ad (ds_end M n) n (by omega) 4 ok hL) (cwV 2 C.1.2.2.2.2 (gD_giveUp fw2_131) rfl rfl rfl ⟨rfl, by decide, by decide, by decide +kernel⟩ ⟨by decide, by decide⟩) (ds_m (by decide)) rfl rfl rfl (Nat.le_of_ble_eq_true rfl) dD_endUnconfirmed_45 ⟨by decide, by decide⟩ ?_
            refine fd_iinc C dD_endUnconfirmed_48 rfl (by decide) ?_
            refine fd_goto C (tgt := 2) dD_endUnconfirmed_51 rfl ?_
            refine fd_drop 2 ?_
            have h9 := ih2 ((M 0 0 3).toNat - (n + 1)) (by omega) (n + 1) rfl (by omega)
            rw [ds_end_s, if_neg (by omega), if_pos (by omega)] at h9
            exact h9
        · skip
          refine fd_aload_n C dD_endUnconfirmed_25 rfl ?_
          refine fd_aload_n C dD_endUnconfirmed_26 rfl ?_
          refine fd_iconst C dD_endUnconfirmed_27 ?_
          refine fd_callVv C hE [.ref (ad 8 n), .int (fd_I (5))] (k := 0) (i := 0) (mD_giveUp l D cI cB L ad (ds_end M n) n (by omega) 5 ok hL) (cwV 2 C.1.2.2.2.2 (gD_giveUp fw2_131) rfl rfl rfl ⟨rfl, by decide, by decide, by decide +kernel⟩ ⟨by decide, by decide⟩) (ds_m (by decide)) rfl rfl rfl (Nat.le_of_ble_eq_true rfl) dD_endUnconfirmed_28 ⟨by decide, by decide⟩ ?_
          refine fd_goto C (tgt := 48) dD_endUnconfirmed_31 rfl ?_
          refine fd_iinc C dD_endUnconfirmed_48 rfl (by decide) ?_
          refine fd_goto C (tgt := 2) dD_endUnconfirmed_51 rfl ?_
          refine fd_drop 2 ?_
          have h9 := ih2 ((M 0 0 3).toNat - (n + 1)) (by omega) (n + 1) rfl (by omega)
          rw [ds_end_s, if_pos (by omega)] at h9
          exact h9
  exact hloop2 _ 0 rfl (by omega)
set_option maxRecDepth 20000 in
theorem mD_leaveBehind (l : Launch) (D : va_G) (cI cB : ClassId) (L : Nat) (ad : Nat → Nat → Nat) (M : fd_Mem) (i : Nat) (hi : i < 60) (hL : L ≤ 60) (hok : ds_ok L (fd_u3 (fd_u3 M 0 0 5 (M 0 0 5 - M 8 i 6)) 8 i 6 0)) : ds_Mv l D cI cB L ad yD_leaveBehind wD_leaveBehind ({ frames := 2, cells := 0, slots := 0, locals := 44 }) [.ref (ad 0 0), .ref (ad 8 i)] M (ds_left M i) := by
  refine fd_enterV (by decide) rfl ds_nd (by simp [Value.category]) (Nat.le_of_ble_eq_true rfl) ?_
  intro A p e s m args below meth c C hr hlk hE
  have C : fd_C p m c cD_leaveBehind 2 s args fd_T "FareDesk" D fd_cl (ds_tys cI cB) ds_wl A := C
  refine fd_pad 0 ?_
  refine fd_aload_n C dD_leaveBehind_0 rfl ?_
  refine fd_dup C dD_leaveBehind_1 rfl ?_
  refine fd_get C (k := 0) (i := 0) (j := 5) (v := .int (fd_I (M 0 0 5))) (ds_m (by decide)) rfl rfl (by decide) wsD fw1_118 rfl dD_leaveBehind_2 ?_
  refine fd_aload_n C dD_leaveBehind_5 rfl ?_
  refine fd_get C (k := 8) (i := i) (j := 6) (v := .int (fd_I (M 8 i 6))) (ds_m8 hi) rfl rfl (by decide) wsB fw1_91 rfl dD_leaveBehind_6 ?_
  refine fd_isub C dD_leaveBehind_9 ?_
  refine fd_put C (k := 0) (i := 0) (j := 5) (z := ((M 0 0 5) - (M 8 i 6))) (ty := .int) tyD (ds_m (by decide)) rfl rfl rfl (by decide) wsD tyD_ok nmD fw1_118 rfl (by decide +kernel) rfl rfl (Nat.le_of_ble_eq_true rfl) dD_leaveBehind_10 ?_
  refine fd_aload_n C dD_leaveBehind_13 rfl ?_
  refine fd_iconst C dD_leaveBehind_14 ?_
  refine fd_put C (k := 8) (i := i) (j := 6) (z := 0) (ty := .int) tyB (ds_m8 hi) rfl rfl rfl (by decide) wsB tyB_ok nmB fw1_91 rfl (by decide +kernel) rfl rfl (Nat.le_of_ble_eq_true rfl) dD_leaveBehind_15 ?_
  refine fd_aload_n C dD_leaveBehind_18 rfl ?_
  refine fd_aload_n C dD_leaveBehind_19 rfl ?_
  refine fd_bipush C dD_leaveBehind_20 (by decide) ?_
  refine fd_callVv C hE [.ref (ad 8 i), .int (fd_I (7))] (k := 0) (i := 0) (mD_giveUp l D cI cB L ad (fd_u3 (fd_u3 M 0 0 5 ((M 0 0 5) - (M 8 i 6))) 8 i 6 (0)) i hi 7 hok hL) (cwV 2 C.1.2.2.2.2 (gD_giveUp fw2_131) rfl rfl rfl ⟨rfl, by decide, by decide, by decide +kernel⟩ ⟨by decide, by decide⟩) (ds_m (by decide)) rfl rfl rfl (Nat.le_of_ble_eq_true rfl) dD_leaveBehind_22 ⟨by decide, by decide⟩ ?_
  exact fd_vret C hr hlk rfl dD_leaveBehind_25
set_option maxRecDepth 20000 in
theorem mD_board (l : Launch) (D : va_G) (cI cB : ClassId) (L : Nat) (ad : Nat → Nat → Nat) (M : fd_Mem) (i : Nat) (hi : i < 60) (hL : L ≤ 60) (hok : ds_ok L M) (hok2 : ds_ok L (fd_u3 (fd_u3 M 0 0 5 (M 0 0 5 - M 8 i 6)) 8 i 6 0)) : ds_Mi l D cI cB L ad yD_board wD_board ({ frames := 3, cells := 0, slots := 0, locals := 65 }) [.ref (ad 0 0), .ref (ad 8 i)] M ((ds_brd L M i).2) ((ds_brd L M i).1) := by
  have e1 := hok.sea hi
  have e2 := hok.free
  refine fd_enterI (by decide) rfl ds_nd (by simp [Value.category]) (Nat.le_of_ble_eq_true rfl) ?_
  intro A p e s m args below meth c C hr hlk hE
  have C : fd_C p m c cD_board 2 s args fd_T "FareDesk" D fd_cl (ds_tys cI cB) ds_wl A := C
  refine fd_pad 0 ?_
  refine fd_aload_n C dD_board_0 rfl ?_
  refine fd_get C (k := 0) (i := 0) (j := 1) (v := .ref (ad 6 0)) (ds_m (by decide)) rfl rfl (by decide) wsD fw1_114 rfl dD_board_1 ?_
  refine fd_get C (k := 6) (i := 0) (j := 1) (v := .int (fd_I (M 6 0 1))) (ds_m (by decide)) rfl rfl (by decide) wsK fw1_63 rfl dD_board_4 ?_
  refine fd_aload_n C dD_board_7 rfl ?_
  refine fd_callVi C hE [] (k := 8) (i := i) (mB_seatsMissing l D cI cB L ad M i hi) (cwV 0 C.1.2.2.2.2 (gB_seatsMissing fw2_174) rfl rfl rfl ⟨rfl, by decide, by decide, by decide +kernel⟩ ⟨by decide, by decide⟩) (ds_m8 hi) rfl rfl rfl (Nat.le_of_ble_eq_true rfl) dD_board_8 ⟨by decide, by decide⟩ ?_
  refine fd_icmp_ge C (tgt := 21) dD_board_11 rfl ⟨by omega, by omega⟩ ⟨by omega, by omega⟩ (fun h11t => ?_) (fun h11f => ?_)
  · skip
    refine fd_aload_n C dD_board_21 rfl ?_
    refine fd_get C (k := 0) (i := 0) (j := 1) (v := .ref (ad 6 0)) (ds_m (by decide)) rfl rfl (by decide) wsD fw1_114 rfl dD_board_22 ?_
    refine fd_aload_n C dD_board_25 rfl ?_
    refine fd_iconst C dD_board_26 ?_
    refine fd_tp (b := ((0 : Nat) : Int)) rfl ?_
    refine fd_callVv C hE [.ref (ad 8 i), .int (fd_I ((0 : Nat) : Int))] (k := 6) (i := 0) (mK_giveMissing l D cI cB L ad M i hi 0 (by omega) hL (hok.gb hi)) (cwV 2 C.1.2.2.2.2 (gK_giveMissing fw2_209) rfl rfl rfl ⟨rfl, by decide, by decide, by decide +kernel⟩ ⟨by decide, by decide⟩) (ds_m (by decide)) rfl rfl rfl (Nat.le_of_ble_eq_true rfl) dD_board_27 ⟨by decide, by decide⟩ ?_
    refine fd_aload_n C dD_board_30 rfl ?_
    refine fd_bipush C dD_board_31 (by decide) ?_
    refine fd_put C (k := 8) (i := i) (j := 3) (z := 6) (ty := .int) tyB (ds_m8 hi) rfl rfl rfl (by decide) wsB tyB_ok nmB fw1_84 rfl (by decide +kernel) rfl rfl (Nat.le_of_ble_eq_true rfl) dD_board_33 ?_
    refine fd_aload_n C dD_board_36 rfl ?_
    refine fd_get C (k := 8) (i := i) (j := 5) (v := .int (fd_I ((ds_miss i (L - 0) 0 M) 8 i 5))) (ds_m8 hi) rfl rfl (by decide) wsB fw1_89 rfl dD_board_37 ?_
    exact fd_iret C hr hlk (by unfold ds_brd; rw [if_neg (by omega)]; show (ds_miss i (L - 0) 0 M) 8 i 5 = M 8 i 5; rw [ds_miss_85 i 5 (by decide)]) (by unfold ds_brd; rw [if_neg (by omega)]; rfl) dD_board_40
  · skip
    refine fd_aload_n C dD_board_14 rfl ?_
    refine fd_aload_n C dD_board_15 rfl ?_
    refine fd_callVv C hE [.ref (ad 8 i)] (k := 0) (i := 0) (mD_leaveBehind l D cI cB L ad M i hi hL hok2) (cwV 1 C.1.2.2.2.2 (gD_leaveBehind fw3_6) rfl rfl rfl ⟨rfl, by decide, by decide, by decide +kernel⟩ ⟨by decide, by decide⟩) (ds_m (by decide)) rfl rfl rfl (Nat.le_of_ble_eq_true rfl) dD_board_16 ⟨by decide, by decide⟩ ?_
    refine fd_iconst C dD_board_19 ?_
    exact fd_iret C hr hlk (by unfold ds_brd; rw [if_pos (by omega)]) (by unfold ds_brd; rw [if_pos (by omega)]) dD_board_20
set_option maxRecDepth 20000 in
theorem mD_boardFare (l : Launch) (D : va_G) (cI cB : ClassId) (L : Nat) (ad : Nat → Nat → Nat) (M : fd_Mem) (hm : 0 ≤ M 0 0 3 ∧ M 0 0 3 ≤ 60) (f : Int) (hf : 0 ≤ f ∧ f < 4) (hL : L ≤ 60) (hok : ∀ n : Nat, (n : Int) ≤ M 0 0 3 → ds_ok L (ds_bf L M f n).1) (hok2 : ∀ (n i : Nat), i < 60 → ds_ok L (fd_u3 (fd_u3 (ds_bf L M f n).1 0 0 5 ((ds_bf L M f n).1 0 0 5 - (ds_bf L M f n).1 8 i 6)) 8 i 6 0)) (hk3 : ∀ n, (ds_bf L M f n).1 0 0 3 = M 0 0 3) : ds_Mi l D cI cB L ad yD_boardFare wD_boardFare ({ frames := 4, cells := 0, slots := 0, locals := 86 }) [.ref (ad 0 0), .int (fd_I (f))] M ((ds_bf L M f (M 0 0 3).toNat).2) ((ds_bf L M f (M 0 0 3).toNat).1) := by
  refine fd_enterI (by decide) rfl ds_nd (by simp [Value.category]) (Nat.le_of_ble_eq_true rfl) ?_
  intro A p e s m args below meth c C hr hlk hE
  have C : fd_C p m c cD_boardFare 5 s args fd_T "FareDesk" D fd_cl (ds_tys cI cB) ds_wl A := C
  refine fd_pad 3 ?_
  refine fd_iconst C dD_boardFare_0 ?_
  refine fd_istore_n C dD_boardFare_1 (by decide) ?_
  refine fd_iconst C dD_boardFare_2 ?_
  refine fd_istore_n C dD_boardFare_3 (by decide) ?_
  have hloop4 : ∀ (dd4 : Nat) (n : Nat), dd4 = (M 0 0 3).toNat - n → ((n : Int) ≤ M 0 0 3) → fd_J p l e ({ frames := 4, cells := 0, slots := 0, locals := 86 }) s m args below meth c D fd_cl A ad (ds_en cI cB L ad) ds_wl 5 0 0 (MQ below (fd_QI D fd_cl (ds_tys cI cB) ad (ds_en cI cB L ad) ds_wl A ((ds_bf L M f (M 0 0 3).toNat).2) ((ds_bf L M f (M 0 0 3).toNat).1)) args s 0 0 A) ((ds_bf L M f n).1) 4 [some (.ref (ad 0 0)), some (.int (fd_I (f))), some (.int (fd_I ((ds_bf L M f n).2))), some (.int (fd_I ((n : Nat) : Int))), none] [] := by
    intro dd4
    induction dd4 using Nat.strongRecOn with
    | ind dd4 ih4 =>
      intro n hdd4 hn
      refine fd_iload_n C dD_boardFare_4 rfl ?_
      refine fd_aload_n C dD_boardFare_5 rfl ?_
      refine fd_get C (k := 0) (i := 0) (j := 3) (v := .int (fd_I (((ds_bf L M f n).1) 0 0 3))) (ds_m (by decide)) rfl rfl (by decide) wsD fw1_116 rfl dD_boardFare_6 ?_
      have e0 := hk3 n
      have ok := hok n hn
      refine fd_icmp_ge C (tgt := 53) dD_boardFare_9 rfl ⟨by omega, by omega⟩ ⟨by omega, by omega⟩ (fun h9t => ?_) (fun h9f => ?_)
      · skip
        refine fd_iload_n C dD_boardFare_53 rfl ?_
        exact fd_iret C hr hlk (by rw [show n = (M 0 0 3).toNat by omega]) (by rw [show n = (M 0 0 3).toNat by omega]) dD_boardFare_54
      · skip
        refine fd_aload_n C dD_boardFare_12 rfl ?_
        refine fd_get C (k := 0) (i := 0) (j := 2) (v := .ref (ad 1 0)) (ds_m (by decide)) rfl rfl (by decide) wsD fw1_115 rfl dD_boardFare_13 ?_
        refine fd_iload_n C dD_boardFare_16 rfl ?_
        refine fd_aald C (k := 1) (i := 0) (x := n) (a := ad 8 n) (ds_m (by decide)) rfl (ds_tB cI cB) rfl (by omega) (by decide) rfl dD_boardFare_17 ?_
        refine fd_astore C dD_boardFare_18 (by decide) ?_
        refine fd_aload C dD_boardFare_20 rfl ?_
        refine fd_get C (k := 8) (i := n) (j := 3) (v := .int (fd_I (((ds_bf L M f n).1) 8 n 3))) (ds_m8 (by omega)) rfl rfl (by decide) wsB fw1_84 rfl dD_boardFare_22 ?_
        refine fd_iconst C dD_boardFare_25 ?_
        have e3 := ok.sta (show n < 60 by omega)
        have e4 := ok.far (show n < 60 by omega)
        refine fd_icmp_ne C (tgt := 47) dD_boardFare_26 rfl ⟨by omega, by omega⟩ ⟨by omega, by omega⟩ (fun h26t => ?_) (fun h26f => ?_)
        · skip
          refine fd_iinc C dD_boardFare_47 rfl (by decide) ?_
          refine fd_goto C (tgt := 4) dD_boardFare_50 rfl ?_
          refine fd_drop 4 ?_
          have h9 := ih4 ((M 0 0 3).toNat - (n + 1)) (by omega) (n + 1) rfl (by omega)
          rw [ds_bf_s, if_neg (by omega)] at h9
          exact h9
        · skip
          refine fd_aload C dD_boardFare_29 rfl ?_
          refine fd_get C (k := 8) (i := n) (j := 4) (v := .int (fd_I (((ds_bf L M f n).1) 8 n 4))) (ds_m8 (by omega)) rfl rfl (by decide) wsB fw1_86 rfl dD_boardFare_31 ?_
          refine fd_iload_n C dD_boardFare_34 rfl ?_
          refine fd_icmp_ne C (tgt := 47) dD_boardFare_35 rfl ⟨by omega, by omega⟩ ⟨by omega, by omega⟩ (fun h35t => ?_) (fun h35f => ?_)
          · skip
            refine fd_iinc C dD_boardFare_47 rfl (by decide) ?_
            refine fd_goto C (tgt := 4) dD_boardFare_50 rfl ?_
            refine fd_drop 4 ?_
            have h9 := ih4 ((M 0 0 3).toNat - (n + 1)) (by omega) (n + 1) rfl (by omega)
            rw [ds_bf_s, if_neg (by omega)] at h9
            exact h9
          · skip
            refine fd_iload_n C dD_boardFare_38 rfl ?_
            refine fd_aload_n C dD_boardFare_39 rfl ?_
            refine fd_aload C dD_boardFare_40 rfl ?_
            refine fd_callVi C hE [.ref (ad 8 n)] (k := 0) (i := 0) (mD_board l D cI cB L ad ((ds_bf L M f n).1) n (by omega) hL ok (hok2 n n (by omega))) (cwV 1 C.1.2.2.2.2 (gD_board fw3_2) rfl rfl rfl ⟨rfl, by decide, by decide, by decide +kernel⟩ ⟨by decide, by decide⟩) (ds_m (by decide)) rfl rfl rfl (Nat.le_of_ble_eq_true rfl) dD_boardFare_42 ⟨by decide, by decide⟩ ?_
            refine fd_iadd C dD_boardFare_45 ?_
            refine fd_istore_n C dD_boardFare_46 (by decide) ?_
            refine fd_iinc C dD_boardFare_47 rfl (by decide) ?_
            refine fd_goto C (tgt := 4) dD_boardFare_50 rfl ?_
            refine fd_drop 4 ?_
            have h9 := ih4 ((M 0 0 3).toNat - (n + 1)) (by omega) (n + 1) rfl (by omega)
            rw [ds_bf_s, if_pos ⟨by omega, by omega⟩] at h9
            exact h9
  exact hloop4 _ 0 rfl (by omega)
