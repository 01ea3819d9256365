/-! the desk: its calls -/
set_option maxRecDepth 20000 in
theorem mD_limit (l : Launch) (D : va_G) (cI cB : ClassId) (L : Nat) (ad : Nat → Nat → Nat) (M : fd_Mem) (f : Nat) (hf : f < 4) (x : Int) (hx : -2147483648 ≤ x ∧ x < 2147483648) (hok : ds_ok L M) (hg : 0 ≤ x ∧ x ≤ 99 ∧ (f = 0 ∨ x ≤ M 3 0 (f - 1)) ∧ (f = 3 ∨ M 3 0 (f + 1) ≤ x)) (hc : M 0 0 6 = 0) (hs : ds_sok L (fd_u3 M 3 0 f x)) : ds_Mv l D cI cB L ad yD_limit wD_limit ({ frames := 3, cells := 0, slots := 0, locals := 68 }) [.ref (ad 0 0), .int (fd_I ((f : Nat) : Int)), .int (fd_I (x))] M (ds_serve (fd_u3 M 3 0 f x)) := by
  refine fd_enterV (by decide) rfl ds_nd (by simp [Value.category]) (Nat.le_of_ble_eq_true rfl) ?_
  intro A p e s m args below meth c C hr hlk hE
  have C : fd_C p m c cD_limit 3 s args fd_T "FareDesk" D fd_cl (ds_tys cI cB) ds_wl A := C
  refine fd_pad 0 ?_
  refine fd_aload_n C dD_limit_0 rfl ?_
  refine fd_iload_n C dD_limit_1 rfl ?_
  refine fd_callVv C hE [.int (fd_I ((f : Nat) : Int))] (k := 0) (i := 0) (mD_requireFare l D cI cB L ad M ((f : Nat) : Int) (by omega)) (cwV 1 C.1.2.2.2.2 (gD_requireFare fw1_155) rfl rfl rfl ⟨rfl, by decide, by decide, by decide +kernel⟩ ⟨by decide, by decide⟩) (ds_m (by decide)) rfl rfl rfl (Nat.le_of_ble_eq_true rfl) dD_limit_2 ⟨by decide, by decide⟩ ?_
  refine fd_aload_n C dD_limit_5 rfl ?_
  refine fd_get C (k := 0) (i := 0) (j := 0) (v := .ref (ad 2 0)) (ds_m (by decide)) rfl rfl (by decide) wsD fw1_113 rfl dD_limit_6 ?_
  refine fd_iload_n C dD_limit_9 rfl ?_
  refine fd_iload_n C dD_limit_10 rfl ?_
  refine fd_callVi C hE [.int (fd_I ((f : Nat) : Int)), .int (fd_I (x))] (k := 2) (i := 0) (mF_mayLimit l D cI cB L ad M f hf x hx (fun k hk => hok.lim hk)) (cwV 2 C.1.2.2.2.2 (gF_mayLimit fw1_227) rfl rfl rfl ⟨rfl, by decide, by decide, by decide +kernel⟩ ⟨by decide, by decide⟩) (ds_m (by decide)) rfl rfl rfl (Nat.le_of_ble_eq_true rfl) dD_limit_11 ⟨by decide, by decide⟩ ?_
  refine fd_if_ne C (tgt := 27) dD_limit_14 rfl ⟨by split <;> omega, by split <;> omega⟩ (fun h14t => ?_) (fun h14f => ?_)
  · skip
    refine fd_aload_n C dD_limit_27 rfl ?_
    refine fd_callVv C hE [] (k := 0) (i := 0) (mD_requireOpen l D cI cB L ad M hc) (cwV 0 C.1.2.2.2.2 (gD_requireOpen fw1_232) rfl rfl rfl ⟨rfl, by decide, by decide, by decide +kernel⟩ ⟨by decide, by decide⟩) (ds_m (by decide)) rfl rfl rfl (Nat.le_of_ble_eq_true rfl) dD_limit_28 ⟨by decide, by decide⟩ ?_
    refine fd_aload_n C dD_limit_31 rfl ?_
    refine fd_get C (k := 0) (i := 0) (j := 0) (v := .ref (ad 2 0)) (ds_m (by decide)) rfl rfl (by decide) wsD fw1_113 rfl dD_limit_32 ?_
    refine fd_get C (k := 2) (i := 0) (j := 0) (v := .ref (ad 3 0)) (ds_m (by decide)) rfl rfl (by decide) wsF fw1_40 rfl dD_limit_35 ?_
    refine fd_iload_n C dD_limit_38 rfl ?_
    refine fd_iload_n C dD_limit_39 rfl ?_
    refine fd_iast C (k := 3) (i := 0) (x := f) (v := x) (ds_m (by decide)) (fun _ => rfl) (ds_tI cI cB) rfl (by omega) (by decide) dD_limit_40 ?_
    refine fd_aload_n C dD_limit_41 rfl ?_
    refine fd_callVv C hE [] (k := 0) (i := 0) (mD_serveWaiting l D cI cB L ad (fd_u3 M 3 0 f (x)) hs.1 hs.2) (cwV 0 C.1.2.2.2.2 (gD_serveWaiting fw2_12) rfl rfl rfl ⟨rfl, by decide, by decide, by decide +kernel⟩ ⟨by decide, by decide⟩) (ds_m (by decide)) rfl rfl rfl (Nat.le_of_ble_eq_true rfl) dD_limit_42 ⟨by decide, by decide⟩ ?_
    exact fd_vret C hr hlk rfl dD_limit_45
  · skip
    exfalso; rw [if_pos hg] at h14f; omega
set_option maxRecDepth 20000 in
theorem mD_limit_TF (l : Launch) (D : va_G) (cI cB : ClassId) (L : Nat) (ad : Nat → Nat → Nat) (M : fd_Mem) (f x : Int) (hf : -2147483648 ≤ f ∧ f < 2147483648) (hb : f < 0 ∨ 4 ≤ f) (hl : l.stackTraces = false) : ds_MT l D cI cB L ad yD_limit wD_limit ({ frames := 7, cells := 1, slots := 6, locals := 111 }) [.ref (ad 0 0), .int (fd_I (f)), .int (fd_I (x))] M "java/lang/IllegalArgumentException" := by
  refine fd_enterT (by decide) rfl ds_nd (by simp [Value.category]) (Nat.le_of_ble_eq_true rfl) ?_
  intro A p e s m args below meth c C hlk hno hE
  have C : fd_C p m c cD_limit 3 s args fd_T "FareDesk" D fd_cl (ds_tys cI cB) ds_wl A := C
  refine fd_pad 0 ?_
  refine fd_aload_n C dD_limit_0 rfl ?_
  refine fd_iload_n C dD_limit_1 rfl ?_
  exact fd_thruV C hE [.int (fd_I (f))] (k := 0) (i := 0) rfl (mD_requireFare_T l D cI cB L ad M f hf hb hl) (cwV 1 C.1.2.2.2.2 (gD_requireFare fw1_155) rfl rfl rfl ⟨rfl, by decide, by decide, by decide +kernel⟩ ⟨by decide, by decide⟩) (ds_m (by decide)) rfl rfl rfl (Nat.le_of_ble_eq_true rfl) dD_limit_2 ⟨by decide, by decide⟩ hno hlk
set_option maxRecDepth 20000 in
theorem mD_limit_TI (l : Launch) (D : va_G) (cI cB : ClassId) (L : Nat) (ad : Nat → Nat → Nat) (M : fd_Mem) (f : Nat) (hf : f < 4) (x : Int) (hx : -2147483648 ≤ x ∧ x < 2147483648) (hok : ds_ok L M) (hg : ¬ (0 ≤ x ∧ x ≤ 99 ∧ (f = 0 ∨ x ≤ M 3 0 (f - 1)) ∧ (f = 3 ∨ M 3 0 (f + 1) ≤ x))) (hl : l.stackTraces = false) : ds_MT l D cI cB L ad yD_limit wD_limit ({ frames := 6, cells := 1, slots := 6, locals := 90 }) [.ref (ad 0 0), .int (fd_I ((f : Nat) : Int)), .int (fd_I (x))] M "java/lang/IllegalArgumentException" := by
  refine fd_enterT (by decide) rfl ds_nd (by simp [Value.category]) (Nat.le_of_ble_eq_true rfl) ?_
  intro A p e s m args below meth c C hlk hno hE
  have C : fd_C p m c cD_limit 3 s args fd_T "FareDesk" D fd_cl (ds_tys cI cB) ds_wl A := C
  refine fd_pad 0 ?_
  refine fd_aload_n C dD_limit_0 rfl ?_
  refine fd_iload_n C dD_limit_1 rfl ?_
  refine fd_callVv C hE [.int (fd_I ((f : Nat) : Int))] (k := 0) (i := 0) (mD_requireFare l D cI cB L ad M ((f : Nat) : Int) (by omega)) (cwV 1 C.1.2.2.2.2 (gD_requireFare fw1_155) rfl rfl rfl ⟨rfl, by decide, by decide, by decide +kernel⟩ ⟨by decide, by decide⟩) (ds_m (by decide)) rfl rfl rfl (Nat.le_of_ble_eq_true rfl) dD_limit_2 ⟨by decide, by decide⟩ ?_
  refine fd_aload_n C dD_limit_5 rfl ?_
  refine fd_get C (k := 0) (i := 0) (j := 0) (v := .ref (ad 2 0)) (ds_m (by decide)) rfl rfl (by decide) wsD fw1_113 rfl dD_limit_6 ?_
  refine fd_iload_n C dD_limit_9 rfl ?_
  refine fd_iload_n C dD_limit_10 rfl ?_
  refine fd_callVi C hE [.int (fd_I ((f : Nat) : Int)), .int (fd_I (x))] (k := 2) (i := 0) (mF_mayLimit l D cI cB L ad M f hf x hx (fun k hk => hok.lim hk)) (cwV 2 C.1.2.2.2.2 (gF_mayLimit fw1_227) rfl rfl rfl ⟨rfl, by decide, by decide, by decide +kernel⟩ ⟨by decide, by decide⟩) (ds_m (by decide)) rfl rfl rfl (Nat.le_of_ble_eq_true rfl) dD_limit_11 ⟨by decide, by decide⟩ ?_
  refine fd_if_ne C (tgt := 27) dD_limit_14 rfl ⟨by split <;> omega, by split <;> omega⟩ (fun h14t => ?_) (fun h14f => ?_)
  · skip
    exfalso; rw [if_neg hg] at h14t; omega
  · skip
    exact fd_throwI C hl hE (text := "no such limit for this fare") (List.mem_of_getElem? (i := 1) rfl) dD_limit_17 dD_limit_20 dD_limit_21 dD_limit_23 dD_limit_26 hno hlk ⟨by decide, by decide, by decide, by decide⟩ rfl
set_option maxRecDepth 20000 in
theorem mD_limit_TS (l : Launch) (D : va_G) (cI cB : ClassId) (L : Nat) (ad : Nat → Nat → Nat) (M : fd_Mem) (f : Nat) (hf : f < 4) (x : Int) (hx : -2147483648 ≤ x ∧ x < 2147483648) (hok : ds_ok L M) (hg : 0 ≤ x ∧ x ≤ 99 ∧ (f = 0 ∨ x ≤ M 3 0 (f - 1)) ∧ (f = 3 ∨ M 3 0 (f + 1) ≤ x)) (hc : M 0 0 6 = 1) (hl : l.stackTraces = false) : ds_MT l D cI cB L ad yD_limit wD_limit ({ frames := 7, cells := 1, slots := 6, locals := 110 }) [.ref (ad 0 0), .int (fd_I ((f : Nat) : Int)), .int (fd_I (x))] M "java/lang/IllegalStateException" := by
  refine fd_enterT (by decide) rfl ds_nd (by simp [Value.category]) (Nat.le_of_ble_eq_true rfl) ?_
  intro A p e s m args below meth c C hlk hno hE
  have C : fd_C p m c cD_limit 3 s args fd_T "FareDesk" D fd_cl (ds_tys cI cB) ds_wl A := C
  refine fd_pad 0 ?_
  refine fd_aload_n C dD_limit_0 rfl ?_
  refine fd_iload_n C dD_limit_1 rfl ?_
  refine fd_callVv C hE [.int (fd_I ((f : Nat) : Int))] (k := 0) (i := 0) (mD_requireFare l D cI cB L ad M ((f : Nat) : Int) (by omega)) (cwV 1 C.1.2.2.2.2 (gD_requireFare fw1_155) rfl rfl rfl ⟨rfl, by decide, by decide, by decide +kernel⟩ ⟨by decide, by decide⟩) (ds_m (by decide)) rfl rfl rfl (Nat.le_of_ble_eq_true rfl) dD_limit_2 ⟨by decide, by decide⟩ ?_
  refine fd_aload_n C dD_limit_5 rfl ?_
  refine fd_get C (k := 0) (i := 0) (j := 0) (v := .ref (ad 2 0)) (ds_m (by decide)) rfl rfl (by decide) wsD fw1_113 rfl dD_limit_6 ?_
  refine fd_iload_n C dD_limit_9 rfl ?_
  refine fd_iload_n C dD_limit_10 rfl ?_
  refine fd_callVi C hE [.int (fd_I ((f : Nat) : Int)), .int (fd_I (x))] (k := 2) (i := 0) (mF_mayLimit l D cI cB L ad M f hf x hx (fun k hk => hok.lim hk)) (cwV 2 C.1.2.2.2.2 (gF_mayLimit fw1_227) rfl rfl rfl ⟨rfl, by decide, by decide, by decide +kernel⟩ ⟨by decide, by decide⟩) (ds_m (by decide)) rfl rfl rfl (Nat.le_of_ble_eq_true rfl) dD_limit_11 ⟨by decide, by decide⟩ ?_
  refine fd_if_ne C (tgt := 27) dD_limit_14 rfl ⟨by split <;> omega, by split <;> omega⟩ (fun h14t => ?_) (fun h14f => ?_)
  · skip
    refine fd_aload_n C dD_limit_27 rfl ?_
    exact fd_thruV C hE [] (k := 0) (i := 0) rfl (mD_requireOpen_T l D cI cB L ad M hc hl) (cwV 0 C.1.2.2.2.2 (gD_requireOpen fw1_232) rfl rfl rfl ⟨rfl, by decide, by decide, by decide +kernel⟩ ⟨by decide, by decide⟩) (ds_m (by decide)) rfl rfl rfl (Nat.le_of_ble_eq_true rfl) dD_limit_28 ⟨by decide, by decide⟩ hno hlk
  · skip
    exfalso; rw [if_pos hg] at h14f; omega
set_option maxRecDepth 20000 in
theorem mD_price (l : Launch) (D : va_G) (cI cB : ClassId) (L : Nat) (ad : Nat → Nat → Nat) (M : fd_Mem) (f : Nat) (hf : f < 4) (x : Int) (hx : 0 ≤ x ∧ x ≤ 9999) : ds_Mv l D cI cB L ad yD_price wD_price ({ frames := 1, cells := 0, slots := 0, locals := 21 }) [.ref (ad 0 0), .int (fd_I ((f : Nat) : Int)), .int (fd_I (x))] M (fd_u3 M 4 0 f x) := by
  refine fd_enterV (by decide) rfl ds_nd (by simp [Value.category]) (Nat.le_of_ble_eq_true rfl) ?_
  intro A p e s m args below meth c C hr hlk hE
  have C : fd_C p m c cD_price 3 s args fd_T "FareDesk" D fd_cl (ds_tys cI cB) ds_wl A := C
  refine fd_pad 0 ?_
  refine fd_aload_n C dD_price_0 rfl ?_
  refine fd_iload_n C dD_price_1 rfl ?_
  refine fd_callVv C hE [.int (fd_I ((f : Nat) : Int))] (k := 0) (i := 0) (mD_requireFare l D cI cB L ad M ((f : Nat) : Int) (by omega)) (cwV 1 C.1.2.2.2.2 (gD_requireFare fw1_155) rfl rfl rfl ⟨rfl, by decide, by decide, by decide +kernel⟩ ⟨by decide, by decide⟩) (ds_m (by decide)) rfl rfl rfl (Nat.le_of_ble_eq_true rfl) dD_price_2 ⟨by decide, by decide⟩ ?_
  refine fd_iload_n C dD_price_5 rfl ?_
  refine fd_if_lt C (tgt := 16) dD_price_6 rfl ⟨by omega, by omega⟩ (fun h6t => ?_) (fun h6f => ?_)
  · skip
    exfalso; omega
  · skip
    refine fd_iload_n C dD_price_9 rfl ?_
    refine fd_sipush C dD_price_10 (by decide) ?_
    refine fd_icmp_le C (tgt := 26) dD_price_13 rfl ⟨by omega, by omega⟩ ⟨by omega, by omega⟩ (fun h13t => ?_) (fun h13f => ?_)
    · skip
      refine fd_aload_n C dD_price_26 rfl ?_
      refine fd_get C (k := 0) (i := 0) (j := 0) (v := .ref (ad 2 0)) (ds_m (by decide)) rfl rfl (by decide) wsD fw1_113 rfl dD_price_27 ?_
      refine fd_get C (k := 2) (i := 0) (j := 1) (v := .ref (ad 4 0)) (ds_m (by decide)) rfl rfl (by decide) wsF fw1_42 rfl dD_price_30 ?_
      refine fd_iload_n C dD_price_33 rfl ?_
      refine fd_iload_n C dD_price_34 rfl ?_
      refine fd_iast C (k := 4) (i := 0) (x := f) (v := x) (ds_m (by decide)) (fun _ => rfl) (ds_tI cI cB) rfl (by omega) (by decide) dD_price_35 ?_
      exact fd_vret C hr hlk rfl dD_price_36
    · skip
      exfalso; omega
set_option maxRecDepth 20000 in
theorem mD_price_TF (l : Launch) (D : va_G) (cI cB : ClassId) (L : Nat) (ad : Nat → Nat → Nat) (M : fd_Mem) (f x : Int) (hf : -2147483648 ≤ f ∧ f < 2147483648) (hb : f < 0 ∨ 4 ≤ f) (hl : l.stackTraces = false) : ds_MT l D cI cB L ad yD_price wD_price ({ frames := 7, cells := 1, slots := 6, locals := 111 }) [.ref (ad 0 0), .int (fd_I (f)), .int (fd_I (x))] M "java/lang/IllegalArgumentException" := by
  refine fd_enterT (by decide) rfl ds_nd (by simp [Value.category]) (Nat.le_of_ble_eq_true rfl) ?_
  intro A p e s m args below meth c C hlk hno hE
  have C : fd_C p m c cD_price 3 s args fd_T "FareDesk" D fd_cl (ds_tys cI cB) ds_wl A := C
  refine fd_pad 0 ?_
  refine fd_aload_n C dD_price_0 rfl ?_
  refine fd_iload_n C dD_price_1 rfl ?_
  exact fd_thruV C hE [.int (fd_I (f))] (k := 0) (i := 0) rfl (mD_requireFare_T l D cI cB L ad M f hf hb hl) (cwV 1 C.1.2.2.2.2 (gD_requireFare fw1_155) rfl rfl rfl ⟨rfl, by decide, by decide, by decide +kernel⟩ ⟨by decide, by decide⟩) (ds_m (by decide)) rfl rfl rfl (Nat.le_of_ble_eq_true rfl) dD_price_2 ⟨by decide, by decide⟩ hno hlk
set_option maxRecDepth 20000 in
theorem mD_price_TI (l : Launch) (D : va_G) (cI cB : ClassId) (L : Nat) (ad : Nat → Nat → Nat) (M : fd_Mem) (f : Nat) (hf : f < 4) (x : Int) (hx : -2147483648 ≤ x ∧ x < 2147483648) (hg : x < 0 ∨ 9999 < x) (hl : l.stackTraces = false) : ds_MT l D cI cB L ad yD_price wD_price ({ frames := 6, cells := 1, slots := 6, locals := 90 }) [.ref (ad 0 0), .int (fd_I ((f : Nat) : Int)), .int (fd_I (x))] M "java/lang/IllegalArgumentException" := by
  refine fd_enterT (by decide) rfl ds_nd (by simp [Value.category]) (Nat.le_of_ble_eq_true rfl) ?_
  intro A p e s m args below meth c C hlk hno hE
  have C : fd_C p m c cD_price 3 s args fd_T "FareDesk" D fd_cl (ds_tys cI cB) ds_wl A := C
  refine fd_pad 0 ?_
  refine fd_aload_n C dD_price_0 rfl ?_
  refine fd_iload_n C dD_price_1 rfl ?_
  refine fd_callVv C hE [.int (fd_I ((f : Nat) : Int))] (k := 0) (i := 0) (mD_requireFare l D cI cB L ad M ((f : Nat) : Int) (by omega)) (cwV 1 C.1.2.2.2.2 (gD_requireFare fw1_155) rfl rfl rfl ⟨rfl, by decide, by decide, by decide +kernel⟩ ⟨by decide, by decide⟩) (ds_m (by decide)) rfl rfl rfl (Nat.le_of_ble_eq_true rfl) dD_price_2 ⟨by decide, by decide⟩ ?_
  refine fd_iload_n C dD_price_5 rfl ?_
  refine fd_if_lt C (tgt := 16) dD_price_6 rfl ⟨by omega, by omega⟩ (fun h6t => ?_) (fun h6f => ?_)
  · skip
    exact fd_throwI C hl hE (text := "no such price") (List.mem_of_getElem? (i := 3) rfl) dD_price_16 dD_price_19 dD_price_20 dD_price_22 dD_price_25 hno hlk ⟨by decide, by decide, by decide, by decide⟩ rfl
  · skip
    refine fd_iload_n C dD_price_9 rfl ?_
    refine fd_sipush C dD_price_10 (by decide) ?_
    refine fd_icmp_le C (tgt := 26) dD_price_13 rfl ⟨by omega, by omega⟩ ⟨by omega, by omega⟩ (fun h13t => ?_) (fun h13f => ?_)
    · skip
      exfalso; omega
    · skip
      exact fd_throwI C hl hE (text := "no such price") (List.mem_of_getElem? (i := 3) rfl) dD_price_16 dD_price_19 dD_price_20 dD_price_22 dD_price_25 hno hlk ⟨by decide, by decide, by decide, by decide⟩ rfl
set_option maxRecDepth 20000 in
theorem mD_room (l : Launch) (D : va_G) (cI cB : ClassId) (L : Nat) (ad : Nat → Nat → Nat) (M : fd_Mem) (f : Nat) (hf : f < 4) (hb : ds_b35 M) : ds_Mi l D cI cB L ad yD_room wD_room ({ frames := 2, cells := 0, slots := 0, locals := 46 }) [.ref (ad 0 0), .int (fd_I ((f : Nat) : Int))] M (ds_rm M f) (M) := by
  refine fd_enterI (by decide) rfl ds_nd (by simp [Value.category]) (Nat.le_of_ble_eq_true rfl) ?_
  intro A p e s m args below meth c C hr hlk hE
  have C : fd_C p m c cD_room 2 s args fd_T "FareDesk" D fd_cl (ds_tys cI cB) ds_wl A := C
  refine fd_pad 0 ?_
  refine fd_aload_n C dD_room_0 rfl ?_
  refine fd_iload_n C dD_room_1 rfl ?_
  refine fd_callVv C hE [.int (fd_I ((f : Nat) : Int))] (k := 0) (i := 0) (mD_requireFare l D cI cB L ad M ((f : Nat) : Int) (by omega)) (cwV 1 C.1.2.2.2.2 (gD_requireFare fw1_155) rfl rfl rfl ⟨rfl, by decide, by decide, by decide +kernel⟩ ⟨by decide, by decide⟩) (ds_m (by decide)) rfl rfl rfl (Nat.le_of_ble_eq_true rfl) dD_room_2 ⟨by decide, by decide⟩ ?_
  refine fd_aload_n C dD_room_5 rfl ?_
  refine fd_get C (k := 0) (i := 0) (j := 0) (v := .ref (ad 2 0)) (ds_m (by decide)) rfl rfl (by decide) wsD fw1_113 rfl dD_room_6 ?_
  refine fd_iload_n C dD_room_9 rfl ?_
  refine fd_callVi C hE [.int (fd_I ((f : Nat) : Int))] (k := 2) (i := 0) (mF_roomIn l D cI cB L ad M f hf hb) (cwV 1 C.1.2.2.2.2 (gF_roomIn fw2_16) rfl rfl rfl ⟨rfl, by decide, by decide, by decide +kernel⟩ ⟨by decide, by decide⟩) (ds_m (by decide)) rfl rfl rfl (Nat.le_of_ble_eq_true rfl) dD_room_10 ⟨by decide, by decide⟩ ?_
  exact fd_iret C hr hlk (by first | rfl | omega | (split <;> omega) | (simp; omega)) rfl dD_room_13
set_option maxRecDepth 20000 in
theorem mD_room_TF (l : Launch) (D : va_G) (cI cB : ClassId) (L : Nat) (ad : Nat → Nat → Nat) (M : fd_Mem) (f : Int) (hf : -2147483648 ≤ f ∧ f < 2147483648) (hb : f < 0 ∨ 4 ≤ f) (hl : l.stackTraces = false) : ds_MT l D cI cB L ad yD_room wD_room ({ frames := 7, cells := 1, slots := 6, locals := 111 }) [.ref (ad 0 0), .int (fd_I (f))] M "java/lang/IllegalArgumentException" := by
  refine fd_enterT (by decide) rfl ds_nd (by simp [Value.category]) (Nat.le_of_ble_eq_true rfl) ?_
  intro A p e s m args below meth c C hlk hno hE
  have C : fd_C p m c cD_room 2 s args fd_T "FareDesk" D fd_cl (ds_tys cI cB) ds_wl A := C
  refine fd_pad 0 ?_
  refine fd_aload_n C dD_room_0 rfl ?_
  refine fd_iload_n C dD_room_1 rfl ?_
  exact fd_thruV C hE [.int (fd_I (f))] (k := 0) (i := 0) rfl (mD_requireFare_T l D cI cB L ad M f hf hb hl) (cwV 1 C.1.2.2.2.2 (gD_requireFare fw1_155) rfl rfl rfl ⟨rfl, by decide, by decide, by decide +kernel⟩ ⟨by decide, by decide⟩) (ds_m (by decide)) rfl rfl rfl (Nat.le_of_ble_eq_true rfl) dD_room_2 ⟨by decide, by decide⟩ hno hlk
set_option maxRecDepth 20000 in
theorem mD_hold (l : Launch) (D : va_G) (cI cB : ClassId) (L : Nat) (ad : Nat → Nat → Nat) (M : fd_Mem) (f : Nat) (hf : f < 4) (pl tk : Int) (hp : 1 ≤ pl ∧ pl ≤ 6) (ht : 1 ≤ tk ∧ tk ≤ 50) (hc : M 0 0 6 = 0) (hm : 0 ≤ M 0 0 3 ∧ M 0 0 3 < 60) (hnum : M 8 (M 0 0 3).toNat 0 = M 0 0 3) (hb : ds_b35 M) (hr9 : pl ≤ ds_rm M f) : ds_Mi l D cI cB L ad yD_hold wD_hold ({ frames := 3, cells := 0, slots := 0, locals := 68 }) [.ref (ad 0 0), .int (fd_I ((f : Nat) : Int)), .int (fd_I (pl)), .int (fd_I (tk))] M (M 0 0 3) (ds_hld M ((f : Nat) : Int) pl tk) := by
  refine fd_enterI (by decide) rfl ds_nd (by simp [Value.category]) (Nat.le_of_ble_eq_true rfl) ?_
  intro A p e s m args below meth c C hr hlk hE
  have C : fd_C p m c cD_hold 5 s args fd_T "FareDesk" D fd_cl (ds_tys cI cB) ds_wl A := C
  refine fd_pad 1 ?_
  refine fd_aload_n C dD_hold_0 rfl ?_
  refine fd_iload_n C dD_hold_1 rfl ?_
  refine fd_iload_n C dD_hold_2 rfl ?_
  refine fd_iload_n C dD_hold_3 rfl ?_
  refine fd_callVv C hE [.int (fd_I ((f : Nat) : Int)), .int (fd_I (pl)), .int (fd_I (tk))] (k := 0) (i := 0) (mD_requireNewBooking l D cI cB L ad M ((f : Nat) : Int) pl tk (by omega) hp ht hc hm) (cwV 3 C.1.2.2.2.2 (gD_requireNewBooking fw2_52) rfl rfl rfl ⟨rfl, by decide, by decide, by decide +kernel⟩ ⟨by decide, by decide⟩) (ds_m (by decide)) rfl rfl rfl (Nat.le_of_ble_eq_true rfl) dD_hold_4 ⟨by decide, by decide⟩ ?_
  refine fd_aload_n C dD_hold_7 rfl ?_
  refine fd_iload_n C dD_hold_8 rfl ?_
  refine fd_iload_n C dD_hold_9 rfl ?_
  refine fd_callVv C hE [.int (fd_I ((f : Nat) : Int)), .int (fd_I (pl))] (k := 0) (i := 0) (mD_requireRoom l D cI cB L ad M f hf pl (by omega) hb hr9) (cwV 2 C.1.2.2.2.2 (gD_requireRoom fw2_59) rfl rfl rfl ⟨rfl, by decide, by decide, by decide +kernel⟩ ⟨by decide, by decide⟩) (ds_m (by decide)) rfl rfl rfl (Nat.le_of_ble_eq_true rfl) dD_hold_10 ⟨by decide, by decide⟩ ?_
  refine fd_aload_n C dD_hold_13 rfl ?_
  refine fd_iload_n C dD_hold_14 rfl ?_
  refine fd_iload_n C dD_hold_15 rfl ?_
  refine fd_iload_n C dD_hold_16 rfl ?_
  refine fd_callVr C hE [.int (fd_I ((f : Nat) : Int)), .int (fd_I (pl)), .int (fd_I (tk))] (k := 0) (i := 0) (mD_newBooking l D cI cB L ad M ((f : Nat) : Int) pl tk hm) (cwV 3 C.1.2.2.2.2 (gD_newBooking fw2_79) rfl rfl rfl ⟨rfl, by decide, by decide, by decide +kernel⟩ ⟨by decide, by decide⟩) (ds_m (by decide)) rfl rfl rfl (Nat.le_of_ble_eq_true rfl) dD_hold_17 ⟨by decide, by decide⟩ ?_
  refine fd_astore C dD_hold_20 (by decide) ?_
  refine fd_aload_n C dD_hold_22 rfl ?_
  refine fd_aload C dD_hold_23 rfl ?_
  refine fd_callVv C hE [.ref (ad 8 ((M 0 0 3).toNat))] (k := 0) (i := 0) (mD_startHolding l D cI cB L ad (ds_new M ((f : Nat) : Int) pl tk) (M 0 0 3).toNat (by omega) (by simp [ds_new, fd_u3_at]; omega)) (cwV 1 C.1.2.2.2.2 (gD_startHolding fw2_25) rfl rfl rfl ⟨rfl, by decide, by decide, by decide +kernel⟩ ⟨by decide, by decide⟩) (ds_m (by decide)) rfl rfl rfl (Nat.le_of_ble_eq_true rfl) dD_hold_25 ⟨by decide, by decide⟩ ?_
  refine fd_aload C dD_hold_28 rfl ?_
  refine fd_get C (k := 8) (i := ((M 0 0 3).toNat)) (j := 0) (v := .int (fd_I ((ds_hld M ((f : Nat) : Int) pl tk) 8 ((M 0 0 3).toNat) 0))) (ds_m8 (by omega)) rfl rfl (by decide) wsB fw1_76 rfl dD_hold_30 ?_
  exact fd_iret C hr hlk (by simp [ds_hld, ds_hold, ds_new, fd_u3_at]; exact hnum) rfl dD_hold_33
set_option maxRecDepth 20000 in
theorem mD_hold_TI (l : Launch) (D : va_G) (cI cB : ClassId) (L : Nat) (ad : Nat → Nat → Nat) (M : fd_Mem) (f pl tk : Int) (hf : -2147483648 ≤ f ∧ f < 2147483648) (hpl : -2147483648 ≤ pl ∧ pl < 2147483648) (htk : -2147483648 ≤ tk ∧ tk < 2147483648) (hb : ¬ ((0 ≤ f ∧ f < 4) ∧ (1 ≤ pl ∧ pl ≤ 6) ∧ (1 ≤ tk ∧ tk ≤ 50))) (hl : l.stackTraces = false) : ds_MT l D cI cB L ad yD_hold wD_hold ({ frames := 8, cells := 1, slots := 6, locals := 134 }) [.ref (ad 0 0), .int (fd_I (f)), .int (fd_I (pl)), .int (fd_I (tk))] M "java/lang/IllegalArgumentException" := by
  refine fd_enterT (by decide) rfl ds_nd (by simp [Value.category]) (Nat.le_of_ble_eq_true rfl) ?_
  intro A p e s m args below meth c C hlk hno hE
  have C : fd_C p m c cD_hold 5 s args fd_T "FareDesk" D fd_cl (ds_tys cI cB) ds_wl A := C
  refine fd_pad 1 ?_
  refine fd_aload_n C dD_hold_0 rfl ?_
  refine fd_iload_n C dD_hold_1 rfl ?_
  refine fd_iload_n C dD_hold_2 rfl ?_
  refine fd_iload_n C dD_hold_3 rfl ?_
  exact fd_thruV C hE [.int (fd_I (f)), .int (fd_I (pl)), .int (fd_I (tk))] (k := 0) (i := 0) rfl (mD_requireNewBooking_TI l D cI cB L ad M f pl tk hf hpl htk hb hl) (cwV 3 C.1.2.2.2.2 (gD_requireNewBooking fw2_52) rfl rfl rfl ⟨rfl, by decide, by decide, by decide +kernel⟩ ⟨by decide, by decide⟩) (ds_m (by decide)) rfl rfl rfl (Nat.le_of_ble_eq_true rfl) dD_hold_4 ⟨by decide, by decide⟩ hno hlk
set_option maxRecDepth 20000 in
theorem mD_hold_TS (l : Launch) (D : va_G) (cI cB : ClassId) (L : Nat) (ad : Nat → Nat → Nat) (M : fd_Mem) (f pl tk : Int) (hf : (0 ≤ f ∧ f < 4)) (hp : (1 ≤ pl ∧ pl ≤ 6)) (ht : (1 ≤ tk ∧ tk ≤ 50)) (hc : 0 ≤ M 0 0 6 ∧ M 0 0 6 ≤ 1) (hb : M 0 0 6 = 1 ∨ 60 ≤ M 0 0 3) (hm : 0 ≤ M 0 0 3 ∧ M 0 0 3 ≤ 60) (hl : l.stackTraces = false) : ds_MT l D cI cB L ad yD_hold wD_hold ({ frames := 8, cells := 1, slots := 6, locals := 133 }) [.ref (ad 0 0), .int (fd_I (f)), .int (fd_I (pl)), .int (fd_I (tk))] M "java/lang/IllegalStateException" := by
  refine fd_enterT (by decide) rfl ds_nd (by simp [Value.category]) (Nat.le_of_ble_eq_true rfl) ?_
  intro A p e s m args below meth c C hlk hno hE
  have C : fd_C p m c cD_hold 5 s args fd_T "FareDesk" D fd_cl (ds_tys cI cB) ds_wl A := C
  refine fd_pad 1 ?_
  refine fd_aload_n C dD_hold_0 rfl ?_
  refine fd_iload_n C dD_hold_1 rfl ?_
  refine fd_iload_n C dD_hold_2 rfl ?_
  refine fd_iload_n C dD_hold_3 rfl ?_
  exact fd_thruV C hE [.int (fd_I (f)), .int (fd_I (pl)), .int (fd_I (tk))] (k := 0) (i := 0) rfl (mD_requireNewBooking_TS l D cI cB L ad M f pl tk hf hp ht hc hb hm hl) (cwV 3 C.1.2.2.2.2 (gD_requireNewBooking fw2_52) rfl rfl rfl ⟨rfl, by decide, by decide, by decide +kernel⟩ ⟨by decide, by decide⟩) (ds_m (by decide)) rfl rfl rfl (Nat.le_of_ble_eq_true rfl) dD_hold_4 ⟨by decide, by decide⟩ hno hlk
set_option maxRecDepth 20000 in
theorem mD_hold_TU (l : Launch) (D : va_G) (cI cB : ClassId) (L : Nat) (ad : Nat → Nat → Nat) (M : fd_Mem) (f : Nat) (hf : f < 4) (pl tk : Int) (hp : 1 ≤ pl ∧ pl ≤ 6) (ht : 1 ≤ tk ∧ tk ≤ 50) (hc : M 0 0 6 = 0) (hm : 0 ≤ M 0 0 3 ∧ M 0 0 3 < 60) (hb : ds_b35 M) (hr9 : ds_rm M f < pl) (hl : l.stackTraces = false) : ds_MT l D cI cB L ad yD_hold wD_hold ({ frames := 7, cells := 1, slots := 6, locals := 112 }) [.ref (ad 0 0), .int (fd_I ((f : Nat) : Int)), .int (fd_I (pl)), .int (fd_I (tk))] M "java/lang/UnsupportedOperationException" := by
  refine fd_enterT (by decide) rfl ds_nd (by simp [Value.category]) (Nat.le_of_ble_eq_true rfl) ?_
  intro A p e s m args below meth c C hlk hno hE
  have C : fd_C p m c cD_hold 5 s args fd_T "FareDesk" D fd_cl (ds_tys cI cB) ds_wl A := C
  refine fd_pad 1 ?_
  refine fd_aload_n C dD_hold_0 rfl ?_
  refine fd_iload_n C dD_hold_1 rfl ?_
  refine fd_iload_n C dD_hold_2 rfl ?_
  refine fd_iload_n C dD_hold_3 rfl ?_
  refine fd_callVv C hE [.int (fd_I ((f : Nat) : Int)), .int (fd_I (pl)), .int (fd_I (tk))] (k := 0) (i := 0) (mD_requireNewBooking l D cI cB L ad M ((f : Nat) : Int) pl tk (by omega) hp ht hc hm) (cwV 3 C.1.2.2.2.2 (gD_requireNewBooking fw2_52) rfl rfl rfl ⟨rfl, by decide, by decide, by decide +kernel⟩ ⟨by decide, by decide⟩) (ds_m (by decide)) rfl rfl rfl (Nat.le_of_ble_eq_true rfl) dD_hold_4 ⟨by decide, by decide⟩ ?_
  refine fd_aload_n C dD_hold_7 rfl ?_
  refine fd_iload_n C dD_hold_8 rfl ?_
  refine fd_iload_n C dD_hold_9 rfl ?_
  exact fd_thruV C hE [.int (fd_I ((f : Nat) : Int)), .int (fd_I (pl))] (k := 0) (i := 0) rfl (mD_requireRoom_T l D cI cB L ad M f hf pl (by omega) hb hr9 hl) (cwV 2 C.1.2.2.2.2 (gD_requireRoom fw2_59) rfl rfl rfl ⟨rfl, by decide, by decide, by decide +kernel⟩ ⟨by decide, by decide⟩) (ds_m (by decide)) rfl rfl rfl (Nat.le_of_ble_eq_true rfl) dD_hold_10 ⟨by decide, by decide⟩ hno hlk
set_option maxRecDepth 20000 in
theorem mD_join (l : Launch) (D : va_G) (cI cB : ClassId) (L : Nat) (ad : Nat → Nat → Nat) (M : fd_Mem) (f : Nat) (hf : f < 4) (pl tk : Int) (hp : 1 ≤ pl ∧ pl ≤ 6) (ht : 1 ≤ tk ∧ tk ≤ 50) (hc : M 0 0 6 = 0) (hm : 0 ≤ M 0 0 3 ∧ M 0 0 3 < 60) (hnum : M 8 (M 0 0 3).toNat 0 = M 0 0 3) (hs : ds_sok L (ds_joi M ((f : Nat) : Int) pl tk)) : ds_Mi l D cI cB L ad yD_join wD_join ({ frames := 3, cells := 0, slots := 0, locals := 68 }) [.ref (ad 0 0), .int (fd_I ((f : Nat) : Int)), .int (fd_I (pl)), .int (fd_I (tk))] M (M 0 0 3) (ds_serve (ds_joi M ((f : Nat) : Int) pl tk)) := by
  refine fd_enterI (by decide) rfl ds_nd (by simp [Value.category]) (Nat.le_of_ble_eq_true rfl) ?_
  intro A p e s m args below meth c C hr hlk hE
  have C : fd_C p m c cD_join 5 s args fd_T "FareDesk" D fd_cl (ds_tys cI cB) ds_wl A := C
  refine fd_pad 1 ?_
  refine fd_aload_n C dD_join_0 rfl ?_
  refine fd_iload_n C dD_join_1 rfl ?_
  refine fd_iload_n C dD_join_2 rfl ?_
  refine fd_iload_n C dD_join_3 rfl ?_
  refine fd_callVv C hE [.int (fd_I ((f : Nat) : Int)), .int (fd_I (pl)), .int (fd_I (tk))] (k := 0) (i := 0) (mD_requireNewBooking l D cI cB L ad M ((f : Nat) : Int) pl tk (by omega) hp ht hc hm) (cwV 3 C.1.2.2.2.2 (gD_requireNewBooking fw2_52) rfl rfl rfl ⟨rfl, by decide, by decide, by decide +kernel⟩ ⟨by decide, by decide⟩) (ds_m (by decide)) rfl rfl rfl (Nat.le_of_ble_eq_true rfl) dD_join_4 ⟨by decide, by decide⟩ ?_
  refine fd_aload_n C dD_join_7 rfl ?_
  refine fd_iload_n C dD_join_8 rfl ?_
  refine fd_iload_n C dD_join_9 rfl ?_
  refine fd_iload_n C dD_join_10 rfl ?_
  refine fd_callVr C hE [.int (fd_I ((f : Nat) : Int)), .int (fd_I (pl)), .int (fd_I (tk))] (k := 0) (i := 0) (mD_newBooking l D cI cB L ad M ((f : Nat) : Int) pl tk hm) (cwV 3 C.1.2.2.2.2 (gD_newBooking fw2_79) rfl rfl rfl ⟨rfl, by decide, by decide, by decide +kernel⟩ ⟨by decide, by decide⟩) (ds_m (by decide)) rfl rfl rfl (Nat.le_of_ble_eq_true rfl) dD_join_11 ⟨by decide, by decide⟩ ?_
  refine fd_astore C dD_join_14 (by decide) ?_
  refine fd_aload C dD_join_16 rfl ?_
  refine fd_iconst C dD_join_18 ?_
  refine fd_put C (k := 8) (i := ((M 0 0 3).toNat)) (j := 3) (z := 3) (ty := .int) tyB (ds_m8 (by omega)) rfl rfl rfl (by decide) wsB tyB_ok nmB fw1_84 rfl (by decide +kernel) rfl rfl (Nat.le_of_ble_eq_true rfl) dD_join_19 ?_
  refine fd_aload_n C dD_join_22 rfl ?_
  refine fd_callVv C hE [] (k := 0) (i := 0) (mD_serveWaiting l D cI cB L ad (fd_u3 (ds_new M ((f : Nat) : Int) pl tk) 8 ((M 0 0 3).toNat) 3 (3)) hs.1 hs.2) (cwV 0 C.1.2.2.2.2 (gD_serveWaiting fw2_12) rfl rfl rfl ⟨rfl, by decide, by decide, by decide +kernel⟩ ⟨by decide, by decide⟩) (ds_m (by decide)) rfl rfl rfl (Nat.le_of_ble_eq_true rfl) dD_join_23 ⟨by decide, by decide⟩ ?_
  refine fd_aload C dD_join_26 rfl ?_
  refine fd_get C (k := 8) (i := ((M 0 0 3).toNat)) (j := 0) (v := .int (fd_I ((ds_serve (ds_joi M ((f : Nat) : Int) pl tk)) 8 ((M 0 0 3).toNat) 0))) (ds_m8 (by omega)) rfl rfl (by decide) wsB fw1_76 rfl dD_join_28 ?_
  exact fd_iret C hr hlk (by rw [ds_serve_80]; simp [ds_joi, ds_new, fd_u3_at]; exact hnum) rfl dD_join_31
set_option maxRecDepth 20000 in
theorem mD_join_TI (l : Launch) (D : va_G) (cI cB : ClassId) (L : Nat) (ad : Nat → Nat → Nat) (M : fd_Mem) (f pl tk : Int) (hf : -2147483648 ≤ f ∧ f < 2147483648) (hpl : -2147483648 ≤ pl ∧ pl < 2147483648) (htk : -2147483648 ≤ tk ∧ tk < 2147483648) (hb : ¬ ((0 ≤ f ∧ f < 4) ∧ (1 ≤ pl ∧ pl ≤ 6) ∧ (1 ≤ tk ∧ tk ≤ 50))) (hl : l.stackTraces = false) : ds_MT l D cI cB L ad yD_join wD_join ({ frames := 8, cells := 1, slots := 6, locals := 134 }) [.ref (ad 0 0), .int (fd_I (f)), .int (fd_I (pl)), .int (fd_I (tk))] M "java/lang/IllegalArgumentException" := by
  refine fd_enterT (by decide) rfl ds_nd (by simp [Value.category]) (Nat.le_of_ble_eq_true rfl) ?_
  intro A p e s m args below meth c C hlk hno hE
  have C : fd_C p m c cD_join 5 s args fd_T "FareDesk" D fd_cl (ds_tys cI cB) ds_wl A := C
  refine fd_pad 1 ?_
  refine fd_aload_n C dD_join_0 rfl ?_
  refine fd_iload_n C dD_join_1 rfl ?_
  refine fd_iload_n C dD_join_2 rfl ?_
  refine fd_iload_n C dD_join_3 rfl ?_
  exact fd_thruV C hE [.int (fd_I (f)), .int (fd_I (pl)), .int (fd_I (tk))] (k := 0) (i := 0) rfl (mD_requireNewBooking_TI l D cI cB L ad M f pl tk hf hpl htk hb hl) (cwV 3 C.1.2.2.2.2 (gD_requireNewBooking fw2_52) rfl rfl rfl ⟨rfl, by decide, by decide, by decide +kernel⟩ ⟨by decide, by decide⟩) (ds_m (by decide)) rfl rfl rfl (Nat.le_of_ble_eq_true rfl) dD_join_4 ⟨by decide, by decide⟩ hno hlk
set_option maxRecDepth 20000 in
theorem mD_join_TS (l : Launch) (D : va_G) (cI cB : ClassId) (L : Nat) (ad : Nat → Nat → Nat) (M : fd_Mem) (f pl tk : Int) (hf : (0 ≤ f ∧ f < 4)) (hp : (1 ≤ pl ∧ pl ≤ 6)) (ht : (1 ≤ tk ∧ tk ≤ 50)) (hc : 0 ≤ M 0 0 6 ∧ M 0 0 6 ≤ 1) (hb : M 0 0 6 = 1 ∨ 60 ≤ M 0 0 3) (hm : 0 ≤ M 0 0 3 ∧ M 0 0 3 ≤ 60) (hl : l.stackTraces = false) : ds_MT l D cI cB L ad yD_join wD_join ({ frames := 8, cells := 1, slots := 6, locals := 133 }) [.ref (ad 0 0), .int (fd_I (f)), .int (fd_I (pl)), .int (fd_I (tk))] M "java/lang/IllegalStateException" := by
  refine fd_enterT (by decide) rfl ds_nd (by simp [Value.category]) (Nat.le_of_ble_eq_true rfl) ?_
  intro A p e s m args below meth c C hlk hno hE
  have C : fd_C p m c cD_join 5 s args fd_T "FareDesk" D fd_cl (ds_tys cI cB) ds_wl A := C
  refine fd_pad 1 ?_
  refine fd_aload_n C dD_join_0 rfl ?_
  refine fd_iload_n C dD_join_1 rfl ?_
  refine fd_iload_n C dD_join_2 rfl ?_
  refine fd_iload_n C dD_join_3 rfl ?_
  exact fd_thruV C hE [.int (fd_I (f)), .int (fd_I (pl)), .int (fd_I (tk))] (k := 0) (i := 0) rfl (mD_requireNewBooking_TS l D cI cB L ad M f pl tk hf hp ht hc hb hm hl) (cwV 3 C.1.2.2.2.2 (gD_requireNewBooking fw2_52) rfl rfl rfl ⟨rfl, by decide, by decide, by decide +kernel⟩ ⟨by decide, by decide⟩) (ds_m (by decide)) rfl rfl rfl (Nat.le_of_ble_eq_true rfl) dD_join_4 ⟨by decide, by decide⟩ hno hlk
set_option maxRecDepth 20000 in
theorem mD_confirm_TB (l : Launch) (D : va_G) (cI cB : ClassId) (L : Nat) (ad : Nat → Nat → Nat) (M : fd_Mem) (n : Int) (hn : -2147483648 ≤ n ∧ n < 2147483648) (hb : n < 0 ∨ M 0 0 3 ≤ n) (hm : 0 ≤ M 0 0 3 ∧ M 0 0 3 ≤ 60)  (hl : l.stackTraces = false) : ds_MT l D cI cB L ad yD_confirm wD_confirm ({ frames := 7, cells := 1, slots := 6, locals := 111 }) [.ref (ad 0 0), .int (fd_I (n))] M "java/lang/IllegalArgumentException" := by
  refine fd_enterT (by decide) rfl ds_nd (by simp [Value.category]) (Nat.le_of_ble_eq_true rfl) ?_
  intro A p e s m args below meth c C hlk hno hE
  have C : fd_C p m c cD_confirm 3 s args fd_T "FareDesk" D fd_cl (ds_tys cI cB) ds_wl A := C
  refine fd_pad 1 ?_
  refine fd_aload_n C dD_confirm_0 rfl ?_
  refine fd_iload_n C dD_confirm_1 rfl ?_
  exact fd_thruV C hE [.int (fd_I (n))] (k := 0) (i := 0) rfl (mD_find_T l D cI cB L ad M n hn hb hm hl) (cwV 1 C.1.2.2.2.2 (gD_find fw2_97) rfl rfl rfl ⟨rfl, by decide, by decide, by decide +kernel⟩ ⟨by decide, by decide⟩) (ds_m (by decide)) rfl rfl rfl (Nat.le_of_ble_eq_true rfl) dD_confirm_2 ⟨by decide, by decide⟩ hno hlk
set_option maxRecDepth 20000 in
theorem mD_cancel_TB (l : Launch) (D : va_G) (cI cB : ClassId) (L : Nat) (ad : Nat → Nat → Nat) (M : fd_Mem) (n : Int) (hn : -2147483648 ≤ n ∧ n < 2147483648) (hb : n < 0 ∨ M 0 0 3 ≤ n) (hm : 0 ≤ M 0 0 3 ∧ M 0 0 3 ≤ 60)  (hl : l.stackTraces = false) : ds_MT l D cI cB L ad yD_cancel wD_cancel ({ frames := 7, cells := 1, slots := 6, locals := 111 }) [.ref (ad 0 0), .int (fd_I (n))] M "java/lang/IllegalArgumentException" := by
  refine fd_enterT (by decide) rfl ds_nd (by simp [Value.category]) (Nat.le_of_ble_eq_true rfl) ?_
  intro A p e s m args below meth c C hlk hno hE
  have C : fd_C p m c cD_cancel 4 s args fd_T "FareDesk" D fd_cl (ds_tys cI cB) ds_wl A := C
  refine fd_pad 2 ?_
  refine fd_aload_n C dD_cancel_0 rfl ?_
  refine fd_iload_n C dD_cancel_1 rfl ?_
  exact fd_thruV C hE [.int (fd_I (n))] (k := 0) (i := 0) rfl (mD_find_T l D cI cB L ad M n hn hb hm hl) (cwV 1 C.1.2.2.2.2 (gD_find fw2_97) rfl rfl rfl ⟨rfl, by decide, by decide, by decide +kernel⟩ ⟨by decide, by decide⟩) (ds_m (by decide)) rfl rfl rfl (Nat.le_of_ble_eq_true rfl) dD_cancel_2 ⟨by decide, by decide⟩ hno hlk
set_option maxRecDepth 20000 in
theorem mD_shrink_TB (l : Launch) (D : va_G) (cI cB : ClassId) (L : Nat) (ad : Nat → Nat → Nat) (M : fd_Mem) (n : Int) (hn : -2147483648 ≤ n ∧ n < 2147483648) (hb : n < 0 ∨ M 0 0 3 ≤ n) (hm : 0 ≤ M 0 0 3 ∧ M 0 0 3 ≤ 60)  (x0 : Int) (hl : l.stackTraces = false) : ds_MT l D cI cB L ad yD_shrink wD_shrink ({ frames := 7, cells := 1, slots := 6, locals := 111 }) [.ref (ad 0 0), .int (fd_I (n)), .int (fd_I (x0))] M "java/lang/IllegalArgumentException" := by
  refine fd_enterT (by decide) rfl ds_nd (by simp [Value.category]) (Nat.le_of_ble_eq_true rfl) ?_
  intro A p e s m args below meth c C hlk hno hE
  have C : fd_C p m c cD_shrink 5 s args fd_T "FareDesk" D fd_cl (ds_tys cI cB) ds_wl A := C
  refine fd_pad 2 ?_
  refine fd_aload_n C dD_shrink_0 rfl ?_
  refine fd_iload_n C dD_shrink_1 rfl ?_
  exact fd_thruV C hE [.int (fd_I (n))] (k := 0) (i := 0) rfl (mD_find_T l D cI cB L ad M n hn hb hm hl) (cwV 1 C.1.2.2.2.2 (gD_find fw2_97) rfl rfl rfl ⟨rfl, by decide, by decide, by decide +kernel⟩ ⟨by decide, by decide⟩) (ds_m (by decide)) rfl rfl rfl (Nat.le_of_ble_eq_true rfl) dD_shrink_2 ⟨by decide, by decide⟩ hno hlk
set_option maxRecDepth 20000 in
theorem mD_change_TB (l : Launch) (D : va_G) (cI cB : ClassId) (L : Nat) (ad : Nat → Nat → Nat) (M : fd_Mem) (n : Int) (hn : -2147483648 ≤ n ∧ n < 2147483648) (hb : n < 0 ∨ M 0 0 3 ≤ n) (hm : 0 ≤ M 0 0 3 ∧ M 0 0 3 ≤ 60)  (x0 : Int) (hl : l.stackTraces = false) : ds_MT l D cI cB L ad yD_change wD_change ({ frames := 7, cells := 1, slots := 6, locals := 111 }) [.ref (ad 0 0), .int (fd_I (n)), .int (fd_I (x0))] M "java/lang/IllegalArgumentException" := by
  refine fd_enterT (by decide) rfl ds_nd (by simp [Value.category]) (Nat.le_of_ble_eq_true rfl) ?_
  intro A p e s m args below meth c C hlk hno hE
  have C : fd_C p m c cD_change 4 s args fd_T "FareDesk" D fd_cl (ds_tys cI cB) ds_wl A := C
  refine fd_pad 1 ?_
  refine fd_aload_n C dD_change_0 rfl ?_
  refine fd_iload_n C dD_change_1 rfl ?_
  exact fd_thruV C hE [.int (fd_I (n))] (k := 0) (i := 0) rfl (mD_find_T l D cI cB L ad M n hn hb hm hl) (cwV 1 C.1.2.2.2.2 (gD_find fw2_97) rfl rfl rfl ⟨rfl, by decide, by decide, by decide +kernel⟩ ⟨by decide, by decide⟩) (ds_m (by decide)) rfl rfl rfl (Nat.le_of_ble_eq_true rfl) dD_change_2 ⟨by decide, by decide⟩ hno hlk
set_option maxRecDepth 20000 in
theorem mD_seat_TB (l : Launch) (D : va_G) (cI cB : ClassId) (L : Nat) (ad : Nat → Nat → Nat) (M : fd_Mem) (n : Int) (hn : -2147483648 ≤ n ∧ n < 2147483648) (hb : n < 0 ∨ M 0 0 3 ≤ n) (hm : 0 ≤ M 0 0 3 ∧ M 0 0 3 ≤ 60)  (x0 : Int) (hl : l.stackTraces = false) : ds_MT l D cI cB L ad yD_seat wD_seat ({ frames := 7, cells := 1, slots := 6, locals := 111 }) [.ref (ad 0 0), .int (fd_I (n)), .int (fd_I (x0))] M "java/lang/IllegalArgumentException" := by
  refine fd_enterT (by decide) rfl ds_nd (by simp [Value.category]) (Nat.le_of_ble_eq_true rfl) ?_
  intro A p e s m args below meth c C hlk hno hE
  have C : fd_C p m c cD_seat 4 s args fd_T "FareDesk" D fd_cl (ds_tys cI cB) ds_wl A := C
  refine fd_pad 1 ?_
  refine fd_aload_n C dD_seat_0 rfl ?_
  refine fd_iload_n C dD_seat_1 rfl ?_
  exact fd_thruV C hE [.int (fd_I (n))] (k := 0) (i := 0) rfl (mD_find_T l D cI cB L ad M n hn hb hm hl) (cwV 1 C.1.2.2.2.2 (gD_find fw2_97) rfl rfl rfl ⟨rfl, by decide, by decide, by decide +kernel⟩ ⟨by decide, by decide⟩) (ds_m (by decide)) rfl rfl rfl (Nat.le_of_ble_eq_true rfl) dD_seat_2 ⟨by decide, by decide⟩ hno hlk
set_option maxRecDepth 20000 in
theorem mD_together_TB (l : Launch) (D : va_G) (cI cB : ClassId) (L : Nat) (ad : Nat → Nat → Nat) (M : fd_Mem) (n : Int) (hn : -2147483648 ≤ n ∧ n < 2147483648) (hb : n < 0 ∨ M 0 0 3 ≤ n) (hm : 0 ≤ M 0 0 3 ∧ M 0 0 3 ≤ 60)  (hl : l.stackTraces = false) : ds_MT l D cI cB L ad yD_together wD_together ({ frames := 7, cells := 1, slots := 6, locals := 111 }) [.ref (ad 0 0), .int (fd_I (n))] M "java/lang/IllegalArgumentException" := by
  refine fd_enterT (by decide) rfl ds_nd (by simp [Value.category]) (Nat.le_of_ble_eq_true rfl) ?_
  intro A p e s m args below meth c C hlk hno hE
  have C : fd_C p m c cD_together 4 s args fd_T "FareDesk" D fd_cl (ds_tys cI cB) ds_wl A := C
  refine fd_pad 2 ?_
  refine fd_aload_n C dD_together_0 rfl ?_
  refine fd_iload_n C dD_together_1 rfl ?_
  exact fd_thruV C hE [.int (fd_I (n))] (k := 0) (i := 0) rfl (mD_find_T l D cI cB L ad M n hn hb hm hl) (cwV 1 C.1.2.2.2.2 (gD_find fw2_97) rfl rfl rfl ⟨rfl, by decide, by decide, by decide +kernel⟩ ⟨by decide, by decide⟩) (ds_m (by decide)) rfl rfl rfl (Nat.le_of_ble_eq_true rfl) dD_together_2 ⟨by decide, by decide⟩ hno hlk
set_option maxRecDepth 20000 in
theorem mD_of_TB (l : Launch) (D : va_G) (cI cB : ClassId) (L : Nat) (ad : Nat → Nat → Nat) (M : fd_Mem) (n : Int) (hn : -2147483648 ≤ n ∧ n < 2147483648) (hb : n < 0 ∨ M 0 0 3 ≤ n) (hm : 0 ≤ M 0 0 3 ∧ M 0 0 3 ≤ 60)  (x0 : Int) (hl : l.stackTraces = false) : ds_MT l D cI cB L ad yD_of wD_of ({ frames := 7, cells := 1, slots := 6, locals := 111 }) [.ref (ad 0 0), .int (fd_I (n)), .int (fd_I (x0))] M "java/lang/IllegalArgumentException" := by
  refine fd_enterT (by decide) rfl ds_nd (by simp [Value.category]) (Nat.le_of_ble_eq_true rfl) ?_
  intro A p e s m args below meth c C hlk hno hE
  have C : fd_C p m c cD_of 4 s args fd_T "FareDesk" D fd_cl (ds_tys cI cB) ds_wl A := C
  refine fd_pad 1 ?_
  refine fd_aload_n C dD_of_0 rfl ?_
  refine fd_iload_n C dD_of_1 rfl ?_
  exact fd_thruV C hE [.int (fd_I (n))] (k := 0) (i := 0) rfl (mD_find_T l D cI cB L ad M n hn hb hm hl) (cwV 1 C.1.2.2.2.2 (gD_find fw2_97) rfl rfl rfl ⟨rfl, by decide, by decide, by decide +kernel⟩ ⟨by decide, by decide⟩) (ds_m (by decide)) rfl rfl rfl (Nat.le_of_ble_eq_true rfl) dD_of_2 ⟨by decide, by decide⟩ hno hlk
set_option maxRecDepth 20000 in
theorem mD_confirm (l : Launch) (D : va_G) (cI cB : ClassId) (L : Nat) (ad : Nat → Nat → Nat) (M : fd_Mem) (n : Nat) (hn : (n : Int) < M 0 0 3) (hok : ds_ok L M) (hs : M 8 n 3 = 1) : ds_Mi l D cI cB L ad yD_confirm wD_confirm ({ frames := 1, cells := 0, slots := 0, locals := 21 }) [.ref (ad 0 0), .int (fd_I ((n : Nat) : Int))] M (M 8 n 5 * M 4 0 (M 8 n 4).toNat) (ds_cfm M n) := by
  have hm := hok.made
  have hn6 : n < 60 := by omega
  have e3 := hok.sta hn6
  have e4 := hok.far hn6
  have e2 := hok.sea hn6
  refine fd_enterI (by decide) rfl ds_nd (by simp [Value.category]) (Nat.le_of_ble_eq_true rfl) ?_
  intro A p e s m args below meth c C hr hlk hE
  have C : fd_C p m c cD_confirm 3 s args fd_T "FareDesk" D fd_cl (ds_tys cI cB) ds_wl A := C
  refine fd_pad 1 ?_
  refine fd_aload_n C dD_confirm_0 rfl ?_
  refine fd_iload_n C dD_confirm_1 rfl ?_
  refine fd_callVr C hE [.int (fd_I ((n : Nat) : Int))] (k := 0) (i := 0) (mD_find l D cI cB L ad M n hn hm) (cwV 1 C.1.2.2.2.2 (gD_find fw2_97) rfl rfl rfl ⟨rfl, by decide, by decide, by decide +kernel⟩ ⟨by decide, by decide⟩) (ds_m (by decide)) rfl rfl rfl (Nat.le_of_ble_eq_true rfl) dD_confirm_2 ⟨by decide, by decide⟩ ?_
  refine fd_astore_n C dD_confirm_5 (by decide) ?_
  refine fd_aload_n C dD_confirm_6 rfl ?_
  refine fd_get C (k := 8) (i := n) (j := 3) (v := .int (fd_I (M 8 n 3))) (ds_m8 hn6) rfl rfl (by decide) wsB fw1_84 rfl dD_confirm_7 ?_
  refine fd_iconst C dD_confirm_10 ?_
  refine fd_icmp_eq C (tgt := 24) dD_confirm_11 rfl ⟨by omega, by omega⟩ ⟨by omega, by omega⟩ (fun h11t => ?_) (fun h11f => ?_)
  · skip
    refine fd_aload_n C dD_confirm_24 rfl ?_
    refine fd_iconst C dD_confirm_25 ?_
    refine fd_put C (k := 8) (i := n) (j := 3) (z := 2) (ty := .int) tyB (ds_m8 hn6) rfl rfl rfl (by decide) wsB tyB_ok nmB fw1_84 rfl (by decide +kernel) rfl rfl (Nat.le_of_ble_eq_true rfl) dD_confirm_26 ?_
    refine fd_aload_n C dD_confirm_29 rfl ?_
    refine fd_aload_n C dD_confirm_30 rfl ?_
    refine fd_get C (k := 8) (i := n) (j := 5) (v := .int (fd_I (M 8 n 5))) (ds_m8 hn6) rfl rfl (by decide) wsB fw1_89 rfl dD_confirm_31 ?_
    refine fd_aload_n C dD_confirm_34 rfl ?_
    refine fd_get C (k := 0) (i := 0) (j := 0) (v := .ref (ad 2 0)) (ds_m (by decide)) rfl rfl (by decide) wsD fw1_113 rfl dD_confirm_35 ?_
    refine fd_get C (k := 2) (i := 0) (j := 1) (v := .ref (ad 4 0)) (ds_m (by decide)) rfl rfl (by decide) wsF fw1_42 rfl dD_confirm_38 ?_
    refine fd_aload_n C dD_confirm_41 rfl ?_
    refine fd_get C (k := 8) (i := n) (j := 4) (v := .int (fd_I (M 8 n 4))) (ds_m8 hn6) rfl rfl (by decide) wsB fw1_86 rfl dD_confirm_42 ?_
    refine fd_iald C (k := 4) (i := 0) (x := (M 8 n 4).toNat) (v := M 4 0 ((M 8 n 4).toNat)) (ds_m (by decide)) (fun _ => rfl) (ds_tI cI cB) (Int.toNat_of_nonneg (by omega)).symm (by omega) (by decide) rfl dD_confirm_45 ?_
    refine fd_imul C dD_confirm_46 ?_
    refine fd_put C (k := 8) (i := n) (j := 6) (z := ((M 8 n 5) * (M 4 0 ((M 8 n 4).toNat)))) (ty := .int) tyB (ds_m8 hn6) rfl rfl rfl (by decide) wsB tyB_ok nmB fw1_91 rfl (by decide +kernel) rfl rfl (Nat.le_of_ble_eq_true rfl) dD_confirm_47 ?_
    refine fd_aload_n C dD_confirm_50 rfl ?_
    refine fd_dup C dD_confirm_51 rfl ?_
    refine fd_get C (k := 0) (i := 0) (j := 5) (v := .int (fd_I (M 0 0 5))) (ds_m (by decide)) rfl rfl (by decide) wsD fw1_118 rfl dD_confirm_52 ?_
    refine fd_aload_n C dD_confirm_55 rfl ?_
    refine fd_get C (k := 8) (i := n) (j := 6) (v := .int (fd_I ((M 8 n 5) * (M 4 0 ((M 8 n 4).toNat))))) (ds_m8 hn6) rfl rfl (by decide) wsB fw1_91 (congrArg (fun z => some (Value.int (fd_I z))) (fd_u3_same (fd_u3 M 8 n 3 (2)) 8 n 6 ((M 8 n 5) * (M 4 0 ((M 8 n 4).toNat))))) dD_confirm_56 ?_
    refine fd_iadd C dD_confirm_59 ?_
    refine fd_put C (k := 0) (i := 0) (j := 5) (z := ((M 0 0 5) + ((M 8 n 5) * (M 4 0 ((M 8 n 4).toNat))))) (ty := .int) tyD (ds_m (by decide)) rfl rfl rfl (by decide) wsD tyD_ok nmD fw1_118 rfl (by decide +kernel) rfl rfl (Nat.le_of_ble_eq_true rfl) dD_confirm_60 ?_
    refine fd_aload_n C dD_confirm_63 rfl ?_
    refine fd_get C (k := 8) (i := n) (j := 6) (v := .int (fd_I ((M 8 n 5) * (M 4 0 ((M 8 n 4).toNat))))) (ds_m8 hn6) rfl rfl (by decide) wsB fw1_91 (congrArg (fun z => some (Value.int (fd_I z))) (fd_u3_same (fd_u3 M 8 n 3 (2)) 8 n 6 ((M 8 n 5) * (M 4 0 ((M 8 n 4).toNat))))) dD_confirm_64 ?_
    exact fd_iret C hr hlk (by first | rfl | omega | (split <;> omega) | (simp; omega)) rfl dD_confirm_67
  · skip
    exfalso; omega
set_option maxRecDepth 20000 in
theorem mD_confirm_TS (l : Launch) (D : va_G) (cI cB : ClassId) (L : Nat) (ad : Nat → Nat → Nat) (M : fd_Mem) (n : Nat) (hn : (n : Int) < M 0 0 3) (hok : ds_ok L M) (hs : M 8 n 3 ≠ 1) (hl : l.stackTraces = false) : ds_MT l D cI cB L ad yD_confirm wD_confirm ({ frames := 6, cells := 1, slots := 6, locals := 90 }) [.ref (ad 0 0), .int (fd_I ((n : Nat) : Int))] M "java/lang/IllegalStateException" := by
  have hm := hok.made
  have hn6 : n < 60 := by omega
  have e3 := hok.sta hn6
  have e4 := hok.far hn6
  have e2 := hok.sea hn6
  refine fd_enterT (by decide) rfl ds_nd (by simp [Value.category]) (Nat.le_of_ble_eq_true rfl) ?_
  intro A p e s m args below meth c C hlk hno hE
  have C : fd_C p m c cD_confirm 3 s args fd_T "FareDesk" D fd_cl (ds_tys cI cB) ds_wl A := C
  refine fd_pad 1 ?_
  refine fd_aload_n C dD_confirm_0 rfl ?_
  refine fd_iload_n C dD_confirm_1 rfl ?_
  refine fd_callVr C hE [.int (fd_I ((n : Nat) : Int))] (k := 0) (i := 0) (mD_find l D cI cB L ad M n hn hm) (cwV 1 C.1.2.2.2.2 (gD_find fw2_97) rfl rfl rfl ⟨rfl, by decide, by decide, by decide +kernel⟩ ⟨by decide, by decide⟩) (ds_m (by decide)) rfl rfl rfl (Nat.le_of_ble_eq_true rfl) dD_confirm_2 ⟨by decide, by decide⟩ ?_
  refine fd_astore_n C dD_confirm_5 (by decide) ?_
  refine fd_aload_n C dD_confirm_6 rfl ?_
  refine fd_get C (k := 8) (i := n) (j := 3) (v := .int (fd_I (M 8 n 3))) (ds_m8 hn6) rfl rfl (by decide) wsB fw1_84 rfl dD_confirm_7 ?_
  refine fd_iconst C dD_confirm_10 ?_
  refine fd_icmp_eq C (tgt := 24) dD_confirm_11 rfl ⟨by omega, by omega⟩ ⟨by omega, by omega⟩ (fun h11t => ?_) (fun h11f => ?_)
  · skip
    exfalso; omega
  · skip
    exact fd_throwS C hl hE (text := "not held") (List.mem_of_getElem? (i := 9) rfl) dD_confirm_14 dD_confirm_17 dD_confirm_18 dD_confirm_20 dD_confirm_23 hno hlk ⟨by decide, by decide, by decide, by decide⟩ rfl
set_option maxRecDepth 20000 in
theorem mD_cancel (l : Launch) (D : va_G) (cI cB : ClassId) (L : Nat) (ad : Nat → Nat → Nat) (M : fd_Mem) (n : Nat) (hn : (n : Int) < M 0 0 3) (hok : ds_ok L M) (hs : M 8 n 3 = 1 ∨ M 8 n 3 = 2 ∨ M 8 n 3 = 3) (hL : L ≤ 60) (hok2 : ds_ok L (ds_pay M n (M 8 n 5))) (hso : ds_sok L (ds_can M n)) : ds_Mi l D cI cB L ad yD_cancel wD_cancel ({ frames := 3, cells := 0, slots := 0, locals := 68 }) [.ref (ad 0 0), .int (fd_I ((n : Nat) : Int))] M (ds_back M n (M 8 n 5)) (ds_serve (ds_can M n)) := by
  have hm := hok.made
  have hn6 : n < 60 := by omega
  have e3 := hok.sta hn6
  have e4 := hok.far hn6
  have e2 := hok.sea hn6
  refine fd_enterI (by decide) rfl ds_nd (by simp [Value.category]) (Nat.le_of_ble_eq_true rfl) ?_
  intro A p e s m args below meth c C hr hlk hE
  have C : fd_C p m c cD_cancel 4 s args fd_T "FareDesk" D fd_cl (ds_tys cI cB) ds_wl A := C
  refine fd_pad 2 ?_
  refine fd_aload_n C dD_cancel_0 rfl ?_
  refine fd_iload_n C dD_cancel_1 rfl ?_
  refine fd_callVr C hE [.int (fd_I ((n : Nat) : Int))] (k := 0) (i := 0) (mD_find l D cI cB L ad M n hn hm) (cwV 1 C.1.2.2.2.2 (gD_find fw2_97) rfl rfl rfl ⟨rfl, by decide, by decide, by decide +kernel⟩ ⟨by decide, by decide⟩) (ds_m (by decide)) rfl rfl rfl (Nat.le_of_ble_eq_true rfl) dD_cancel_2 ⟨by decide, by decide⟩ ?_
  refine fd_astore_n C dD_cancel_5 (by decide) ?_
  refine fd_aload_n C dD_cancel_6 rfl ?_
  refine fd_aload_n C dD_cancel_7 rfl ?_
  refine fd_callVv C hE [.ref (ad 8 n)] (k := 0) (i := 0) (mD_requireCountingOrWaiting l D cI cB L ad M n hn6 e3 hs) (cwV 1 C.1.2.2.2.2 (gD_requireCountingOrWaiting fw2_110) rfl rfl rfl ⟨rfl, by decide, by decide, by decide +kernel⟩ ⟨by decide, by decide⟩) (ds_m (by decide)) rfl rfl rfl (Nat.le_of_ble_eq_true rfl) dD_cancel_8 ⟨by decide, by decide⟩ ?_
  refine fd_aload_n C dD_cancel_11 rfl ?_
  refine fd_aload_n C dD_cancel_12 rfl ?_
  refine fd_aload_n C dD_cancel_13 rfl ?_
  refine fd_get C (k := 8) (i := n) (j := 5) (v := .int (fd_I (M 8 n 5))) (ds_m8 hn6) rfl rfl (by decide) wsB fw1_89 rfl dD_cancel_14 ?_
  refine fd_callVi C hE [.ref (ad 8 n), .int (fd_I (M 8 n 5))] (k := 0) (i := 0) (mD_payBack l D cI cB L ad M n hn6 (M 8 n 5) hok (by omega)) (cwV 2 C.1.2.2.2.2 (gD_payBack fw2_119) rfl rfl rfl ⟨rfl, by decide, by decide, by decide +kernel⟩ ⟨by decide, by decide⟩) (ds_m (by decide)) rfl rfl rfl (Nat.le_of_ble_eq_true rfl) dD_cancel_17 ⟨by decide, by decide⟩ ?_
  refine fd_istore_n C dD_cancel_20 (by decide) ?_
  refine fd_aload_n C dD_cancel_21 rfl ?_
  refine fd_aload_n C dD_cancel_22 rfl ?_
  refine fd_iconst C dD_cancel_23 ?_
  refine fd_callVv C hE [.ref (ad 8 n), .int (fd_I (4))] (k := 0) (i := 0) (mD_giveUp l D cI cB L ad (ds_pay M n (M 8 n 5)) n hn6 4 hok2 hL) (cwV 2 C.1.2.2.2.2 (gD_giveUp fw2_131) rfl rfl rfl ⟨rfl, by decide, by decide, by decide +kernel⟩ ⟨by decide, by decide⟩) (ds_m (by decide)) rfl rfl rfl (Nat.le_of_ble_eq_true rfl) dD_cancel_24 ⟨by decide, by decide⟩ ?_
  refine fd_aload_n C dD_cancel_27 rfl ?_
  refine fd_callVv C hE [] (k := 0) (i := 0) (mD_serveWaiting l D cI cB L ad (ds_can M n) hso.1 hso.2) (cwV 0 C.1.2.2.2.2 (gD_serveWaiting fw2_12) rfl rfl rfl ⟨rfl, by decide, by decide, by decide +kernel⟩ ⟨by decide, by decide⟩) (ds_m (by decide)) rfl rfl rfl (Nat.le_of_ble_eq_true rfl) dD_cancel_28 ⟨by decide, by decide⟩ ?_
  refine fd_iload_n C dD_cancel_31 rfl ?_
  exact fd_iret C hr hlk (by first | rfl | omega | (split <;> omega) | (simp; omega)) rfl dD_cancel_32
set_option maxRecDepth 20000 in
theorem mD_cancel_TS (l : Launch) (D : va_G) (cI cB : ClassId) (L : Nat) (ad : Nat → Nat → Nat) (M : fd_Mem) (n : Nat) (hn : (n : Int) < M 0 0 3) (hok : ds_ok L M) (hs : ¬ (M 8 n 3 = 1 ∨ M 8 n 3 = 2 ∨ M 8 n 3 = 3))  (hl : l.stackTraces = false) : ds_MT l D cI cB L ad yD_cancel wD_cancel ({ frames := 7, cells := 1, slots := 6, locals := 111 }) [.ref (ad 0 0), .int (fd_I ((n : Nat) : Int))] M "java/lang/IllegalStateException" := by
  have hm := hok.made
  have hn6 : n < 60 := by omega
  have e3 := hok.sta hn6
  have e4 := hok.far hn6
  have e2 := hok.sea hn6
  refine fd_enterT (by decide) rfl ds_nd (by simp [Value.category]) (Nat.le_of_ble_eq_true rfl) ?_
  intro A p e s m args below meth c C hlk hno hE
  have C : fd_C p m c cD_cancel 4 s args fd_T "FareDesk" D fd_cl (ds_tys cI cB) ds_wl A := C
  refine fd_pad 2 ?_
  refine fd_aload_n C dD_cancel_0 rfl ?_
  refine fd_iload_n C dD_cancel_1 rfl ?_
  refine fd_callVr C hE [.int (fd_I ((n : Nat) : Int))] (k := 0) (i := 0) (mD_find l D cI cB L ad M n hn hm) (cwV 1 C.1.2.2.2.2 (gD_find fw2_97) rfl rfl rfl ⟨rfl, by decide, by decide, by decide +kernel⟩ ⟨by decide, by decide⟩) (ds_m (by decide)) rfl rfl rfl (Nat.le_of_ble_eq_true rfl) dD_cancel_2 ⟨by decide, by decide⟩ ?_
  refine fd_astore_n C dD_cancel_5 (by decide) ?_
  refine fd_aload_n C dD_cancel_6 rfl ?_
  refine fd_aload_n C dD_cancel_7 rfl ?_
  exact fd_thruV C hE [.ref (ad 8 n)] (k := 0) (i := 0) rfl (mD_requireCountingOrWaiting_T l D cI cB L ad M n hn6 e3 hs hl) (cwV 1 C.1.2.2.2.2 (gD_requireCountingOrWaiting fw2_110) rfl rfl rfl ⟨rfl, by decide, by decide, by decide +kernel⟩ ⟨by decide, by decide⟩) (ds_m (by decide)) rfl rfl rfl (Nat.le_of_ble_eq_true rfl) dD_cancel_8 ⟨by decide, by decide⟩ hno hlk
set_option maxRecDepth 20000 in
theorem mD_shrink (l : Launch) (D : va_G) (cI cB : ClassId) (L : Nat) (ad : Nat → Nat → Nat) (M : fd_Mem) (n : Nat) (hn : (n : Int) < M 0 0 3) (hok : ds_ok L M) (k : Int) (hk : 1 ≤ k ∧ k < M 8 n 5) (hs : M 8 n 3 = 1 ∨ M 8 n 3 = 2 ∨ M 8 n 3 = 3) (hL : L ≤ 60) (hso : ds_sok L (ds_shr M n k)) : ds_Mi l D cI cB L ad yD_shrink wD_shrink ({ frames := 3, cells := 0, slots := 0, locals := 68 }) [.ref (ad 0 0), .int (fd_I ((n : Nat) : Int)), .int (fd_I (k))] M (ds_back M n k) (ds_serve (ds_shr M n k)) := by
  have hm := hok.made
  have hn6 : n < 60 := by omega
  have e3 := hok.sta hn6
  have e4 := hok.far hn6
  have e2 := hok.sea hn6
  have htb := hok.tb hn6
  have p2 : (ds_pay M n k) 8 n 2 = M 8 n 2 := by simp [ds_pay, fd_u3_at]
  have p3 : (ds_pay M n k) 8 n 3 = M 8 n 3 := by simp [ds_pay, fd_u3_at]
  have p4 : (ds_pay M n k) 8 n 4 = M 8 n 4 := by simp [ds_pay, fd_u3_at]
  have p5 : (ds_pay M n k) 8 n 5 = M 8 n 5 := by simp [ds_pay, fd_u3_at]
  refine fd_enterI (by decide) rfl ds_nd (by simp [Value.category]) (Nat.le_of_ble_eq_true rfl) ?_
  intro A p e s m args below meth c C hr hlk hE
  have C : fd_C p m c cD_shrink 5 s args fd_T "FareDesk" D fd_cl (ds_tys cI cB) ds_wl A := C
  refine fd_pad 2 ?_
  refine fd_aload_n C dD_shrink_0 rfl ?_
  refine fd_iload_n C dD_shrink_1 rfl ?_
  refine fd_callVr C hE [.int (fd_I ((n : Nat) : Int))] (k := 0) (i := 0) (mD_find l D cI cB L ad M n hn hm) (cwV 1 C.1.2.2.2.2 (gD_find fw2_97) rfl rfl rfl ⟨rfl, by decide, by decide, by decide +kernel⟩ ⟨by decide, by decide⟩) (ds_m (by decide)) rfl rfl rfl (Nat.le_of_ble_eq_true rfl) dD_shrink_2 ⟨by decide, by decide⟩ ?_
  refine fd_astore_n C dD_shrink_5 (by decide) ?_
  refine fd_iload_n C dD_shrink_6 rfl ?_
  refine fd_iconst C dD_shrink_7 ?_
  refine fd_icmp_lt C (tgt := 19) dD_shrink_8 rfl ⟨by omega, by omega⟩ ⟨by omega, by omega⟩ (fun h8t => ?_) (fun h8f => ?_)
  · skip
    exfalso; omega
  · skip
    refine fd_iload_n C dD_shrink_11 rfl ?_
    refine fd_aload_n C dD_shrink_12 rfl ?_
    refine fd_get C (k := 8) (i := n) (j := 5) (v := .int (fd_I (M 8 n 5))) (ds_m8 hn6) rfl rfl (by decide) wsB fw1_89 rfl dD_shrink_13 ?_
    refine fd_icmp_lt C (tgt := 29) dD_shrink_16 rfl ⟨by omega, by omega⟩ ⟨by omega, by omega⟩ (fun h16t => ?_) (fun h16f => ?_)
    · skip
      refine fd_aload_n C dD_shrink_29 rfl ?_
      refine fd_aload_n C dD_shrink_30 rfl ?_
      refine fd_callVv C hE [.ref (ad 8 n)] (k := 0) (i := 0) (mD_requireCountingOrWaiting l D cI cB L ad M n hn6 e3 hs) (cwV 1 C.1.2.2.2.2 (gD_requireCountingOrWaiting fw2_110) rfl rfl rfl ⟨rfl, by decide, by decide, by decide +kernel⟩ ⟨by decide, by decide⟩) (ds_m (by decide)) rfl rfl rfl (Nat.le_of_ble_eq_true rfl) dD_shrink_31 ⟨by decide, by decide⟩ ?_
      refine fd_aload_n C dD_shrink_34 rfl ?_
      refine fd_aload_n C dD_shrink_35 rfl ?_
      refine fd_iload_n C dD_shrink_36 rfl ?_
      refine fd_callVi C hE [.ref (ad 8 n), .int (fd_I (k))] (k := 0) (i := 0) (mD_payBack l D cI cB L ad M n hn6 k hok (by omega)) (cwV 2 C.1.2.2.2.2 (gD_payBack fw2_119) rfl rfl rfl ⟨rfl, by decide, by decide, by decide +kernel⟩ ⟨by decide, by decide⟩) (ds_m (by decide)) rfl rfl rfl (Nat.le_of_ble_eq_true rfl) dD_shrink_37 ⟨by decide, by decide⟩ ?_
      refine fd_istore C dD_shrink_40 (by decide) ?_
      refine fd_aload_n C dD_shrink_42 rfl ?_
      refine fd_callVi C hE [] (k := 8) (i := n) (mB_isCounting l D cI cB L ad (ds_pay M n k) n hn6 (by rw [p3]; exact e3)) (cwV 0 C.1.2.2.2.2 (gB_isCounting fw2_114) rfl rfl rfl ⟨rfl, by decide, by decide, by decide +kernel⟩ ⟨by decide, by decide⟩) (ds_m8 hn6) rfl rfl rfl (Nat.le_of_ble_eq_true rfl) dD_shrink_43 ⟨by decide, by decide⟩ ?_
      refine fd_if_eq C (tgt := 65) dD_shrink_46 rfl ⟨by split <;> omega, by split <;> omega⟩ (fun h46t => ?_) (fun h46f => ?_)
      · skip
        refine fd_aload_n C dD_shrink_65 rfl ?_
        refine fd_dup C dD_shrink_66 rfl ?_
        refine fd_get C (k := 8) (i := n) (j := 5) (v := .int (fd_I ((ds_pay M n k) 8 n 5))) (ds_m8 hn6) rfl rfl (by decide) wsB fw1_89 rfl dD_shrink_67 ?_
        refine fd_iload_n C dD_shrink_70 rfl ?_
        refine fd_isub C dD_shrink_71 ?_
        refine fd_put C (k := 8) (i := n) (j := 5) (z := (((ds_pay M n k) 8 n 5) - k)) (ty := .int) tyB (ds_m8 hn6) rfl rfl rfl (by decide) wsB tyB_ok nmB fw1_89 rfl (by decide +kernel) rfl rfl (Nat.le_of_ble_eq_true rfl) dD_shrink_72 ?_
        refine fd_aload_n C dD_shrink_75 rfl ?_
        refine fd_get C (k := 0) (i := 0) (j := 1) (v := .ref (ad 6 0)) (ds_m (by decide)) rfl rfl (by decide) wsD fw1_114 rfl dD_shrink_76 ?_
        refine fd_aload_n C dD_shrink_79 rfl ?_
        refine fd_aload_n C dD_shrink_80 rfl ?_
        refine fd_get C (k := 8) (i := n) (j := 5) (v := .int (fd_I (((ds_pay M n k) 8 n 5) - k))) (ds_m8 hn6) rfl rfl (by decide) wsB fw1_89 (congrArg (fun z => some (Value.int (fd_I z))) (fd_u3_same (ds_pay M n k) 8 n 5 (((ds_pay M n k) 8 n 5) - k))) dD_shrink_81 ?_
        refine fd_callVv C hE [.ref (ad 8 n), .int (fd_I (((ds_pay M n k) 8 n 5) - k))] (k := 6) (i := 0) (mK_takeAllBut l D cI cB L ad (fd_u3 (ds_pay M n k) 8 n 5 (((ds_pay M n k) 8 n 5) - k)) n hn6 ((ds_pay M n k) 8 n 5 - k) (by omega) hL (by have h8 := htb; unfold ds_tb at h8 ⊢; simpa [ds_pay, fd_u3_at] using h8)) (cwV 2 C.1.2.2.2.2 (gK_takeAllBut fw2_135) rfl rfl rfl ⟨rfl, by decide, by decide, by decide +kernel⟩ ⟨by decide, by decide⟩) (ds_m (by decide)) rfl rfl rfl (Nat.le_of_ble_eq_true rfl) dD_shrink_84 ⟨by decide, by decide⟩ ?_
        refine fd_mem (M' := ds_shr M n k) (by
          unfold ds_shr ds_shl
          rw [if_neg (by split at h46t <;> omega)]
          show ds_take n (M 8 n 2 - (M 8 n 5 - k)).toNat (fd_u3 (ds_pay M n k) 8 n 5 (((ds_pay M n k) 8 n 5) - k)) = ds_take n ((ds_pay M n k) 8 n 2 - ((ds_pay M n k) 8 n 5 - k)).toNat (fd_u3 (ds_pay M n k) 8 n 5 (((ds_pay M n k) 8 n 5) - k))
          rw [p2, p5]) ?_
        refine fd_aload_n C dD_shrink_87 rfl ?_
        refine fd_callVv C hE [] (k := 0) (i := 0) (mD_serveWaiting l D cI cB L ad (ds_shr M n k) hso.1 hso.2) (cwV 0 C.1.2.2.2.2 (gD_serveWaiting fw2_12) rfl rfl rfl ⟨rfl, by decide, by decide, by decide +kernel⟩ ⟨by decide, by decide⟩) (ds_m (by decide)) rfl rfl rfl (Nat.le_of_ble_eq_true rfl) dD_shrink_88 ⟨by decide, by decide⟩ ?_
        refine fd_iload C dD_shrink_91 rfl ?_
        exact fd_iret C hr hlk (by first | rfl | omega | (split <;> omega) | (simp; omega)) rfl dD_shrink_93
      · skip
        refine fd_aload_n C dD_shrink_49 rfl ?_
        refine fd_get C (k := 0) (i := 0) (j := 0) (v := .ref (ad 2 0)) (ds_m (by decide)) rfl rfl (by decide) wsD fw1_113 rfl dD_shrink_50 ?_
        refine fd_get C (k := 2) (i := 0) (j := 2) (v := .ref (ad 5 0)) (ds_m (by decide)) rfl rfl (by decide) wsF fw1_44 rfl dD_shrink_53 ?_
        refine fd_aload_n C dD_shrink_56 rfl ?_
        refine fd_get C (k := 8) (i := n) (j := 4) (v := .int (fd_I ((ds_pay M n k) 8 n 4))) (ds_m8 hn6) rfl rfl (by decide) wsB fw1_86 rfl dD_shrink_57 ?_
        refine fd_dup2 C dD_shrink_60 rfl rfl ?_
        refine fd_iald C (k := 5) (i := 0) (x := ((ds_pay M n k) 8 n 4).toNat) (v := (ds_pay M n k) 5 0 (((ds_pay M n k) 8 n 4).toNat)) (ds_m (by decide)) (fun _ => rfl) (ds_tI cI cB) (Int.toNat_of_nonneg (by omega)).symm (by omega) (by decide) rfl dD_shrink_61 ?_
        refine fd_iload_n C dD_shrink_62 rfl ?_
        refine fd_isub C dD_shrink_63 ?_
        refine fd_iast C (k := 5) (i := 0) (x := ((ds_pay M n k) 8 n 4).toNat) (v := (((ds_pay M n k) 5 0 (((ds_pay M n k) 8 n 4).toNat)) - k)) (ds_m (by decide)) (fun _ => rfl) (ds_tI cI cB) (Int.toNat_of_nonneg (by omega)).symm (by omega) (by decide) dD_shrink_64 ?_
        refine fd_aload_n C dD_shrink_65 rfl ?_
        refine fd_dup C dD_shrink_66 rfl ?_
        refine fd_get C (k := 8) (i := n) (j := 5) (v := .int (fd_I ((ds_pay M n k) 8 n 5))) (ds_m8 hn6) rfl rfl (by decide) wsB fw1_89 rfl dD_shrink_67 ?_
        refine fd_iload_n C dD_shrink_70 rfl ?_
        refine fd_isub C dD_shrink_71 ?_
        refine fd_put C (k := 8) (i := n) (j := 5) (z := (((ds_pay M n k) 8 n 5) - k)) (ty := .int) tyB (ds_m8 hn6) rfl rfl rfl (by decide) wsB tyB_ok nmB fw1_89 rfl (by decide +kernel) rfl rfl (Nat.le_of_ble_eq_true rfl) dD_shrink_72 ?_
        refine fd_aload_n C dD_shrink_75 rfl ?_
        refine fd_get C (k := 0) (i := 0) (j := 1) (v := .ref (ad 6 0)) (ds_m (by decide)) rfl rfl (by decide) wsD fw1_114 rfl dD_shrink_76 ?_
        refine fd_aload_n C dD_shrink_79 rfl ?_
        refine fd_aload_n C dD_shrink_80 rfl ?_
        refine fd_get C (k := 8) (i := n) (j := 5) (v := .int (fd_I (((ds_pay M n k) 8 n 5) - k))) (ds_m8 hn6) rfl rfl (by decide) wsB fw1_89 (congrArg (fun z => some (Value.int (fd_I z))) (fd_u3_same (fd_u3 (ds_pay M n k) 5 0 (((ds_pay M n k) 8 n 4).toNat) (((ds_pay M n k) 5 0 (((ds_pay M n k) 8 n 4).toNat)) - k)) 8 n 5 (((ds_pay M n k) 8 n 5) - k))) dD_shrink_81 ?_
        refine fd_callVv C hE [.ref (ad 8 n), .int (fd_I (((ds_pay M n k) 8 n 5) - k))] (k := 6) (i := 0) (mK_takeAllBut l D cI cB L ad (fd_u3 (fd_u3 (ds_pay M n k) 5 0 (((ds_pay M n k) 8 n 4).toNat) (((ds_pay M n k) 5 0 (((ds_pay M n k) 8 n 4).toNat)) - k)) 8 n 5 (((ds_pay M n k) 8 n 5) - k)) n hn6 ((ds_pay M n k) 8 n 5 - k) (by omega) hL (by have h8 := htb; unfold ds_tb at h8 ⊢; simpa [ds_pay, fd_u3_at] using h8)) (cwV 2 C.1.2.2.2.2 (gK_takeAllBut fw2_135) rfl rfl rfl ⟨rfl, by decide, by decide, by decide +kernel⟩ ⟨by decide, by decide⟩) (ds_m (by decide)) rfl rfl rfl (Nat.le_of_ble_eq_true rfl) dD_shrink_84 ⟨by decide, by decide⟩ ?_
        refine fd_mem (M' := ds_shr M n k) (by
          unfold ds_shr ds_shl
          rw [if_pos (by split at h46f <;> omega)]
          show ds_take n (M 8 n 2 - (M 8 n 5 - k)).toNat (fd_u3 (fd_u3 (ds_pay M n k) 5 0 (((ds_pay M n k) 8 n 4).toNat) (((ds_pay M n k) 5 0 (((ds_pay M n k) 8 n 4).toNat)) - k)) 8 n 5 (((ds_pay M n k) 8 n 5) - k)) = ds_take n ((ds_pay M n k) 8 n 2 - ((ds_pay M n k) 8 n 5 - k)).toNat (fd_u3 (fd_u3 (ds_pay M n k) 5 0 (((ds_pay M n k) 8 n 4).toNat) (((ds_pay M n k) 5 0 (((ds_pay M n k) 8 n 4).toNat)) - k)) 8 n 5 (((ds_pay M n k) 8 n 5) - k))
          rw [p2, p5]) ?_
        refine fd_aload_n C dD_shrink_87 rfl ?_
        refine fd_callVv C hE [] (k := 0) (i := 0) (mD_serveWaiting l D cI cB L ad (ds_shr M n k) hso.1 hso.2) (cwV 0 C.1.2.2.2.2 (gD_serveWaiting fw2_12) rfl rfl rfl ⟨rfl, by decide, by decide, by decide +kernel⟩ ⟨by decide, by decide⟩) (ds_m (by decide)) rfl rfl rfl (Nat.le_of_ble_eq_true rfl) dD_shrink_88 ⟨by decide, by decide⟩ ?_
        refine fd_iload C dD_shrink_91 rfl ?_
        exact fd_iret C hr hlk (by first | rfl | omega | (split <;> omega) | (simp; omega)) rfl dD_shrink_93
    · skip
      exfalso; omega
set_option maxRecDepth 20000 in
theorem mD_shrink_TI (l : Launch) (D : va_G) (cI cB : ClassId) (L : Nat) (ad : Nat → Nat → Nat) (M : fd_Mem) (n : Nat) (hn : (n : Int) < M 0 0 3) (hok : ds_ok L M) (k : Int) (hk : -2147483648 ≤ k ∧ k < 2147483648) (hb : k < 1 ∨ M 8 n 5 ≤ k) (hl : l.stackTraces = false) : ds_MT l D cI cB L ad yD_shrink wD_shrink ({ frames := 6, cells := 1, slots := 6, locals := 90 }) [.ref (ad 0 0), .int (fd_I ((n : Nat) : Int)), .int (fd_I (k))] M "java/lang/IllegalArgumentException" := by
  have hm := hok.made
  have hn6 : n < 60 := by omega
  have e3 := hok.sta hn6
  have e4 := hok.far hn6
  have e2 := hok.sea hn6
  refine fd_enterT (by decide) rfl ds_nd (by simp [Value.category]) (Nat.le_of_ble_eq_true rfl) ?_
  intro A p e s m args below meth c C hlk hno hE
  have C : fd_C p m c cD_shrink 5 s args fd_T "FareDesk" D fd_cl (ds_tys cI cB) ds_wl A := C
  refine fd_pad 2 ?_
  refine fd_aload_n C dD_shrink_0 rfl ?_
  refine fd_iload_n C dD_shrink_1 rfl ?_
  refine fd_callVr C hE [.int (fd_I ((n : Nat) : Int))] (k := 0) (i := 0) (mD_find l D cI cB L ad M n hn hm) (cwV 1 C.1.2.2.2.2 (gD_find fw2_97) rfl rfl rfl ⟨rfl, by decide, by decide, by decide +kernel⟩ ⟨by decide, by decide⟩) (ds_m (by decide)) rfl rfl rfl (Nat.le_of_ble_eq_true rfl) dD_shrink_2 ⟨by decide, by decide⟩ ?_
  refine fd_astore_n C dD_shrink_5 (by decide) ?_
  refine fd_iload_n C dD_shrink_6 rfl ?_
  refine fd_iconst C dD_shrink_7 ?_
  refine fd_icmp_lt C (tgt := 19) dD_shrink_8 rfl ⟨by omega, by omega⟩ ⟨by omega, by omega⟩ (fun h8t => ?_) (fun h8f => ?_)
  · skip
    exact fd_throwI C hl hE (text := "not so many places can go") (List.mem_of_getElem? (i := 11) rfl) dD_shrink_19 dD_shrink_22 dD_shrink_23 dD_shrink_25 dD_shrink_28 hno hlk ⟨by decide, by decide, by decide, by decide⟩ rfl
  · skip
    refine fd_iload_n C dD_shrink_11 rfl ?_
    refine fd_aload_n C dD_shrink_12 rfl ?_
    refine fd_get C (k := 8) (i := n) (j := 5) (v := .int (fd_I (M 8 n 5))) (ds_m8 hn6) rfl rfl (by decide) wsB fw1_89 rfl dD_shrink_13 ?_
    refine fd_icmp_lt C (tgt := 29) dD_shrink_16 rfl ⟨by omega, by omega⟩ ⟨by omega, by omega⟩ (fun h16t => ?_) (fun h16f => ?_)
    · skip
      exfalso; omega
    · skip
      exact fd_throwI C hl hE (text := "not so many places can go") (List.mem_of_getElem? (i := 11) rfl) dD_shrink_19 dD_shrink_22 dD_shrink_23 dD_shrink_25 dD_shrink_28 hno hlk ⟨by decide, by decide, by decide, by decide⟩ rfl
set_option maxRecDepth 20000 in
theorem mD_shrink_TS (l : Launch) (D : va_G) (cI cB : ClassId) (L : Nat) (ad : Nat → Nat → Nat) (M : fd_Mem) (n : Nat) (hn : (n : Int) < M 0 0 3) (hok : ds_ok L M) (k : Int) (hk : 1 ≤ k ∧ k < M 8 n 5) (hs : ¬ (M 8 n 3 = 1 ∨ M 8 n 3 = 2 ∨ M 8 n 3 = 3))  (hl : l.stackTraces = false) : ds_MT l D cI cB L ad yD_shrink wD_shrink ({ frames := 7, cells := 1, slots := 6, locals := 111 }) [.ref (ad 0 0), .int (fd_I ((n : Nat) : Int)), .int (fd_I (k))] M "java/lang/IllegalStateException" := by
  have hm := hok.made
  have hn6 : n < 60 := by omega
  have e3 := hok.sta hn6
  have e4 := hok.far hn6
  have e2 := hok.sea hn6
  refine fd_enterT (by decide) rfl ds_nd (by simp [Value.category]) (Nat.le_of_ble_eq_true rfl) ?_
  intro A p e s m args below meth c C hlk hno hE
  have C : fd_C p m c cD_shrink 5 s args fd_T "FareDesk" D fd_cl (ds_tys cI cB) ds_wl A := C
  refine fd_pad 2 ?_
  refine fd_aload_n C dD_shrink_0 rfl ?_
  refine fd_iload_n C dD_shrink_1 rfl ?_
  refine fd_callVr C hE [.int (fd_I ((n : Nat) : Int))] (k := 0) (i := 0) (mD_find l D cI cB L ad M n hn hm) (cwV 1 C.1.2.2.2.2 (gD_find fw2_97) rfl rfl rfl ⟨rfl, by decide, by decide, by decide +kernel⟩ ⟨by decide, by decide⟩) (ds_m (by decide)) rfl rfl rfl (Nat.le_of_ble_eq_true rfl) dD_shrink_2 ⟨by decide, by decide⟩ ?_
  refine fd_astore_n C dD_shrink_5 (by decide) ?_
  refine fd_iload_n C dD_shrink_6 rfl ?_
  refine fd_iconst C dD_shrink_7 ?_
  refine fd_icmp_lt C (tgt := 19) dD_shrink_8 rfl ⟨by omega, by omega⟩ ⟨by omega, by omega⟩ (fun h8t => ?_) (fun h8f => ?_)
  · skip
    exfalso; omega
  · skip
    refine fd_iload_n C dD_shrink_11 rfl ?_
    refine fd_aload_n C dD_shrink_12 rfl ?_
    refine fd_get C (k := 8) (i := n) (j := 5) (v := .int (fd_I (M 8 n 5))) (ds_m8 hn6) rfl rfl (by decide) wsB fw1_89 rfl dD_shrink_13 ?_
    refine fd_icmp_lt C (tgt := 29) dD_shrink_16 rfl ⟨by omega, by omega⟩ ⟨by omega, by omega⟩ (fun h16t => ?_) (fun h16f => ?_)
    · skip
      refine fd_aload_n C dD_shrink_29 rfl ?_
      refine fd_aload_n C dD_shrink_30 rfl ?_
      exact fd_thruV C hE [.ref (ad 8 n)] (k := 0) (i := 0) rfl (mD_requireCountingOrWaiting_T l D cI cB L ad M n hn6 e3 hs hl) (cwV 1 C.1.2.2.2.2 (gD_requireCountingOrWaiting fw2_110) rfl rfl rfl ⟨rfl, by decide, by decide, by decide +kernel⟩ ⟨by decide, by decide⟩) (ds_m (by decide)) rfl rfl rfl (Nat.le_of_ble_eq_true rfl) dD_shrink_31 ⟨by decide, by decide⟩ hno hlk
    · skip
      exfalso; omega
set_option maxRecDepth 20000 in
theorem mD_change (l : Launch) (D : va_G) (cI cB : ClassId) (L : Nat) (ad : Nat → Nat → Nat) (M : fd_Mem) (n : Nat) (hn : (n : Int) < M 0 0 3) (hok : ds_ok L M) (f : Nat) (hf : f < 4) (hs : M 8 n 3 = 1 ∨ M 8 n 3 = 2) (hb2 : ds_b35 (fd_u3 M 5 0 (M 8 n 4).toNat (M 5 0 (M 8 n 4).toNat - M 8 n 5))) (hr9 : M 8 n 5 ≤ ds_rm (fd_u3 M 5 0 (M 8 n 4).toNat (M 5 0 (M 8 n 4).toNat - M 8 n 5)) f) (hso : ds_sok L (ds_chg M n f)) : ds_Mv l D cI cB L ad yD_change wD_change ({ frames := 3, cells := 0, slots := 0, locals := 69 }) [.ref (ad 0 0), .int (fd_I ((n : Nat) : Int)), .int (fd_I ((f : Nat) : Int))] M (ds_serve (ds_chg M n f)) := by
  have hm := hok.made
  have hn6 : n < 60 := by omega
  have e3 := hok.sta hn6
  have e4 := hok.far hn6
  have e2 := hok.sea hn6
  refine fd_enterV (by decide) rfl ds_nd (by simp [Value.category]) (Nat.le_of_ble_eq_true rfl) ?_
  intro A p e s m args below meth c C hr hlk hE
  have C : fd_C p m c cD_change 4 s args fd_T "FareDesk" D fd_cl (ds_tys cI cB) ds_wl A := C
  refine fd_pad 1 ?_
  refine fd_aload_n C dD_change_0 rfl ?_
  refine fd_iload_n C dD_change_1 rfl ?_
  refine fd_callVr C hE [.int (fd_I ((n : Nat) : Int))] (k := 0) (i := 0) (mD_find l D cI cB L ad M n hn hm) (cwV 1 C.1.2.2.2.2 (gD_find fw2_97) rfl rfl rfl ⟨rfl, by decide, by decide, by decide +kernel⟩ ⟨by decide, by decide⟩) (ds_m (by decide)) rfl rfl rfl (Nat.le_of_ble_eq_true rfl) dD_change_2 ⟨by decide, by decide⟩ ?_
  refine fd_astore_n C dD_change_5 (by decide) ?_
  refine fd_aload_n C dD_change_6 rfl ?_
  refine fd_iload_n C dD_change_7 rfl ?_
  refine fd_callVv C hE [.int (fd_I ((f : Nat) : Int))] (k := 0) (i := 0) (mD_requireFare l D cI cB L ad M ((f : Nat) : Int) (by omega)) (cwV 1 C.1.2.2.2.2 (gD_requireFare fw1_155) rfl rfl rfl ⟨rfl, by decide, by decide, by decide +kernel⟩ ⟨by decide, by decide⟩) (ds_m (by decide)) rfl rfl rfl (Nat.le_of_ble_eq_true rfl) dD_change_8 ⟨by decide, by decide⟩ ?_
  refine fd_aload_n C dD_change_11 rfl ?_
  refine fd_callVi C hE [] (k := 8) (i := n) (mB_isCounting l D cI cB L ad M n hn6 e3) (cwV 0 C.1.2.2.2.2 (gB_isCounting fw2_114) rfl rfl rfl ⟨rfl, by decide, by decide, by decide +kernel⟩ ⟨by decide, by decide⟩) (ds_m8 hn6) rfl rfl rfl (Nat.le_of_ble_eq_true rfl) dD_change_12 ⟨by decide, by decide⟩ ?_
  refine fd_if_ne C (tgt := 28) dD_change_15 rfl ⟨by split <;> omega, by split <;> omega⟩ (fun h15t => ?_) (fun h15f => ?_)
  · skip
    refine fd_aload_n C dD_change_28 rfl ?_
    refine fd_get C (k := 0) (i := 0) (j := 0) (v := .ref (ad 2 0)) (ds_m (by decide)) rfl rfl (by decide) wsD fw1_113 rfl dD_change_29 ?_
    refine fd_aload_n C dD_change_32 rfl ?_
    refine fd_iload_n C dD_change_33 rfl ?_
    refine fd_callVi C hE [.ref (ad 8 n), .int (fd_I ((f : Nat) : Int))] (k := 2) (i := 0) (mF_roomWithout l D cI cB L ad M n hn6 e4 f hf hb2) (cwV 2 C.1.2.2.2.2 (gF_roomWithout fw2_155) rfl rfl rfl ⟨rfl, by decide, by decide, by decide +kernel⟩ ⟨by decide, by decide⟩) (ds_m (by decide)) rfl rfl rfl (Nat.le_of_ble_eq_true rfl) dD_change_34 ⟨by decide, by decide⟩ ?_
    have e9 := ds_rm_bd hb2 f hf
    refine fd_aload_n C dD_change_37 rfl ?_
    refine fd_get C (k := 8) (i := n) (j := 5) (v := .int (fd_I (M 8 n 5))) (ds_m8 hn6) rfl rfl (by decide) wsB fw1_89 rfl dD_change_38 ?_
    refine fd_icmp_ge C (tgt := 54) dD_change_41 rfl ⟨by omega, by omega⟩ ⟨by omega, by omega⟩ (fun h41t => ?_) (fun h41f => ?_)
    · skip
      refine fd_aload_n C dD_change_54 rfl ?_
      refine fd_get C (k := 0) (i := 0) (j := 0) (v := .ref (ad 2 0)) (ds_m (by decide)) rfl rfl (by decide) wsD fw1_113 rfl dD_change_55 ?_
      refine fd_get C (k := 2) (i := 0) (j := 2) (v := .ref (ad 5 0)) (ds_m (by decide)) rfl rfl (by decide) wsF fw1_44 rfl dD_change_58 ?_
      refine fd_aload_n C dD_change_61 rfl ?_
      refine fd_get C (k := 8) (i := n) (j := 4) (v := .int (fd_I (M 8 n 4))) (ds_m8 hn6) rfl rfl (by decide) wsB fw1_86 rfl dD_change_62 ?_
      refine fd_dup2 C dD_change_65 rfl rfl ?_
      refine fd_iald C (k := 5) (i := 0) (x := (M 8 n 4).toNat) (v := M 5 0 ((M 8 n 4).toNat)) (ds_m (by decide)) (fun _ => rfl) (ds_tI cI cB) (Int.toNat_of_nonneg (by omega)).symm (by omega) (by decide) rfl dD_change_66 ?_
      refine fd_aload_n C dD_change_67 rfl ?_
      refine fd_get C (k := 8) (i := n) (j := 5) (v := .int (fd_I (M 8 n 5))) (ds_m8 hn6) rfl rfl (by decide) wsB fw1_89 rfl dD_change_68 ?_
      refine fd_isub C dD_change_71 ?_
      refine fd_iast C (k := 5) (i := 0) (x := (M 8 n 4).toNat) (v := ((M 5 0 ((M 8 n 4).toNat)) - (M 8 n 5))) (ds_m (by decide)) (fun _ => rfl) (ds_tI cI cB) (Int.toNat_of_nonneg (by omega)).symm (by omega) (by decide) dD_change_72 ?_
      refine fd_aload_n C dD_change_73 rfl ?_
      refine fd_get C (k := 0) (i := 0) (j := 0) (v := .ref (ad 2 0)) (ds_m (by decide)) rfl rfl (by decide) wsD fw1_113 rfl dD_change_74 ?_
      refine fd_get C (k := 2) (i := 0) (j := 2) (v := .ref (ad 5 0)) (ds_m (by decide)) rfl rfl (by decide) wsF fw1_44 rfl dD_change_77 ?_
      refine fd_iload_n C dD_change_80 rfl ?_
      refine fd_dup2 C dD_change_81 rfl rfl ?_
      refine fd_iald C (k := 5) (i := 0) (x := f) (v := (fd_u3 M 5 0 ((M 8 n 4).toNat) ((M 5 0 ((M 8 n 4).toNat)) - (M 8 n 5))) 5 0 f) (ds_m (by decide)) (fun _ => rfl) (ds_tI cI cB) rfl (by omega) (by decide) rfl dD_change_82 ?_
      refine fd_aload_n C dD_change_83 rfl ?_
      refine fd_get C (k := 8) (i := n) (j := 5) (v := .int (fd_I (M 8 n 5))) (ds_m8 hn6) rfl rfl (by decide) wsB fw1_89 rfl dD_change_84 ?_
      refine fd_iadd C dD_change_87 ?_
      refine fd_iast C (k := 5) (i := 0) (x := f) (v := (((fd_u3 M 5 0 ((M 8 n 4).toNat) ((M 5 0 ((M 8 n 4).toNat)) - (M 8 n 5))) 5 0 f) + (M 8 n 5))) (ds_m (by decide)) (fun _ => rfl) (ds_tI cI cB) rfl (by omega) (by decide) dD_change_88 ?_
      refine fd_aload_n C dD_change_89 rfl ?_
      refine fd_iload_n C dD_change_90 rfl ?_
      refine fd_put C (k := 8) (i := n) (j := 4) (z := (((f : Nat) : Int))) (ty := .int) tyB (ds_m8 hn6) rfl rfl rfl (by decide) wsB tyB_ok nmB fw1_86 rfl (by decide +kernel) rfl rfl (Nat.le_of_ble_eq_true rfl) dD_change_91 ?_
      refine fd_aload_n C dD_change_94 rfl ?_
      refine fd_callVv C hE [] (k := 0) (i := 0) (mD_serveWaiting l D cI cB L ad (fd_u3 (fd_u3 (fd_u3 M 5 0 ((M 8 n 4).toNat) ((M 5 0 ((M 8 n 4).toNat)) - (M 8 n 5))) 5 0 f (((fd_u3 M 5 0 ((M 8 n 4).toNat) ((M 5 0 ((M 8 n 4).toNat)) - (M 8 n 5))) 5 0 f) + (M 8 n 5))) 8 n 4 (((f : Nat) : Int))) hso.1 hso.2) (cwV 0 C.1.2.2.2.2 (gD_serveWaiting fw2_12) rfl rfl rfl ⟨rfl, by decide, by decide, by decide +kernel⟩ ⟨by decide, by decide⟩) (ds_m (by decide)) rfl rfl rfl (Nat.le_of_ble_eq_true rfl) dD_change_95 ⟨by decide, by decide⟩ ?_
      exact fd_vret C hr hlk rfl dD_change_98
    · skip
      exfalso; omega
  · skip
    exfalso; rw [if_pos hs] at h15f; omega
set_option maxRecDepth 20000 in
theorem mD_change_TF (l : Launch) (D : va_G) (cI cB : ClassId) (L : Nat) (ad : Nat → Nat → Nat) (M : fd_Mem) (n : Nat) (hn : (n : Int) < M 0 0 3) (hok : ds_ok L M) (f : Int) (hf : -2147483648 ≤ f ∧ f < 2147483648) (hb : f < 0 ∨ 4 ≤ f) (hl : l.stackTraces = false) : ds_MT l D cI cB L ad yD_change wD_change ({ frames := 7, cells := 1, slots := 6, locals := 111 }) [.ref (ad 0 0), .int (fd_I ((n : Nat) : Int)), .int (fd_I (f))] M "java/lang/IllegalArgumentException" := by
  have hm := hok.made
  have hn6 : n < 60 := by omega
  have e3 := hok.sta hn6
  have e4 := hok.far hn6
  have e2 := hok.sea hn6
  refine fd_enterT (by decide) rfl ds_nd (by simp [Value.category]) (Nat.le_of_ble_eq_true rfl) ?_
  intro A p e s m args below meth c C hlk hno hE
  have C : fd_C p m c cD_change 4 s args fd_T "FareDesk" D fd_cl (ds_tys cI cB) ds_wl A := C
  refine fd_pad 1 ?_
  refine fd_aload_n C dD_change_0 rfl ?_
  refine fd_iload_n C dD_change_1 rfl ?_
  refine fd_callVr C hE [.int (fd_I ((n : Nat) : Int))] (k := 0) (i := 0) (mD_find l D cI cB L ad M n hn hm) (cwV 1 C.1.2.2.2.2 (gD_find fw2_97) rfl rfl rfl ⟨rfl, by decide, by decide, by decide +kernel⟩ ⟨by decide, by decide⟩) (ds_m (by decide)) rfl rfl rfl (Nat.le_of_ble_eq_true rfl) dD_change_2 ⟨by decide, by decide⟩ ?_
  refine fd_astore_n C dD_change_5 (by decide) ?_
  refine fd_aload_n C dD_change_6 rfl ?_
  refine fd_iload_n C dD_change_7 rfl ?_
  exact fd_thruV C hE [.int (fd_I (f))] (k := 0) (i := 0) rfl (mD_requireFare_T l D cI cB L ad M f hf hb hl) (cwV 1 C.1.2.2.2.2 (gD_requireFare fw1_155) rfl rfl rfl ⟨rfl, by decide, by decide, by decide +kernel⟩ ⟨by decide, by decide⟩) (ds_m (by decide)) rfl rfl rfl (Nat.le_of_ble_eq_true rfl) dD_change_8 ⟨by decide, by decide⟩ hno hlk
set_option maxRecDepth 20000 in
theorem mD_change_TS (l : Launch) (D : va_G) (cI cB : ClassId) (L : Nat) (ad : Nat → Nat → Nat) (M : fd_Mem) (n : Nat) (hn : (n : Int) < M 0 0 3) (hok : ds_ok L M) (f : Nat) (hf : f < 4) (hs : ¬ (M 8 n 3 = 1 ∨ M 8 n 3 = 2)) (hl : l.stackTraces = false) : ds_MT l D cI cB L ad yD_change wD_change ({ frames := 6, cells := 1, slots := 6, locals := 90 }) [.ref (ad 0 0), .int (fd_I ((n : Nat) : Int)), .int (fd_I ((f : Nat) : Int))] M "java/lang/IllegalStateException" := by
  have hm := hok.made
  have hn6 : n < 60 := by omega
  have e3 := hok.sta hn6
  have e4 := hok.far hn6
  have e2 := hok.sea hn6
  refine fd_enterT (by decide) rfl ds_nd (by simp [Value.category]) (Nat.le_of_ble_eq_true rfl) ?_
  intro A p e s m args below meth c C hlk hno hE
  have C : fd_C p m c cD_change 4 s args fd_T "FareDesk" D fd_cl (ds_tys cI cB) ds_wl A := C
  refine fd_pad 1 ?_
  refine fd_aload_n C dD_change_0 rfl ?_
  refine fd_iload_n C dD_change_1 rfl ?_
  refine fd_callVr C hE [.int (fd_I ((n : Nat) : Int))] (k := 0) (i := 0) (mD_find l D cI cB L ad M n hn hm) (cwV 1 C.1.2.2.2.2 (gD_find fw2_97) rfl rfl rfl ⟨rfl, by decide, by decide, by decide +kernel⟩ ⟨by decide, by decide⟩) (ds_m (by decide)) rfl rfl rfl (Nat.le_of_ble_eq_true rfl) dD_change_2 ⟨by decide, by decide⟩ ?_
  refine fd_astore_n C dD_change_5 (by decide) ?_
  refine fd_aload_n C dD_change_6 rfl ?_
  refine fd_iload_n C dD_change_7 rfl ?_
  refine fd_callVv C hE [.int (fd_I ((f : Nat) : Int))] (k := 0) (i := 0) (mD_requireFare l D cI cB L ad M ((f : Nat) : Int) (by omega)) (cwV 1 C.1.2.2.2.2 (gD_requireFare fw1_155) rfl rfl rfl ⟨rfl, by decide, by decide, by decide +kernel⟩ ⟨by decide, by decide⟩) (ds_m (by decide)) rfl rfl rfl (Nat.le_of_ble_eq_true rfl) dD_change_8 ⟨by decide, by decide⟩ ?_
  refine fd_aload_n C dD_change_11 rfl ?_
  refine fd_callVi C hE [] (k := 8) (i := n) (mB_isCounting l D cI cB L ad M n hn6 e3) (cwV 0 C.1.2.2.2.2 (gB_isCounting fw2_114) rfl rfl rfl ⟨rfl, by decide, by decide, by decide +kernel⟩ ⟨by decide, by decide⟩) (ds_m8 hn6) rfl rfl rfl (Nat.le_of_ble_eq_true rfl) dD_change_12 ⟨by decide, by decide⟩ ?_
  refine fd_if_ne C (tgt := 28) dD_change_15 rfl ⟨by split <;> omega, by split <;> omega⟩ (fun h15t => ?_) (fun h15f => ?_)
  · skip
    exfalso; rw [if_neg hs] at h15t; omega
  · skip
    exact fd_throwS C hl hE (text := "neither held nor confirmed") (List.mem_of_getElem? (i := 12) rfl) dD_change_18 dD_change_21 dD_change_22 dD_change_24 dD_change_27 hno hlk ⟨by decide, by decide, by decide, by decide⟩ rfl
set_option maxRecDepth 20000 in
theorem mD_change_TU (l : Launch) (D : va_G) (cI cB : ClassId) (L : Nat) (ad : Nat → Nat → Nat) (M : fd_Mem) (n : Nat) (hn : (n : Int) < M 0 0 3) (hok : ds_ok L M) (f : Nat) (hf : f < 4) (hs : M 8 n 3 = 1 ∨ M 8 n 3 = 2) (hb2 : ds_b35 (fd_u3 M 5 0 (M 8 n 4).toNat (M 5 0 (M 8 n 4).toNat - M 8 n 5))) (hr9 : ds_rm (fd_u3 M 5 0 (M 8 n 4).toNat (M 5 0 (M 8 n 4).toNat - M 8 n 5)) f < M 8 n 5) (hl : l.stackTraces = false) : ds_MT l D cI cB L ad yD_change wD_change ({ frames := 6, cells := 1, slots := 6, locals := 90 }) [.ref (ad 0 0), .int (fd_I ((n : Nat) : Int)), .int (fd_I ((f : Nat) : Int))] M "java/lang/UnsupportedOperationException" := by
  have hm := hok.made
  have hn6 : n < 60 := by omega
  have e3 := hok.sta hn6
  have e4 := hok.far hn6
  have e2 := hok.sea hn6
  refine fd_enterT (by decide) rfl ds_nd (by simp [Value.category]) (Nat.le_of_ble_eq_true rfl) ?_
  intro A p e s m args below meth c C hlk hno hE
  have C : fd_C p m c cD_change 4 s args fd_T "FareDesk" D fd_cl (ds_tys cI cB) ds_wl A := C
  refine fd_pad 1 ?_
  refine fd_aload_n C dD_change_0 rfl ?_
  refine fd_iload_n C dD_change_1 rfl ?_
  refine fd_callVr C hE [.int (fd_I ((n : Nat) : Int))] (k := 0) (i := 0) (mD_find l D cI cB L ad M n hn hm) (cwV 1 C.1.2.2.2.2 (gD_find fw2_97) rfl rfl rfl ⟨rfl, by decide, by decide, by decide +kernel⟩ ⟨by decide, by decide⟩) (ds_m (by decide)) rfl rfl rfl (Nat.le_of_ble_eq_true rfl) dD_change_2 ⟨by decide, by decide⟩ ?_
  refine fd_astore_n C dD_change_5 (by decide) ?_
  refine fd_aload_n C dD_change_6 rfl ?_
  refine fd_iload_n C dD_change_7 rfl ?_
  refine fd_callVv C hE [.int (fd_I ((f : Nat) : Int))] (k := 0) (i := 0) (mD_requireFare l D cI cB L ad M ((f : Nat) : Int) (by omega)) (cwV 1 C.1.2.2.2.2 (gD_requireFare fw1_155) rfl rfl rfl ⟨rfl, by decide, by decide, by decide +kernel⟩ ⟨by decide, by decide⟩) (ds_m (by decide)) rfl rfl rfl (Nat.le_of_ble_eq_true rfl) dD_change_8 ⟨by decide, by decide⟩ ?_
  refine fd_aload_n C dD_change_11 rfl ?_
  refine fd_callVi C hE [] (k := 8) (i := n) (mB_isCounting l D cI cB L ad M n hn6 e3) (cwV 0 C.1.2.2.2.2 (gB_isCounting fw2_114) rfl rfl rfl ⟨rfl, by decide, by decide, by decide +kernel⟩ ⟨by decide, by decide⟩) (ds_m8 hn6) rfl rfl rfl (Nat.le_of_ble_eq_true rfl) dD_change_12 ⟨by decide, by decide⟩ ?_
  refine fd_if_ne C (tgt := 28) dD_change_15 rfl ⟨by split <;> omega, by split <;> omega⟩ (fun h15t => ?_) (fun h15f => ?_)
  · skip
    refine fd_aload_n C dD_change_28 rfl ?_
    refine fd_get C (k := 0) (i := 0) (j := 0) (v := .ref (ad 2 0)) (ds_m (by decide)) rfl rfl (by decide) wsD fw1_113 rfl dD_change_29 ?_
    refine fd_aload_n C dD_change_32 rfl ?_
    refine fd_iload_n C dD_change_33 rfl ?_
    refine fd_callVi C hE [.ref (ad 8 n), .int (fd_I ((f : Nat) : Int))] (k := 2) (i := 0) (mF_roomWithout l D cI cB L ad M n hn6 e4 f hf hb2) (cwV 2 C.1.2.2.2.2 (gF_roomWithout fw2_155) rfl rfl rfl ⟨rfl, by decide, by decide, by decide +kernel⟩ ⟨by decide, by decide⟩) (ds_m (by decide)) rfl rfl rfl (Nat.le_of_ble_eq_true rfl) dD_change_34 ⟨by decide, by decide⟩ ?_
    have e9 := ds_rm_bd hb2 f hf
    refine fd_aload_n C dD_change_37 rfl ?_
    refine fd_get C (k := 8) (i := n) (j := 5) (v := .int (fd_I (M 8 n 5))) (ds_m8 hn6) rfl rfl (by decide) wsB fw1_89 rfl dD_change_38 ?_
    refine fd_icmp_ge C (tgt := 54) dD_change_41 rfl ⟨by omega, by omega⟩ ⟨by omega, by omega⟩ (fun h41t => ?_) (fun h41f => ?_)
    · skip
      exfalso; omega
    · skip
      exact fd_throwU C hl hE (text := "no room in that fare") (List.mem_of_getElem? (i := 13) rfl) dD_change_44 dD_change_47 dD_change_48 dD_change_50 dD_change_53 hno hlk ⟨by decide, by decide, by decide, by decide⟩ rfl
  · skip
    exfalso; rw [if_pos hs] at h15f; omega
set_option maxRecDepth 20000 in
theorem mD_seat (l : Launch) (D : va_G) (cI cB : ClassId) (L : Nat) (ad : Nat → Nat → Nat) (M : fd_Mem) (n : Nat) (hn : (n : Int) < M 0 0 3) (hok : ds_ok L M) (sq : Nat) (hq : sq < L) (hL : L ≤ 60) (hs : M 8 n 3 = 2 ∧ M 8 n 2 < M 8 n 5) (hfr : M 7 0 sq = -1) : ds_Mi l D cI cB L ad yD_seat wD_seat ({ frames := 2, cells := 0, slots := 0, locals := 41 }) [.ref (ad 0 0), .int (fd_I ((n : Nat) : Int)), .int (fd_I ((sq : Nat) : Int))] M (M 8 n 2 + 1) (ds_give M n sq) := by
  have hm := hok.made
  have hn6 : n < 60 := by omega
  have e3 := hok.sta hn6
  have e4 := hok.far hn6
  have e2 := hok.sea hn6
  refine fd_enterI (by decide) rfl ds_nd (by simp [Value.category]) (Nat.le_of_ble_eq_true rfl) ?_
  intro A p e s m args below meth c C hr hlk hE
  have C : fd_C p m c cD_seat 4 s args fd_T "FareDesk" D fd_cl (ds_tys cI cB) ds_wl A := C
  refine fd_pad 1 ?_
  refine fd_aload_n C dD_seat_0 rfl ?_
  refine fd_iload_n C dD_seat_1 rfl ?_
  refine fd_callVr C hE [.int (fd_I ((n : Nat) : Int))] (k := 0) (i := 0) (mD_find l D cI cB L ad M n hn hm) (cwV 1 C.1.2.2.2.2 (gD_find fw2_97) rfl rfl rfl ⟨rfl, by decide, by decide, by decide +kernel⟩ ⟨by decide, by decide⟩) (ds_m (by decide)) rfl rfl rfl (Nat.le_of_ble_eq_true rfl) dD_seat_2 ⟨by decide, by decide⟩ ?_
  refine fd_astore_n C dD_seat_5 (by decide) ?_
  refine fd_aload_n C dD_seat_6 rfl ?_
  refine fd_get C (k := 0) (i := 0) (j := 1) (v := .ref (ad 6 0)) (ds_m (by decide)) rfl rfl (by decide) wsD fw1_114 rfl dD_seat_7 ?_
  refine fd_iload_n C dD_seat_10 rfl ?_
  refine fd_callVi C hE [.int (fd_I ((sq : Nat) : Int))] (k := 6) (i := 0) (mK_hasSeat l D cI cB L ad M ((sq : Nat) : Int) (by omega) hL) (cwV 1 C.1.2.2.2.2 (gK_hasSeat fw1_139) rfl rfl rfl ⟨rfl, by decide, by decide, by decide +kernel⟩ ⟨by decide, by decide⟩) (ds_m (by decide)) rfl rfl rfl (Nat.le_of_ble_eq_true rfl) dD_seat_11 ⟨by decide, by decide⟩ ?_
  refine fd_if_ne C (tgt := 27) dD_seat_14 rfl ⟨by split <;> omega, by split <;> omega⟩ (fun h14t => ?_) (fun h14f => ?_)
  · skip
    refine fd_aload_n C dD_seat_27 rfl ?_
    refine fd_aload_n C dD_seat_28 rfl ?_
    refine fd_callVv C hE [.ref (ad 8 n)] (k := 0) (i := 0) (mD_requireSeatsMissing l D cI cB L ad M n hn6 e3 e2 hs) (cwV 1 C.1.2.2.2.2 (gD_requireSeatsMissing fw2_169) rfl rfl rfl ⟨rfl, by decide, by decide, by decide +kernel⟩ ⟨by decide, by decide⟩) (ds_m (by decide)) rfl rfl rfl (Nat.le_of_ble_eq_true rfl) dD_seat_29 ⟨by decide, by decide⟩ ?_
    refine fd_aload_n C dD_seat_32 rfl ?_
    refine fd_get C (k := 0) (i := 0) (j := 1) (v := .ref (ad 6 0)) (ds_m (by decide)) rfl rfl (by decide) wsD fw1_114 rfl dD_seat_33 ?_
    refine fd_iload_n C dD_seat_36 rfl ?_
    refine fd_callVi C hE [.int (fd_I ((sq : Nat) : Int))] (k := 6) (i := 0) (mK_isFree l D cI cB L ad M sq hq hL (hok.hol sq hq)) (cwV 1 C.1.2.2.2.2 (gK_isFree fw2_179) rfl rfl rfl ⟨rfl, by decide, by decide, by decide +kernel⟩ ⟨by decide, by decide⟩) (ds_m (by decide)) rfl rfl rfl (Nat.le_of_ble_eq_true rfl) dD_seat_37 ⟨by decide, by decide⟩ ?_
    refine fd_if_ne C (tgt := 53) dD_seat_40 rfl ⟨by split <;> omega, by split <;> omega⟩ (fun h40t => ?_) (fun h40f => ?_)
    · skip
      refine fd_aload_n C dD_seat_53 rfl ?_
      refine fd_get C (k := 0) (i := 0) (j := 1) (v := .ref (ad 6 0)) (ds_m (by decide)) rfl rfl (by decide) wsD fw1_114 rfl dD_seat_54 ?_
      refine fd_aload_n C dD_seat_57 rfl ?_
      refine fd_iload_n C dD_seat_58 rfl ?_
      refine fd_callVv C hE [.ref (ad 8 n), .int (fd_I ((sq : Nat) : Int))] (k := 6) (i := 0) (mK_give l D cI cB L ad M n hn6 sq hq hL (by omega)) (cwV 2 C.1.2.2.2.2 (gK_give fw2_184) rfl rfl rfl ⟨rfl, by decide, by decide, by decide +kernel⟩ ⟨by decide, by decide⟩) (ds_m (by decide)) rfl rfl rfl (Nat.le_of_ble_eq_true rfl) dD_seat_59 ⟨by decide, by decide⟩ ?_
      refine fd_aload_n C dD_seat_62 rfl ?_
      refine fd_get C (k := 8) (i := n) (j := 2) (v := .int (fd_I ((ds_give M n sq) 8 n 2))) (ds_m8 hn6) rfl rfl (by decide) wsB fw1_82 rfl dD_seat_63 ?_
      exact fd_iret C hr hlk (by simp [ds_give, fd_u3_at]) rfl dD_seat_66
    · skip
      exfalso; rw [if_pos hfr] at h40f; omega
  · skip
    exfalso; rw [if_pos (by omega)] at h14f; omega
set_option maxRecDepth 20000 in
theorem mD_seat_TI (l : Launch) (D : va_G) (cI cB : ClassId) (L : Nat) (ad : Nat → Nat → Nat) (M : fd_Mem) (n : Nat) (hn : (n : Int) < M 0 0 3) (hok : ds_ok L M) (hL : L ≤ 60) (x : Int) (hx : -2147483648 ≤ x ∧ x < 2147483648) (hb : x < 0 ∨ (L : Int) ≤ x) (hl : l.stackTraces = false) : ds_MT l D cI cB L ad yD_seat wD_seat ({ frames := 6, cells := 1, slots := 6, locals := 90 }) [.ref (ad 0 0), .int (fd_I ((n : Nat) : Int)), .int (fd_I (x))] M "java/lang/IllegalArgumentException" := by
  have hm := hok.made
  have hn6 : n < 60 := by omega
  have e3 := hok.sta hn6
  have e4 := hok.far hn6
  have e2 := hok.sea hn6
  refine fd_enterT (by decide) rfl ds_nd (by simp [Value.category]) (Nat.le_of_ble_eq_true rfl) ?_
  intro A p e s m args below meth c C hlk hno hE
  have C : fd_C p m c cD_seat 4 s args fd_T "FareDesk" D fd_cl (ds_tys cI cB) ds_wl A := C
  refine fd_pad 1 ?_
  refine fd_aload_n C dD_seat_0 rfl ?_
  refine fd_iload_n C dD_seat_1 rfl ?_
  refine fd_callVr C hE [.int (fd_I ((n : Nat) : Int))] (k := 0) (i := 0) (mD_find l D cI cB L ad M n hn hm) (cwV 1 C.1.2.2.2.2 (gD_find fw2_97) rfl rfl rfl ⟨rfl, by decide, by decide, by decide +kernel⟩ ⟨by decide, by decide⟩) (ds_m (by decide)) rfl rfl rfl (Nat.le_of_ble_eq_true rfl) dD_seat_2 ⟨by decide, by decide⟩ ?_
  refine fd_astore_n C dD_seat_5 (by decide) ?_
  refine fd_aload_n C dD_seat_6 rfl ?_
  refine fd_get C (k := 0) (i := 0) (j := 1) (v := .ref (ad 6 0)) (ds_m (by decide)) rfl rfl (by decide) wsD fw1_114 rfl dD_seat_7 ?_
  refine fd_iload_n C dD_seat_10 rfl ?_
  refine fd_callVi C hE [.int (fd_I (x))] (k := 6) (i := 0) (mK_hasSeat l D cI cB L ad M x hx hL) (cwV 1 C.1.2.2.2.2 (gK_hasSeat fw1_139) rfl rfl rfl ⟨rfl, by decide, by decide, by decide +kernel⟩ ⟨by decide, by decide⟩) (ds_m (by decide)) rfl rfl rfl (Nat.le_of_ble_eq_true rfl) dD_seat_11 ⟨by decide, by decide⟩ ?_
  refine fd_if_ne C (tgt := 27) dD_seat_14 rfl ⟨by split <;> omega, by split <;> omega⟩ (fun h14t => ?_) (fun h14f => ?_)
  · skip
    exfalso; rw [if_neg (by omega)] at h14t; omega
  · skip
    exact fd_throwI C hl hE (text := "no such seat") (List.mem_of_getElem? (i := 14) rfl) dD_seat_17 dD_seat_20 dD_seat_21 dD_seat_23 dD_seat_26 hno hlk ⟨by decide, by decide, by decide, by decide⟩ rfl
set_option maxRecDepth 20000 in
theorem mD_seat_TS (l : Launch) (D : va_G) (cI cB : ClassId) (L : Nat) (ad : Nat → Nat → Nat) (M : fd_Mem) (n : Nat) (hn : (n : Int) < M 0 0 3) (hok : ds_ok L M) (sq : Nat) (hq : sq < L) (hL : L ≤ 60) (hs : ¬ (M 8 n 3 = 2 ∧ M 8 n 2 < M 8 n 5))  (hl : l.stackTraces = false) : ds_MT l D cI cB L ad yD_seat wD_seat ({ frames := 7, cells := 1, slots := 6, locals := 111 }) [.ref (ad 0 0), .int (fd_I ((n : Nat) : Int)), .int (fd_I ((sq : Nat) : Int))] M "java/lang/IllegalStateException" := by
  have hm := hok.made
  have hn6 : n < 60 := by omega
  have e3 := hok.sta hn6
  have e4 := hok.far hn6
  have e2 := hok.sea hn6
  refine fd_enterT (by decide) rfl ds_nd (by simp [Value.category]) (Nat.le_of_ble_eq_true rfl) ?_
  intro A p e s m args below meth c C hlk hno hE
  have C : fd_C p m c cD_seat 4 s args fd_T "FareDesk" D fd_cl (ds_tys cI cB) ds_wl A := C
  refine fd_pad 1 ?_
  refine fd_aload_n C dD_seat_0 rfl ?_
  refine fd_iload_n C dD_seat_1 rfl ?_
  refine fd_callVr C hE [.int (fd_I ((n : Nat) : Int))] (k := 0) (i := 0) (mD_find l D cI cB L ad M n hn hm) (cwV 1 C.1.2.2.2.2 (gD_find fw2_97) rfl rfl rfl ⟨rfl, by decide, by decide, by decide +kernel⟩ ⟨by decide, by decide⟩) (ds_m (by decide)) rfl rfl rfl (Nat.le_of_ble_eq_true rfl) dD_seat_2 ⟨by decide, by decide⟩ ?_
  refine fd_astore_n C dD_seat_5 (by decide) ?_
  refine fd_aload_n C dD_seat_6 rfl ?_
  refine fd_get C (k := 0) (i := 0) (j := 1) (v := .ref (ad 6 0)) (ds_m (by decide)) rfl rfl (by decide) wsD fw1_114 rfl dD_seat_7 ?_
  refine fd_iload_n C dD_seat_10 rfl ?_
  refine fd_callVi C hE [.int (fd_I ((sq : Nat) : Int))] (k := 6) (i := 0) (mK_hasSeat l D cI cB L ad M ((sq : Nat) : Int) (by omega) hL) (cwV 1 C.1.2.2.2.2 (gK_hasSeat fw1_139) rfl rfl rfl ⟨rfl, by decide, by decide, by decide +kernel⟩ ⟨by decide, by decide⟩) (ds_m (by decide)) rfl rfl rfl (Nat.le_of_ble_eq_true rfl) dD_seat_11 ⟨by decide, by decide⟩ ?_
  refine fd_if_ne C (tgt := 27) dD_seat_14 rfl ⟨by split <;> omega, by split <;> omega⟩ (fun h14t => ?_) (fun h14f => ?_)
  · skip
    refine fd_aload_n C dD_seat_27 rfl ?_
    refine fd_aload_n C dD_seat_28 rfl ?_
    exact fd_thruV C hE [.ref (ad 8 n)] (k := 0) (i := 0) rfl (mD_requireSeatsMissing_T l D cI cB L ad M n hn6 e3 e2 hs hl) (cwV 1 C.1.2.2.2.2 (gD_requireSeatsMissing fw2_169) rfl rfl rfl ⟨rfl, by decide, by decide, by decide +kernel⟩ ⟨by decide, by decide⟩) (ds_m (by decide)) rfl rfl rfl (Nat.le_of_ble_eq_true rfl) dD_seat_29 ⟨by decide, by decide⟩ hno hlk
  · skip
    exfalso; rw [if_pos (by omega)] at h14f; omega
set_option maxRecDepth 20000 in
theorem mD_seat_TU (l : Launch) (D : va_G) (cI cB : ClassId) (L : Nat) (ad : Nat → Nat → Nat) (M : fd_Mem) (n : Nat) (hn : (n : Int) < M 0 0 3) (hok : ds_ok L M) (sq : Nat) (hq : sq < L) (hL : L ≤ 60) (hs : M 8 n 3 = 2 ∧ M 8 n 2 < M 8 n 5) (hfr : M 7 0 sq ≠ -1) (hl : l.stackTraces = false) : ds_MT l D cI cB L ad yD_seat wD_seat ({ frames := 6, cells := 1, slots := 6, locals := 90 }) [.ref (ad 0 0), .int (fd_I ((n : Nat) : Int)), .int (fd_I ((sq : Nat) : Int))] M "java/lang/UnsupportedOperationException" := by
  have hm := hok.made
  have hn6 : n < 60 := by omega
  have e3 := hok.sta hn6
  have e4 := hok.far hn6
  have e2 := hok.sea hn6
  refine fd_enterT (by decide) rfl ds_nd (by simp [Value.category]) (Nat.le_of_ble_eq_true rfl) ?_
  intro A p e s m args below meth c C hlk hno hE
  have C : fd_C p m c cD_seat 4 s args fd_T "FareDesk" D fd_cl (ds_tys cI cB) ds_wl A := C
  refine fd_pad 1 ?_
  refine fd_aload_n C dD_seat_0 rfl ?_
  refine fd_iload_n C dD_seat_1 rfl ?_
  refine fd_callVr C hE [.int (fd_I ((n : Nat) : Int))] (k := 0) (i := 0) (mD_find l D cI cB L ad M n hn hm) (cwV 1 C.1.2.2.2.2 (gD_find fw2_97) rfl rfl rfl ⟨rfl, by decide, by decide, by decide +kernel⟩ ⟨by decide, by decide⟩) (ds_m (by decide)) rfl rfl rfl (Nat.le_of_ble_eq_true rfl) dD_seat_2 ⟨by decide, by decide⟩ ?_
  refine fd_astore_n C dD_seat_5 (by decide) ?_
  refine fd_aload_n C dD_seat_6 rfl ?_
  refine fd_get C (k := 0) (i := 0) (j := 1) (v := .ref (ad 6 0)) (ds_m (by decide)) rfl rfl (by decide) wsD fw1_114 rfl dD_seat_7 ?_
  refine fd_iload_n C dD_seat_10 rfl ?_
  refine fd_callVi C hE [.int (fd_I ((sq : Nat) : Int))] (k := 6) (i := 0) (mK_hasSeat l D cI cB L ad M ((sq : Nat) : Int) (by omega) hL) (cwV 1 C.1.2.2.2.2 (gK_hasSeat fw1_139) rfl rfl rfl ⟨rfl, by decide, by decide, by decide +kernel⟩ ⟨by decide, by decide⟩) (ds_m (by decide)) rfl rfl rfl (Nat.le_of_ble_eq_true rfl) dD_seat_11 ⟨by decide, by decide⟩ ?_
  refine fd_if_ne C (tgt := 27) dD_seat_14 rfl ⟨by split <;> omega, by split <;> omega⟩ (fun h14t => ?_) (fun h14f => ?_)
  · skip
    refine fd_aload_n C dD_seat_27 rfl ?_
    refine fd_aload_n C dD_seat_28 rfl ?_
    refine fd_callVv C hE [.ref (ad 8 n)] (k := 0) (i := 0) (mD_requireSeatsMissing l D cI cB L ad M n hn6 e3 e2 hs) (cwV 1 C.1.2.2.2.2 (gD_requireSeatsMissing fw2_169) rfl rfl rfl ⟨rfl, by decide, by decide, by decide +kernel⟩ ⟨by decide, by decide⟩) (ds_m (by decide)) rfl rfl rfl (Nat.le_of_ble_eq_true rfl) dD_seat_29 ⟨by decide, by decide⟩ ?_
    refine fd_aload_n C dD_seat_32 rfl ?_
    refine fd_get C (k := 0) (i := 0) (j := 1) (v := .ref (ad 6 0)) (ds_m (by decide)) rfl rfl (by decide) wsD fw1_114 rfl dD_seat_33 ?_
    refine fd_iload_n C dD_seat_36 rfl ?_
    refine fd_callVi C hE [.int (fd_I ((sq : Nat) : Int))] (k := 6) (i := 0) (mK_isFree l D cI cB L ad M sq hq hL (hok.hol sq hq)) (cwV 1 C.1.2.2.2.2 (gK_isFree fw2_179) rfl rfl rfl ⟨rfl, by decide, by decide, by decide +kernel⟩ ⟨by decide, by decide⟩) (ds_m (by decide)) rfl rfl rfl (Nat.le_of_ble_eq_true rfl) dD_seat_37 ⟨by decide, by decide⟩ ?_
    refine fd_if_ne C (tgt := 53) dD_seat_40 rfl ⟨by split <;> omega, by split <;> omega⟩ (fun h40t => ?_) (fun h40f => ?_)
    · skip
      exfalso; rw [if_neg hfr] at h40t; omega
    · skip
      exact fd_throwU C hl hE (text := "the seat is taken") (List.mem_of_getElem? (i := 17) rfl) dD_seat_43 dD_seat_46 dD_seat_47 dD_seat_49 dD_seat_52 hno hlk ⟨by decide, by decide, by decide, by decide⟩ rfl
  · skip
    exfalso; rw [if_pos (by omega)] at h14f; omega
set_option maxRecDepth 20000 in
theorem mD_together (l : Launch) (D : va_G) (cI cB : ClassId) (L : Nat) (ad : Nat → Nat → Nat) (M : fd_Mem) (n : Nat) (hn : (n : Int) < M 0 0 3) (hok : ds_ok L M) (hL : L ≤ 60) (hs : M 8 n 3 = 2 ∧ M 8 n 2 < M 8 n 5) (hfr : M 8 n 5 - M 8 n 2 ≤ M 6 0 1) (hbs : 0 ≤ (ds_best M L (M 8 n 5 - M 8 n 2).toNat) ∧ (ds_best M L (M 8 n 5 - M 8 n 2).toNat) < L) : ds_Mi l D cI cB L ad yD_together wD_together ({ frames := 4, cells := 0, slots := 0, locals := 90 }) [.ref (ad 0 0), .int (fd_I ((n : Nat) : Int))] M ((ds_best M L (M 8 n 5 - M 8 n 2).toNat)) (ds_tog L M n) := by
  have hm := hok.made
  have hn6 : n < 60 := by omega
  have e3 := hok.sta hn6
  have e4 := hok.far hn6
  have e2 := hok.sea hn6
  have e6 := hok.free
  refine fd_enterI (by decide) rfl ds_nd (by simp [Value.category]) (Nat.le_of_ble_eq_true rfl) ?_
  intro A p e s m args below meth c C hr hlk hE
  have C : fd_C p m c cD_together 4 s args fd_T "FareDesk" D fd_cl (ds_tys cI cB) ds_wl A := C
  refine fd_pad 2 ?_
  refine fd_aload_n C dD_together_0 rfl ?_
  refine fd_iload_n C dD_together_1 rfl ?_
  refine fd_callVr C hE [.int (fd_I ((n : Nat) : Int))] (k := 0) (i := 0) (mD_find l D cI cB L ad M n hn hm) (cwV 1 C.1.2.2.2.2 (gD_find fw2_97) rfl rfl rfl ⟨rfl, by decide, by decide, by decide +kernel⟩ ⟨by decide, by decide⟩) (ds_m (by decide)) rfl rfl rfl (Nat.le_of_ble_eq_true rfl) dD_together_2 ⟨by decide, by decide⟩ ?_
  refine fd_astore_n C dD_together_5 (by decide) ?_
  refine fd_aload_n C dD_together_6 rfl ?_
  refine fd_aload_n C dD_together_7 rfl ?_
  refine fd_callVv C hE [.ref (ad 8 n)] (k := 0) (i := 0) (mD_requireSeatsMissing l D cI cB L ad M n hn6 e3 e2 hs) (cwV 1 C.1.2.2.2.2 (gD_requireSeatsMissing fw2_169) rfl rfl rfl ⟨rfl, by decide, by decide, by decide +kernel⟩ ⟨by decide, by decide⟩) (ds_m (by decide)) rfl rfl rfl (Nat.le_of_ble_eq_true rfl) dD_together_8 ⟨by decide, by decide⟩ ?_
  refine fd_aload_n C dD_together_11 rfl ?_
  refine fd_get C (k := 0) (i := 0) (j := 1) (v := .ref (ad 6 0)) (ds_m (by decide)) rfl rfl (by decide) wsD fw1_114 rfl dD_together_12 ?_
  refine fd_get C (k := 6) (i := 0) (j := 1) (v := .int (fd_I (M 6 0 1))) (ds_m (by decide)) rfl rfl (by decide) wsK fw1_63 rfl dD_together_15 ?_
  refine fd_aload_n C dD_together_18 rfl ?_
  refine fd_callVi C hE [] (k := 8) (i := n) (mB_seatsMissing l D cI cB L ad M n hn6) (cwV 0 C.1.2.2.2.2 (gB_seatsMissing fw2_174) rfl rfl rfl ⟨rfl, by decide, by decide, by decide +kernel⟩ ⟨by decide, by decide⟩) (ds_m8 hn6) rfl rfl rfl (Nat.le_of_ble_eq_true rfl) dD_together_19 ⟨by decide, by decide⟩ ?_
  refine fd_icmp_ge C (tgt := 35) dD_together_22 rfl ⟨by omega, by omega⟩ ⟨by omega, by omega⟩ (fun h22t => ?_) (fun h22f => ?_)
  · skip
    refine fd_aload_n C dD_together_35 rfl ?_
    refine fd_get C (k := 0) (i := 0) (j := 1) (v := .ref (ad 6 0)) (ds_m (by decide)) rfl rfl (by decide) wsD fw1_114 rfl dD_together_36 ?_
    refine fd_aload_n C dD_together_39 rfl ?_
    refine fd_callVi C hE [] (k := 8) (i := n) (mB_seatsMissing l D cI cB L ad M n hn6) (cwV 0 C.1.2.2.2.2 (gB_seatsMissing fw2_174) rfl rfl rfl ⟨rfl, by decide, by decide, by decide +kernel⟩ ⟨by decide, by decide⟩) (ds_m8 hn6) rfl rfl rfl (Nat.le_of_ble_eq_true rfl) dD_together_40 ⟨by decide, by decide⟩ ?_
    refine fd_tp (b := (((M 8 n 5 - M 8 n 2).toNat : Nat) : Int)) (Int.toNat_of_nonneg (by omega)).symm ?_
    refine fd_callVi C hE [.int (fd_I (((M 8 n 5 - M 8 n 2).toNat : Nat) : Int))] (k := 6) (i := 0) (mK_bestStart l D cI cB L ad M (M 8 n 5 - M 8 n 2).toNat (by omega) hL hok.hol) (cwV 1 C.1.2.2.2.2 (gK_bestStart fw2_196) rfl rfl rfl ⟨rfl, by decide, by decide, by decide +kernel⟩ ⟨by decide, by decide⟩) (ds_m (by decide)) rfl rfl rfl (Nat.le_of_ble_eq_true rfl) dD_together_43 ⟨by decide, by decide⟩ ?_
    refine fd_istore_n C dD_together_46 (by decide) ?_
    refine fd_aload_n C dD_together_47 rfl ?_
    refine fd_get C (k := 0) (i := 0) (j := 1) (v := .ref (ad 6 0)) (ds_m (by decide)) rfl rfl (by decide) wsD fw1_114 rfl dD_together_48 ?_
    refine fd_aload_n C dD_together_51 rfl ?_
    refine fd_iload_n C dD_together_52 rfl ?_
    refine fd_tp (b := (((ds_best M L (M 8 n 5 - M 8 n 2).toNat).toNat : Nat) : Int)) (Int.toNat_of_nonneg (by omega)).symm ?_
    refine fd_callVv C hE [.ref (ad 8 n), .int (fd_I (((ds_best M L (M 8 n 5 - M 8 n 2).toNat).toNat : Nat) : Int))] (k := 6) (i := 0) (mK_giveMissing l D cI cB L ad M n hn6 (ds_best M L (M 8 n 5 - M 8 n 2).toNat).toNat (by omega) hL (hok.gb hn6)) (cwV 2 C.1.2.2.2.2 (gK_giveMissing fw2_209) rfl rfl rfl ⟨rfl, by decide, by decide, by decide +kernel⟩ ⟨by decide, by decide⟩) (ds_m (by decide)) rfl rfl rfl (Nat.le_of_ble_eq_true rfl) dD_together_53 ⟨by decide, by decide⟩ ?_
    refine fd_iload_n C dD_together_56 rfl ?_
    exact fd_iret C hr hlk (by first | rfl | omega | (split <;> omega) | (simp; omega)) rfl dD_together_57
  · skip
    exfalso; omega
set_option maxRecDepth 20000 in
theorem mD_together_TS (l : Launch) (D : va_G) (cI cB : ClassId) (L : Nat) (ad : Nat → Nat → Nat) (M : fd_Mem) (n : Nat) (hn : (n : Int) < M 0 0 3) (hok : ds_ok L M) (hs : ¬ (M 8 n 3 = 2 ∧ M 8 n 2 < M 8 n 5))  (hl : l.stackTraces = false) : ds_MT l D cI cB L ad yD_together wD_together ({ frames := 7, cells := 1, slots := 6, locals := 111 }) [.ref (ad 0 0), .int (fd_I ((n : Nat) : Int))] M "java/lang/IllegalStateException" := by
  have hm := hok.made
  have hn6 : n < 60 := by omega
  have e3 := hok.sta hn6
  have e4 := hok.far hn6
  have e2 := hok.sea hn6
  refine fd_enterT (by decide) rfl ds_nd (by simp [Value.category]) (Nat.le_of_ble_eq_true rfl) ?_
  intro A p e s m args below meth c C hlk hno hE
  have C : fd_C p m c cD_together 4 s args fd_T "FareDesk" D fd_cl (ds_tys cI cB) ds_wl A := C
  refine fd_pad 2 ?_
  refine fd_aload_n C dD_together_0 rfl ?_
  refine fd_iload_n C dD_together_1 rfl ?_
  refine fd_callVr C hE [.int (fd_I ((n : Nat) : Int))] (k := 0) (i := 0) (mD_find l D cI cB L ad M n hn hm) (cwV 1 C.1.2.2.2.2 (gD_find fw2_97) rfl rfl rfl ⟨rfl, by decide, by decide, by decide +kernel⟩ ⟨by decide, by decide⟩) (ds_m (by decide)) rfl rfl rfl (Nat.le_of_ble_eq_true rfl) dD_together_2 ⟨by decide, by decide⟩ ?_
  refine fd_astore_n C dD_together_5 (by decide) ?_
  refine fd_aload_n C dD_together_6 rfl ?_
  refine fd_aload_n C dD_together_7 rfl ?_
  exact fd_thruV C hE [.ref (ad 8 n)] (k := 0) (i := 0) rfl (mD_requireSeatsMissing_T l D cI cB L ad M n hn6 e3 e2 hs hl) (cwV 1 C.1.2.2.2.2 (gD_requireSeatsMissing fw2_169) rfl rfl rfl ⟨rfl, by decide, by decide, by decide +kernel⟩ ⟨by decide, by decide⟩) (ds_m (by decide)) rfl rfl rfl (Nat.le_of_ble_eq_true rfl) dD_together_8 ⟨by decide, by decide⟩ hno hlk
set_option maxRecDepth 20000 in
theorem mD_together_TU (l : Launch) (D : va_G) (cI cB : ClassId) (L : Nat) (ad : Nat → Nat → Nat) (M : fd_Mem) (n : Nat) (hn : (n : Int) < M 0 0 3) (hok : ds_ok L M) (hs : M 8 n 3 = 2 ∧ M 8 n 2 < M 8 n 5) (hfr : M 6 0 1 < M 8 n 5 - M 8 n 2) (hl : l.stackTraces = false) : ds_MT l D cI cB L ad yD_together wD_together ({ frames := 6, cells := 1, slots := 6, locals := 90 }) [.ref (ad 0 0), .int (fd_I ((n : Nat) : Int))] M "java/lang/UnsupportedOperationException" := by
  have hm := hok.made
  have hn6 : n < 60 := by omega
  have e3 := hok.sta hn6
  have e4 := hok.far hn6
  have e2 := hok.sea hn6
  have e6 := hok.free
  refine fd_enterT (by decide) rfl ds_nd (by simp [Value.category]) (Nat.le_of_ble_eq_true rfl) ?_
  intro A p e s m args below meth c C hlk hno hE
  have C : fd_C p m c cD_together 4 s args fd_T "FareDesk" D fd_cl (ds_tys cI cB) ds_wl A := C
  refine fd_pad 2 ?_
  refine fd_aload_n C dD_together_0 rfl ?_
  refine fd_iload_n C dD_together_1 rfl ?_
  refine fd_callVr C hE [.int (fd_I ((n : Nat) : Int))] (k := 0) (i := 0) (mD_find l D cI cB L ad M n hn hm) (cwV 1 C.1.2.2.2.2 (gD_find fw2_97) rfl rfl rfl ⟨rfl, by decide, by decide, by decide +kernel⟩ ⟨by decide, by decide⟩) (ds_m (by decide)) rfl rfl rfl (Nat.le_of_ble_eq_true rfl) dD_together_2 ⟨by decide, by decide⟩ ?_
  refine fd_astore_n C dD_together_5 (by decide) ?_
  refine fd_aload_n C dD_together_6 rfl ?_
  refine fd_aload_n C dD_together_7 rfl ?_
  refine fd_callVv C hE [.ref (ad 8 n)] (k := 0) (i := 0) (mD_requireSeatsMissing l D cI cB L ad M n hn6 e3 e2 hs) (cwV 1 C.1.2.2.2.2 (gD_requireSeatsMissing fw2_169) rfl rfl rfl ⟨rfl, by decide, by decide, by decide +kernel⟩ ⟨by decide, by decide⟩) (ds_m (by decide)) rfl rfl rfl (Nat.le_of_ble_eq_true rfl) dD_together_8 ⟨by decide, by decide⟩ ?_
  refine fd_aload_n C dD_together_11 rfl ?_
  refine fd_get C (k := 0) (i := 0) (j := 1) (v := .ref (ad 6 0)) (ds_m (by decide)) rfl rfl (by decide) wsD fw1_114 rfl dD_together_12 ?_
  refine fd_get C (k := 6) (i := 0) (j := 1) (v := .int (fd_I (M 6 0 1))) (ds_m (by decide)) rfl rfl (by decide) wsK fw1_63 rfl dD_together_15 ?_
  refine fd_aload_n C dD_together_18 rfl ?_
  refine fd_callVi C hE [] (k := 8) (i := n) (mB_seatsMissing l D cI cB L ad M n hn6) (cwV 0 C.1.2.2.2.2 (gB_seatsMissing fw2_174) rfl rfl rfl ⟨rfl, by decide, by decide, by decide +kernel⟩ ⟨by decide, by decide⟩) (ds_m8 hn6) rfl rfl rfl (Nat.le_of_ble_eq_true rfl) dD_together_19 ⟨by decide, by decide⟩ ?_
  refine fd_icmp_ge C (tgt := 35) dD_together_22 rfl ⟨by omega, by omega⟩ ⟨by omega, by omega⟩ (fun h22t => ?_) (fun h22f => ?_)
  · skip
    exfalso; omega
  · skip
    exact fd_throwU C hl hE (text := "too few seats are free") (List.mem_of_getElem? (i := 18) rfl) dD_together_25 dD_together_28 dD_together_29 dD_together_31 dD_together_34 hno hlk ⟨by decide, by decide, by decide, by decide⟩ rfl
set_option maxRecDepth 20000 in
theorem mD_tick (l : Launch) (D : va_G) (cI cB : ClassId) (L : Nat) (ad : Nat → Nat → Nat) (M : fd_Mem) (x : Nat) (hx : 1 ≤ x ∧ x ≤ 100) (hL : L ≤ 60) (ht : ∀ k, k < x → ds_tok L (ds_tk M k)) : ds_Mv l D cI cB L ad yD_tick wD_tick ({ frames := 3, cells := 0, slots := 0, locals := 68 }) [.ref (ad 0 0), .int (fd_I ((x : Nat) : Int))] M (ds_tk M x) := by
  refine fd_enterV (by decide) rfl ds_nd (by simp [Value.category]) (Nat.le_of_ble_eq_true rfl) ?_
  intro A p e s m args below meth c C hr hlk hE
  have C : fd_C p m c cD_tick 3 s args fd_T "FareDesk" D fd_cl (ds_tys cI cB) ds_wl A := C
  refine fd_pad 1 ?_
  refine fd_iload_n C dD_tick_0 rfl ?_
  refine fd_iconst C dD_tick_1 ?_
  refine fd_icmp_lt C (tgt := 11) dD_tick_2 rfl ⟨by omega, by omega⟩ ⟨by omega, by omega⟩ (fun h2t => ?_) (fun h2f => ?_)
  · skip
    exfalso; omega
  · skip
    refine fd_iload_n C dD_tick_5 rfl ?_
    refine fd_bipush C dD_tick_6 (by decide) ?_
    refine fd_icmp_le C (tgt := 21) dD_tick_8 rfl ⟨by omega, by omega⟩ ⟨by omega, by omega⟩ (fun h8t => ?_) (fun h8f => ?_)
    · skip
      refine fd_iconst C dD_tick_21 ?_
      refine fd_istore_n C dD_tick_22 (by decide) ?_
      have hloop23 : ∀ (dd23 : Nat) (k : Nat), dd23 = x - k → (k ≤ x) → fd_J p l e ({ frames := 3, cells := 0, slots := 0, locals := 68 }) s m args below meth c D fd_cl A ad (ds_en cI cB L ad) ds_wl 3 0 0 (MQ below (fd_QV D fd_cl (ds_tys cI cB) ad (ds_en cI cB L ad) ds_wl A (ds_tk M x)) args s 0 0 A) (ds_tk M k) 23 [some (.ref (ad 0 0)), some (.int (fd_I ((x : Nat) : Int))), some (.int (fd_I ((k : Nat) : Int)))] [] := by
        intro dd23
        induction dd23 using Nat.strongRecOn with
        | ind dd23 ih23 =>
          intro k hdd23 hk
          refine fd_iload_n C dD_tick_23 rfl ?_
          refine fd_iload_n C dD_tick_24 rfl ?_
          refine fd_icmp_ge C (tgt := 55) dD_tick_25 rfl ⟨by omega, by omega⟩ ⟨by omega, by omega⟩ (fun h25t => ?_) (fun h25f => ?_)
          · skip
            exact fd_vret C hr hlk (by rw [show k = x by omega]) dD_tick_55
          · skip
            refine fd_aload_n C dD_tick_28 rfl ?_
            refine fd_dup C dD_tick_29 rfl ?_
            refine fd_get C (k := 0) (i := 0) (j := 4) (v := .int (fd_I ((ds_tk M k) 0 0 4))) (ds_m (by decide)) rfl rfl (by decide) wsD fw1_117 rfl dD_tick_30 ?_
            have tk := ht k (by omega)
            refine fd_iconst C dD_tick_33 ?_
            refine fd_iadd C dD_tick_34 ?_
            refine fd_put C (k := 0) (i := 0) (j := 4) (z := (((ds_tk M k) 0 0 4) + 1)) (ty := .int) tyD (ds_m (by decide)) rfl rfl rfl (by decide) wsD tyD_ok nmD fw1_117 rfl (by decide +kernel) rfl rfl (Nat.le_of_ble_eq_true rfl) dD_tick_35 ?_
            refine fd_aload_n C dD_tick_38 rfl ?_
            refine fd_callVi C hE [] (k := 0) (i := 0) (mD_expireDue l D cI cB L ad (fd_u3 (ds_tk M k) 0 0 4 (((ds_tk M k) 0 0 4) + 1)) tk.2.1.1 hL tk.2.1.2) (cwV 0 C.1.2.2.2.2 (gD_expireDue fw2_223) rfl rfl rfl ⟨rfl, by decide, by decide, by decide +kernel⟩ ⟨by decide, by decide⟩) (ds_m (by decide)) rfl rfl rfl (Nat.le_of_ble_eq_true rfl) dD_tick_39 ⟨by decide, by decide⟩ ?_
            refine fd_tp (b := (ds_tx (ds_tk M k)).2) rfl ?_
            refine fd_mem (M' := (ds_tx (ds_tk M k)).1) rfl ?_
            have e9 : (ds_tx (ds_tk M k)).2 = 0 ∨ (ds_tx (ds_tk M k)).2 = 1 := ds_ex_01 _ _
            refine fd_if_eq C (tgt := 49) dD_tick_42 rfl ⟨by omega, by omega⟩ (fun h42t => ?_) (fun h42f => ?_)
            · skip
              refine fd_iinc C dD_tick_49 rfl (by decide) ?_
              refine fd_goto C (tgt := 23) dD_tick_52 rfl ?_
              have h9 := ih23 (x - (k + 1)) (by omega) (k + 1) rfl (by omega)
              rw [ds_tk_s] at h9
              unfold ds_tk1 at h9
              rw [if_pos h42t] at h9
              exact h9
            · skip
              refine fd_aload_n C dD_tick_45 rfl ?_
              refine fd_callVv C hE [] (k := 0) (i := 0) (mD_serveWaiting l D cI cB L ad ((ds_tx (ds_tk M k)).1) tk.2.2.1 tk.2.2.2) (cwV 0 C.1.2.2.2.2 (gD_serveWaiting fw2_12) rfl rfl rfl ⟨rfl, by decide, by decide, by decide +kernel⟩ ⟨by decide, by decide⟩) (ds_m (by decide)) rfl rfl rfl (Nat.le_of_ble_eq_true rfl) dD_tick_46 ⟨by decide, by decide⟩ ?_
              refine fd_iinc C dD_tick_49 rfl (by decide) ?_
              refine fd_goto C (tgt := 23) dD_tick_52 rfl ?_
              have h9 := ih23 (x - (k + 1)) (by omega) (k + 1) rfl (by omega)
              rw [ds_tk_s] at h9
              unfold ds_tk1 at h9
              rw [if_neg h42f] at h9
              exact h9
      exact hloop23 _ 0 rfl (by omega)
    · skip
      exfalso; omega
set_option maxRecDepth 20000 in
theorem mD_tick_TI (l : Launch) (D : va_G) (cI cB : ClassId) (L : Nat) (ad : Nat → Nat → Nat) (M : fd_Mem) (x : Int) (hx : -2147483648 ≤ x ∧ x < 2147483648) (hb : x < 1 ∨ 100 < x) (hl : l.stackTraces = false) : ds_MT l D cI cB L ad yD_tick wD_tick ({ frames := 6, cells := 1, slots := 6, locals := 90 }) [.ref (ad 0 0), .int (fd_I (x))] M "java/lang/IllegalArgumentException" := by
  refine fd_enterT (by decide) rfl ds_nd (by simp [Value.category]) (Nat.le_of_ble_eq_true rfl) ?_
  intro A p e s m args below meth c C hlk hno hE
  have C : fd_C p m c cD_tick 3 s args fd_T "FareDesk" D fd_cl (ds_tys cI cB) ds_wl A := C
  refine fd_pad 1 ?_
  refine fd_iload_n C dD_tick_0 rfl ?_
  refine fd_iconst C dD_tick_1 ?_
  refine fd_icmp_lt C (tgt := 11) dD_tick_2 rfl ⟨by omega, by omega⟩ ⟨by omega, by omega⟩ (fun h2t => ?_) (fun h2f => ?_)
  · skip
    exact fd_throwI C hl hE (text := "not so many ticks") (List.mem_of_getElem? (i := 19) rfl) dD_tick_11 dD_tick_14 dD_tick_15 dD_tick_17 dD_tick_20 hno hlk ⟨by decide, by decide, by decide, by decide⟩ rfl
  · skip
    refine fd_iload_n C dD_tick_5 rfl ?_
    refine fd_bipush C dD_tick_6 (by decide) ?_
    refine fd_icmp_le C (tgt := 21) dD_tick_8 rfl ⟨by omega, by omega⟩ ⟨by omega, by omega⟩ (fun h8t => ?_) (fun h8f => ?_)
    · skip
      exfalso; omega
    · skip
      exact fd_throwI C hl hE (text := "not so many ticks") (List.mem_of_getElem? (i := 19) rfl) dD_tick_11 dD_tick_14 dD_tick_15 dD_tick_17 dD_tick_20 hno hlk ⟨by decide, by decide, by decide, by decide⟩ rfl
set_option maxRecDepth 20000 in
theorem mD_close (l : Launch) (D : va_G) (cI cB : ClassId) (L : Nat) (ad : Nat → Nat → Nat) (M : fd_Mem) (hok : ds_ok L M) (hc : M 0 0 6 = 0) (hL : L ≤ 60) (he1 : ∀ n : Nat, (n : Int) ≤ M 0 0 3 → ds_ok L (ds_end (ds_c0 M) n)) (hb : ∀ f : Nat, f < 4 → ds_bok L (ds_cb L M f).1 (f : Int)) : ds_Mi l D cI cB L ad yD_close wD_close ({ frames := 5, cells := 0, slots := 0, locals := 110 }) [.ref (ad 0 0)] M ((ds_cb L M 4).2) ((ds_cb L M 4).1) := by
  have hm := hok.made
  refine fd_enterI (by decide) rfl ds_nd (by simp [Value.category]) (Nat.le_of_ble_eq_true rfl) ?_
  intro A p e s m args below meth c C hr hlk hE
  have C : fd_C p m c cD_close 3 s args fd_T "FareDesk" D fd_cl (ds_tys cI cB) ds_wl A := C
  refine fd_pad 2 ?_
  refine fd_aload_n C dD_close_0 rfl ?_
  refine fd_callVv C hE [] (k := 0) (i := 0) (mD_requireOpen l D cI cB L ad M hc) (cwV 0 C.1.2.2.2.2 (gD_requireOpen fw1_232) rfl rfl rfl ⟨rfl, by decide, by decide, by decide +kernel⟩ ⟨by decide, by decide⟩) (ds_m (by decide)) rfl rfl rfl (Nat.le_of_ble_eq_true rfl) dD_close_1 ⟨by decide, by decide⟩ ?_
  refine fd_aload_n C dD_close_4 rfl ?_
  refine fd_iconst C dD_close_5 ?_
  refine fd_put C (k := 0) (i := 0) (j := 6) (z := 1) (ty := .boolean) tyD (ds_m (by decide)) rfl rfl rfl (by decide) wsD tyD_ok nmD fw1_119 rfl (by decide +kernel) (by decide) (by decide) (Nat.le_of_ble_eq_true rfl) dD_close_6 ?_
  refine fd_aload_n C dD_close_9 rfl ?_
  refine fd_callVv C hE [] (k := 0) (i := 0) (mD_endUnconfirmed l D cI cB L ad (fd_u3 M 0 0 6 (1)) hm hL he1) (cwV 0 C.1.2.2.2.2 (gD_endUnconfirmed fw2_234) rfl rfl rfl ⟨rfl, by decide, by decide, by decide +kernel⟩ ⟨by decide, by decide⟩) (ds_m (by decide)) rfl rfl rfl (Nat.le_of_ble_eq_true rfl) dD_close_10 ⟨by decide, by decide⟩ ?_
  refine fd_iconst C dD_close_13 ?_
  refine fd_istore_n C dD_close_14 (by decide) ?_
  refine fd_iconst C dD_close_15 ?_
  refine fd_istore_n C dD_close_16 (by decide) ?_
  have hloop17 : ∀ (dd17 : Nat) (f : Nat), dd17 = 4 - f → (f ≤ 4) → fd_J p l e ({ frames := 5, cells := 0, slots := 0, locals := 110 }) s m args below meth c D fd_cl A ad (ds_en cI cB L ad) ds_wl 3 0 0 (MQ below (fd_QI D fd_cl (ds_tys cI cB) ad (ds_en cI cB L ad) ds_wl A ((ds_cb L M 4).2) ((ds_cb L M 4).1)) args s 0 0 A) ((ds_cb L M f).1) 17 [some (.ref (ad 0 0)), some (.int (fd_I ((ds_cb L M f).2))), some (.int (fd_I ((f : Nat) : Int)))] [] := by
    intro dd17
    induction dd17 using Nat.strongRecOn with
    | ind dd17 ih17 =>
      intro f hdd17 hf4
      refine fd_iload_n C dD_close_17 rfl ?_
      refine fd_iconst C dD_close_18 ?_
      refine fd_icmp_ge C (tgt := 36) dD_close_19 rfl ⟨by omega, by omega⟩ ⟨by omega, by omega⟩ (fun h19t => ?_) (fun h19f => ?_)
      · skip
        refine fd_iload_n C dD_close_36 rfl ?_
        exact fd_iret C hr hlk (by rw [show f = 4 by omega]) (by rw [show f = 4 by omega]) dD_close_37
      · skip
        refine fd_iload_n C dD_close_22 rfl ?_
        refine fd_aload_n C dD_close_23 rfl ?_
        refine fd_iload_n C dD_close_24 rfl ?_
        refine fd_callVi C hE [.int (fd_I ((f : Nat) : Int))] (k := 0) (i := 0) (mD_boardFare l D cI cB L ad ((ds_cb L M f).1) (hb f (by omega)).1 ((f : Nat) : Int) (by omega) hL (hb f (by omega)).2.1 (hb f (by omega)).2.2.1 (hb f (by omega)).2.2.2) (cwV 1 C.1.2.2.2.2 (gD_boardFare fw2_238) rfl rfl rfl ⟨rfl, by decide, by decide, by decide +kernel⟩ ⟨by decide, by decide⟩) (ds_m (by decide)) rfl rfl rfl (Nat.le_of_ble_eq_true rfl) dD_close_25 ⟨by decide, by decide⟩ ?_
        refine fd_iadd C dD_close_28 ?_
        refine fd_istore_n C dD_close_29 (by decide) ?_
        refine fd_iinc C dD_close_30 rfl (by decide) ?_
        refine fd_goto C (tgt := 17) dD_close_33 rfl ?_
        have h9 := ih17 (4 - (f + 1)) (by omega) (f + 1) rfl (by omega)
        rw [ds_cb_s] at h9
        exact h9
  exact hloop17 _ 0 rfl (by omega)
set_option maxRecDepth 20000 in
theorem mD_close_TS (l : Launch) (D : va_G) (cI cB : ClassId) (L : Nat) (ad : Nat → Nat → Nat) (M : fd_Mem) (hc : M 0 0 6 = 1) (hl : l.stackTraces = false) : ds_MT l D cI cB L ad yD_close wD_close ({ frames := 7, cells := 1, slots := 6, locals := 110 }) [.ref (ad 0 0)] M "java/lang/IllegalStateException" := by
  refine fd_enterT (by decide) rfl ds_nd (by simp [Value.category]) (Nat.le_of_ble_eq_true rfl) ?_
  intro A p e s m args below meth c C hlk hno hE
  have C : fd_C p m c cD_close 3 s args fd_T "FareDesk" D fd_cl (ds_tys cI cB) ds_wl A := C
  refine fd_pad 2 ?_
  refine fd_aload_n C dD_close_0 rfl ?_
  exact fd_thruV C hE [] (k := 0) (i := 0) rfl (mD_requireOpen_T l D cI cB L ad M hc hl) (cwV 0 C.1.2.2.2.2 (gD_requireOpen fw1_232) rfl rfl rfl ⟨rfl, by decide, by decide, by decide +kernel⟩ ⟨by decide, by decide⟩) (ds_m (by decide)) rfl rfl rfl (Nat.le_of_ble_eq_true rfl) dD_close_1 ⟨by decide, by decide⟩ hno hlk
set_option maxRecDepth 20000 in
theorem mD_of (l : Launch) (D : va_G) (cI cB : ClassId) (L : Nat) (ad : Nat → Nat → Nat) (M : fd_Mem) (n : Nat) (hn : (n : Int) < M 0 0 3) (hok : ds_ok L M) (w : Int) (hw : 0 ≤ w ∧ w ≤ 6) (hL : L ≤ 60) : ds_Mi l D cI cB L ad yD_of wD_of ({ frames := 1, cells := 0, slots := 0, locals := 21 }) [.ref (ad 0 0), .int (fd_I ((n : Nat) : Int)), .int (fd_I (w))] M (ds_of M n w) (M) := by
  have hm := hok.made
  have hn6 : n < 60 := by omega
  have e3 := hok.sta hn6
  have e4 := hok.far hn6
  have e2 := hok.sea hn6
  refine fd_enterI (by decide) rfl ds_nd (by simp [Value.category]) (Nat.le_of_ble_eq_true rfl) ?_
  intro A p e s m args below meth c C hr hlk hE
  have C : fd_C p m c cD_of 4 s args fd_T "FareDesk" D fd_cl (ds_tys cI cB) ds_wl A := C
  refine fd_pad 1 ?_
  refine fd_aload_n C dD_of_0 rfl ?_
  refine fd_iload_n C dD_of_1 rfl ?_
  refine fd_callVr C hE [.int (fd_I ((n : Nat) : Int))] (k := 0) (i := 0) (mD_find l D cI cB L ad M n hn hm) (cwV 1 C.1.2.2.2.2 (gD_find fw2_97) rfl rfl rfl ⟨rfl, by decide, by decide, by decide +kernel⟩ ⟨by decide, by decide⟩) (ds_m (by decide)) rfl rfl rfl (Nat.le_of_ble_eq_true rfl) dD_of_2 ⟨by decide, by decide⟩ ?_
  refine fd_astore_n C dD_of_5 (by decide) ?_
  refine fd_iload_n C dD_of_6 rfl ?_
  rcases (show (w) < 0 ∨ 6 < (w) ∨ (w) = 0 ∨ (w) = 1 ∨ (w) = 2 ∨ (w) = 3 ∨ (w) = 4 ∨ (w) = 5 ∨ (w) = 6 by omega) with hsw | hsw | hsw | hsw | hsw | hsw | hsw | hsw | hsw
  · refine fd_tswO C (tgt := 108) dD_of_7 ⟨by omega, by omega⟩ (Or.inl hsw) rfl ?_
    exfalso; omega
  · refine fd_tswO C (tgt := 108) dD_of_7 ⟨by omega, by omega⟩ (Or.inr hsw) rfl ?_
    exfalso; omega
  · refine fd_tswI C (tgt := 48) dD_of_7 ⟨by omega, by omega⟩ (by omega) (by omega) (by rw [hsw]; rfl) rfl ?_
    refine fd_aload_n C dD_of_48 rfl ?_
    refine fd_get C (k := 8) (i := n) (j := 3) (v := .int (fd_I (M 8 n 3))) (ds_m8 hn6) rfl rfl (by decide) wsB fw1_84 rfl dD_of_49 ?_
    exact fd_iret C hr hlk (by unfold ds_of; repeat (first | rw [if_pos (by omega)] | rw [if_neg (by omega)])) rfl dD_of_52
  · refine fd_tswI C (tgt := 53) dD_of_7 ⟨by omega, by omega⟩ (by omega) (by omega) (by rw [hsw]; rfl) rfl ?_
    refine fd_aload_n C dD_of_53 rfl ?_
    refine fd_get C (k := 8) (i := n) (j := 4) (v := .int (fd_I (M 8 n 4))) (ds_m8 hn6) rfl rfl (by decide) wsB fw1_86 rfl dD_of_54 ?_
    exact fd_iret C hr hlk (by unfold ds_of; repeat (first | rw [if_pos (by omega)] | rw [if_neg (by omega)])) rfl dD_of_57
  · refine fd_tswI C (tgt := 58) dD_of_7 ⟨by omega, by omega⟩ (by omega) (by omega) (by rw [hsw]; rfl) rfl ?_
    refine fd_aload_n C dD_of_58 rfl ?_
    refine fd_get C (k := 8) (i := n) (j := 5) (v := .int (fd_I (M 8 n 5))) (ds_m8 hn6) rfl rfl (by decide) wsB fw1_89 rfl dD_of_59 ?_
    exact fd_iret C hr hlk (by unfold ds_of; repeat (first | rw [if_pos (by omega)] | rw [if_neg (by omega)])) rfl dD_of_62
  · refine fd_tswI C (tgt := 63) dD_of_7 ⟨by omega, by omega⟩ (by omega) (by omega) (by rw [hsw]; rfl) rfl ?_
    refine fd_aload_n C dD_of_63 rfl ?_
    refine fd_get C (k := 8) (i := n) (j := 2) (v := .int (fd_I (M 8 n 2))) (ds_m8 hn6) rfl rfl (by decide) wsB fw1_82 rfl dD_of_64 ?_
    exact fd_iret C hr hlk (by unfold ds_of; repeat (first | rw [if_pos (by omega)] | rw [if_neg (by omega)])) rfl dD_of_67
  · refine fd_tswI C (tgt := 68) dD_of_7 ⟨by omega, by omega⟩ (by omega) (by omega) (by rw [hsw]; rfl) rfl ?_
    refine fd_aload_n C dD_of_68 rfl ?_
    refine fd_get C (k := 8) (i := n) (j := 6) (v := .int (fd_I (M 8 n 6))) (ds_m8 hn6) rfl rfl (by decide) wsB fw1_91 rfl dD_of_69 ?_
    exact fd_iret C hr hlk (by unfold ds_of; repeat (first | rw [if_pos (by omega)] | rw [if_neg (by omega)])) rfl dD_of_72
  · refine fd_tswI C (tgt := 73) dD_of_7 ⟨by omega, by omega⟩ (by omega) (by omega) (by rw [hsw]; rfl) rfl ?_
    refine fd_aload_n C dD_of_73 rfl ?_
    refine fd_get C (k := 8) (i := n) (j := 3) (v := .int (fd_I (M 8 n 3))) (ds_m8 hn6) rfl rfl (by decide) wsB fw1_84 rfl dD_of_74 ?_
    refine fd_iconst C dD_of_77 ?_
    refine fd_icmp_ne C (tgt := 88) dD_of_78 rfl ⟨by omega, by omega⟩ ⟨by omega, by omega⟩ (fun h78t => ?_) (fun h78f => ?_)
    · skip
      refine fd_iconst C dD_of_88 ?_
      exact fd_iret C hr hlk (by unfold ds_of; repeat (first | rw [if_pos (by omega)] | rw [if_neg (by omega)])) rfl dD_of_89
    · skip
      refine fd_aload_n C dD_of_81 rfl ?_
      refine fd_get C (k := 8) (i := n) (j := 8) (v := .int (fd_I (M 8 n 8))) (ds_m8 hn6) rfl rfl (by decide) wsB fw1_93 rfl dD_of_82 ?_
      refine fd_goto C (tgt := 89) dD_of_85 rfl ?_
      exact fd_iret C hr hlk (by unfold ds_of; repeat (first | rw [if_pos (by omega)] | rw [if_neg (by omega)])) rfl dD_of_89
  · refine fd_tswI C (tgt := 90) dD_of_7 ⟨by omega, by omega⟩ (by omega) (by omega) (by rw [hsw]; rfl) rfl ?_
    refine fd_aload_n C dD_of_90 rfl ?_
    refine fd_get C (k := 8) (i := n) (j := 2) (v := .int (fd_I (M 8 n 2))) (ds_m8 hn6) rfl rfl (by decide) wsB fw1_82 rfl dD_of_91 ?_
    refine fd_if_le C (tgt := 106) dD_of_94 rfl ⟨by omega, by omega⟩ (fun h94t => ?_) (fun h94f => ?_)
    · skip
      refine fd_iconst C dD_of_106 ?_
      exact fd_iret C hr hlk (by unfold ds_of; repeat (first | rw [if_pos (by omega)] | rw [if_neg (by omega)])) rfl dD_of_107
    · skip
      refine fd_aload_n C dD_of_97 rfl ?_
      refine fd_get C (k := 8) (i := n) (j := 1) (v := .ref (ad 9 n)) (ds_m8 hn6) rfl rfl (by decide) wsB fw1_79 rfl dD_of_98 ?_
      refine fd_iconst C dD_of_101 ?_
      refine fd_iald C (k := 9) (i := n) (x := 0) (v := M 9 n 0) (ds_m9 hn6) (fun _ => rfl) (ds_tI cI cB) rfl (by omega) (by decide) rfl dD_of_102 ?_
      refine fd_goto C (tgt := 107) dD_of_103 rfl ?_
      exact fd_iret C hr hlk (by unfold ds_of; repeat (first | rw [if_pos (by omega)] | rw [if_neg (by omega)])) rfl dD_of_107
set_option maxRecDepth 20000 in
theorem mD_of_TI (l : Launch) (D : va_G) (cI cB : ClassId) (L : Nat) (ad : Nat → Nat → Nat) (M : fd_Mem) (n : Nat) (hn : (n : Int) < M 0 0 3) (hok : ds_ok L M) (w : Int) (hw : -2147483648 ≤ w ∧ w < 2147483648) (hb : w < 0 ∨ 6 < w) (hl : l.stackTraces = false) : ds_MT l D cI cB L ad yD_of wD_of ({ frames := 6, cells := 1, slots := 6, locals := 90 }) [.ref (ad 0 0), .int (fd_I ((n : Nat) : Int)), .int (fd_I (w))] M "java/lang/IllegalArgumentException" := by
  have hm := hok.made
  have hn6 : n < 60 := by omega
  have e3 := hok.sta hn6
  have e4 := hok.far hn6
  have e2 := hok.sea hn6
  refine fd_enterT (by decide) rfl ds_nd (by simp [Value.category]) (Nat.le_of_ble_eq_true rfl) ?_
  intro A p e s m args below meth c C hlk hno hE
  have C : fd_C p m c cD_of 4 s args fd_T "FareDesk" D fd_cl (ds_tys cI cB) ds_wl A := C
  refine fd_pad 1 ?_
  refine fd_aload_n C dD_of_0 rfl ?_
  refine fd_iload_n C dD_of_1 rfl ?_
  refine fd_callVr C hE [.int (fd_I ((n : Nat) : Int))] (k := 0) (i := 0) (mD_find l D cI cB L ad M n hn hm) (cwV 1 C.1.2.2.2.2 (gD_find fw2_97) rfl rfl rfl ⟨rfl, by decide, by decide, by decide +kernel⟩ ⟨by decide, by decide⟩) (ds_m (by decide)) rfl rfl rfl (Nat.le_of_ble_eq_true rfl) dD_of_2 ⟨by decide, by decide⟩ ?_
  refine fd_astore_n C dD_of_5 (by decide) ?_
  refine fd_iload_n C dD_of_6 rfl ?_
  rcases (show (w) < 0 ∨ 6 < (w) ∨ (w) = 0 ∨ (w) = 1 ∨ (w) = 2 ∨ (w) = 3 ∨ (w) = 4 ∨ (w) = 5 ∨ (w) = 6 by omega) with hsw | hsw | hsw | hsw | hsw | hsw | hsw | hsw | hsw
  · refine fd_tswO C (tgt := 108) dD_of_7 ⟨by omega, by omega⟩ (Or.inl hsw) rfl ?_
    exact fd_throwI C hl hE (text := "nothing of a booking has this number") (List.mem_of_getElem? (i := 20) rfl) dD_of_108 dD_of_111 dD_of_112 dD_of_114 dD_of_117 hno hlk ⟨by decide, by decide, by decide, by decide⟩ rfl
  · refine fd_tswO C (tgt := 108) dD_of_7 ⟨by omega, by omega⟩ (Or.inr hsw) rfl ?_
    exact fd_throwI C hl hE (text := "nothing of a booking has this number") (List.mem_of_getElem? (i := 20) rfl) dD_of_108 dD_of_111 dD_of_112 dD_of_114 dD_of_117 hno hlk ⟨by decide, by decide, by decide, by decide⟩ rfl
  · refine fd_tswI C (tgt := 48) dD_of_7 ⟨by omega, by omega⟩ (by omega) (by omega) (by rw [hsw]; rfl) rfl ?_
    exfalso; omega
  · refine fd_tswI C (tgt := 53) dD_of_7 ⟨by omega, by omega⟩ (by omega) (by omega) (by rw [hsw]; rfl) rfl ?_
    exfalso; omega
  · refine fd_tswI C (tgt := 58) dD_of_7 ⟨by omega, by omega⟩ (by omega) (by omega) (by rw [hsw]; rfl) rfl ?_
    exfalso; omega
  · refine fd_tswI C (tgt := 63) dD_of_7 ⟨by omega, by omega⟩ (by omega) (by omega) (by rw [hsw]; rfl) rfl ?_
    exfalso; omega
  · refine fd_tswI C (tgt := 68) dD_of_7 ⟨by omega, by omega⟩ (by omega) (by omega) (by rw [hsw]; rfl) rfl ?_
    exfalso; omega
  · refine fd_tswI C (tgt := 73) dD_of_7 ⟨by omega, by omega⟩ (by omega) (by omega) (by rw [hsw]; rfl) rfl ?_
    exfalso; omega
  · refine fd_tswI C (tgt := 90) dD_of_7 ⟨by omega, by omega⟩ (by omega) (by omega) (by rw [hsw]; rfl) rfl ?_
    exfalso; omega
set_option maxRecDepth 20000 in
theorem mD_at (l : Launch) (D : va_G) (cI cB : ClassId) (L : Nat) (ad : Nat → Nat → Nat) (M : fd_Mem) (x : Int) (hx : -2147483648 ≤ x ∧ x < 2147483648) (hL : L ≤ 60) : ds_Mi l D cI cB L ad yD_at wD_at ({ frames := 1, cells := 0, slots := 0, locals := 21 }) [.ref (ad 0 0), .int (fd_I (x))] M (if 0 ≤ x ∧ x < L then M 7 0 x.toNat else -1) (M) := by
  refine fd_enterI (by decide) rfl ds_nd (by simp [Value.category]) (Nat.le_of_ble_eq_true rfl) ?_
  intro A p e s m args below meth c C hr hlk hE
  have C : fd_C p m c cD_at 2 s args fd_T "FareDesk" D fd_cl (ds_tys cI cB) ds_wl A := C
  refine fd_pad 0 ?_
  refine fd_aload_n C dD_at_0 rfl ?_
  refine fd_get C (k := 0) (i := 0) (j := 1) (v := .ref (ad 6 0)) (ds_m (by decide)) rfl rfl (by decide) wsD fw1_114 rfl dD_at_1 ?_
  refine fd_iload_n C dD_at_4 rfl ?_
  refine fd_callVi C hE [.int (fd_I (x))] (k := 6) (i := 0) (mK_hasSeat l D cI cB L ad M x hx hL) (cwV 1 C.1.2.2.2.2 (gK_hasSeat fw1_139) rfl rfl rfl ⟨rfl, by decide, by decide, by decide +kernel⟩ ⟨by decide, by decide⟩) (ds_m (by decide)) rfl rfl rfl (Nat.le_of_ble_eq_true rfl) dD_at_5 ⟨by decide, by decide⟩ ?_
  refine fd_if_eq C (tgt := 23) dD_at_8 rfl ⟨by split <;> omega, by split <;> omega⟩ (fun h8t => ?_) (fun h8f => ?_)
  · skip
    refine fd_iconst C dD_at_23 ?_
    exact fd_iret C hr hlk (by rw [if_neg (by intro hc; rw [if_pos hc] at h8t; omega)]) rfl dD_at_24
  · skip
    have hxl : 0 ≤ x ∧ x < L := by
      by_cases hc : 0 ≤ x ∧ x < L
      · exact hc
      · rw [if_neg hc] at h8f
        exact absurd rfl h8f
    refine fd_aload_n C dD_at_11 rfl ?_
    refine fd_get C (k := 0) (i := 0) (j := 1) (v := .ref (ad 6 0)) (ds_m (by decide)) rfl rfl (by decide) wsD fw1_114 rfl dD_at_12 ?_
    refine fd_get C (k := 6) (i := 0) (j := 0) (v := .ref (ad 7 0)) (ds_m (by decide)) rfl rfl (by decide) wsK fw1_61 rfl dD_at_15 ?_
    refine fd_iload_n C dD_at_18 rfl ?_
    refine fd_iald C (k := 7) (i := 0) (x := (x).toNat) (v := M 7 0 ((x).toNat)) (ds_m (by decide)) (fun _ => rfl) (ds_tI cI cB) (Int.toNat_of_nonneg (by omega)).symm (by omega) (by omega) rfl dD_at_19 ?_
    refine fd_goto C (tgt := 24) dD_at_20 rfl ?_
    exact fd_iret C hr hlk (by rw [if_pos hxl]) rfl dD_at_24
set_option maxRecDepth 20000 in
theorem mD_count (l : Launch) (D : va_G) (cI cB : ClassId) (L : Nat) (ad : Nat → Nat → Nat) (M : fd_Mem) (hok : ds_ok L M) (w : Int) (hw : 0 ≤ w ∧ w ≤ 6) : ds_Mi l D cI cB L ad yD_count wD_count ({ frames := 1, cells := 0, slots := 0, locals := 23 }) [.ref (ad 0 0), .int (fd_I (w))] M (ds_cnt M w) (M) := by
  have e6 := hok.shut
  refine fd_enterI (by decide) rfl ds_nd (by simp [Value.category]) (Nat.le_of_ble_eq_true rfl) ?_
  intro A p e s m args below meth c C hr hlk hE
  have C : fd_C p m c cD_count 2 s args fd_T "FareDesk" D fd_cl (ds_tys cI cB) ds_wl A := C
  refine fd_pad 0 ?_
  refine fd_iload_n C dD_count_0 rfl ?_
  rcases (show (w) < 0 ∨ 6 < (w) ∨ (w) = 0 ∨ (w) = 1 ∨ (w) = 2 ∨ (w) = 3 ∨ (w) = 4 ∨ (w) = 5 ∨ (w) = 6 by omega) with hsw | hsw | hsw | hsw | hsw | hsw | hsw | hsw | hsw
  · refine fd_tswO C (tgt := 94) dD_count_1 ⟨by omega, by omega⟩ (Or.inl hsw) rfl ?_
    exfalso; omega
  · refine fd_tswO C (tgt := 94) dD_count_1 ⟨by omega, by omega⟩ (Or.inr hsw) rfl ?_
    exfalso; omega
  · refine fd_tswI C (tgt := 44) dD_count_1 ⟨by omega, by omega⟩ (by omega) (by omega) (by rw [hsw]; rfl) rfl ?_
    refine fd_aload_n C dD_count_44 rfl ?_
    refine fd_get C (k := 0) (i := 0) (j := 4) (v := .int (fd_I (M 0 0 4))) (ds_m (by decide)) rfl rfl (by decide) wsD fw1_117 rfl dD_count_45 ?_
    exact fd_iret C hr hlk (by unfold ds_cnt; repeat (first | rw [if_pos (by omega)] | rw [if_neg (by omega)])) rfl dD_count_48
  · refine fd_tswI C (tgt := 49) dD_count_1 ⟨by omega, by omega⟩ (by omega) (by omega) (by rw [hsw]; rfl) rfl ?_
    refine fd_aload_n C dD_count_49 rfl ?_
    refine fd_get C (k := 0) (i := 0) (j := 3) (v := .int (fd_I (M 0 0 3))) (ds_m (by decide)) rfl rfl (by decide) wsD fw1_116 rfl dD_count_50 ?_
    exact fd_iret C hr hlk (by unfold ds_cnt; repeat (first | rw [if_pos (by omega)] | rw [if_neg (by omega)])) rfl dD_count_53
  · refine fd_tswI C (tgt := 54) dD_count_1 ⟨by omega, by omega⟩ (by omega) (by omega) (by rw [hsw]; rfl) rfl ?_
    refine fd_aload_n C dD_count_54 rfl ?_
    refine fd_get C (k := 0) (i := 0) (j := 0) (v := .ref (ad 2 0)) (ds_m (by decide)) rfl rfl (by decide) wsD fw1_113 rfl dD_count_55 ?_
    refine fd_iconst C dD_count_58 ?_
    refine fd_tp (b := ((0 : Nat) : Int)) rfl ?_
    refine fd_callVi C hE [.int (fd_I ((0 : Nat) : Int))] (k := 2) (i := 0) (mF_shareFrom l D cI cB L ad M 0 (by omega)) (cwV 1 C.1.2.2.2.2 (gF_shareFrom fw3_25) rfl rfl rfl ⟨rfl, by decide, by decide, by decide +kernel⟩ ⟨by decide, by decide⟩) (ds_m (by decide)) rfl rfl rfl (Nat.le_of_ble_eq_true rfl) dD_count_59 ⟨by decide, by decide⟩ ?_
    exact fd_iret C hr hlk (by unfold ds_cnt; repeat (first | rw [if_pos (by omega)] | rw [if_neg (by omega)])) rfl dD_count_62
  · refine fd_tswI C (tgt := 63) dD_count_1 ⟨by omega, by omega⟩ (by omega) (by omega) (by rw [hsw]; rfl) rfl ?_
    refine fd_aload_n C dD_count_63 rfl ?_
    refine fd_callVi C hE [] (k := 0) (i := 0) (mD_waitingBookings l D cI cB L ad M hok) (cwV 0 C.1.2.2.2.2 (gD_waitingBookings fw3_26) rfl rfl rfl ⟨rfl, by decide, by decide, by decide +kernel⟩ ⟨by decide, by decide⟩) (ds_m (by decide)) rfl rfl rfl (Nat.le_of_ble_eq_true rfl) dD_count_64 ⟨by decide, by decide⟩ ?_
    exact fd_iret C hr hlk (by unfold ds_cnt; repeat (first | rw [if_pos (by omega)] | rw [if_neg (by omega)])) rfl dD_count_67
  · refine fd_tswI C (tgt := 68) dD_count_1 ⟨by omega, by omega⟩ (by omega) (by omega) (by rw [hsw]; rfl) rfl ?_
    refine fd_aload_n C dD_count_68 rfl ?_
    refine fd_get C (k := 0) (i := 0) (j := 5) (v := .int (fd_I (M 0 0 5))) (ds_m (by decide)) rfl rfl (by decide) wsD fw1_118 rfl dD_count_69 ?_
    exact fd_iret C hr hlk (by unfold ds_cnt; repeat (first | rw [if_pos (by omega)] | rw [if_neg (by omega)])) rfl dD_count_72
  · refine fd_tswI C (tgt := 73) dD_count_1 ⟨by omega, by omega⟩ (by omega) (by omega) (by rw [hsw]; rfl) rfl ?_
    refine fd_aload_n C dD_count_73 rfl ?_
    refine fd_get C (k := 0) (i := 0) (j := 1) (v := .ref (ad 6 0)) (ds_m (by decide)) rfl rfl (by decide) wsD fw1_114 rfl dD_count_74 ?_
    refine fd_get C (k := 6) (i := 0) (j := 1) (v := .int (fd_I (M 6 0 1))) (ds_m (by decide)) rfl rfl (by decide) wsK fw1_63 rfl dD_count_77 ?_
    exact fd_iret C hr hlk (by unfold ds_cnt; repeat (first | rw [if_pos (by omega)] | rw [if_neg (by omega)])) rfl dD_count_80
  · refine fd_tswI C (tgt := 81) dD_count_1 ⟨by omega, by omega⟩ (by omega) (by omega) (by rw [hsw]; rfl) rfl ?_
    refine fd_aload_n C dD_count_81 rfl ?_
    refine fd_get C (k := 0) (i := 0) (j := 6) (v := .int (fd_I (M 0 0 6))) (ds_m (by decide)) rfl rfl (by decide) wsD fw1_119 rfl dD_count_82 ?_
    refine fd_if_eq C (tgt := 92) dD_count_85 rfl ⟨by omega, by omega⟩ (fun h85t => ?_) (fun h85f => ?_)
    · skip
      refine fd_iconst C dD_count_92 ?_
      exact fd_iret C hr hlk (by unfold ds_cnt; repeat (first | rw [if_pos (by omega)] | rw [if_neg (by omega)])) rfl dD_count_93
    · skip
      refine fd_iconst C dD_count_88 ?_
      refine fd_goto C (tgt := 93) dD_count_89 rfl ?_
      exact fd_iret C hr hlk (by unfold ds_cnt; repeat (first | rw [if_pos (by omega)] | rw [if_neg (by omega)])) rfl dD_count_93
set_option maxRecDepth 20000 in
theorem mD_count_TI (l : Launch) (D : va_G) (cI cB : ClassId) (L : Nat) (ad : Nat → Nat → Nat) (M : fd_Mem) (w : Int) (hw : -2147483648 ≤ w ∧ w < 2147483648) (hb : w < 0 ∨ 6 < w) (hl : l.stackTraces = false) : ds_MT l D cI cB L ad yD_count wD_count ({ frames := 6, cells := 1, slots := 6, locals := 90 }) [.ref (ad 0 0), .int (fd_I (w))] M "java/lang/IllegalArgumentException" := by
  refine fd_enterT (by decide) rfl ds_nd (by simp [Value.category]) (Nat.le_of_ble_eq_true rfl) ?_
  intro A p e s m args below meth c C hlk hno hE
  have C : fd_C p m c cD_count 2 s args fd_T "FareDesk" D fd_cl (ds_tys cI cB) ds_wl A := C
  refine fd_pad 0 ?_
  refine fd_iload_n C dD_count_0 rfl ?_
  rcases (show (w) < 0 ∨ 6 < (w) ∨ (w) = 0 ∨ (w) = 1 ∨ (w) = 2 ∨ (w) = 3 ∨ (w) = 4 ∨ (w) = 5 ∨ (w) = 6 by omega) with hsw | hsw | hsw | hsw | hsw | hsw | hsw | hsw | hsw
  · refine fd_tswO C (tgt := 94) dD_count_1 ⟨by omega, by omega⟩ (Or.inl hsw) rfl ?_
    exact fd_throwI C hl hE (text := "nothing is counted under this number") (List.mem_of_getElem? (i := 21) rfl) dD_count_94 dD_count_97 dD_count_98 dD_count_100 dD_count_103 hno hlk ⟨by decide, by decide, by decide, by decide⟩ rfl
  · refine fd_tswO C (tgt := 94) dD_count_1 ⟨by omega, by omega⟩ (Or.inr hsw) rfl ?_
    exact fd_throwI C hl hE (text := "nothing is counted under this number") (List.mem_of_getElem? (i := 21) rfl) dD_count_94 dD_count_97 dD_count_98 dD_count_100 dD_count_103 hno hlk ⟨by decide, by decide, by decide, by decide⟩ rfl
  · refine fd_tswI C (tgt := 44) dD_count_1 ⟨by omega, by omega⟩ (by omega) (by omega) (by rw [hsw]; rfl) rfl ?_
    exfalso; omega
  · refine fd_tswI C (tgt := 49) dD_count_1 ⟨by omega, by omega⟩ (by omega) (by omega) (by rw [hsw]; rfl) rfl ?_
    exfalso; omega
  · refine fd_tswI C (tgt := 54) dD_count_1 ⟨by omega, by omega⟩ (by omega) (by omega) (by rw [hsw]; rfl) rfl ?_
    exfalso; omega
  · refine fd_tswI C (tgt := 63) dD_count_1 ⟨by omega, by omega⟩ (by omega) (by omega) (by rw [hsw]; rfl) rfl ?_
    exfalso; omega
  · refine fd_tswI C (tgt := 68) dD_count_1 ⟨by omega, by omega⟩ (by omega) (by omega) (by rw [hsw]; rfl) rfl ?_
    exfalso; omega
  · refine fd_tswI C (tgt := 73) dD_count_1 ⟨by omega, by omega⟩ (by omega) (by omega) (by rw [hsw]; rfl) rfl ?_
    exfalso; omega
  · refine fd_tswI C (tgt := 81) dD_count_1 ⟨by omega, by omega⟩ (by omega) (by omega) (by rw [hsw]; rfl) rfl ?_
    exfalso; omega
