/-! the desk: leaves -/
set_option maxRecDepth 20000 in
theorem mB_isCounting (l : Launch) (D : va_G) (cI cB : ClassId) (L : Nat) (ad : Nat → Nat → Nat) (M : fd_Mem) (i : Nat) (hi : i < 60) (h3 : 0 ≤ M 8 i 3 ∧ M 8 i 3 ≤ 7) : ds_Mi l D cI cB L ad yB_isCounting wB_isCounting ({ frames := 0, cells := 0, slots := 0, locals := 0 }) [.ref (ad 8 i)] M (if M 8 i 3 = 1 ∨ M 8 i 3 = 2 then 1 else 0) (M) := by
  refine fd_enterI (by decide) rfl ds_nd (by simp [Value.category]) (Nat.le_of_ble_eq_true rfl) ?_
  intro A p e s m args below meth c C hr hlk hE
  have C : fd_C p m c cB_isCounting 1 s args fd_T "FareDesk$Booking" D fd_cl (ds_tys cI cB) ds_wl A := C
  refine fd_pad 0 ?_
  refine fd_aload_n C dB_isCounting_0 rfl ?_
  refine fd_get C (k := 8) (i := i) (j := 3) (v := .int (fd_I (M 8 i 3))) (ds_m8 hi) rfl rfl (by decide) wsB fw1_83 rfl dB_isCounting_1 ?_
  refine fd_iconst C dB_isCounting_4 ?_
  refine fd_icmp_eq C (tgt := 16) dB_isCounting_5 rfl ⟨by omega, by omega⟩ ⟨by omega, by omega⟩ (fun h5t => ?_) (fun h5f => ?_)
  · skip
    refine fd_iconst C dB_isCounting_16 ?_
    refine fd_goto C (tgt := 21) dB_isCounting_17 rfl ?_
    exact fd_zret C hr hlk (by first | rfl | omega | (split <;> omega) | (simp; omega)) (by omega) rfl dB_isCounting_21
  · skip
    refine fd_aload_n C dB_isCounting_8 rfl ?_
    refine fd_get C (k := 8) (i := i) (j := 3) (v := .int (fd_I (M 8 i 3))) (ds_m8 hi) rfl rfl (by decide) wsB fw1_83 rfl dB_isCounting_9 ?_
    refine fd_iconst C dB_isCounting_12 ?_
    refine fd_icmp_ne C (tgt := 20) dB_isCounting_13 rfl ⟨by omega, by omega⟩ ⟨by omega, by omega⟩ (fun h13t => ?_) (fun h13f => ?_)
    · skip
      refine fd_iconst C dB_isCounting_20 ?_
      exact fd_zret C hr hlk (by first | rfl | omega | (split <;> omega) | (simp; omega)) (by omega) rfl dB_isCounting_21
    · skip
      refine fd_iconst C dB_isCounting_16 ?_
      refine fd_goto C (tgt := 21) dB_isCounting_17 rfl ?_
      exact fd_zret C hr hlk (by first | rfl | omega | (split <;> omega) | (simp; omega)) (by omega) rfl dB_isCounting_21
set_option maxRecDepth 20000 in
theorem mB_seatsMissing (l : Launch) (D : va_G) (cI cB : ClassId) (L : Nat) (ad : Nat → Nat → Nat) (M : fd_Mem) (i : Nat) (hi : i < 60)  : ds_Mi l D cI cB L ad yB_seatsMissing wB_seatsMissing ({ frames := 0, cells := 0, slots := 0, locals := 0 }) [.ref (ad 8 i)] M (M 8 i 5 - M 8 i 2) (M) := by
  refine fd_enterI (by decide) rfl ds_nd (by simp [Value.category]) (Nat.le_of_ble_eq_true rfl) ?_
  intro A p e s m args below meth c C hr hlk hE
  have C : fd_C p m c cB_seatsMissing 1 s args fd_T "FareDesk$Booking" D fd_cl (ds_tys cI cB) ds_wl A := C
  refine fd_pad 0 ?_
  refine fd_aload_n C dB_seatsMissing_0 rfl ?_
  refine fd_get C (k := 8) (i := i) (j := 5) (v := .int (fd_I (M 8 i 5))) (ds_m8 hi) rfl rfl (by decide) wsB fw1_87 rfl dB_seatsMissing_1 ?_
  refine fd_aload_n C dB_seatsMissing_4 rfl ?_
  refine fd_get C (k := 8) (i := i) (j := 2) (v := .int (fd_I (M 8 i 2))) (ds_m8 hi) rfl rfl (by decide) wsB fw1_80 rfl dB_seatsMissing_5 ?_
  refine fd_isub C dB_seatsMissing_8 ?_
  exact fd_iret C hr hlk (by first | rfl | omega | (split <;> omega) | (simp; omega)) rfl dB_seatsMissing_9
set_option maxRecDepth 20000 in
theorem mB_paidFor (l : Launch) (D : va_G) (cI cB : ClassId) (L : Nat) (ad : Nat → Nat → Nat) (M : fd_Mem) (i : Nat) (hi : i < 60) (n : Int) (h5 : 0 ≤ M 8 i 5 ∧ M 8 i 5 ≤ 6) (h6 : 0 ≤ M 8 i 6 * n ∧ M 8 i 6 * n ≤ 1000000) : ds_Mi l D cI cB L ad yB_paidFor wB_paidFor ({ frames := 0, cells := 0, slots := 0, locals := 0 }) [.ref (ad 8 i), .int (fd_I (n))] M (if 0 < M 8 i 5 then M 8 i 6 * n / M 8 i 5 else 0) (M) := by
  refine fd_enterI (by decide) rfl ds_nd (by simp [Value.category]) (Nat.le_of_ble_eq_true rfl) ?_
  intro A p e s m args below meth c C hr hlk hE
  have C : fd_C p m c cB_paidFor 2 s args fd_T "FareDesk$Booking" D fd_cl (ds_tys cI cB) ds_wl A := C
  refine fd_pad 0 ?_
  refine fd_aload_n C dB_paidFor_0 rfl ?_
  refine fd_get C (k := 8) (i := i) (j := 5) (v := .int (fd_I (M 8 i 5))) (ds_m8 hi) rfl rfl (by decide) wsB fw1_87 rfl dB_paidFor_1 ?_
  refine fd_if_le C (tgt := 21) dB_paidFor_4 rfl ⟨by omega, by omega⟩ (fun h4t => ?_) (fun h4f => ?_)
  · skip
    refine fd_iconst C dB_paidFor_21 ?_
    exact fd_iret C hr hlk (by first | rfl | omega | (split <;> omega) | (simp; omega)) rfl dB_paidFor_22
  · skip
    refine fd_aload_n C dB_paidFor_7 rfl ?_
    refine fd_get C (k := 8) (i := i) (j := 6) (v := .int (fd_I (M 8 i 6))) (ds_m8 hi) rfl rfl (by decide) wsB fw1_90 rfl dB_paidFor_8 ?_
    refine fd_iload_n C dB_paidFor_11 rfl ?_
    refine fd_imul C dB_paidFor_12 ?_
    refine fd_aload_n C dB_paidFor_13 rfl ?_
    refine fd_get C (k := 8) (i := i) (j := 5) (v := .int (fd_I (M 8 i 5))) (ds_m8 hi) rfl rfl (by decide) wsB fw1_87 rfl dB_paidFor_14 ?_
    refine fd_idiv C dB_paidFor_17 ⟨by omega, by omega⟩ ⟨by omega, by omega⟩ (by omega) (by omega) ?_
    refine fd_goto C (tgt := 22) dB_paidFor_18 rfl ?_
    exact fd_iret C hr hlk (by first | rfl | omega | (split <;> omega) | (simp; omega)) rfl dB_paidFor_22
set_option maxRecDepth 20000 in
theorem mK_hasSeat (l : Launch) (D : va_G) (cI cB : ClassId) (L : Nat) (ad : Nat → Nat → Nat) (M : fd_Mem) (n : Int) (hn : -2147483648 ≤ n ∧ n < 2147483648) (hL : L ≤ 60) : ds_Mi l D cI cB L ad yK_hasSeat wK_hasSeat ({ frames := 0, cells := 0, slots := 0, locals := 0 }) [.ref (ad 6 0), .int (fd_I (n))] M (if 0 ≤ n ∧ n < L then 1 else 0) (M) := by
  refine fd_enterI (by decide) rfl ds_nd (by simp [Value.category]) (Nat.le_of_ble_eq_true rfl) ?_
  intro A p e s m args below meth c C hr hlk hE
  have C : fd_C p m c cK_hasSeat 2 s args fd_T "FareDesk$Cabin" D fd_cl (ds_tys cI cB) ds_wl A := C
  refine fd_pad 0 ?_
  refine fd_iload_n C dK_hasSeat_0 rfl ?_
  refine fd_if_lt C (tgt := 17) dK_hasSeat_1 rfl ⟨by omega, by omega⟩ (fun h1t => ?_) (fun h1f => ?_)
  · skip
    refine fd_iconst C dK_hasSeat_17 ?_
    exact fd_zret C hr hlk (by first | rfl | omega | (split <;> omega) | (simp; omega)) (by omega) rfl dK_hasSeat_18
  · skip
    refine fd_iload_n C dK_hasSeat_4 rfl ?_
    refine fd_aload_n C dK_hasSeat_5 rfl ?_
    refine fd_get C (k := 6) (i := 0) (j := 0) (v := .ref (ad 7 0)) (ds_m (by decide)) rfl rfl (by decide) wsK fw1_60 rfl dK_hasSeat_6 ?_
    refine fd_alen C (k := 7) (i := 0) (ds_m (by decide)) rfl (ds_tI cI cB) dK_hasSeat_9 ?_
    refine fd_icmp_ge C (tgt := 17) dK_hasSeat_10 rfl ⟨by omega, by omega⟩ ⟨by omega, by omega⟩ (fun h10t => ?_) (fun h10f => ?_)
    · skip
      refine fd_iconst C dK_hasSeat_17 ?_
      exact fd_zret C hr hlk (by first | rfl | omega | (split <;> omega) | (simp; omega)) (by omega) rfl dK_hasSeat_18
    · skip
      refine fd_iconst C dK_hasSeat_13 ?_
      refine fd_goto C (tgt := 18) dK_hasSeat_14 rfl ?_
      exact fd_zret C hr hlk (by first | rfl | omega | (split <;> omega) | (simp; omega)) (by omega) rfl dK_hasSeat_18
set_option maxRecDepth 20000 in
theorem mK_isFree (l : Launch) (D : va_G) (cI cB : ClassId) (L : Nat) (ad : Nat → Nat → Nat) (M : fd_Mem) (n : Nat) (hn : n < L) (hL : L ≤ 60) (h7 : -1 ≤ M 7 0 n ∧ M 7 0 n ≤ 60) : ds_Mi l D cI cB L ad yK_isFree wK_isFree ({ frames := 0, cells := 0, slots := 0, locals := 0 }) [.ref (ad 6 0), .int (fd_I ((n : Nat) : Int))] M (if M 7 0 n = -1 then 1 else 0) (M) := by
  refine fd_enterI (by decide) rfl ds_nd (by simp [Value.category]) (Nat.le_of_ble_eq_true rfl) ?_
  intro A p e s m args below meth c C hr hlk hE
  have C : fd_C p m c cK_isFree 2 s args fd_T "FareDesk$Cabin" D fd_cl (ds_tys cI cB) ds_wl A := C
  refine fd_pad 0 ?_
  refine fd_aload_n C dK_isFree_0 rfl ?_
  refine fd_get C (k := 6) (i := 0) (j := 0) (v := .ref (ad 7 0)) (ds_m (by decide)) rfl rfl (by decide) wsK fw1_60 rfl dK_isFree_1 ?_
  refine fd_iload_n C dK_isFree_4 rfl ?_
  refine fd_iald C (k := 7) (i := 0) (x := n) (v := M 7 0 n) (ds_m (by decide)) (fun _ => rfl) (ds_tI cI cB) rfl (by omega) (by omega) rfl dK_isFree_5 ?_
  refine fd_iconst C dK_isFree_6 ?_
  refine fd_icmp_ne C (tgt := 14) dK_isFree_7 rfl ⟨by omega, by omega⟩ ⟨by omega, by omega⟩ (fun h7t => ?_) (fun h7f => ?_)
  · skip
    refine fd_iconst C dK_isFree_14 ?_
    exact fd_zret C hr hlk (by first | rfl | omega | (split <;> omega) | (simp; omega)) (by omega) rfl dK_isFree_15
  · skip
    refine fd_iconst C dK_isFree_10 ?_
    refine fd_goto C (tgt := 15) dK_isFree_11 rfl ?_
    exact fd_zret C hr hlk (by first | rfl | omega | (split <;> omega) | (simp; omega)) (by omega) rfl dK_isFree_15
set_option maxRecDepth 20000 in
theorem mF_partBack (l : Launch) (D : va_G) (cI cB : ClassId) (L : Nat) (ad : Nat → Nat → Nat) (M : fd_Mem) (f x : Int) (hf : 0 ≤ f ∧ f ≤ 3) (hx : 0 ≤ x ∧ x ≤ 1000000) : ds_Mi l D cI cB L ad yF_partBack wF_partBack ({ frames := 0, cells := 0, slots := 0, locals := 0 }) [.ref (ad 2 0), .int (fd_I (f)), .int (fd_I (x))] M (if f = 0 then x else if f = 1 then x * 3 / 4 else if f = 2 then x * 2 / 4 else 0) (M) := by
  refine fd_enterI (by decide) rfl ds_nd (by simp [Value.category]) (Nat.le_of_ble_eq_true rfl) ?_
  intro A p e s m args below meth c C hr hlk hE
  have C : fd_C p m c cF_partBack 3 s args fd_T "FareDesk$Fares" D fd_cl (ds_tys cI cB) ds_wl A := C
  refine fd_pad 0 ?_
  refine fd_iload_n C dF_partBack_0 rfl ?_
  rcases (show (f) < 0 ∨ 2 < (f) ∨ (f) = 0 ∨ (f) = 1 ∨ (f) = 2 by omega) with hsw | hsw | hsw | hsw | hsw
  · refine fd_tswO C (tgt := 42) dF_partBack_1 ⟨by omega, by omega⟩ (Or.inl hsw) rfl ?_
    refine fd_iconst C dF_partBack_42 ?_
    exact fd_iret C hr hlk (by first | rfl | omega | (split <;> omega) | (simp; omega)) rfl dF_partBack_43
  · refine fd_tswO C (tgt := 42) dF_partBack_1 ⟨by omega, by omega⟩ (Or.inr hsw) rfl ?_
    refine fd_iconst C dF_partBack_42 ?_
    exact fd_iret C hr hlk (by first | rfl | omega | (split <;> omega) | (simp; omega)) rfl dF_partBack_43
  · refine fd_tswI C (tgt := 28) dF_partBack_1 ⟨by omega, by omega⟩ (by omega) (by omega) (by rw [hsw]; rfl) rfl ?_
    refine fd_iload_n C dF_partBack_28 rfl ?_
    exact fd_iret C hr hlk (by first | rfl | omega | (split <;> omega) | (simp; omega)) rfl dF_partBack_29
  · refine fd_tswI C (tgt := 30) dF_partBack_1 ⟨by omega, by omega⟩ (by omega) (by omega) (by rw [hsw]; rfl) rfl ?_
    refine fd_iload_n C dF_partBack_30 rfl ?_
    refine fd_iconst C dF_partBack_31 ?_
    refine fd_imul C dF_partBack_32 ?_
    refine fd_iconst C dF_partBack_33 ?_
    refine fd_idiv C dF_partBack_34 ⟨by omega, by omega⟩ ⟨by omega, by omega⟩ (by omega) (by omega) ?_
    exact fd_iret C hr hlk (by first | rfl | omega | (split <;> omega) | (simp; omega)) rfl dF_partBack_35
  · refine fd_tswI C (tgt := 36) dF_partBack_1 ⟨by omega, by omega⟩ (by omega) (by omega) (by rw [hsw]; rfl) rfl ?_
    refine fd_iload_n C dF_partBack_36 rfl ?_
    refine fd_iconst C dF_partBack_37 ?_
    refine fd_imul C dF_partBack_38 ?_
    refine fd_iconst C dF_partBack_39 ?_
    refine fd_idiv C dF_partBack_40 ⟨by omega, by omega⟩ ⟨by omega, by omega⟩ (by omega) (by omega) ?_
    exact fd_iret C hr hlk (by first | rfl | omega | (split <;> omega) | (simp; omega)) rfl dF_partBack_41
set_option maxRecDepth 20000 in
theorem mD_requireFare (l : Launch) (D : va_G) (cI cB : ClassId) (L : Nat) (ad : Nat → Nat → Nat) (M : fd_Mem) (f : Int) (hf : 0 ≤ f ∧ f < 4) : ds_Mv l D cI cB L ad yD_requireFare wD_requireFare ({ frames := 0, cells := 0, slots := 0, locals := 0 }) [.ref (ad 0 0), .int (fd_I (f))] M (M) := by
  refine fd_enterV (by decide) rfl ds_nd (by simp [Value.category]) (Nat.le_of_ble_eq_true rfl) ?_
  intro A p e s m args below meth c C hr hlk hE
  have C : fd_C p m c cD_requireFare 2 s args fd_T "FareDesk" D fd_cl (ds_tys cI cB) ds_wl A := C
  refine fd_pad 0 ?_
  refine fd_iload_n C dD_requireFare_0 rfl ?_
  refine fd_if_lt C (tgt := 9) dD_requireFare_1 rfl ⟨by omega, by omega⟩ (fun h1t => ?_) (fun h1f => ?_)
  · skip
    exfalso; omega
  · skip
    refine fd_iload_n C dD_requireFare_4 rfl ?_
    refine fd_iconst C dD_requireFare_5 ?_
    refine fd_icmp_lt C (tgt := 19) dD_requireFare_6 rfl ⟨by omega, by omega⟩ ⟨by omega, by omega⟩ (fun h6t => ?_) (fun h6f => ?_)
    · skip
      exact fd_vret C hr hlk rfl dD_requireFare_19
    · skip
      exfalso; omega
set_option maxRecDepth 20000 in
theorem mD_requireFare_T (l : Launch) (D : va_G) (cI cB : ClassId) (L : Nat) (ad : Nat → Nat → Nat) (M : fd_Mem) (f : Int) (hin : -2147483648 ≤ f ∧ f < 2147483648) (hf : f < 0 ∨ 4 ≤ f) (hl : l.stackTraces = false) : ds_MT l D cI cB L ad yD_requireFare wD_requireFare ({ frames := 6, cells := 1, slots := 6, locals := 90 }) [.ref (ad 0 0), .int (fd_I (f))] M "java/lang/IllegalArgumentException" := by
  refine fd_enterT (by decide) rfl ds_nd (by simp [Value.category]) (Nat.le_of_ble_eq_true rfl) ?_
  intro A p e s m args below meth c C hlk hno hE
  have C : fd_C p m c cD_requireFare 2 s args fd_T "FareDesk" D fd_cl (ds_tys cI cB) ds_wl A := C
  refine fd_pad 0 ?_
  refine fd_iload_n C dD_requireFare_0 rfl ?_
  refine fd_if_lt C (tgt := 9) dD_requireFare_1 rfl ⟨by omega, by omega⟩ (fun h1t => ?_) (fun h1f => ?_)
  · skip
    exact fd_throwI C hl hE (text := "no such fare") (List.mem_of_getElem? (i := 0) rfl) dD_requireFare_9 dD_requireFare_12 dD_requireFare_13 dD_requireFare_15 dD_requireFare_18 hno hlk ⟨by decide, by decide, by decide, by decide⟩ rfl
  · skip
    refine fd_iload_n C dD_requireFare_4 rfl ?_
    refine fd_iconst C dD_requireFare_5 ?_
    refine fd_icmp_lt C (tgt := 19) dD_requireFare_6 rfl ⟨by omega, by omega⟩ ⟨by omega, by omega⟩ (fun h6t => ?_) (fun h6f => ?_)
    · skip
      exfalso; omega
    · skip
      exact fd_throwI C hl hE (text := "no such fare") (List.mem_of_getElem? (i := 0) rfl) dD_requireFare_9 dD_requireFare_12 dD_requireFare_13 dD_requireFare_15 dD_requireFare_18 hno hlk ⟨by decide, by decide, by decide, by decide⟩ rfl
set_option maxRecDepth 20000 in
theorem mD_requireOpen (l : Launch) (D : va_G) (cI cB : ClassId) (L : Nat) (ad : Nat → Nat → Nat) (M : fd_Mem) (h6 : M 0 0 6 = 0) : ds_Mv l D cI cB L ad yD_requireOpen wD_requireOpen ({ frames := 0, cells := 0, slots := 0, locals := 0 }) [.ref (ad 0 0)] M (M) := by
  refine fd_enterV (by decide) rfl ds_nd (by simp [Value.category]) (Nat.le_of_ble_eq_true rfl) ?_
  intro A p e s m args below meth c C hr hlk hE
  have C : fd_C p m c cD_requireOpen 1 s args fd_T "FareDesk" D fd_cl (ds_tys cI cB) ds_wl A := C
  refine fd_pad 0 ?_
  refine fd_aload_n C dD_requireOpen_0 rfl ?_
  refine fd_get C (k := 0) (i := 0) (j := 6) (v := .int (fd_I (M 0 0 6))) (ds_m (by decide)) rfl rfl (by decide) wsD fw1_119 rfl dD_requireOpen_1 ?_
  refine fd_if_eq C (tgt := 17) dD_requireOpen_4 rfl ⟨by omega, by omega⟩ (fun h4t => ?_) (fun h4f => ?_)
  · skip
    exact fd_vret C hr hlk rfl dD_requireOpen_17
  · skip
    exfalso; omega
set_option maxRecDepth 20000 in
theorem mD_requireOpen_T (l : Launch) (D : va_G) (cI cB : ClassId) (L : Nat) (ad : Nat → Nat → Nat) (M : fd_Mem) (h6 : M 0 0 6 = 1) (hl : l.stackTraces = false) : ds_MT l D cI cB L ad yD_requireOpen wD_requireOpen ({ frames := 6, cells := 1, slots := 6, locals := 90 }) [.ref (ad 0 0)] M "java/lang/IllegalStateException" := by
  refine fd_enterT (by decide) rfl ds_nd (by simp [Value.category]) (Nat.le_of_ble_eq_true rfl) ?_
  intro A p e s m args below meth c C hlk hno hE
  have C : fd_C p m c cD_requireOpen 1 s args fd_T "FareDesk" D fd_cl (ds_tys cI cB) ds_wl A := C
  refine fd_pad 0 ?_
  refine fd_aload_n C dD_requireOpen_0 rfl ?_
  refine fd_get C (k := 0) (i := 0) (j := 6) (v := .int (fd_I (M 0 0 6))) (ds_m (by decide)) rfl rfl (by decide) wsD fw1_119 rfl dD_requireOpen_1 ?_
  refine fd_if_eq C (tgt := 17) dD_requireOpen_4 rfl ⟨by omega, by omega⟩ (fun h4t => ?_) (fun h4f => ?_)
  · skip
    exfalso; omega
  · skip
    exact fd_throwS C hl hE (text := "the journey is closed") (List.mem_of_getElem? (i := 2) rfl) dD_requireOpen_7 dD_requireOpen_10 dD_requireOpen_11 dD_requireOpen_13 dD_requireOpen_16 hno hlk ⟨by decide, by decide, by decide, by decide⟩ rfl
