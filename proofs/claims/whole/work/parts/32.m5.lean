/-! the model: its methods, first half -/
set_option maxRecDepth 20000 in
theorem mM_thrown (l : Launch) (D : va_G) (cI : ClassId) (ad : Nat → Nat → Nat) (M : fd_Mem)  : mo_Mi l D cI ad yM_thrown wM_thrown ({ frames := 0, cells := 0, slots := 0, locals := 0 }) [.ref (ad 0 0)] M (M 0 0 0) (M) := by
  refine fd_enterI (by decide) rfl mo_nd (by simp [Value.category]) (Nat.le_of_ble_eq_true rfl) ?_
  intro A p e s m args below meth c C hr hlk hE
  have C : fd_C p m c cM_thrown 1 s args fd_T "FareDeskModel" D fd_cl (mo_tys cI) mo_wl A := C
  refine fd_pad 0 ?_
  refine fd_aload_n C dM_thrown_0 rfl ?_
  refine fd_get C (k := 0) (i := 0) (j := 0) (v := .int (fd_I (M 0 0 0))) (mo_m (by decide)) rfl rfl (by decide) wsM fw3_37 rfl dM_thrown_1 ?_
  exact fd_iret C hr hlk (by first | rfl | omega | (split <;> omega) | (simp; omega)) rfl dM_thrown_4
set_option maxRecDepth 20000 in
theorem mM_noFare_1 (l : Launch) (D : va_G) (cI : ClassId) (ad : Nat → Nat → Nat) (M : fd_Mem) (f : Int) (hf : -2147483648 ≤ f ∧ f < 2147483648) (hb : f < 0 ∨ 4 ≤ f) : mo_Mi l D cI ad yM_noFare wM_noFare ({ frames := 0, cells := 0, slots := 0, locals := 0 }) [.ref (ad 0 0), .int (fd_I (f))] M (1) (M) := by
  refine fd_enterI (by decide) rfl mo_nd (by simp [Value.category]) (Nat.le_of_ble_eq_true rfl) ?_
  intro A p e s m args below meth c C hr hlk hE
  have C : fd_C p m c cM_noFare 2 s args fd_T "FareDeskModel" D fd_cl (mo_tys cI) mo_wl A := C
  refine fd_pad 0 ?_
  refine fd_iload_n C dM_noFare_0 rfl ?_
  refine fd_if_lt C (tgt := 9) dM_noFare_1 rfl ⟨by omega, by omega⟩ (fun h1t => ?_) (fun h1f => ?_)
  · skip
    refine fd_iconst C dM_noFare_9 ?_
    refine fd_goto C (tgt := 14) dM_noFare_10 rfl ?_
    exact fd_zret C hr hlk (by first | rfl | omega | (split <;> omega) | (simp; omega)) (by omega) rfl dM_noFare_14
  · skip
    refine fd_iload_n C dM_noFare_4 rfl ?_
    refine fd_iconst C dM_noFare_5 ?_
    refine fd_icmp_le C (tgt := 13) dM_noFare_6 rfl ⟨by omega, by omega⟩ ⟨by omega, by omega⟩ (fun h6t => ?_) (fun h6f => ?_)
    · skip
      exfalso; omega
    · skip
      refine fd_iconst C dM_noFare_9 ?_
      refine fd_goto C (tgt := 14) dM_noFare_10 rfl ?_
      exact fd_zret C hr hlk (by first | rfl | omega | (split <;> omega) | (simp; omega)) (by omega) rfl dM_noFare_14
set_option maxRecDepth 20000 in
theorem mM_noFare_0 (l : Launch) (D : va_G) (cI : ClassId) (ad : Nat → Nat → Nat) (M : fd_Mem) (f : Int) (hb : 0 ≤ f ∧ f < 4) : mo_Mi l D cI ad yM_noFare wM_noFare ({ frames := 0, cells := 0, slots := 0, locals := 0 }) [.ref (ad 0 0), .int (fd_I (f))] M (0) (M) := by
  refine fd_enterI (by decide) rfl mo_nd (by simp [Value.category]) (Nat.le_of_ble_eq_true rfl) ?_
  intro A p e s m args below meth c C hr hlk hE
  have C : fd_C p m c cM_noFare 2 s args fd_T "FareDeskModel" D fd_cl (mo_tys cI) mo_wl A := C
  refine fd_pad 0 ?_
  refine fd_iload_n C dM_noFare_0 rfl ?_
  refine fd_if_lt C (tgt := 9) dM_noFare_1 rfl ⟨by omega, by omega⟩ (fun h1t => ?_) (fun h1f => ?_)
  · skip
    exfalso; omega
  · skip
    refine fd_iload_n C dM_noFare_4 rfl ?_
    refine fd_iconst C dM_noFare_5 ?_
    refine fd_icmp_le C (tgt := 13) dM_noFare_6 rfl ⟨by omega, by omega⟩ ⟨by omega, by omega⟩ (fun h6t => ?_) (fun h6f => ?_)
    · skip
      refine fd_iconst C dM_noFare_13 ?_
      exact fd_zret C hr hlk (by first | rfl | omega | (split <;> omega) | (simp; omega)) (by omega) rfl dM_noFare_14
    · skip
      exfalso; omega
set_option maxRecDepth 20000 in
theorem mM_noBooking_1 (l : Launch) (D : va_G) (cI : ClassId) (ad : Nat → Nat → Nat) (M : fd_Mem) (n : Int) (hn : -2147483648 ≤ n ∧ n < 2147483648) (hm : 0 ≤ M 0 0 7 ∧ M 0 0 7 ≤ 60) (hb : n < 0 ∨ M 0 0 7 ≤ n) : mo_Mi l D cI ad yM_noBooking wM_noBooking ({ frames := 0, cells := 0, slots := 0, locals := 0 }) [.ref (ad 0 0), .int (fd_I (n))] M (1) (M) := by
  refine fd_enterI (by decide) rfl mo_nd (by simp [Value.category]) (Nat.le_of_ble_eq_true rfl) ?_
  intro A p e s m args below meth c C hr hlk hE
  have C : fd_C p m c cM_noBooking 2 s args fd_T "FareDeskModel" D fd_cl (mo_tys cI) mo_wl A := C
  refine fd_pad 0 ?_
  refine fd_iload_n C dM_noBooking_0 rfl ?_
  refine fd_if_lt C (tgt := 12) dM_noBooking_1 rfl ⟨by omega, by omega⟩ (fun h1t => ?_) (fun h1f => ?_)
  · skip
    refine fd_iconst C dM_noBooking_12 ?_
    refine fd_goto C (tgt := 17) dM_noBooking_13 rfl ?_
    exact fd_zret C hr hlk (by first | rfl | omega | (split <;> omega) | (simp; omega)) (by omega) rfl dM_noBooking_17
  · skip
    refine fd_iload_n C dM_noBooking_4 rfl ?_
    refine fd_aload_n C dM_noBooking_5 rfl ?_
    refine fd_get C (k := 0) (i := 0) (j := 7) (v := .int (fd_I (M 0 0 7))) (mo_m (by decide)) rfl rfl (by decide) wsM fw3_44 rfl dM_noBooking_6 ?_
    refine fd_icmp_lt C (tgt := 16) dM_noBooking_9 rfl ⟨by omega, by omega⟩ ⟨by omega, by omega⟩ (fun h9t => ?_) (fun h9f => ?_)
    · skip
      exfalso; omega
    · skip
      refine fd_iconst C dM_noBooking_12 ?_
      refine fd_goto C (tgt := 17) dM_noBooking_13 rfl ?_
      exact fd_zret C hr hlk (by first | rfl | omega | (split <;> omega) | (simp; omega)) (by omega) rfl dM_noBooking_17
set_option maxRecDepth 20000 in
theorem mM_noBooking_0 (l : Launch) (D : va_G) (cI : ClassId) (ad : Nat → Nat → Nat) (M : fd_Mem) (n : Nat) (hm : 0 ≤ M 0 0 7 ∧ M 0 0 7 ≤ 60) (hb : (n : Int) < M 0 0 7) : mo_Mi l D cI ad yM_noBooking wM_noBooking ({ frames := 0, cells := 0, slots := 0, locals := 0 }) [.ref (ad 0 0), .int (fd_I ((n : Nat) : Int))] M (0) (M) := by
  refine fd_enterI (by decide) rfl mo_nd (by simp [Value.category]) (Nat.le_of_ble_eq_true rfl) ?_
  intro A p e s m args below meth c C hr hlk hE
  have C : fd_C p m c cM_noBooking 2 s args fd_T "FareDeskModel" D fd_cl (mo_tys cI) mo_wl A := C
  refine fd_pad 0 ?_
  refine fd_iload_n C dM_noBooking_0 rfl ?_
  refine fd_if_lt C (tgt := 12) dM_noBooking_1 rfl ⟨by omega, by omega⟩ (fun h1t => ?_) (fun h1f => ?_)
  · skip
    exfalso; omega
  · skip
    refine fd_iload_n C dM_noBooking_4 rfl ?_
    refine fd_aload_n C dM_noBooking_5 rfl ?_
    refine fd_get C (k := 0) (i := 0) (j := 7) (v := .int (fd_I (M 0 0 7))) (mo_m (by decide)) rfl rfl (by decide) wsM fw3_44 rfl dM_noBooking_6 ?_
    refine fd_icmp_lt C (tgt := 16) dM_noBooking_9 rfl ⟨by omega, by omega⟩ ⟨by omega, by omega⟩ (fun h9t => ?_) (fun h9f => ?_)
    · skip
      refine fd_iconst C dM_noBooking_16 ?_
      exact fd_zret C hr hlk (by first | rfl | omega | (split <;> omega) | (simp; omega)) (by omega) rfl dM_noBooking_17
    · skip
      exfalso; omega
set_option maxRecDepth 20000 in
theorem mM_counts_1 (l : Launch) (D : va_G) (cI : ClassId) (ad : Nat → Nat → Nat) (M : fd_Mem) (n : Nat) (hn : n < 60) (h3 : 0 ≤ M 3 0 n ∧ M 3 0 n ≤ 7) (hs : M 3 0 n = 1 ∨ M 3 0 n = 2) : mo_Mi l D cI ad yM_counts wM_counts ({ frames := 0, cells := 0, slots := 0, locals := 0 }) [.ref (ad 0 0), .int (fd_I ((n : Nat) : Int))] M (1) (M) := by
  refine fd_enterI (by decide) rfl mo_nd (by simp [Value.category]) (Nat.le_of_ble_eq_true rfl) ?_
  intro A p e s m args below meth c C hr hlk hE
  have C : fd_C p m c cM_counts 2 s args fd_T "FareDeskModel" D fd_cl (mo_tys cI) mo_wl A := C
  refine fd_pad 0 ?_
  refine fd_aload_n C dM_counts_0 rfl ?_
  refine fd_get C (k := 0) (i := 0) (j := 8) (v := .ref (ad 3 0)) (mo_m (by decide)) rfl rfl (by decide) wsM fw3_45 rfl dM_counts_1 ?_
  refine fd_iload_n C dM_counts_4 rfl ?_
  refine fd_iald C (k := 3) (i := 0) (x := n) (v := M 3 0 n) (mo_m (by decide)) (fun _ => rfl) (mo_tI cI) rfl (by omega) (by decide) rfl dM_counts_5 ?_
  refine fd_iconst C dM_counts_6 ?_
  refine fd_icmp_eq C (tgt := 20) dM_counts_7 rfl ⟨by omega, by omega⟩ ⟨by omega, by omega⟩ (fun h7t => ?_) (fun h7f => ?_)
  · skip
    refine fd_iconst C dM_counts_20 ?_
    refine fd_goto C (tgt := 25) dM_counts_21 rfl ?_
    exact fd_zret C hr hlk (by first | rfl | omega | (split <;> omega) | (simp; omega)) (by omega) rfl dM_counts_25
  · skip
    refine fd_aload_n C dM_counts_10 rfl ?_
    refine fd_get C (k := 0) (i := 0) (j := 8) (v := .ref (ad 3 0)) (mo_m (by decide)) rfl rfl (by decide) wsM fw3_45 rfl dM_counts_11 ?_
    refine fd_iload_n C dM_counts_14 rfl ?_
    refine fd_iald C (k := 3) (i := 0) (x := n) (v := M 3 0 n) (mo_m (by decide)) (fun _ => rfl) (mo_tI cI) rfl (by omega) (by decide) rfl dM_counts_15 ?_
    refine fd_iconst C dM_counts_16 ?_
    refine fd_icmp_ne C (tgt := 24) dM_counts_17 rfl ⟨by omega, by omega⟩ ⟨by omega, by omega⟩ (fun h17t => ?_) (fun h17f => ?_)
    · skip
      exfalso; omega
    · skip
      refine fd_iconst C dM_counts_20 ?_
      refine fd_goto C (tgt := 25) dM_counts_21 rfl ?_
      exact fd_zret C hr hlk (by first | rfl | omega | (split <;> omega) | (simp; omega)) (by omega) rfl dM_counts_25
set_option maxRecDepth 20000 in
theorem mM_counts_0 (l : Launch) (D : va_G) (cI : ClassId) (ad : Nat → Nat → Nat) (M : fd_Mem) (n : Nat) (hn : n < 60) (h3 : 0 ≤ M 3 0 n ∧ M 3 0 n ≤ 7) (hs : ¬ (M 3 0 n = 1 ∨ M 3 0 n = 2)) : mo_Mi l D cI ad yM_counts wM_counts ({ frames := 0, cells := 0, slots := 0, locals := 0 }) [.ref (ad 0 0), .int (fd_I ((n : Nat) : Int))] M (0) (M) := by
  refine fd_enterI (by decide) rfl mo_nd (by simp [Value.category]) (Nat.le_of_ble_eq_true rfl) ?_
  intro A p e s m args below meth c C hr hlk hE
  have C : fd_C p m c cM_counts 2 s args fd_T "FareDeskModel" D fd_cl (mo_tys cI) mo_wl A := C
  refine fd_pad 0 ?_
  refine fd_aload_n C dM_counts_0 rfl ?_
  refine fd_get C (k := 0) (i := 0) (j := 8) (v := .ref (ad 3 0)) (mo_m (by decide)) rfl rfl (by decide) wsM fw3_45 rfl dM_counts_1 ?_
  refine fd_iload_n C dM_counts_4 rfl ?_
  refine fd_iald C (k := 3) (i := 0) (x := n) (v := M 3 0 n) (mo_m (by decide)) (fun _ => rfl) (mo_tI cI) rfl (by omega) (by decide) rfl dM_counts_5 ?_
  refine fd_iconst C dM_counts_6 ?_
  refine fd_icmp_eq C (tgt := 20) dM_counts_7 rfl ⟨by omega, by omega⟩ ⟨by omega, by omega⟩ (fun h7t => ?_) (fun h7f => ?_)
  · skip
    exfalso; omega
  · skip
    refine fd_aload_n C dM_counts_10 rfl ?_
    refine fd_get C (k := 0) (i := 0) (j := 8) (v := .ref (ad 3 0)) (mo_m (by decide)) rfl rfl (by decide) wsM fw3_45 rfl dM_counts_11 ?_
    refine fd_iload_n C dM_counts_14 rfl ?_
    refine fd_iald C (k := 3) (i := 0) (x := n) (v := M 3 0 n) (mo_m (by decide)) (fun _ => rfl) (mo_tI cI) rfl (by omega) (by decide) rfl dM_counts_15 ?_
    refine fd_iconst C dM_counts_16 ?_
    refine fd_icmp_ne C (tgt := 24) dM_counts_17 rfl ⟨by omega, by omega⟩ ⟨by omega, by omega⟩ (fun h17t => ?_) (fun h17f => ?_)
    · skip
      refine fd_iconst C dM_counts_24 ?_
      exact fd_zret C hr hlk (by first | rfl | omega | (split <;> omega) | (simp; omega)) (by omega) rfl dM_counts_25
    · skip
      exfalso; omega
set_option maxRecDepth 20000 in
theorem mM_roomOf (l : Launch) (D : va_G) (cI : ClassId) (ad : Nat → Nat → Nat) (M : fd_Mem) (f w : Int) (hf : 0 ≤ f ∧ f < 4) (hw : -1 ≤ w ∧ w < 60) (hok : mo_ok M)  : mo_Mi l D cI ad yM_roomOf wM_roomOf ({ frames := 1, cells := 0, slots := 0, locals := 21 }) [.ref (ad 0 0), .int (fd_I (f)), .int (fd_I (w))] M (mo_r M w (f.toNat + 1)) (M) := by
  have hm := hok.made
  refine fd_enterI (by decide) rfl mo_nd (by simp [Value.category]) (Nat.le_of_ble_eq_true rfl) ?_
  intro A p e s m args below meth c C hr hlk hE
  have C : fd_C p m c cM_roomOf 8 s args fd_T "FareDeskModel" D fd_cl (mo_tys cI) mo_wl A := C
  refine fd_pad 5 ?_
  refine fd_sipush C dM_roomOf_0 (by decide) ?_
  refine fd_istore_n C dM_roomOf_3 (by decide) ?_
  refine fd_iconst C dM_roomOf_4 ?_
  refine fd_istore C dM_roomOf_5 (by decide) ?_
  have hloop7 : ∀ (dd7 : Nat) (k : Nat), dd7 = 4 - k → ((k : Int) ≤ f + 1) → fd_J p l e ({ frames := 1, cells := 0, slots := 0, locals := 21 }) s m args below meth c D fd_cl A ad (mo_en cI ad) mo_wl 8 0 0 (MQ below (fd_QI D fd_cl (mo_tys cI) ad (mo_en cI ad) mo_wl A (mo_r M w (f.toNat + 1)) (M)) args s 0 0 A) M 7 [some (.ref (ad 0 0)), some (.int (fd_I (f))), some (.int (fd_I (w))), some (.int (fd_I (mo_r M w k))), some (.int (fd_I ((k : Nat) : Int))), none, none, none] [] := by
    intro dd7
    induction dd7 using Nat.strongRecOn with
    | ind dd7 ih7 =>
      intro k hdd7 hk
      refine fd_iload C dM_roomOf_7 rfl ?_
      refine fd_iload_n C dM_roomOf_9 rfl ?_
      refine fd_icmp_gt C (tgt := 126) dM_roomOf_10 rfl ⟨by omega, by omega⟩ ⟨by omega, by omega⟩ (fun h10t => ?_) (fun h10f => ?_)
      · skip
        refine fd_iload_n C dM_roomOf_126 rfl ?_
        exact fd_iret C hr hlk (by rw [show k = f.toNat + 1 by omega]) rfl dM_roomOf_127
      · skip
        refine fd_aload_n C dM_roomOf_13 rfl ?_
        refine fd_get C (k := 0) (i := 0) (j := 6) (v := .ref (ad 2 0)) (mo_m (by decide)) rfl rfl (by decide) wsM fw3_43 rfl dM_roomOf_14 ?_
        refine fd_iload C dM_roomOf_17 rfl ?_
        refine fd_iald C (k := 2) (i := 0) (x := k) (v := M 2 0 k) (mo_m (by decide)) (fun _ => rfl) (mo_tI cI) rfl (by omega) (by decide) rfl dM_roomOf_19 ?_
        refine fd_istore C dM_roomOf_20 (by decide) ?_
        refine fd_iconst C dM_roomOf_22 ?_
        refine fd_istore C dM_roomOf_23 (by decide) ?_
        have hloop25 : ∀ (dd25 : Nat) (n : Nat), dd25 = (M 0 0 7).toNat - n → ((n : Int) ≤ M 0 0 7) → fd_J p l e ({ frames := 1, cells := 0, slots := 0, locals := 21 }) s m args below meth c D fd_cl A ad (mo_en cI ad) mo_wl 8 0 0 (MQ below (fd_QI D fd_cl (mo_tys cI) ad (mo_en cI ad) mo_wl A (mo_r M w (f.toNat + 1)) (M)) args s 0 0 A) M 25 [some (.ref (ad 0 0)), some (.int (fd_I (f))), some (.int (fd_I (w))), some (.int (fd_I (mo_r M w k))), some (.int (fd_I ((k : Nat) : Int))), some (.int (fd_I (mo_l M k w n))), some (.int (fd_I ((n : Nat) : Int))), none] [] := by
          intro dd25
          induction dd25 using Nat.strongRecOn with
          | ind dd25 ih25 =>
            intro n hdd25 hn
            refine fd_iload C dM_roomOf_25 rfl ?_
            refine fd_aload_n C dM_roomOf_27 rfl ?_
            refine fd_get C (k := 0) (i := 0) (j := 7) (v := .int (fd_I (M 0 0 7))) (mo_m (by decide)) rfl rfl (by decide) wsM fw3_44 rfl dM_roomOf_28 ?_
            refine fd_icmp_ge C (tgt := 107) dM_roomOf_31 rfl ⟨by omega, by omega⟩ ⟨by omega, by omega⟩ (fun h31t => ?_) (fun h31f => ?_)
            · skip
              have e1 := mo_l_bd hok (show k < 4 by omega) w n (by omega)
              have e2 := mo_r_bd hok w k (by omega)
              refine fd_iload C dM_roomOf_107 rfl ?_
              refine fd_iload_n C dM_roomOf_109 rfl ?_
              refine fd_icmp_ge C (tgt := 118) dM_roomOf_110 rfl ⟨by omega, by omega⟩ ⟨by omega, by omega⟩ (fun h110t => ?_) (fun h110f => ?_)
              · skip
                refine fd_iload_n C dM_roomOf_118 rfl ?_
                refine fd_istore_n C dM_roomOf_119 (by decide) ?_
                refine fd_iinc C dM_roomOf_120 rfl (by decide) ?_
                refine fd_goto C (tgt := 7) dM_roomOf_123 rfl ?_
                refine fd_drop 5 ?_
                refine fd_drop 6 ?_
                have h9 := ih7 (4 - (k + 1)) (by omega) (k + 1) rfl (by omega)
                rw [mo_r_s M w k, if_neg (by rw [← show n = (M 0 0 7).toNat by omega]; omega)] at h9
                exact h9
              · skip
                refine fd_iload C dM_roomOf_113 rfl ?_
                refine fd_goto C (tgt := 119) dM_roomOf_115 rfl ?_
                refine fd_istore_n C dM_roomOf_119 (by decide) ?_
                refine fd_iinc C dM_roomOf_120 rfl (by decide) ?_
                refine fd_goto C (tgt := 7) dM_roomOf_123 rfl ?_
                refine fd_drop 5 ?_
                refine fd_drop 6 ?_
                have h9 := ih7 (4 - (k + 1)) (by omega) (k + 1) rfl (by omega)
                rw [mo_r_s M w k, if_pos (by rw [← show n = (M 0 0 7).toNat by omega]; omega)] at h9
                rw [← show n = (M 0 0 7).toNat by omega] at h9
                exact h9
            · skip
              have e3 := hok.sta (show n < 60 by omega)
              have e4 := hok.far (show n < 60 by omega)
              refine fd_aload_n C dM_roomOf_34 rfl ?_
              refine fd_iload C dM_roomOf_35 rfl ?_
              by_cases hs37 : M 3 0 n = 1 ∨ M 3 0 n = 2
              · skip
                refine fd_callVi C hE [.int (fd_I ((n : Nat) : Int))] (k := 0) (i := 0) (mM_counts_1 l D cI ad M n (by omega) e3 hs37) (cwV 1 C.1.2.2.2.2 (gM_counts fw3_109) rfl rfl rfl ⟨rfl, by decide, by decide, by decide +kernel⟩ ⟨by decide, by decide⟩) (mo_m (by decide)) rfl rfl rfl (Nat.le_of_ble_eq_true rfl) dM_roomOf_37 ⟨by decide, by decide⟩ ?_
                refine fd_if_ne C (tgt := 55) dM_roomOf_40 rfl ⟨by omega, by omega⟩ (fun h40t => ?_) (fun h40f => ?_)
                rotate_left
                · exfalso; omega
                refine fd_iconst C dM_roomOf_55 ?_
                refine fd_goto C (tgt := 60) dM_roomOf_56 rfl ?_
                refine fd_istore C dM_roomOf_60 (by decide) ?_
                refine fd_iload C dM_roomOf_62 rfl ?_
                refine fd_iload C dM_roomOf_64 rfl ?_
                refine fd_if_eq C (tgt := 97) dM_roomOf_66 rfl ⟨by omega, by omega⟩ (fun h66t => ?_) (fun h66f => ?_)
                · exfalso; omega
                refine fd_aload_n C dM_roomOf_69 rfl ?_
                refine fd_get C (k := 0) (i := 0) (j := 9) (v := .ref (ad 4 0)) (mo_m (by decide)) rfl rfl (by decide) wsM fw3_46 rfl dM_roomOf_70 ?_
                refine fd_iload C dM_roomOf_73 rfl ?_
                refine fd_iald C (k := 4) (i := 0) (x := n) (v := M 4 0 n) (mo_m (by decide)) (fun _ => rfl) (mo_tI cI) rfl (by omega) (by decide) rfl dM_roomOf_75 ?_
                refine fd_iload C dM_roomOf_76 rfl ?_
                refine fd_icmp_lt C (tgt := 97) dM_roomOf_78 rfl ⟨by omega, by omega⟩ ⟨by omega, by omega⟩ (fun h78t => ?_) (fun h78f => ?_)
                · skip
                  refine fd_iconst C dM_roomOf_97 ?_
                  refine fd_isub C dM_roomOf_98 ?_
                  refine fd_istore C dM_roomOf_99 (by decide) ?_
                  refine fd_iinc C dM_roomOf_101 rfl (by decide) ?_
                  refine fd_goto C (tgt := 25) dM_roomOf_104 rfl ?_
                  refine fd_drop 7 ?_
                  have h9 := ih25 ((M 0 0 7).toNat - (n + 1)) (by omega) (n + 1) rfl (by omega)
                  rw [mo_l_s, if_neg (by omega)] at h9
                  exact h9
                · skip
                  refine fd_iload C dM_roomOf_81 rfl ?_
                  refine fd_iload_n C dM_roomOf_83 rfl ?_
                  refine fd_icmp_eq C (tgt := 97) dM_roomOf_84 rfl ⟨by omega, by omega⟩ ⟨by omega, by omega⟩ (fun h84t => ?_) (fun h84f => ?_)
                  · skip
                    refine fd_iconst C dM_roomOf_97 ?_
                    refine fd_isub C dM_roomOf_98 ?_
                    refine fd_istore C dM_roomOf_99 (by decide) ?_
                    refine fd_iinc C dM_roomOf_101 rfl (by decide) ?_
                    refine fd_goto C (tgt := 25) dM_roomOf_104 rfl ?_
                    refine fd_drop 7 ?_
                    have h9 := ih25 ((M 0 0 7).toNat - (n + 1)) (by omega) (n + 1) rfl (by omega)
                    rw [mo_l_s, if_neg (by omega)] at h9
                    exact h9
                  · skip
                    refine fd_aload_n C dM_roomOf_87 rfl ?_
                    refine fd_get C (k := 0) (i := 0) (j := 10) (v := .ref (ad 5 0)) (mo_m (by decide)) rfl rfl (by decide) wsM fw3_47 rfl dM_roomOf_88 ?_
                    refine fd_iload C dM_roomOf_91 rfl ?_
                    refine fd_iald C (k := 5) (i := 0) (x := n) (v := M 5 0 n) (mo_m (by decide)) (fun _ => rfl) (mo_tI cI) rfl (by omega) (by decide) rfl dM_roomOf_93 ?_
                    refine fd_goto C (tgt := 98) dM_roomOf_94 rfl ?_
                    refine fd_isub C dM_roomOf_98 ?_
                    refine fd_istore C dM_roomOf_99 (by decide) ?_
                    refine fd_iinc C dM_roomOf_101 rfl (by decide) ?_
                    refine fd_goto C (tgt := 25) dM_roomOf_104 rfl ?_
                    refine fd_drop 7 ?_
                    have h9 := ih25 ((M 0 0 7).toNat - (n + 1)) (by omega) (n + 1) rfl (by omega)
                    rw [mo_l_s, if_pos (by omega)] at h9
                    exact h9
              · skip
                refine fd_callVi C hE [.int (fd_I ((n : Nat) : Int))] (k := 0) (i := 0) (mM_counts_0 l D cI ad M n (by omega) e3 hs37) (cwV 1 C.1.2.2.2.2 (gM_counts fw3_109) rfl rfl rfl ⟨rfl, by decide, by decide, by decide +kernel⟩ ⟨by decide, by decide⟩) (mo_m (by decide)) rfl rfl rfl (Nat.le_of_ble_eq_true rfl) dM_roomOf_37 ⟨by decide, by decide⟩ ?_
                refine fd_if_ne C (tgt := 55) dM_roomOf_40 rfl ⟨by omega, by omega⟩ (fun h40t => ?_) (fun h40f => ?_)
                · exfalso; omega
                refine fd_aload_n C dM_roomOf_43 rfl ?_
                refine fd_get C (k := 0) (i := 0) (j := 8) (v := .ref (ad 3 0)) (mo_m (by decide)) rfl rfl (by decide) wsM fw3_45 rfl dM_roomOf_44 ?_
                refine fd_iload C dM_roomOf_47 rfl ?_
                refine fd_iald C (k := 3) (i := 0) (x := n) (v := M 3 0 n) (mo_m (by decide)) (fun _ => rfl) (mo_tI cI) rfl (by omega) (by decide) rfl dM_roomOf_49 ?_
                refine fd_bipush C dM_roomOf_50 (by decide) ?_
                refine fd_icmp_ne C (tgt := 59) dM_roomOf_52 rfl ⟨by omega, by omega⟩ ⟨by omega, by omega⟩ (fun h52t => ?_) (fun h52f => ?_)
                · skip
                  refine fd_iconst C dM_roomOf_59 ?_
                  refine fd_istore C dM_roomOf_60 (by decide) ?_
                  refine fd_iload C dM_roomOf_62 rfl ?_
                  refine fd_iload C dM_roomOf_64 rfl ?_
                  refine fd_if_eq C (tgt := 97) dM_roomOf_66 rfl ⟨by omega, by omega⟩ (fun h66t => ?_) (fun h66f => ?_)
                  rotate_left
                  · exfalso; omega
                  refine fd_iconst C dM_roomOf_97 ?_
                  refine fd_isub C dM_roomOf_98 ?_
                  refine fd_istore C dM_roomOf_99 (by decide) ?_
                  refine fd_iinc C dM_roomOf_101 rfl (by decide) ?_
                  refine fd_goto C (tgt := 25) dM_roomOf_104 rfl ?_
                  refine fd_drop 7 ?_
                  have h9 := ih25 ((M 0 0 7).toNat - (n + 1)) (by omega) (n + 1) rfl (by omega)
                  rw [mo_l_s, if_neg (by omega)] at h9
                  exact h9
                · skip
                  refine fd_iconst C dM_roomOf_55 ?_
                  refine fd_goto C (tgt := 60) dM_roomOf_56 rfl ?_
                  refine fd_istore C dM_roomOf_60 (by decide) ?_
                  refine fd_iload C dM_roomOf_62 rfl ?_
                  refine fd_iload C dM_roomOf_64 rfl ?_
                  refine fd_if_eq C (tgt := 97) dM_roomOf_66 rfl ⟨by omega, by omega⟩ (fun h66t => ?_) (fun h66f => ?_)
                  · exfalso; omega
                  refine fd_aload_n C dM_roomOf_69 rfl ?_
                  refine fd_get C (k := 0) (i := 0) (j := 9) (v := .ref (ad 4 0)) (mo_m (by decide)) rfl rfl (by decide) wsM fw3_46 rfl dM_roomOf_70 ?_
                  refine fd_iload C dM_roomOf_73 rfl ?_
                  refine fd_iald C (k := 4) (i := 0) (x := n) (v := M 4 0 n) (mo_m (by decide)) (fun _ => rfl) (mo_tI cI) rfl (by omega) (by decide) rfl dM_roomOf_75 ?_
                  refine fd_iload C dM_roomOf_76 rfl ?_
                  refine fd_icmp_lt C (tgt := 97) dM_roomOf_78 rfl ⟨by omega, by omega⟩ ⟨by omega, by omega⟩ (fun h78t => ?_) (fun h78f => ?_)
                  · skip
                    refine fd_iconst C dM_roomOf_97 ?_
                    refine fd_isub C dM_roomOf_98 ?_
                    refine fd_istore C dM_roomOf_99 (by decide) ?_
                    refine fd_iinc C dM_roomOf_101 rfl (by decide) ?_
                    refine fd_goto C (tgt := 25) dM_roomOf_104 rfl ?_
                    refine fd_drop 7 ?_
                    have h9 := ih25 ((M 0 0 7).toNat - (n + 1)) (by omega) (n + 1) rfl (by omega)
                    rw [mo_l_s, if_neg (by omega)] at h9
                    exact h9
                  · skip
                    refine fd_iload C dM_roomOf_81 rfl ?_
                    refine fd_iload_n C dM_roomOf_83 rfl ?_
                    refine fd_icmp_eq C (tgt := 97) dM_roomOf_84 rfl ⟨by omega, by omega⟩ ⟨by omega, by omega⟩ (fun h84t => ?_) (fun h84f => ?_)
                    · skip
                      refine fd_iconst C dM_roomOf_97 ?_
                      refine fd_isub C dM_roomOf_98 ?_
                      refine fd_istore C dM_roomOf_99 (by decide) ?_
                      refine fd_iinc C dM_roomOf_101 rfl (by decide) ?_
                      refine fd_goto C (tgt := 25) dM_roomOf_104 rfl ?_
                      refine fd_drop 7 ?_
                      have h9 := ih25 ((M 0 0 7).toNat - (n + 1)) (by omega) (n + 1) rfl (by omega)
                      rw [mo_l_s, if_neg (by omega)] at h9
                      exact h9
                    · skip
                      refine fd_aload_n C dM_roomOf_87 rfl ?_
                      refine fd_get C (k := 0) (i := 0) (j := 10) (v := .ref (ad 5 0)) (mo_m (by decide)) rfl rfl (by decide) wsM fw3_47 rfl dM_roomOf_88 ?_
                      refine fd_iload C dM_roomOf_91 rfl ?_
                      refine fd_iald C (k := 5) (i := 0) (x := n) (v := M 5 0 n) (mo_m (by decide)) (fun _ => rfl) (mo_tI cI) rfl (by omega) (by decide) rfl dM_roomOf_93 ?_
                      refine fd_goto C (tgt := 98) dM_roomOf_94 rfl ?_
                      refine fd_isub C dM_roomOf_98 ?_
                      refine fd_istore C dM_roomOf_99 (by decide) ?_
                      refine fd_iinc C dM_roomOf_101 rfl (by decide) ?_
                      refine fd_goto C (tgt := 25) dM_roomOf_104 rfl ?_
                      refine fd_drop 7 ?_
                      have h9 := ih25 ((M 0 0 7).toNat - (n + 1)) (by omega) (n + 1) rfl (by omega)
                      rw [mo_l_s, if_pos (by omega)] at h9
                      exact h9
        exact hloop25 _ 0 rfl (by omega)
  exact hloop7 _ 0 rfl (by omega)
set_option maxRecDepth 20000 in
theorem mM_serve (l : Launch) (D : va_G) (cI : ClassId) (ad : Nat → Nat → Nat) (M : fd_Mem) (hok : mo_ok M) (dv : Nat) (Nv : fd_Mem) (hd : mo_sv dv 0 M = some Nv) : mo_Mv l D cI ad yM_serve wM_serve ({ frames := 2, cells := 0, slots := 0, locals := 48 }) [.ref (ad 0 0)] M (Nv) := by
  refine fd_enterV (by decide) rfl mo_nd (by simp [Value.category]) (Nat.le_of_ble_eq_true rfl) ?_
  intro A p e s m args below meth c C hr hlk hE
  have C : fd_C p m c cM_serve 2 s args fd_T "FareDeskModel" D fd_cl (mo_tys cI) mo_wl A := C
  refine fd_pad 1 ?_
  refine fd_iconst C dM_serve_0 ?_
  refine fd_istore_n C dM_serve_1 (by decide) ?_
  have hloop2 : ∀ (dd2 : Nat) (d9 b : Nat) (P : fd_Mem), dd2 = d9 → (mo_ok P) → (b ≤ 60) → (mo_sv d9 b P = some Nv) → fd_J p l e ({ frames := 2, cells := 0, slots := 0, locals := 48 }) s m args below meth c D fd_cl A ad (mo_en cI ad) mo_wl 2 0 0 (MQ below (fd_QV D fd_cl (mo_tys cI) ad (mo_en cI ad) mo_wl A (Nv)) args s 0 0 A) P 2 [some (.ref (ad 0 0)), some (.int (fd_I ((b : Nat) : Int)))] [] := by
    intro dd2
    induction dd2 using Nat.strongRecOn with
    | ind dd2 ih2 =>
      intro d9 b P hdd2 okP hb6 hsv
      refine fd_iload_n C dM_serve_2 rfl ?_
      refine fd_aload_n C dM_serve_3 rfl ?_
      refine fd_get C (k := 0) (i := 0) (j := 7) (v := .int (fd_I (P 0 0 7))) (mo_m (by decide)) rfl rfl (by decide) wsM fw3_44 rfl dM_serve_4 ?_
      obtain ⟨d8, rfl⟩ := mo_sv_pos hsv
      rw [mo_sv_s] at hsv
      have e7 := okP.made
      refine fd_icmp_ge C (tgt := 75) dM_serve_7 rfl ⟨by omega, by omega⟩ ⟨by omega, by omega⟩ (fun h7t => ?_) (fun h7f => ?_)
      · skip
        exact fd_vret C hr hlk (by rw [if_neg (by omega)] at hsv; exact Option.some.inj hsv) dM_serve_75
      · skip
        refine fd_aload_n C dM_serve_10 rfl ?_
        refine fd_get C (k := 0) (i := 0) (j := 8) (v := .ref (ad 3 0)) (mo_m (by decide)) rfl rfl (by decide) wsM fw3_45 rfl dM_serve_11 ?_
        refine fd_iload_n C dM_serve_14 rfl ?_
        refine fd_iald C (k := 3) (i := 0) (x := b) (v := P 3 0 b) (mo_m (by decide)) (fun _ => rfl) (mo_tI cI) rfl (by omega) (by decide) rfl dM_serve_15 ?_
        have e3 := okP.sta (show b < 60 by omega)
        have e4 := okP.far (show b < 60 by omega)
        have e5 := okP.pla (show b < 60 by omega)
        refine fd_iconst C dM_serve_16 ?_
        refine fd_icmp_ne C (tgt := 69) dM_serve_17 rfl ⟨by omega, by omega⟩ ⟨by omega, by omega⟩ (fun h17t => ?_) (fun h17f => ?_)
        · skip
          refine fd_iinc C dM_serve_69 rfl (by decide) ?_
          refine fd_goto C (tgt := 2) dM_serve_72 rfl ?_
          rw [if_pos (by omega), if_neg (by omega)] at hsv
          exact ih2 d8 (by omega) d8 (b + 1) P rfl okP (by omega) hsv
        · skip
          refine fd_aload_n C dM_serve_20 rfl ?_
          refine fd_aload_n C dM_serve_21 rfl ?_
          refine fd_get C (k := 0) (i := 0) (j := 9) (v := .ref (ad 4 0)) (mo_m (by decide)) rfl rfl (by decide) wsM fw3_46 rfl dM_serve_22 ?_
          refine fd_iload_n C dM_serve_25 rfl ?_
          refine fd_iald C (k := 4) (i := 0) (x := b) (v := P 4 0 b) (mo_m (by decide)) (fun _ => rfl) (mo_tI cI) rfl (by omega) (by decide) rfl dM_serve_26 ?_
          refine fd_iconst C dM_serve_27 ?_
          refine fd_callVi C hE [.int (fd_I (P 4 0 b)), .int (fd_I (-1))] (k := 0) (i := 0) (mM_roomOf l D cI ad P (P 4 0 b) (-1) (by omega) (by omega) okP) (cwV 2 C.1.2.2.2.2 (gM_roomOf fw3_105) rfl rfl rfl ⟨rfl, by decide, by decide, by decide +kernel⟩ ⟨by decide, by decide⟩) (mo_m (by decide)) rfl rfl rfl (Nat.le_of_ble_eq_true rfl) dM_serve_28 ⟨by decide, by decide⟩ ?_
          refine fd_aload_n C dM_serve_31 rfl ?_
          refine fd_get C (k := 0) (i := 0) (j := 10) (v := .ref (ad 5 0)) (mo_m (by decide)) rfl rfl (by decide) wsM fw3_47 rfl dM_serve_32 ?_
          refine fd_iload_n C dM_serve_35 rfl ?_
          refine fd_iald C (k := 5) (i := 0) (x := b) (v := P 5 0 b) (mo_m (by decide)) (fun _ => rfl) (mo_tI cI) rfl (by omega) (by decide) rfl dM_serve_36 ?_
          have e6 := mo_r_bd okP (-1) ((P 4 0 b).toNat + 1) (by omega)
          refine fd_icmp_lt C (tgt := 69) dM_serve_37 rfl ⟨by omega, by omega⟩ ⟨by omega, by omega⟩ (fun h37t => ?_) (fun h37f => ?_)
          · skip
            refine fd_iinc C dM_serve_69 rfl (by decide) ?_
            refine fd_goto C (tgt := 2) dM_serve_72 rfl ?_
            rw [if_pos (by omega), if_neg (by omega)] at hsv
            exact ih2 d8 (by omega) d8 (b + 1) P rfl okP (by omega) hsv
          · skip
            refine fd_aload_n C dM_serve_40 rfl ?_
            refine fd_get C (k := 0) (i := 0) (j := 8) (v := .ref (ad 3 0)) (mo_m (by decide)) rfl rfl (by decide) wsM fw3_45 rfl dM_serve_41 ?_
            refine fd_iload_n C dM_serve_44 rfl ?_
            refine fd_iconst C dM_serve_45 ?_
            refine fd_iast C (k := 3) (i := 0) (x := b) (v := 1) (mo_m (by decide)) (fun _ => rfl) (mo_tI cI) rfl (by omega) (by decide) dM_serve_46 ?_
            refine fd_aload_n C dM_serve_47 rfl ?_
            refine fd_get C (k := 0) (i := 0) (j := 12) (v := .ref (ad 7 0)) (mo_m (by decide)) rfl rfl (by decide) wsM fw3_49 rfl dM_serve_48 ?_
            refine fd_iload_n C dM_serve_51 rfl ?_
            refine fd_aload_n C dM_serve_52 rfl ?_
            refine fd_get C (k := 0) (i := 0) (j := 2) (v := .int (fd_I (P 0 0 2))) (mo_m (by decide)) rfl rfl (by decide) wsM fw3_39 rfl dM_serve_53 ?_
            refine fd_aload_n C dM_serve_56 rfl ?_
            refine fd_get C (k := 0) (i := 0) (j := 11) (v := .ref (ad 6 0)) (mo_m (by decide)) rfl rfl (by decide) wsM fw3_48 rfl dM_serve_57 ?_
            refine fd_iload_n C dM_serve_60 rfl ?_
            refine fd_iald C (k := 6) (i := 0) (x := b) (v := P 6 0 b) (mo_m (by decide)) (fun _ => rfl) (mo_tI cI) rfl (by omega) (by decide) rfl dM_serve_61 ?_
            refine fd_iadd C dM_serve_62 ?_
            refine fd_iast C (k := 7) (i := 0) (x := b) (v := ((P 0 0 2) + (P 6 0 b))) (mo_m (by decide)) (fun _ => rfl) (mo_tI cI) rfl (by omega) (by decide) dM_serve_63 ?_
            refine fd_iconst C dM_serve_64 ?_
            refine fd_istore_n C dM_serve_65 (by decide) ?_
            refine fd_goto C (tgt := 2) dM_serve_66 rfl ?_
            rw [if_pos (by omega), if_pos ⟨by omega, by omega⟩] at hsv
            exact ih2 d8 (by omega) d8 0 (mo_hd P b) rfl (okP.hd (by omega)) (by omega) hsv
  exact hloop2 _ dv 0 M rfl hok (by omega) hd
set_option maxRecDepth 20000 in
theorem mM_limit_F (l : Launch) (D : va_G) (cI : ClassId) (ad : Nat → Nat → Nat) (M : fd_Mem) (f x : Int) (hf : -2147483648 ≤ f ∧ f < 2147483648) (hx : -2147483648 ≤ x ∧ x < 2147483648) (hb : f < 0 ∨ 4 ≤ f) : mo_Mv l D cI ad yM_limit wM_limit ({ frames := 1, cells := 0, slots := 0, locals := 21 }) [.ref (ad 0 0), .int (fd_I (f)), .int (fd_I (x))] M ((fd_u3 M 0 0 0 1)) := by
  refine fd_enterV (by decide) rfl mo_nd (by simp [Value.category]) (Nat.le_of_ble_eq_true rfl) ?_
  intro A p e s m args below meth c C hr hlk hE
  have C : fd_C p m c cM_limit 4 s args fd_T "FareDeskModel" D fd_cl (mo_tys cI) mo_wl A := C
  refine fd_pad 1 ?_
  refine fd_aload_n C dM_limit_0 rfl ?_
  refine fd_iload_n C dM_limit_1 rfl ?_
  refine fd_callVi C hE [.int (fd_I (f))] (k := 0) (i := 0) (mM_noFare_1 l D cI ad M f hf hb) (cwV 1 C.1.2.2.2.2 (gM_noFare fw3_97) rfl rfl rfl ⟨rfl, by decide, by decide, by decide +kernel⟩ ⟨by decide, by decide⟩) (mo_m (by decide)) rfl rfl rfl (Nat.le_of_ble_eq_true rfl) dM_limit_2 ⟨by decide, by decide⟩ ?_
  refine fd_if_ne C (tgt := 18) dM_limit_5 rfl ⟨by omega, by omega⟩ (fun h5t => ?_) (fun h5f => ?_)
  rotate_left
  · exfalso; omega
  refine fd_iconst C dM_limit_18 ?_
  refine fd_goto C (tgt := 23) dM_limit_19 rfl ?_
  refine fd_istore_n C dM_limit_23 (by decide) ?_
  refine fd_iload_n C dM_limit_24 rfl ?_
  refine fd_if_ne C (tgt := 61) dM_limit_25 rfl ⟨by omega, by omega⟩ (fun h25t => ?_) (fun h25f => ?_)
  rotate_left
  · exfalso; omega
  refine fd_iconst C dM_limit_61 ?_
  refine fd_goto C (tgt := 66) dM_limit_62 rfl ?_
  refine fd_istore_n C dM_limit_66 (by decide) ?_
  refine fd_aload_n C dM_limit_67 rfl ?_
  refine fd_iload_n C dM_limit_68 rfl ?_
  refine fd_if_eq C (tgt := 76) dM_limit_69 rfl ⟨by omega, by omega⟩ (fun h69t => ?_) (fun h69f => ?_)
  · exfalso; omega
  refine fd_iconst C dM_limit_72 ?_
  refine fd_goto C (tgt := 88) dM_limit_73 rfl ?_
  refine fd_put C (k := 0) (i := 0) (j := 0) (z := 1) (ty := .int) tyM (mo_m (by decide)) rfl rfl rfl (by decide) wsM tyM_ok nmM fw3_37 rfl (by decide +kernel) rfl rfl (Nat.le_of_ble_eq_true rfl) dM_limit_88 ?_
  refine fd_aload_n C dM_limit_91 rfl ?_
  refine fd_get C (k := 0) (i := 0) (j := 0) (v := .int (fd_I (1))) (mo_m (by decide)) rfl rfl (by decide) wsM fw3_37 (congrArg (fun z => some (Value.int (fd_I z))) (fd_u3_same M 0 0 0 (1))) dM_limit_92 ?_
  refine fd_if_ne C (tgt := 109) dM_limit_95 rfl ⟨by omega, by omega⟩ (fun h95t => ?_) (fun h95f => ?_)
  rotate_left
  · exfalso; omega
  exact fd_vret C hr hlk rfl dM_limit_109
set_option maxRecDepth 20000 in
theorem mM_limit_1 (l : Launch) (D : va_G) (cI : ClassId) (ad : Nat → Nat → Nat) (M : fd_Mem) (f : Nat) (hf : f < 4) (x : Int) (hx : -2147483648 ≤ x ∧ x < 2147483648) (hok : mo_ok M) (hg : ¬ (0 ≤ x ∧ x ≤ 99 ∧ (f = 0 ∨ x ≤ M 2 0 (f - 1)) ∧ (f = 3 ∨ M 2 0 (f + 1) ≤ x))) : mo_Mv l D cI ad yM_limit wM_limit ({ frames := 1, cells := 0, slots := 0, locals := 21 }) [.ref (ad 0 0), .int (fd_I ((f : Nat) : Int)), .int (fd_I (x))] M ((fd_u3 M 0 0 0 1)) := by
  refine fd_enterV (by decide) rfl mo_nd (by simp [Value.category]) (Nat.le_of_ble_eq_true rfl) ?_
  intro A p e s m args below meth c C hr hlk hE
  have C : fd_C p m c cM_limit 4 s args fd_T "FareDeskModel" D fd_cl (mo_tys cI) mo_wl A := C
  refine fd_pad 1 ?_
  refine fd_aload_n C dM_limit_0 rfl ?_
  refine fd_iload_n C dM_limit_1 rfl ?_
  refine fd_callVi C hE [.int (fd_I ((f : Nat) : Int))] (k := 0) (i := 0) (mM_noFare_0 l D cI ad M ((f : Nat) : Int) (by omega)) (cwV 1 C.1.2.2.2.2 (gM_noFare fw3_97) rfl rfl rfl ⟨rfl, by decide, by decide, by decide +kernel⟩ ⟨by decide, by decide⟩) (mo_m (by decide)) rfl rfl rfl (Nat.le_of_ble_eq_true rfl) dM_limit_2 ⟨by decide, by decide⟩ ?_
  refine fd_if_ne C (tgt := 18) dM_limit_5 rfl ⟨by omega, by omega⟩ (fun h5t => ?_) (fun h5f => ?_)
  · exfalso; omega
  refine fd_iload_n C dM_limit_8 rfl ?_
  refine fd_if_lt C (tgt := 18) dM_limit_9 rfl ⟨by omega, by omega⟩ (fun h9t => ?_) (fun h9f => ?_)
  · skip
    refine fd_iconst C dM_limit_18 ?_
    refine fd_goto C (tgt := 23) dM_limit_19 rfl ?_
    refine fd_istore_n C dM_limit_23 (by decide) ?_
    refine fd_iload_n C dM_limit_24 rfl ?_
    refine fd_if_ne C (tgt := 61) dM_limit_25 rfl ⟨by omega, by omega⟩ (fun h25t => ?_) (fun h25f => ?_)
    rotate_left
    · exfalso; omega
    refine fd_iconst C dM_limit_61 ?_
    refine fd_goto C (tgt := 66) dM_limit_62 rfl ?_
    refine fd_istore_n C dM_limit_66 (by decide) ?_
    refine fd_aload_n C dM_limit_67 rfl ?_
    refine fd_iload_n C dM_limit_68 rfl ?_
    refine fd_if_eq C (tgt := 76) dM_limit_69 rfl ⟨by omega, by omega⟩ (fun h69t => ?_) (fun h69f => ?_)
    · exfalso; omega
    refine fd_iconst C dM_limit_72 ?_
    refine fd_goto C (tgt := 88) dM_limit_73 rfl ?_
    refine fd_put C (k := 0) (i := 0) (j := 0) (z := 1) (ty := .int) tyM (mo_m (by decide)) rfl rfl rfl (by decide) wsM tyM_ok nmM fw3_37 rfl (by decide +kernel) rfl rfl (Nat.le_of_ble_eq_true rfl) dM_limit_88 ?_
    refine fd_aload_n C dM_limit_91 rfl ?_
    refine fd_get C (k := 0) (i := 0) (j := 0) (v := .int (fd_I (1))) (mo_m (by decide)) rfl rfl (by decide) wsM fw3_37 (congrArg (fun z => some (Value.int (fd_I z))) (fd_u3_same M 0 0 0 (1))) dM_limit_92 ?_
    refine fd_if_ne C (tgt := 109) dM_limit_95 rfl ⟨by omega, by omega⟩ (fun h95t => ?_) (fun h95f => ?_)
    rotate_left
    · exfalso; omega
    exact fd_vret C hr hlk rfl dM_limit_109
  · skip
    refine fd_iload_n C dM_limit_12 rfl ?_
    refine fd_bipush C dM_limit_13 (by decide) ?_
    refine fd_icmp_le C (tgt := 22) dM_limit_15 rfl ⟨by omega, by omega⟩ ⟨by omega, by omega⟩ (fun h15t => ?_) (fun h15f => ?_)
    · skip
      refine fd_iconst C dM_limit_22 ?_
      refine fd_istore_n C dM_limit_23 (by decide) ?_
      refine fd_iload_n C dM_limit_24 rfl ?_
      refine fd_if_ne C (tgt := 61) dM_limit_25 rfl ⟨by omega, by omega⟩ (fun h25t => ?_) (fun h25f => ?_)
      · exfalso; omega
      refine fd_iload_n C dM_limit_28 rfl ?_
      refine fd_if_le C (tgt := 44) dM_limit_29 rfl ⟨by omega, by omega⟩ (fun h29t => ?_) (fun h29f => ?_)
      · skip
        refine fd_iload_n C dM_limit_44 rfl ?_
        refine fd_iconst C dM_limit_45 ?_
        refine fd_icmp_ge C (tgt := 65) dM_limit_46 rfl ⟨by omega, by omega⟩ ⟨by omega, by omega⟩ (fun h46t => ?_) (fun h46f => ?_)
        · skip
          exfalso; omega
        · skip
          refine fd_iload_n C dM_limit_49 rfl ?_
          refine fd_aload_n C dM_limit_50 rfl ?_
          refine fd_get C (k := 0) (i := 0) (j := 6) (v := .ref (ad 2 0)) (mo_m (by decide)) rfl rfl (by decide) wsM fw3_43 rfl dM_limit_51 ?_
          refine fd_iload_n C dM_limit_54 rfl ?_
          refine fd_iconst C dM_limit_55 ?_
          refine fd_iadd C dM_limit_56 ?_
          refine fd_iald C (k := 2) (i := 0) (x := f + 1) (v := M 2 0 (f + 1)) (mo_m (by decide)) (fun _ => rfl) (mo_tI cI) rfl (by omega) (by decide) rfl dM_limit_57 ?_
          have e2 := hok.lim (show f + 1 < 4 by omega)
          refine fd_icmp_ge C (tgt := 65) dM_limit_58 rfl ⟨by omega, by omega⟩ ⟨by omega, by omega⟩ (fun h58t => ?_) (fun h58f => ?_)
          · skip
            exfalso; omega
          · skip
            refine fd_iconst C dM_limit_61 ?_
            refine fd_goto C (tgt := 66) dM_limit_62 rfl ?_
            refine fd_istore_n C dM_limit_66 (by decide) ?_
            refine fd_aload_n C dM_limit_67 rfl ?_
            refine fd_iload_n C dM_limit_68 rfl ?_
            refine fd_if_eq C (tgt := 76) dM_limit_69 rfl ⟨by omega, by omega⟩ (fun h69t => ?_) (fun h69f => ?_)
            · exfalso; omega
            refine fd_iconst C dM_limit_72 ?_
            refine fd_goto C (tgt := 88) dM_limit_73 rfl ?_
            refine fd_put C (k := 0) (i := 0) (j := 0) (z := 1) (ty := .int) tyM (mo_m (by decide)) rfl rfl rfl (by decide) wsM tyM_ok nmM fw3_37 rfl (by decide +kernel) rfl rfl (Nat.le_of_ble_eq_true rfl) dM_limit_88 ?_
            refine fd_aload_n C dM_limit_91 rfl ?_
            refine fd_get C (k := 0) (i := 0) (j := 0) (v := .int (fd_I (1))) (mo_m (by decide)) rfl rfl (by decide) wsM fw3_37 (congrArg (fun z => some (Value.int (fd_I z))) (fd_u3_same M 0 0 0 (1))) dM_limit_92 ?_
            refine fd_if_ne C (tgt := 109) dM_limit_95 rfl ⟨by omega, by omega⟩ (fun h95t => ?_) (fun h95f => ?_)
            rotate_left
            · exfalso; omega
            exact fd_vret C hr hlk rfl dM_limit_109
      · skip
        refine fd_iload_n C dM_limit_32 rfl ?_
        refine fd_aload_n C dM_limit_33 rfl ?_
        refine fd_get C (k := 0) (i := 0) (j := 6) (v := .ref (ad 2 0)) (mo_m (by decide)) rfl rfl (by decide) wsM fw3_43 rfl dM_limit_34 ?_
        refine fd_iload_n C dM_limit_37 rfl ?_
        refine fd_iconst C dM_limit_38 ?_
        refine fd_isub C dM_limit_39 ?_
        refine fd_iald C (k := 2) (i := 0) (x := (f - 1)) (v := M 2 0 ((f - 1))) (mo_m (by decide)) (fun _ => rfl) (mo_tI cI) (by omega) (by omega) (by decide) rfl dM_limit_40 ?_
        have e1 := hok.lim (show f - 1 < 4 by omega)
        refine fd_icmp_gt C (tgt := 61) dM_limit_41 rfl ⟨by omega, by omega⟩ ⟨by omega, by omega⟩ (fun h41t => ?_) (fun h41f => ?_)
        · skip
          refine fd_iconst C dM_limit_61 ?_
          refine fd_goto C (tgt := 66) dM_limit_62 rfl ?_
          refine fd_istore_n C dM_limit_66 (by decide) ?_
          refine fd_aload_n C dM_limit_67 rfl ?_
          refine fd_iload_n C dM_limit_68 rfl ?_
          refine fd_if_eq C (tgt := 76) dM_limit_69 rfl ⟨by omega, by omega⟩ (fun h69t => ?_) (fun h69f => ?_)
          · exfalso; omega
          refine fd_iconst C dM_limit_72 ?_
          refine fd_goto C (tgt := 88) dM_limit_73 rfl ?_
          refine fd_put C (k := 0) (i := 0) (j := 0) (z := 1) (ty := .int) tyM (mo_m (by decide)) rfl rfl rfl (by decide) wsM tyM_ok nmM fw3_37 rfl (by decide +kernel) rfl rfl (Nat.le_of_ble_eq_true rfl) dM_limit_88 ?_
          refine fd_aload_n C dM_limit_91 rfl ?_
          refine fd_get C (k := 0) (i := 0) (j := 0) (v := .int (fd_I (1))) (mo_m (by decide)) rfl rfl (by decide) wsM fw3_37 (congrArg (fun z => some (Value.int (fd_I z))) (fd_u3_same M 0 0 0 (1))) dM_limit_92 ?_
          refine fd_if_ne C (tgt := 109) dM_limit_95 rfl ⟨by omega, by omega⟩ (fun h95t => ?_) (fun h95f => ?_)
          rotate_left
          · exfalso; omega
          exact fd_vret C hr hlk rfl dM_limit_109
        · skip
          refine fd_iload_n C dM_limit_44 rfl ?_
          refine fd_iconst C dM_limit_45 ?_
          refine fd_icmp_ge C (tgt := 65) dM_limit_46 rfl ⟨by omega, by omega⟩ ⟨by omega, by omega⟩ (fun h46t => ?_) (fun h46f => ?_)
          · skip
            exfalso; omega
          · skip
            refine fd_iload_n C dM_limit_49 rfl ?_
            refine fd_aload_n C dM_limit_50 rfl ?_
            refine fd_get C (k := 0) (i := 0) (j := 6) (v := .ref (ad 2 0)) (mo_m (by decide)) rfl rfl (by decide) wsM fw3_43 rfl dM_limit_51 ?_
            refine fd_iload_n C dM_limit_54 rfl ?_
            refine fd_iconst C dM_limit_55 ?_
            refine fd_iadd C dM_limit_56 ?_
            refine fd_iald C (k := 2) (i := 0) (x := f + 1) (v := M 2 0 (f + 1)) (mo_m (by decide)) (fun _ => rfl) (mo_tI cI) rfl (by omega) (by decide) rfl dM_limit_57 ?_
            have e2 := hok.lim (show f + 1 < 4 by omega)
            refine fd_icmp_ge C (tgt := 65) dM_limit_58 rfl ⟨by omega, by omega⟩ ⟨by omega, by omega⟩ (fun h58t => ?_) (fun h58f => ?_)
            · skip
              exfalso; omega
            · skip
              refine fd_iconst C dM_limit_61 ?_
              refine fd_goto C (tgt := 66) dM_limit_62 rfl ?_
              refine fd_istore_n C dM_limit_66 (by decide) ?_
              refine fd_aload_n C dM_limit_67 rfl ?_
              refine fd_iload_n C dM_limit_68 rfl ?_
              refine fd_if_eq C (tgt := 76) dM_limit_69 rfl ⟨by omega, by omega⟩ (fun h69t => ?_) (fun h69f => ?_)
              · exfalso; omega
              refine fd_iconst C dM_limit_72 ?_
              refine fd_goto C (tgt := 88) dM_limit_73 rfl ?_
              refine fd_put C (k := 0) (i := 0) (j := 0) (z := 1) (ty := .int) tyM (mo_m (by decide)) rfl rfl rfl (by decide) wsM tyM_ok nmM fw3_37 rfl (by decide +kernel) rfl rfl (Nat.le_of_ble_eq_true rfl) dM_limit_88 ?_
              refine fd_aload_n C dM_limit_91 rfl ?_
              refine fd_get C (k := 0) (i := 0) (j := 0) (v := .int (fd_I (1))) (mo_m (by decide)) rfl rfl (by decide) wsM fw3_37 (congrArg (fun z => some (Value.int (fd_I z))) (fd_u3_same M 0 0 0 (1))) dM_limit_92 ?_
              refine fd_if_ne C (tgt := 109) dM_limit_95 rfl ⟨by omega, by omega⟩ (fun h95t => ?_) (fun h95f => ?_)
              rotate_left
              · exfalso; omega
              exact fd_vret C hr hlk rfl dM_limit_109
    · skip
      refine fd_iconst C dM_limit_18 ?_
      refine fd_goto C (tgt := 23) dM_limit_19 rfl ?_
      refine fd_istore_n C dM_limit_23 (by decide) ?_
      refine fd_iload_n C dM_limit_24 rfl ?_
      refine fd_if_ne C (tgt := 61) dM_limit_25 rfl ⟨by omega, by omega⟩ (fun h25t => ?_) (fun h25f => ?_)
      rotate_left
      · exfalso; omega
      refine fd_iconst C dM_limit_61 ?_
      refine fd_goto C (tgt := 66) dM_limit_62 rfl ?_
      refine fd_istore_n C dM_limit_66 (by decide) ?_
      refine fd_aload_n C dM_limit_67 rfl ?_
      refine fd_iload_n C dM_limit_68 rfl ?_
      refine fd_if_eq C (tgt := 76) dM_limit_69 rfl ⟨by omega, by omega⟩ (fun h69t => ?_) (fun h69f => ?_)
      · exfalso; omega
      refine fd_iconst C dM_limit_72 ?_
      refine fd_goto C (tgt := 88) dM_limit_73 rfl ?_
      refine fd_put C (k := 0) (i := 0) (j := 0) (z := 1) (ty := .int) tyM (mo_m (by decide)) rfl rfl rfl (by decide) wsM tyM_ok nmM fw3_37 rfl (by decide +kernel) rfl rfl (Nat.le_of_ble_eq_true rfl) dM_limit_88 ?_
      refine fd_aload_n C dM_limit_91 rfl ?_
      refine fd_get C (k := 0) (i := 0) (j := 0) (v := .int (fd_I (1))) (mo_m (by decide)) rfl rfl (by decide) wsM fw3_37 (congrArg (fun z => some (Value.int (fd_I z))) (fd_u3_same M 0 0 0 (1))) dM_limit_92 ?_
      refine fd_if_ne C (tgt := 109) dM_limit_95 rfl ⟨by omega, by omega⟩ (fun h95t => ?_) (fun h95f => ?_)
      rotate_left
      · exfalso; omega
      exact fd_vret C hr hlk rfl dM_limit_109
set_option maxRecDepth 20000 in
theorem mM_limit_2 (l : Launch) (D : va_G) (cI : ClassId) (ad : Nat → Nat → Nat) (M : fd_Mem) (f : Nat) (hf : f < 4) (x : Int) (hx : -2147483648 ≤ x ∧ x < 2147483648) (hok : mo_ok M) (hg : 0 ≤ x ∧ x ≤ 99 ∧ (f = 0 ∨ x ≤ M 2 0 (f - 1)) ∧ (f = 3 ∨ M 2 0 (f + 1) ≤ x)) (hc : M 0 0 4 = 1) : mo_Mv l D cI ad yM_limit wM_limit ({ frames := 1, cells := 0, slots := 0, locals := 21 }) [.ref (ad 0 0), .int (fd_I ((f : Nat) : Int)), .int (fd_I (x))] M ((fd_u3 M 0 0 0 2)) := by
  refine fd_enterV (by decide) rfl mo_nd (by simp [Value.category]) (Nat.le_of_ble_eq_true rfl) ?_
  intro A p e s m args below meth c C hr hlk hE
  have C : fd_C p m c cM_limit 4 s args fd_T "FareDeskModel" D fd_cl (mo_tys cI) mo_wl A := C
  refine fd_pad 1 ?_
  refine fd_aload_n C dM_limit_0 rfl ?_
  refine fd_iload_n C dM_limit_1 rfl ?_
  refine fd_callVi C hE [.int (fd_I ((f : Nat) : Int))] (k := 0) (i := 0) (mM_noFare_0 l D cI ad M ((f : Nat) : Int) (by omega)) (cwV 1 C.1.2.2.2.2 (gM_noFare fw3_97) rfl rfl rfl ⟨rfl, by decide, by decide, by decide +kernel⟩ ⟨by decide, by decide⟩) (mo_m (by decide)) rfl rfl rfl (Nat.le_of_ble_eq_true rfl) dM_limit_2 ⟨by decide, by decide⟩ ?_
  refine fd_if_ne C (tgt := 18) dM_limit_5 rfl ⟨by omega, by omega⟩ (fun h5t => ?_) (fun h5f => ?_)
  · exfalso; omega
  refine fd_iload_n C dM_limit_8 rfl ?_
  refine fd_if_lt C (tgt := 18) dM_limit_9 rfl ⟨by omega, by omega⟩ (fun h9t => ?_) (fun h9f => ?_)
  · skip
    exfalso; omega
  · skip
    refine fd_iload_n C dM_limit_12 rfl ?_
    refine fd_bipush C dM_limit_13 (by decide) ?_
    refine fd_icmp_le C (tgt := 22) dM_limit_15 rfl ⟨by omega, by omega⟩ ⟨by omega, by omega⟩ (fun h15t => ?_) (fun h15f => ?_)
    · skip
      refine fd_iconst C dM_limit_22 ?_
      refine fd_istore_n C dM_limit_23 (by decide) ?_
      refine fd_iload_n C dM_limit_24 rfl ?_
      refine fd_if_ne C (tgt := 61) dM_limit_25 rfl ⟨by omega, by omega⟩ (fun h25t => ?_) (fun h25f => ?_)
      · exfalso; omega
      refine fd_iload_n C dM_limit_28 rfl ?_
      refine fd_if_le C (tgt := 44) dM_limit_29 rfl ⟨by omega, by omega⟩ (fun h29t => ?_) (fun h29f => ?_)
      · skip
        refine fd_iload_n C dM_limit_44 rfl ?_
        refine fd_iconst C dM_limit_45 ?_
        refine fd_icmp_ge C (tgt := 65) dM_limit_46 rfl ⟨by omega, by omega⟩ ⟨by omega, by omega⟩ (fun h46t => ?_) (fun h46f => ?_)
        · skip
          refine fd_iconst C dM_limit_65 ?_
          refine fd_istore_n C dM_limit_66 (by decide) ?_
          refine fd_aload_n C dM_limit_67 rfl ?_
          refine fd_iload_n C dM_limit_68 rfl ?_
          refine fd_if_eq C (tgt := 76) dM_limit_69 rfl ⟨by omega, by omega⟩ (fun h69t => ?_) (fun h69f => ?_)
          rotate_left
          · exfalso; omega
          refine fd_aload_n C dM_limit_76 rfl ?_
          refine fd_get C (k := 0) (i := 0) (j := 4) (v := .int (fd_I (M 0 0 4))) (mo_m (by decide)) rfl rfl (by decide) wsM fw3_41 rfl dM_limit_77 ?_
          refine fd_if_eq C (tgt := 87) dM_limit_80 rfl ⟨by omega, by omega⟩ (fun h80t => ?_) (fun h80f => ?_)
          · skip
            exfalso; omega
          · skip
            refine fd_iconst C dM_limit_83 ?_
            refine fd_goto C (tgt := 88) dM_limit_84 rfl ?_
            refine fd_put C (k := 0) (i := 0) (j := 0) (z := 2) (ty := .int) tyM (mo_m (by decide)) rfl rfl rfl (by decide) wsM tyM_ok nmM fw3_37 rfl (by decide +kernel) rfl rfl (Nat.le_of_ble_eq_true rfl) dM_limit_88 ?_
            refine fd_aload_n C dM_limit_91 rfl ?_
            refine fd_get C (k := 0) (i := 0) (j := 0) (v := .int (fd_I (2))) (mo_m (by decide)) rfl rfl (by decide) wsM fw3_37 (congrArg (fun z => some (Value.int (fd_I z))) (fd_u3_same M 0 0 0 (2))) dM_limit_92 ?_
            refine fd_if_ne C (tgt := 109) dM_limit_95 rfl ⟨by omega, by omega⟩ (fun h95t => ?_) (fun h95f => ?_)
            rotate_left
            · exfalso; omega
            exact fd_vret C hr hlk rfl dM_limit_109
        · skip
          refine fd_iload_n C dM_limit_49 rfl ?_
          refine fd_aload_n C dM_limit_50 rfl ?_
          refine fd_get C (k := 0) (i := 0) (j := 6) (v := .ref (ad 2 0)) (mo_m (by decide)) rfl rfl (by decide) wsM fw3_43 rfl dM_limit_51 ?_
          refine fd_iload_n C dM_limit_54 rfl ?_
          refine fd_iconst C dM_limit_55 ?_
          refine fd_iadd C dM_limit_56 ?_
          refine fd_iald C (k := 2) (i := 0) (x := f + 1) (v := M 2 0 (f + 1)) (mo_m (by decide)) (fun _ => rfl) (mo_tI cI) rfl (by omega) (by decide) rfl dM_limit_57 ?_
          have e2 := hok.lim (show f + 1 < 4 by omega)
          refine fd_icmp_ge C (tgt := 65) dM_limit_58 rfl ⟨by omega, by omega⟩ ⟨by omega, by omega⟩ (fun h58t => ?_) (fun h58f => ?_)
          · skip
            refine fd_iconst C dM_limit_65 ?_
            refine fd_istore_n C dM_limit_66 (by decide) ?_
            refine fd_aload_n C dM_limit_67 rfl ?_
            refine fd_iload_n C dM_limit_68 rfl ?_
            refine fd_if_eq C (tgt := 76) dM_limit_69 rfl ⟨by omega, by omega⟩ (fun h69t => ?_) (fun h69f => ?_)
            rotate_left
            · exfalso; omega
            refine fd_aload_n C dM_limit_76 rfl ?_
            refine fd_get C (k := 0) (i := 0) (j := 4) (v := .int (fd_I (M 0 0 4))) (mo_m (by decide)) rfl rfl (by decide) wsM fw3_41 rfl dM_limit_77 ?_
            refine fd_if_eq C (tgt := 87) dM_limit_80 rfl ⟨by omega, by omega⟩ (fun h80t => ?_) (fun h80f => ?_)
            · skip
              exfalso; omega
            · skip
              refine fd_iconst C dM_limit_83 ?_
              refine fd_goto C (tgt := 88) dM_limit_84 rfl ?_
              refine fd_put C (k := 0) (i := 0) (j := 0) (z := 2) (ty := .int) tyM (mo_m (by decide)) rfl rfl rfl (by decide) wsM tyM_ok nmM fw3_37 rfl (by decide +kernel) rfl rfl (Nat.le_of_ble_eq_true rfl) dM_limit_88 ?_
              refine fd_aload_n C dM_limit_91 rfl ?_
              refine fd_get C (k := 0) (i := 0) (j := 0) (v := .int (fd_I (2))) (mo_m (by decide)) rfl rfl (by decide) wsM fw3_37 (congrArg (fun z => some (Value.int (fd_I z))) (fd_u3_same M 0 0 0 (2))) dM_limit_92 ?_
              refine fd_if_ne C (tgt := 109) dM_limit_95 rfl ⟨by omega, by omega⟩ (fun h95t => ?_) (fun h95f => ?_)
              rotate_left
              · exfalso; omega
              exact fd_vret C hr hlk rfl dM_limit_109
          · skip
            exfalso; omega
      · skip
        refine fd_iload_n C dM_limit_32 rfl ?_
        refine fd_aload_n C dM_limit_33 rfl ?_
        refine fd_get C (k := 0) (i := 0) (j := 6) (v := .ref (ad 2 0)) (mo_m (by decide)) rfl rfl (by decide) wsM fw3_43 rfl dM_limit_34 ?_
        refine fd_iload_n C dM_limit_37 rfl ?_
        refine fd_iconst C dM_limit_38 ?_
        refine fd_isub C dM_limit_39 ?_
        refine fd_iald C (k := 2) (i := 0) (x := (f - 1)) (v := M 2 0 ((f - 1))) (mo_m (by decide)) (fun _ => rfl) (mo_tI cI) (by omega) (by omega) (by decide) rfl dM_limit_40 ?_
        have e1 := hok.lim (show f - 1 < 4 by omega)
        refine fd_icmp_gt C (tgt := 61) dM_limit_41 rfl ⟨by omega, by omega⟩ ⟨by omega, by omega⟩ (fun h41t => ?_) (fun h41f => ?_)
        · skip
          exfalso; omega
        · skip
          refine fd_iload_n C dM_limit_44 rfl ?_
          refine fd_iconst C dM_limit_45 ?_
          refine fd_icmp_ge C (tgt := 65) dM_limit_46 rfl ⟨by omega, by omega⟩ ⟨by omega, by omega⟩ (fun h46t => ?_) (fun h46f => ?_)
          · skip
            refine fd_iconst C dM_limit_65 ?_
            refine fd_istore_n C dM_limit_66 (by decide) ?_
            refine fd_aload_n C dM_limit_67 rfl ?_
            refine fd_iload_n C dM_limit_68 rfl ?_
            refine fd_if_eq C (tgt := 76) dM_limit_69 rfl ⟨by omega, by omega⟩ (fun h69t => ?_) (fun h69f => ?_)
            rotate_left
            · exfalso; omega
            refine fd_aload_n C dM_limit_76 rfl ?_
            refine fd_get C (k := 0) (i := 0) (j := 4) (v := .int (fd_I (M 0 0 4))) (mo_m (by decide)) rfl rfl (by decide) wsM fw3_41 rfl dM_limit_77 ?_
            refine fd_if_eq C (tgt := 87) dM_limit_80 rfl ⟨by omega, by omega⟩ (fun h80t => ?_) (fun h80f => ?_)
            · skip
              exfalso; omega
            · skip
              refine fd_iconst C dM_limit_83 ?_
              refine fd_goto C (tgt := 88) dM_limit_84 rfl ?_
              refine fd_put C (k := 0) (i := 0) (j := 0) (z := 2) (ty := .int) tyM (mo_m (by decide)) rfl rfl rfl (by decide) wsM tyM_ok nmM fw3_37 rfl (by decide +kernel) rfl rfl (Nat.le_of_ble_eq_true rfl) dM_limit_88 ?_
              refine fd_aload_n C dM_limit_91 rfl ?_
              refine fd_get C (k := 0) (i := 0) (j := 0) (v := .int (fd_I (2))) (mo_m (by decide)) rfl rfl (by decide) wsM fw3_37 (congrArg (fun z => some (Value.int (fd_I z))) (fd_u3_same M 0 0 0 (2))) dM_limit_92 ?_
              refine fd_if_ne C (tgt := 109) dM_limit_95 rfl ⟨by omega, by omega⟩ (fun h95t => ?_) (fun h95f => ?_)
              rotate_left
              · exfalso; omega
              exact fd_vret C hr hlk rfl dM_limit_109
          · skip
            refine fd_iload_n C dM_limit_49 rfl ?_
            refine fd_aload_n C dM_limit_50 rfl ?_
            refine fd_get C (k := 0) (i := 0) (j := 6) (v := .ref (ad 2 0)) (mo_m (by decide)) rfl rfl (by decide) wsM fw3_43 rfl dM_limit_51 ?_
            refine fd_iload_n C dM_limit_54 rfl ?_
            refine fd_iconst C dM_limit_55 ?_
            refine fd_iadd C dM_limit_56 ?_
            refine fd_iald C (k := 2) (i := 0) (x := f + 1) (v := M 2 0 (f + 1)) (mo_m (by decide)) (fun _ => rfl) (mo_tI cI) rfl (by omega) (by decide) rfl dM_limit_57 ?_
            have e2 := hok.lim (show f + 1 < 4 by omega)
            refine fd_icmp_ge C (tgt := 65) dM_limit_58 rfl ⟨by omega, by omega⟩ ⟨by omega, by omega⟩ (fun h58t => ?_) (fun h58f => ?_)
            · skip
              refine fd_iconst C dM_limit_65 ?_
              refine fd_istore_n C dM_limit_66 (by decide) ?_
              refine fd_aload_n C dM_limit_67 rfl ?_
              refine fd_iload_n C dM_limit_68 rfl ?_
              refine fd_if_eq C (tgt := 76) dM_limit_69 rfl ⟨by omega, by omega⟩ (fun h69t => ?_) (fun h69f => ?_)
              rotate_left
              · exfalso; omega
              refine fd_aload_n C dM_limit_76 rfl ?_
              refine fd_get C (k := 0) (i := 0) (j := 4) (v := .int (fd_I (M 0 0 4))) (mo_m (by decide)) rfl rfl (by decide) wsM fw3_41 rfl dM_limit_77 ?_
              refine fd_if_eq C (tgt := 87) dM_limit_80 rfl ⟨by omega, by omega⟩ (fun h80t => ?_) (fun h80f => ?_)
              · skip
                exfalso; omega
              · skip
                refine fd_iconst C dM_limit_83 ?_
                refine fd_goto C (tgt := 88) dM_limit_84 rfl ?_
                refine fd_put C (k := 0) (i := 0) (j := 0) (z := 2) (ty := .int) tyM (mo_m (by decide)) rfl rfl rfl (by decide) wsM tyM_ok nmM fw3_37 rfl (by decide +kernel) rfl rfl (Nat.le_of_ble_eq_true rfl) dM_limit_88 ?_
                refine fd_aload_n C dM_limit_91 rfl ?_
                refine fd_get C (k := 0) (i := 0) (j := 0) (v := .int (fd_I (2))) (mo_m (by decide)) rfl rfl (by decide) wsM fw3_37 (congrArg (fun z => some (Value.int (fd_I z))) (fd_u3_same M 0 0 0 (2))) dM_limit_92 ?_
                refine fd_if_ne C (tgt := 109) dM_limit_95 rfl ⟨by omega, by omega⟩ (fun h95t => ?_) (fun h95f => ?_)
                rotate_left
                · exfalso; omega
                exact fd_vret C hr hlk rfl dM_limit_109
            · skip
              exfalso; omega
    · skip
      exfalso; omega
set_option maxRecDepth 20000 in
theorem mM_limit (l : Launch) (D : va_G) (cI : ClassId) (ad : Nat → Nat → Nat) (M : fd_Mem) (f : Nat) (hf : f < 4) (x : Int) (hx : -2147483648 ≤ x ∧ x < 2147483648) (hok : mo_ok M) (hg : 0 ≤ x ∧ x ≤ 99 ∧ (f = 0 ∨ x ≤ M 2 0 (f - 1)) ∧ (f = 3 ∨ M 2 0 (f + 1) ≤ x)) (hc : M 0 0 4 = 0) (hok2 : mo_ok (fd_u3 (fd_u3 M 0 0 0 (0)) 2 0 f (x))) (dv : Nat) (Nv : fd_Mem) (hd : mo_sv dv 0 (fd_u3 (fd_u3 M 0 0 0 (0)) 2 0 f (x)) = some Nv) : mo_Mv l D cI ad yM_limit wM_limit ({ frames := 3, cells := 0, slots := 0, locals := 69 }) [.ref (ad 0 0), .int (fd_I ((f : Nat) : Int)), .int (fd_I (x))] M (Nv) := by
  refine fd_enterV (by decide) rfl mo_nd (by simp [Value.category]) (Nat.le_of_ble_eq_true rfl) ?_
  intro A p e s m args below meth c C hr hlk hE
  have C : fd_C p m c cM_limit 4 s args fd_T "FareDeskModel" D fd_cl (mo_tys cI) mo_wl A := C
  refine fd_pad 1 ?_
  refine fd_aload_n C dM_limit_0 rfl ?_
  refine fd_iload_n C dM_limit_1 rfl ?_
  refine fd_callVi C hE [.int (fd_I ((f : Nat) : Int))] (k := 0) (i := 0) (mM_noFare_0 l D cI ad M ((f : Nat) : Int) (by omega)) (cwV 1 C.1.2.2.2.2 (gM_noFare fw3_97) rfl rfl rfl ⟨rfl, by decide, by decide, by decide +kernel⟩ ⟨by decide, by decide⟩) (mo_m (by decide)) rfl rfl rfl (Nat.le_of_ble_eq_true rfl) dM_limit_2 ⟨by decide, by decide⟩ ?_
  refine fd_if_ne C (tgt := 18) dM_limit_5 rfl ⟨by omega, by omega⟩ (fun h5t => ?_) (fun h5f => ?_)
  · exfalso; omega
  refine fd_iload_n C dM_limit_8 rfl ?_
  refine fd_if_lt C (tgt := 18) dM_limit_9 rfl ⟨by omega, by omega⟩ (fun h9t => ?_) (fun h9f => ?_)
  · skip
    exfalso; omega
  · skip
    refine fd_iload_n C dM_limit_12 rfl ?_
    refine fd_bipush C dM_limit_13 (by decide) ?_
    refine fd_icmp_le C (tgt := 22) dM_limit_15 rfl ⟨by omega, by omega⟩ ⟨by omega, by omega⟩ (fun h15t => ?_) (fun h15f => ?_)
    · skip
      refine fd_iconst C dM_limit_22 ?_
      refine fd_istore_n C dM_limit_23 (by decide) ?_
      refine fd_iload_n C dM_limit_24 rfl ?_
      refine fd_if_ne C (tgt := 61) dM_limit_25 rfl ⟨by omega, by omega⟩ (fun h25t => ?_) (fun h25f => ?_)
      · exfalso; omega
      refine fd_iload_n C dM_limit_28 rfl ?_
      refine fd_if_le C (tgt := 44) dM_limit_29 rfl ⟨by omega, by omega⟩ (fun h29t => ?_) (fun h29f => ?_)
      · skip
        refine fd_iload_n C dM_limit_44 rfl ?_
        refine fd_iconst C dM_limit_45 ?_
        refine fd_icmp_ge C (tgt := 65) dM_limit_46 rfl ⟨by omega, by omega⟩ ⟨by omega, by omega⟩ (fun h46t => ?_) (fun h46f => ?_)
        · skip
          refine fd_iconst C dM_limit_65 ?_
          refine fd_istore_n C dM_limit_66 (by decide) ?_
          refine fd_aload_n C dM_limit_67 rfl ?_
          refine fd_iload_n C dM_limit_68 rfl ?_
          refine fd_if_eq C (tgt := 76) dM_limit_69 rfl ⟨by omega, by omega⟩ (fun h69t => ?_) (fun h69f => ?_)
          rotate_left
          · exfalso; omega
          refine fd_aload_n C dM_limit_76 rfl ?_
          refine fd_get C (k := 0) (i := 0) (j := 4) (v := .int (fd_I (M 0 0 4))) (mo_m (by decide)) rfl rfl (by decide) wsM fw3_41 rfl dM_limit_77 ?_
          refine fd_if_eq C (tgt := 87) dM_limit_80 rfl ⟨by omega, by omega⟩ (fun h80t => ?_) (fun h80f => ?_)
          · skip
            refine fd_iconst C dM_limit_87 ?_
            refine fd_put C (k := 0) (i := 0) (j := 0) (z := 0) (ty := .int) tyM (mo_m (by decide)) rfl rfl rfl (by decide) wsM tyM_ok nmM fw3_37 rfl (by decide +kernel) rfl rfl (Nat.le_of_ble_eq_true rfl) dM_limit_88 ?_
            refine fd_aload_n C dM_limit_91 rfl ?_
            refine fd_get C (k := 0) (i := 0) (j := 0) (v := .int (fd_I (0))) (mo_m (by decide)) rfl rfl (by decide) wsM fw3_37 (congrArg (fun z => some (Value.int (fd_I z))) (fd_u3_same M 0 0 0 (0))) dM_limit_92 ?_
            refine fd_if_ne C (tgt := 109) dM_limit_95 rfl ⟨by omega, by omega⟩ (fun h95t => ?_) (fun h95f => ?_)
            · exfalso; omega
            refine fd_aload_n C dM_limit_98 rfl ?_
            refine fd_get C (k := 0) (i := 0) (j := 6) (v := .ref (ad 2 0)) (mo_m (by decide)) rfl rfl (by decide) wsM fw3_43 rfl dM_limit_99 ?_
            refine fd_iload_n C dM_limit_102 rfl ?_
            refine fd_iload_n C dM_limit_103 rfl ?_
            refine fd_iast C (k := 2) (i := 0) (x := f) (v := x) (mo_m (by decide)) (fun _ => rfl) (mo_tI cI) rfl (by omega) (by decide) dM_limit_104 ?_
            refine fd_aload_n C dM_limit_105 rfl ?_
            refine fd_callVv C hE [] (k := 0) (i := 0) (mM_serve l D cI ad (fd_u3 (fd_u3 M 0 0 0 (0)) 2 0 f (x)) hok2 dv Nv hd) (cwV 0 C.1.2.2.2.2 (gM_serve fw3_101) rfl rfl rfl ⟨rfl, by decide, by decide, by decide +kernel⟩ ⟨by decide, by decide⟩) (mo_m (by decide)) rfl rfl rfl (Nat.le_of_ble_eq_true rfl) dM_limit_106 ⟨by decide, by decide⟩ ?_
            exact fd_vret C hr hlk rfl dM_limit_109
          · skip
            exfalso; omega
        · skip
          refine fd_iload_n C dM_limit_49 rfl ?_
          refine fd_aload_n C dM_limit_50 rfl ?_
          refine fd_get C (k := 0) (i := 0) (j := 6) (v := .ref (ad 2 0)) (mo_m (by decide)) rfl rfl (by decide) wsM fw3_43 rfl dM_limit_51 ?_
          refine fd_iload_n C dM_limit_54 rfl ?_
          refine fd_iconst C dM_limit_55 ?_
          refine fd_iadd C dM_limit_56 ?_
          refine fd_iald C (k := 2) (i := 0) (x := f + 1) (v := M 2 0 (f + 1)) (mo_m (by decide)) (fun _ => rfl) (mo_tI cI) rfl (by omega) (by decide) rfl dM_limit_57 ?_
          have e2 := hok.lim (show f + 1 < 4 by omega)
          refine fd_icmp_ge C (tgt := 65) dM_limit_58 rfl ⟨by omega, by omega⟩ ⟨by omega, by omega⟩ (fun h58t => ?_) (fun h58f => ?_)
          · skip
            refine fd_iconst C dM_limit_65 ?_
            refine fd_istore_n C dM_limit_66 (by decide) ?_
            refine fd_aload_n C dM_limit_67 rfl ?_
            refine fd_iload_n C dM_limit_68 rfl ?_
            refine fd_if_eq C (tgt := 76) dM_limit_69 rfl ⟨by omega, by omega⟩ (fun h69t => ?_) (fun h69f => ?_)
            rotate_left
            · exfalso; omega
            refine fd_aload_n C dM_limit_76 rfl ?_
            refine fd_get C (k := 0) (i := 0) (j := 4) (v := .int (fd_I (M 0 0 4))) (mo_m (by decide)) rfl rfl (by decide) wsM fw3_41 rfl dM_limit_77 ?_
            refine fd_if_eq C (tgt := 87) dM_limit_80 rfl ⟨by omega, by omega⟩ (fun h80t => ?_) (fun h80f => ?_)
            · skip
              refine fd_iconst C dM_limit_87 ?_
              refine fd_put C (k := 0) (i := 0) (j := 0) (z := 0) (ty := .int) tyM (mo_m (by decide)) rfl rfl rfl (by decide) wsM tyM_ok nmM fw3_37 rfl (by decide +kernel) rfl rfl (Nat.le_of_ble_eq_true rfl) dM_limit_88 ?_
              refine fd_aload_n C dM_limit_91 rfl ?_
              refine fd_get C (k := 0) (i := 0) (j := 0) (v := .int (fd_I (0))) (mo_m (by decide)) rfl rfl (by decide) wsM fw3_37 (congrArg (fun z => some (Value.int (fd_I z))) (fd_u3_same M 0 0 0 (0))) dM_limit_92 ?_
              refine fd_if_ne C (tgt := 109) dM_limit_95 rfl ⟨by omega, by omega⟩ (fun h95t => ?_) (fun h95f => ?_)
              · exfalso; omega
              refine fd_aload_n C dM_limit_98 rfl ?_
              refine fd_get C (k := 0) (i := 0) (j := 6) (v := .ref (ad 2 0)) (mo_m (by decide)) rfl rfl (by decide) wsM fw3_43 rfl dM_limit_99 ?_
              refine fd_iload_n C dM_limit_102 rfl ?_
              refine fd_iload_n C dM_limit_103 rfl ?_
              refine fd_iast C (k := 2) (i := 0) (x := f) (v := x) (mo_m (by decide)) (fun _ => rfl) (mo_tI cI) rfl (by omega) (by decide) dM_limit_104 ?_
              refine fd_aload_n C dM_limit_105 rfl ?_
              refine fd_callVv C hE [] (k := 0) (i := 0) (mM_serve l D cI ad (fd_u3 (fd_u3 M 0 0 0 (0)) 2 0 f (x)) hok2 dv Nv hd) (cwV 0 C.1.2.2.2.2 (gM_serve fw3_101) rfl rfl rfl ⟨rfl, by decide, by decide, by decide +kernel⟩ ⟨by decide, by decide⟩) (mo_m (by decide)) rfl rfl rfl (Nat.le_of_ble_eq_true rfl) dM_limit_106 ⟨by decide, by decide⟩ ?_
              exact fd_vret C hr hlk rfl dM_limit_109
            · skip
              exfalso; omega
          · skip
            exfalso; omega
      · skip
        refine fd_iload_n C dM_limit_32 rfl ?_
        refine fd_aload_n C dM_limit_33 rfl ?_
        refine fd_get C (k := 0) (i := 0) (j := 6) (v := .ref (ad 2 0)) (mo_m (by decide)) rfl rfl (by decide) wsM fw3_43 rfl dM_limit_34 ?_
        refine fd_iload_n C dM_limit_37 rfl ?_
        refine fd_iconst C dM_limit_38 ?_
        refine fd_isub C dM_limit_39 ?_
        refine fd_iald C (k := 2) (i := 0) (x := (f - 1)) (v := M 2 0 ((f - 1))) (mo_m (by decide)) (fun _ => rfl) (mo_tI cI) (by omega) (by omega) (by decide) rfl dM_limit_40 ?_
        have e1 := hok.lim (show f - 1 < 4 by omega)
        refine fd_icmp_gt C (tgt := 61) dM_limit_41 rfl ⟨by omega, by omega⟩ ⟨by omega, by omega⟩ (fun h41t => ?_) (fun h41f => ?_)
        · skip
          exfalso; omega
        · skip
          refine fd_iload_n C dM_limit_44 rfl ?_
          refine fd_iconst C dM_limit_45 ?_
          refine fd_icmp_ge C (tgt := 65) dM_limit_46 rfl ⟨by omega, by omega⟩ ⟨by omega, by omega⟩ (fun h46t => ?_) (fun h46f => ?_)
          · skip
            refine fd_iconst C dM_limit_65 ?_
            refine fd_istore_n C dM_limit_66 (by decide) ?_
            refine fd_aload_n C dM_limit_67 rfl ?_
            refine fd_iload_n C dM_limit_68 rfl ?_
            refine fd_if_eq C (tgt := 76) dM_limit_69 rfl ⟨by omega, by omega⟩ (fun h69t => ?_) (fun h69f => ?_)
            rotate_left
            · exfalso; omega
            refine fd_aload_n C dM_limit_76 rfl ?_
            refine fd_get C (k := 0) (i := 0) (j := 4) (v := .int (fd_I (M 0 0 4))) (mo_m (by decide)) rfl rfl (by decide) wsM fw3_41 rfl dM_limit_77 ?_
            refine fd_if_eq C (tgt := 87) dM_limit_80 rfl ⟨by omega, by omega⟩ (fun h80t => ?_) (fun h80f => ?_)
            · skip
              refine fd_iconst C dM_limit_87 ?_
              refine fd_put C (k := 0) (i := 0) (j := 0) (z := 0) (ty := .int) tyM (mo_m (by decide)) rfl rfl rfl (by decide) wsM tyM_ok nmM fw3_37 rfl (by decide +kernel) rfl rfl (Nat.le_of_ble_eq_true rfl) dM_limit_88 ?_
              refine fd_aload_n C dM_limit_91 rfl ?_
              refine fd_get C (k := 0) (i := 0) (j := 0) (v := .int (fd_I (0))) (mo_m (by decide)) rfl rfl (by decide) wsM fw3_37 (congrArg (fun z => some (Value.int (fd_I z))) (fd_u3_same M 0 0 0 (0))) dM_limit_92 ?_
              refine fd_if_ne C (tgt := 109) dM_limit_95 rfl ⟨by omega, by omega⟩ (fun h95t => ?_) (fun h95f => ?_)
              · exfalso; omega
              refine fd_aload_n C dM_limit_98 rfl ?_
              refine fd_get C (k := 0) (i := 0) (j := 6) (v := .ref (ad 2 0)) (mo_m (by decide)) rfl rfl (by decide) wsM fw3_43 rfl dM_limit_99 ?_
              refine fd_iload_n C dM_limit_102 rfl ?_
              refine fd_iload_n C dM_limit_103 rfl ?_
              refine fd_iast C (k := 2) (i := 0) (x := f) (v := x) (mo_m (by decide)) (fun _ => rfl) (mo_tI cI) rfl (by omega) (by decide) dM_limit_104 ?_
              refine fd_aload_n C dM_limit_105 rfl ?_
              refine fd_callVv C hE [] (k := 0) (i := 0) (mM_serve l D cI ad (fd_u3 (fd_u3 M 0 0 0 (0)) 2 0 f (x)) hok2 dv Nv hd) (cwV 0 C.1.2.2.2.2 (gM_serve fw3_101) rfl rfl rfl ⟨rfl, by decide, by decide, by decide +kernel⟩ ⟨by decide, by decide⟩) (mo_m (by decide)) rfl rfl rfl (Nat.le_of_ble_eq_true rfl) dM_limit_106 ⟨by decide, by decide⟩ ?_
              exact fd_vret C hr hlk rfl dM_limit_109
            · skip
              exfalso; omega
          · skip
            refine fd_iload_n C dM_limit_49 rfl ?_
            refine fd_aload_n C dM_limit_50 rfl ?_
            refine fd_get C (k := 0) (i := 0) (j := 6) (v := .ref (ad 2 0)) (mo_m (by decide)) rfl rfl (by decide) wsM fw3_43 rfl dM_limit_51 ?_
            refine fd_iload_n C dM_limit_54 rfl ?_
            refine fd_iconst C dM_limit_55 ?_
            refine fd_iadd C dM_limit_56 ?_
            refine fd_iald C (k := 2) (i := 0) (x := f + 1) (v := M 2 0 (f + 1)) (mo_m (by decide)) (fun _ => rfl) (mo_tI cI) rfl (by omega) (by decide) rfl dM_limit_57 ?_
            have e2 := hok.lim (show f + 1 < 4 by omega)
            refine fd_icmp_ge C (tgt := 65) dM_limit_58 rfl ⟨by omega, by omega⟩ ⟨by omega, by omega⟩ (fun h58t => ?_) (fun h58f => ?_)
            · skip
              refine fd_iconst C dM_limit_65 ?_
              refine fd_istore_n C dM_limit_66 (by decide) ?_
              refine fd_aload_n C dM_limit_67 rfl ?_
              refine fd_iload_n C dM_limit_68 rfl ?_
              refine fd_if_eq C (tgt := 76) dM_limit_69 rfl ⟨by omega, by omega⟩ (fun h69t => ?_) (fun h69f => ?_)
              rotate_left
              · exfalso; omega
              refine fd_aload_n C dM_limit_76 rfl ?_
              refine fd_get C (k := 0) (i := 0) (j := 4) (v := .int (fd_I (M 0 0 4))) (mo_m (by decide)) rfl rfl (by decide) wsM fw3_41 rfl dM_limit_77 ?_
              refine fd_if_eq C (tgt := 87) dM_limit_80 rfl ⟨by omega, by omega⟩ (fun h80t => ?_) (fun h80f => ?_)
              · skip
                refine fd_iconst C dM_limit_87 ?_
                refine fd_put C (k := 0) (i := 0) (j := 0) (z := 0) (ty := .int) tyM (mo_m (by decide)) rfl rfl rfl (by decide) wsM tyM_ok nmM fw3_37 rfl (by decide +kernel) rfl rfl (Nat.le_of_ble_eq_true rfl) dM_limit_88 ?_
                refine fd_aload_n C dM_limit_91 rfl ?_
                refine fd_get C (k := 0) (i := 0) (j := 0) (v := .int (fd_I (0))) (mo_m (by decide)) rfl rfl (by decide) wsM fw3_37 (congrArg (fun z => some (Value.int (fd_I z))) (fd_u3_same M 0 0 0 (0))) dM_limit_92 ?_
                refine fd_if_ne C (tgt := 109) dM_limit_95 rfl ⟨by omega, by omega⟩ (fun h95t => ?_) (fun h95f => ?_)
                · exfalso; omega
                refine fd_aload_n C dM_limit_98 rfl ?_
                refine fd_get C (k := 0) (i := 0) (j := 6) (v := .ref (ad 2 0)) (mo_m (by decide)) rfl rfl (by decide) wsM fw3_43 rfl dM_limit_99 ?_
                refine fd_iload_n C dM_limit_102 rfl ?_
                refine fd_iload_n C dM_limit_103 rfl ?_
                refine fd_iast C (k := 2) (i := 0) (x := f) (v := x) (mo_m (by decide)) (fun _ => rfl) (mo_tI cI) rfl (by omega) (by decide) dM_limit_104 ?_
                refine fd_aload_n C dM_limit_105 rfl ?_
                refine fd_callVv C hE [] (k := 0) (i := 0) (mM_serve l D cI ad (fd_u3 (fd_u3 M 0 0 0 (0)) 2 0 f (x)) hok2 dv Nv hd) (cwV 0 C.1.2.2.2.2 (gM_serve fw3_101) rfl rfl rfl ⟨rfl, by decide, by decide, by decide +kernel⟩ ⟨by decide, by decide⟩) (mo_m (by decide)) rfl rfl rfl (Nat.le_of_ble_eq_true rfl) dM_limit_106 ⟨by decide, by decide⟩ ?_
                exact fd_vret C hr hlk rfl dM_limit_109
              · skip
                exfalso; omega
            · skip
              exfalso; omega
    · skip
      exfalso; omega
set_option maxRecDepth 20000 in
theorem mM_price_F (l : Launch) (D : va_G) (cI : ClassId) (ad : Nat → Nat → Nat) (M : fd_Mem) (f x : Int) (hf : -2147483648 ≤ f ∧ f < 2147483648) (hx : -2147483648 ≤ x ∧ x < 2147483648) (hb : f < 0 ∨ 4 ≤ f) : mo_Mv l D cI ad yM_price wM_price ({ frames := 1, cells := 0, slots := 0, locals := 21 }) [.ref (ad 0 0), .int (fd_I (f)), .int (fd_I (x))] M ((fd_u3 M 0 0 0 1)) := by
  refine fd_enterV (by decide) rfl mo_nd (by simp [Value.category]) (Nat.le_of_ble_eq_true rfl) ?_
  intro A p e s m args below meth c C hr hlk hE
  have C : fd_C p m c cM_price 3 s args fd_T "FareDeskModel" D fd_cl (mo_tys cI) mo_wl A := C
  refine fd_pad 0 ?_
  refine fd_aload_n C dM_price_0 rfl ?_
  refine fd_aload_n C dM_price_1 rfl ?_
  refine fd_iload_n C dM_price_2 rfl ?_
  refine fd_callVi C hE [.int (fd_I (f))] (k := 0) (i := 0) (mM_noFare_1 l D cI ad M f hf hb) (cwV 1 C.1.2.2.2.2 (gM_noFare fw3_97) rfl rfl rfl ⟨rfl, by decide, by decide, by decide +kernel⟩ ⟨by decide, by decide⟩) (mo_m (by decide)) rfl rfl rfl (Nat.le_of_ble_eq_true rfl) dM_price_3 ⟨by decide, by decide⟩ ?_
  refine fd_if_ne C (tgt := 20) dM_price_6 rfl ⟨by omega, by omega⟩ (fun h6t => ?_) (fun h6f => ?_)
  rotate_left
  · exfalso; omega
  refine fd_iconst C dM_price_20 ?_
  refine fd_goto C (tgt := 25) dM_price_21 rfl ?_
  refine fd_put C (k := 0) (i := 0) (j := 0) (z := 1) (ty := .int) tyM (mo_m (by decide)) rfl rfl rfl (by decide) wsM tyM_ok nmM fw3_37 rfl (by decide +kernel) rfl rfl (Nat.le_of_ble_eq_true rfl) dM_price_25 ?_
  refine fd_aload_n C dM_price_28 rfl ?_
  refine fd_get C (k := 0) (i := 0) (j := 0) (v := .int (fd_I (1))) (mo_m (by decide)) rfl rfl (by decide) wsM fw3_37 (congrArg (fun z => some (Value.int (fd_I z))) (fd_u3_same M 0 0 0 (1))) dM_price_29 ?_
  refine fd_if_ne C (tgt := 42) dM_price_32 rfl ⟨by omega, by omega⟩ (fun h32t => ?_) (fun h32f => ?_)
  rotate_left
  · exfalso; omega
  exact fd_vret C hr hlk rfl dM_price_42
set_option maxRecDepth 20000 in
theorem mM_price_1 (l : Launch) (D : va_G) (cI : ClassId) (ad : Nat → Nat → Nat) (M : fd_Mem) (f : Nat) (hf : f < 4) (x : Int) (hx : -2147483648 ≤ x ∧ x < 2147483648) (hg : x < 0 ∨ 9999 < x) : mo_Mv l D cI ad yM_price wM_price ({ frames := 1, cells := 0, slots := 0, locals := 21 }) [.ref (ad 0 0), .int (fd_I ((f : Nat) : Int)), .int (fd_I (x))] M ((fd_u3 M 0 0 0 1)) := by
  refine fd_enterV (by decide) rfl mo_nd (by simp [Value.category]) (Nat.le_of_ble_eq_true rfl) ?_
  intro A p e s m args below meth c C hr hlk hE
  have C : fd_C p m c cM_price 3 s args fd_T "FareDeskModel" D fd_cl (mo_tys cI) mo_wl A := C
  refine fd_pad 0 ?_
  refine fd_aload_n C dM_price_0 rfl ?_
  refine fd_aload_n C dM_price_1 rfl ?_
  refine fd_iload_n C dM_price_2 rfl ?_
  refine fd_callVi C hE [.int (fd_I ((f : Nat) : Int))] (k := 0) (i := 0) (mM_noFare_0 l D cI ad M ((f : Nat) : Int) (by omega)) (cwV 1 C.1.2.2.2.2 (gM_noFare fw3_97) rfl rfl rfl ⟨rfl, by decide, by decide, by decide +kernel⟩ ⟨by decide, by decide⟩) (mo_m (by decide)) rfl rfl rfl (Nat.le_of_ble_eq_true rfl) dM_price_3 ⟨by decide, by decide⟩ ?_
  refine fd_if_ne C (tgt := 20) dM_price_6 rfl ⟨by omega, by omega⟩ (fun h6t => ?_) (fun h6f => ?_)
  · exfalso; omega
  refine fd_iload_n C dM_price_9 rfl ?_
  refine fd_if_lt C (tgt := 20) dM_price_10 rfl ⟨by omega, by omega⟩ (fun h10t => ?_) (fun h10f => ?_)
  · skip
    refine fd_iconst C dM_price_20 ?_
    refine fd_goto C (tgt := 25) dM_price_21 rfl ?_
    refine fd_put C (k := 0) (i := 0) (j := 0) (z := 1) (ty := .int) tyM (mo_m (by decide)) rfl rfl rfl (by decide) wsM tyM_ok nmM fw3_37 rfl (by decide +kernel) rfl rfl (Nat.le_of_ble_eq_true rfl) dM_price_25 ?_
    refine fd_aload_n C dM_price_28 rfl ?_
    refine fd_get C (k := 0) (i := 0) (j := 0) (v := .int (fd_I (1))) (mo_m (by decide)) rfl rfl (by decide) wsM fw3_37 (congrArg (fun z => some (Value.int (fd_I z))) (fd_u3_same M 0 0 0 (1))) dM_price_29 ?_
    refine fd_if_ne C (tgt := 42) dM_price_32 rfl ⟨by omega, by omega⟩ (fun h32t => ?_) (fun h32f => ?_)
    rotate_left
    · exfalso; omega
    exact fd_vret C hr hlk rfl dM_price_42
  · skip
    refine fd_iload_n C dM_price_13 rfl ?_
    refine fd_sipush C dM_price_14 (by decide) ?_
    refine fd_icmp_le C (tgt := 24) dM_price_17 rfl ⟨by omega, by omega⟩ ⟨by omega, by omega⟩ (fun h17t => ?_) (fun h17f => ?_)
    · skip
      exfalso; omega
    · skip
      refine fd_iconst C dM_price_20 ?_
      refine fd_goto C (tgt := 25) dM_price_21 rfl ?_
      refine fd_put C (k := 0) (i := 0) (j := 0) (z := 1) (ty := .int) tyM (mo_m (by decide)) rfl rfl rfl (by decide) wsM tyM_ok nmM fw3_37 rfl (by decide +kernel) rfl rfl (Nat.le_of_ble_eq_true rfl) dM_price_25 ?_
      refine fd_aload_n C dM_price_28 rfl ?_
      refine fd_get C (k := 0) (i := 0) (j := 0) (v := .int (fd_I (1))) (mo_m (by decide)) rfl rfl (by decide) wsM fw3_37 (congrArg (fun z => some (Value.int (fd_I z))) (fd_u3_same M 0 0 0 (1))) dM_price_29 ?_
      refine fd_if_ne C (tgt := 42) dM_price_32 rfl ⟨by omega, by omega⟩ (fun h32t => ?_) (fun h32f => ?_)
      rotate_left
      · exfalso; omega
      exact fd_vret C hr hlk rfl dM_price_42
set_option maxRecDepth 20000 in
theorem mM_price (l : Launch) (D : va_G) (cI : ClassId) (ad : Nat → Nat → Nat) (M : fd_Mem) (f : Nat) (hf : f < 4) (x : Int) (hg : 0 ≤ x ∧ x ≤ 9999) : mo_Mv l D cI ad yM_price wM_price ({ frames := 1, cells := 0, slots := 0, locals := 21 }) [.ref (ad 0 0), .int (fd_I ((f : Nat) : Int)), .int (fd_I (x))] M (fd_u3 (fd_u3 M 0 0 0 0) 1 0 f x) := by
  refine fd_enterV (by decide) rfl mo_nd (by simp [Value.category]) (Nat.le_of_ble_eq_true rfl) ?_
  intro A p e s m args below meth c C hr hlk hE
  have C : fd_C p m c cM_price 3 s args fd_T "FareDeskModel" D fd_cl (mo_tys cI) mo_wl A := C
  refine fd_pad 0 ?_
  refine fd_aload_n C dM_price_0 rfl ?_
  refine fd_aload_n C dM_price_1 rfl ?_
  refine fd_iload_n C dM_price_2 rfl ?_
  refine fd_callVi C hE [.int (fd_I ((f : Nat) : Int))] (k := 0) (i := 0) (mM_noFare_0 l D cI ad M ((f : Nat) : Int) (by omega)) (cwV 1 C.1.2.2.2.2 (gM_noFare fw3_97) rfl rfl rfl ⟨rfl, by decide, by decide, by decide +kernel⟩ ⟨by decide, by decide⟩) (mo_m (by decide)) rfl rfl rfl (Nat.le_of_ble_eq_true rfl) dM_price_3 ⟨by decide, by decide⟩ ?_
  refine fd_if_ne C (tgt := 20) dM_price_6 rfl ⟨by omega, by omega⟩ (fun h6t => ?_) (fun h6f => ?_)
  · exfalso; omega
  refine fd_iload_n C dM_price_9 rfl ?_
  refine fd_if_lt C (tgt := 20) dM_price_10 rfl ⟨by omega, by omega⟩ (fun h10t => ?_) (fun h10f => ?_)
  · skip
    exfalso; omega
  · skip
    refine fd_iload_n C dM_price_13 rfl ?_
    refine fd_sipush C dM_price_14 (by decide) ?_
    refine fd_icmp_le C (tgt := 24) dM_price_17 rfl ⟨by omega, by omega⟩ ⟨by omega, by omega⟩ (fun h17t => ?_) (fun h17f => ?_)
    · skip
      refine fd_iconst C dM_price_24 ?_
      refine fd_put C (k := 0) (i := 0) (j := 0) (z := 0) (ty := .int) tyM (mo_m (by decide)) rfl rfl rfl (by decide) wsM tyM_ok nmM fw3_37 rfl (by decide +kernel) rfl rfl (Nat.le_of_ble_eq_true rfl) dM_price_25 ?_
      refine fd_aload_n C dM_price_28 rfl ?_
      refine fd_get C (k := 0) (i := 0) (j := 0) (v := .int (fd_I (0))) (mo_m (by decide)) rfl rfl (by decide) wsM fw3_37 (congrArg (fun z => some (Value.int (fd_I z))) (fd_u3_same M 0 0 0 (0))) dM_price_29 ?_
      refine fd_if_ne C (tgt := 42) dM_price_32 rfl ⟨by omega, by omega⟩ (fun h32t => ?_) (fun h32f => ?_)
      · exfalso; omega
      refine fd_aload_n C dM_price_35 rfl ?_
      refine fd_get C (k := 0) (i := 0) (j := 5) (v := .ref (ad 1 0)) (mo_m (by decide)) rfl rfl (by decide) wsM fw3_42 rfl dM_price_36 ?_
      refine fd_iload_n C dM_price_39 rfl ?_
      refine fd_iload_n C dM_price_40 rfl ?_
      refine fd_iast C (k := 1) (i := 0) (x := f) (v := x) (mo_m (by decide)) (fun _ => rfl) (mo_tI cI) rfl (by omega) (by decide) dM_price_41 ?_
      exact fd_vret C hr hlk rfl dM_price_42
    · skip
      exfalso; omega
set_option maxRecDepth 20000 in
theorem mM_room_F (l : Launch) (D : va_G) (cI : ClassId) (ad : Nat → Nat → Nat) (M : fd_Mem) (f : Int) (hf : -2147483648 ≤ f ∧ f < 2147483648) (hb : f < 0 ∨ 4 ≤ f) : mo_Mi l D cI ad yM_room wM_room ({ frames := 1, cells := 0, slots := 0, locals := 21 }) [.ref (ad 0 0), .int (fd_I (f))] M (0) ((fd_u3 M 0 0 0 1)) := by
  refine fd_enterI (by decide) rfl mo_nd (by simp [Value.category]) (Nat.le_of_ble_eq_true rfl) ?_
  intro A p e s m args below meth c C hr hlk hE
  have C : fd_C p m c cM_room 2 s args fd_T "FareDeskModel" D fd_cl (mo_tys cI) mo_wl A := C
  refine fd_pad 0 ?_
  refine fd_aload_n C dM_room_0 rfl ?_
  refine fd_aload_n C dM_room_1 rfl ?_
  refine fd_iload_n C dM_room_2 rfl ?_
  refine fd_callVi C hE [.int (fd_I (f))] (k := 0) (i := 0) (mM_noFare_1 l D cI ad M f hf hb) (cwV 1 C.1.2.2.2.2 (gM_noFare fw3_97) rfl rfl rfl ⟨rfl, by decide, by decide, by decide +kernel⟩ ⟨by decide, by decide⟩) (mo_m (by decide)) rfl rfl rfl (Nat.le_of_ble_eq_true rfl) dM_room_3 ⟨by decide, by decide⟩ ?_
  refine fd_if_eq C (tgt := 13) dM_room_6 rfl ⟨by omega, by omega⟩ (fun h6t => ?_) (fun h6f => ?_)
  · exfalso; omega
  refine fd_iconst C dM_room_9 ?_
  refine fd_goto C (tgt := 14) dM_room_10 rfl ?_
  refine fd_put C (k := 0) (i := 0) (j := 0) (z := 1) (ty := .int) tyM (mo_m (by decide)) rfl rfl rfl (by decide) wsM tyM_ok nmM fw3_37 rfl (by decide +kernel) rfl rfl (Nat.le_of_ble_eq_true rfl) dM_room_14 ?_
  refine fd_aload_n C dM_room_17 rfl ?_
  refine fd_get C (k := 0) (i := 0) (j := 0) (v := .int (fd_I (1))) (mo_m (by decide)) rfl rfl (by decide) wsM fw3_37 (congrArg (fun z => some (Value.int (fd_I z))) (fd_u3_same M 0 0 0 (1))) dM_room_18 ?_
  refine fd_if_ne C (tgt := 33) dM_room_21 rfl ⟨by omega, by omega⟩ (fun h21t => ?_) (fun h21f => ?_)
  rotate_left
  · exfalso; omega
  refine fd_iconst C dM_room_33 ?_
  exact fd_iret C hr hlk (by first | rfl | omega | (split <;> omega) | (simp; omega)) rfl dM_room_34
set_option maxRecDepth 20000 in
theorem mM_room (l : Launch) (D : va_G) (cI : ClassId) (ad : Nat → Nat → Nat) (M : fd_Mem) (f : Nat) (hf : f < 4) (hok : mo_ok M)  : mo_Mi l D cI ad yM_room wM_room ({ frames := 2, cells := 0, slots := 0, locals := 48 }) [.ref (ad 0 0), .int (fd_I ((f : Nat) : Int))] M (mo_r (fd_u3 M 0 0 0 0) (-1) (f + 1)) ((fd_u3 M 0 0 0 0)) := by
  refine fd_enterI (by decide) rfl mo_nd (by simp [Value.category]) (Nat.le_of_ble_eq_true rfl) ?_
  intro A p e s m args below meth c C hr hlk hE
  have C : fd_C p m c cM_room 2 s args fd_T "FareDeskModel" D fd_cl (mo_tys cI) mo_wl A := C
  refine fd_pad 0 ?_
  refine fd_aload_n C dM_room_0 rfl ?_
  refine fd_aload_n C dM_room_1 rfl ?_
  refine fd_iload_n C dM_room_2 rfl ?_
  refine fd_callVi C hE [.int (fd_I ((f : Nat) : Int))] (k := 0) (i := 0) (mM_noFare_0 l D cI ad M ((f : Nat) : Int) (by omega)) (cwV 1 C.1.2.2.2.2 (gM_noFare fw3_97) rfl rfl rfl ⟨rfl, by decide, by decide, by decide +kernel⟩ ⟨by decide, by decide⟩) (mo_m (by decide)) rfl rfl rfl (Nat.le_of_ble_eq_true rfl) dM_room_3 ⟨by decide, by decide⟩ ?_
  refine fd_if_eq C (tgt := 13) dM_room_6 rfl ⟨by omega, by omega⟩ (fun h6t => ?_) (fun h6f => ?_)
  rotate_left
  · exfalso; omega
  refine fd_iconst C dM_room_13 ?_
  refine fd_put C (k := 0) (i := 0) (j := 0) (z := 0) (ty := .int) tyM (mo_m (by decide)) rfl rfl rfl (by decide) wsM tyM_ok nmM fw3_37 rfl (by decide +kernel) rfl rfl (Nat.le_of_ble_eq_true rfl) dM_room_14 ?_
  refine fd_aload_n C dM_room_17 rfl ?_
  refine fd_get C (k := 0) (i := 0) (j := 0) (v := .int (fd_I (0))) (mo_m (by decide)) rfl rfl (by decide) wsM fw3_37 (congrArg (fun z => some (Value.int (fd_I z))) (fd_u3_same M 0 0 0 (0))) dM_room_18 ?_
  refine fd_if_ne C (tgt := 33) dM_room_21 rfl ⟨by omega, by omega⟩ (fun h21t => ?_) (fun h21f => ?_)
  · exfalso; omega
  refine fd_aload_n C dM_room_24 rfl ?_
  refine fd_iload_n C dM_room_25 rfl ?_
  refine fd_iconst C dM_room_26 ?_
  refine fd_callVi C hE [.int (fd_I ((f : Nat) : Int)), .int (fd_I (-1))] (k := 0) (i := 0) (mM_roomOf l D cI ad (fd_u3 M 0 0 0 (0)) ((f : Nat) : Int) (-1) (by omega) (by omega) (hok.thr 0)) (cwV 2 C.1.2.2.2.2 (gM_roomOf fw3_105) rfl rfl rfl ⟨rfl, by decide, by decide, by decide +kernel⟩ ⟨by decide, by decide⟩) (mo_m (by decide)) rfl rfl rfl (Nat.le_of_ble_eq_true rfl) dM_room_27 ⟨by decide, by decide⟩ ?_
  refine fd_goto C (tgt := 34) dM_room_30 rfl ?_
  exact fd_iret C hr hlk (by first | rfl | omega | (split <;> omega) | (simp; omega)) rfl dM_room_34
set_option maxRecDepth 20000 in
theorem mM_checked_1 (l : Launch) (D : va_G) (cI : ClassId) (ad : Nat → Nat → Nat) (M : fd_Mem) (f pl tk : Int) (hf : -2147483648 ≤ f ∧ f < 2147483648) (hpl : -2147483648 ≤ pl ∧ pl < 2147483648) (htk : -2147483648 ≤ tk ∧ tk < 2147483648) (hg : ¬ ((0 ≤ f ∧ f < 4) ∧ (1 ≤ pl ∧ pl ≤ 6) ∧ (1 ≤ tk ∧ tk ≤ 50)))  : mo_Mi l D cI ad yM_checked wM_checked ({ frames := 1, cells := 0, slots := 0, locals := 21 }) [.ref (ad 0 0), .int (fd_I (f)), .int (fd_I (pl)), .int (fd_I (tk))] M (1) (M) := by
  refine fd_enterI (by decide) rfl mo_nd (by simp [Value.category]) (Nat.le_of_ble_eq_true rfl) ?_
  intro A p e s m args below meth c C hr hlk hE
  have C : fd_C p m c cM_checked 4 s args fd_T "FareDeskModel" D fd_cl (mo_tys cI) mo_wl A := C
  refine fd_pad 0 ?_
  refine fd_aload_n C dM_checked_0 rfl ?_
  refine fd_iload_n C dM_checked_1 rfl ?_
  by_cases hs2 : (0 ≤ f ∧ f < 4)
  · skip
    refine fd_callVi C hE [.int (fd_I (f))] (k := 0) (i := 0) (mM_noFare_0 l D cI ad M f hs2) (cwV 1 C.1.2.2.2.2 (gM_noFare fw3_97) rfl rfl rfl ⟨rfl, by decide, by decide, by decide +kernel⟩ ⟨by decide, by decide⟩) (mo_m (by decide)) rfl rfl rfl (Nat.le_of_ble_eq_true rfl) dM_checked_2 ⟨by decide, by decide⟩ ?_
    refine fd_if_ne C (tgt := 30) dM_checked_5 rfl ⟨by omega, by omega⟩ (fun h5t => ?_) (fun h5f => ?_)
    · exfalso; omega
    refine fd_iload_n C dM_checked_8 rfl ?_
    refine fd_iconst C dM_checked_9 ?_
    refine fd_icmp_lt C (tgt := 30) dM_checked_10 rfl ⟨by omega, by omega⟩ ⟨by omega, by omega⟩ (fun h10t => ?_) (fun h10f => ?_)
    · skip
      refine fd_iconst C dM_checked_30 ?_
      refine fd_goto C (tgt := 55) dM_checked_31 rfl ?_
      exact fd_iret C hr hlk (by first | rfl | omega | (split <;> omega) | (simp; omega)) rfl dM_checked_55
    · skip
      refine fd_iload_n C dM_checked_13 rfl ?_
      refine fd_bipush C dM_checked_14 (by decide) ?_
      refine fd_icmp_gt C (tgt := 30) dM_checked_16 rfl ⟨by omega, by omega⟩ ⟨by omega, by omega⟩ (fun h16t => ?_) (fun h16f => ?_)
      · skip
        refine fd_iconst C dM_checked_30 ?_
        refine fd_goto C (tgt := 55) dM_checked_31 rfl ?_
        exact fd_iret C hr hlk (by first | rfl | omega | (split <;> omega) | (simp; omega)) rfl dM_checked_55
      · skip
        refine fd_iload_n C dM_checked_19 rfl ?_
        refine fd_iconst C dM_checked_20 ?_
        refine fd_icmp_lt C (tgt := 30) dM_checked_21 rfl ⟨by omega, by omega⟩ ⟨by omega, by omega⟩ (fun h21t => ?_) (fun h21f => ?_)
        · skip
          refine fd_iconst C dM_checked_30 ?_
          refine fd_goto C (tgt := 55) dM_checked_31 rfl ?_
          exact fd_iret C hr hlk (by first | rfl | omega | (split <;> omega) | (simp; omega)) rfl dM_checked_55
        · skip
          refine fd_iload_n C dM_checked_24 rfl ?_
          refine fd_bipush C dM_checked_25 (by decide) ?_
          refine fd_icmp_le C (tgt := 34) dM_checked_27 rfl ⟨by omega, by omega⟩ ⟨by omega, by omega⟩ (fun h27t => ?_) (fun h27f => ?_)
          · skip
            exfalso; omega
          · skip
            refine fd_iconst C dM_checked_30 ?_
            refine fd_goto C (tgt := 55) dM_checked_31 rfl ?_
            exact fd_iret C hr hlk (by first | rfl | omega | (split <;> omega) | (simp; omega)) rfl dM_checked_55
  · skip
    refine fd_callVi C hE [.int (fd_I (f))] (k := 0) (i := 0) (mM_noFare_1 l D cI ad M f hf (by omega)) (cwV 1 C.1.2.2.2.2 (gM_noFare fw3_97) rfl rfl rfl ⟨rfl, by decide, by decide, by decide +kernel⟩ ⟨by decide, by decide⟩) (mo_m (by decide)) rfl rfl rfl (Nat.le_of_ble_eq_true rfl) dM_checked_2 ⟨by decide, by decide⟩ ?_
    refine fd_if_ne C (tgt := 30) dM_checked_5 rfl ⟨by omega, by omega⟩ (fun h5t => ?_) (fun h5f => ?_)
    rotate_left
    · exfalso; omega
    refine fd_iconst C dM_checked_30 ?_
    refine fd_goto C (tgt := 55) dM_checked_31 rfl ?_
    exact fd_iret C hr hlk (by first | rfl | omega | (split <;> omega) | (simp; omega)) rfl dM_checked_55
set_option maxRecDepth 20000 in
theorem mM_checked_2 (l : Launch) (D : va_G) (cI : ClassId) (ad : Nat → Nat → Nat) (M : fd_Mem) (f pl tk : Int) (hf : (0 ≤ f ∧ f < 4)) (hp : (1 ≤ pl ∧ pl ≤ 6)) (ht : (1 ≤ tk ∧ tk ≤ 50)) (hc : 0 ≤ M 0 0 4 ∧ M 0 0 4 ≤ 1) (hm : 0 ≤ M 0 0 7 ∧ M 0 0 7 ≤ 60) (hb : M 0 0 4 = 1 ∨ 60 ≤ M 0 0 7)  : mo_Mi l D cI ad yM_checked wM_checked ({ frames := 1, cells := 0, slots := 0, locals := 21 }) [.ref (ad 0 0), .int (fd_I (f)), .int (fd_I (pl)), .int (fd_I (tk))] M (2) (M) := by
  refine fd_enterI (by decide) rfl mo_nd (by simp [Value.category]) (Nat.le_of_ble_eq_true rfl) ?_
  intro A p e s m args below meth c C hr hlk hE
  have C : fd_C p m c cM_checked 4 s args fd_T "FareDeskModel" D fd_cl (mo_tys cI) mo_wl A := C
  refine fd_pad 0 ?_
  refine fd_aload_n C dM_checked_0 rfl ?_
  refine fd_iload_n C dM_checked_1 rfl ?_
  refine fd_callVi C hE [.int (fd_I (f))] (k := 0) (i := 0) (mM_noFare_0 l D cI ad M f hf) (cwV 1 C.1.2.2.2.2 (gM_noFare fw3_97) rfl rfl rfl ⟨rfl, by decide, by decide, by decide +kernel⟩ ⟨by decide, by decide⟩) (mo_m (by decide)) rfl rfl rfl (Nat.le_of_ble_eq_true rfl) dM_checked_2 ⟨by decide, by decide⟩ ?_
  refine fd_if_ne C (tgt := 30) dM_checked_5 rfl ⟨by omega, by omega⟩ (fun h5t => ?_) (fun h5f => ?_)
  · exfalso; omega
  refine fd_iload_n C dM_checked_8 rfl ?_
  refine fd_iconst C dM_checked_9 ?_
  refine fd_icmp_lt C (tgt := 30) dM_checked_10 rfl ⟨by omega, by omega⟩ ⟨by omega, by omega⟩ (fun h10t => ?_) (fun h10f => ?_)
  · skip
    exfalso; omega
  · skip
    refine fd_iload_n C dM_checked_13 rfl ?_
    refine fd_bipush C dM_checked_14 (by decide) ?_
    refine fd_icmp_gt C (tgt := 30) dM_checked_16 rfl ⟨by omega, by omega⟩ ⟨by omega, by omega⟩ (fun h16t => ?_) (fun h16f => ?_)
    · skip
      exfalso; omega
    · skip
      refine fd_iload_n C dM_checked_19 rfl ?_
      refine fd_iconst C dM_checked_20 ?_
      refine fd_icmp_lt C (tgt := 30) dM_checked_21 rfl ⟨by omega, by omega⟩ ⟨by omega, by omega⟩ (fun h21t => ?_) (fun h21f => ?_)
      · skip
        exfalso; omega
      · skip
        refine fd_iload_n C dM_checked_24 rfl ?_
        refine fd_bipush C dM_checked_25 (by decide) ?_
        refine fd_icmp_le C (tgt := 34) dM_checked_27 rfl ⟨by omega, by omega⟩ ⟨by omega, by omega⟩ (fun h27t => ?_) (fun h27f => ?_)
        · skip
          refine fd_aload_n C dM_checked_34 rfl ?_
          refine fd_get C (k := 0) (i := 0) (j := 4) (v := .int (fd_I (M 0 0 4))) (mo_m (by decide)) rfl rfl (by decide) wsM fw3_41 rfl dM_checked_35 ?_
          refine fd_if_ne C (tgt := 50) dM_checked_38 rfl ⟨by omega, by omega⟩ (fun h38t => ?_) (fun h38f => ?_)
          · skip
            refine fd_iconst C dM_checked_50 ?_
            refine fd_goto C (tgt := 55) dM_checked_51 rfl ?_
            exact fd_iret C hr hlk (by first | rfl | omega | (split <;> omega) | (simp; omega)) rfl dM_checked_55
          · skip
            refine fd_aload_n C dM_checked_41 rfl ?_
            refine fd_get C (k := 0) (i := 0) (j := 7) (v := .int (fd_I (M 0 0 7))) (mo_m (by decide)) rfl rfl (by decide) wsM fw3_44 rfl dM_checked_42 ?_
            refine fd_bipush C dM_checked_45 (by decide) ?_
            refine fd_icmp_ne C (tgt := 54) dM_checked_47 rfl ⟨by omega, by omega⟩ ⟨by omega, by omega⟩ (fun h47t => ?_) (fun h47f => ?_)
            · skip
              exfalso; omega
            · skip
              refine fd_iconst C dM_checked_50 ?_
              refine fd_goto C (tgt := 55) dM_checked_51 rfl ?_
              exact fd_iret C hr hlk (by first | rfl | omega | (split <;> omega) | (simp; omega)) rfl dM_checked_55
        · skip
          exfalso; omega
set_option maxRecDepth 20000 in
theorem mM_checked_0 (l : Launch) (D : va_G) (cI : ClassId) (ad : Nat → Nat → Nat) (M : fd_Mem) (f pl tk : Int) (hf : (0 ≤ f ∧ f < 4)) (hp : (1 ≤ pl ∧ pl ≤ 6)) (ht : (1 ≤ tk ∧ tk ≤ 50)) (hc : M 0 0 4 = 0) (hm : 0 ≤ M 0 0 7 ∧ M 0 0 7 < 60)  : mo_Mi l D cI ad yM_checked wM_checked ({ frames := 1, cells := 0, slots := 0, locals := 21 }) [.ref (ad 0 0), .int (fd_I (f)), .int (fd_I (pl)), .int (fd_I (tk))] M (0) (M) := by
  refine fd_enterI (by decide) rfl mo_nd (by simp [Value.category]) (Nat.le_of_ble_eq_true rfl) ?_
  intro A p e s m args below meth c C hr hlk hE
  have C : fd_C p m c cM_checked 4 s args fd_T "FareDeskModel" D fd_cl (mo_tys cI) mo_wl A := C
  refine fd_pad 0 ?_
  refine fd_aload_n C dM_checked_0 rfl ?_
  refine fd_iload_n C dM_checked_1 rfl ?_
  refine fd_callVi C hE [.int (fd_I (f))] (k := 0) (i := 0) (mM_noFare_0 l D cI ad M f hf) (cwV 1 C.1.2.2.2.2 (gM_noFare fw3_97) rfl rfl rfl ⟨rfl, by decide, by decide, by decide +kernel⟩ ⟨by decide, by decide⟩) (mo_m (by decide)) rfl rfl rfl (Nat.le_of_ble_eq_true rfl) dM_checked_2 ⟨by decide, by decide⟩ ?_
  refine fd_if_ne C (tgt := 30) dM_checked_5 rfl ⟨by omega, by omega⟩ (fun h5t => ?_) (fun h5f => ?_)
  · exfalso; omega
  refine fd_iload_n C dM_checked_8 rfl ?_
  refine fd_iconst C dM_checked_9 ?_
  refine fd_icmp_lt C (tgt := 30) dM_checked_10 rfl ⟨by omega, by omega⟩ ⟨by omega, by omega⟩ (fun h10t => ?_) (fun h10f => ?_)
  · skip
    exfalso; omega
  · skip
    refine fd_iload_n C dM_checked_13 rfl ?_
    refine fd_bipush C dM_checked_14 (by decide) ?_
    refine fd_icmp_gt C (tgt := 30) dM_checked_16 rfl ⟨by omega, by omega⟩ ⟨by omega, by omega⟩ (fun h16t => ?_) (fun h16f => ?_)
    · skip
      exfalso; omega
    · skip
      refine fd_iload_n C dM_checked_19 rfl ?_
      refine fd_iconst C dM_checked_20 ?_
      refine fd_icmp_lt C (tgt := 30) dM_checked_21 rfl ⟨by omega, by omega⟩ ⟨by omega, by omega⟩ (fun h21t => ?_) (fun h21f => ?_)
      · skip
        exfalso; omega
      · skip
        refine fd_iload_n C dM_checked_24 rfl ?_
        refine fd_bipush C dM_checked_25 (by decide) ?_
        refine fd_icmp_le C (tgt := 34) dM_checked_27 rfl ⟨by omega, by omega⟩ ⟨by omega, by omega⟩ (fun h27t => ?_) (fun h27f => ?_)
        · skip
          refine fd_aload_n C dM_checked_34 rfl ?_
          refine fd_get C (k := 0) (i := 0) (j := 4) (v := .int (fd_I (M 0 0 4))) (mo_m (by decide)) rfl rfl (by decide) wsM fw3_41 rfl dM_checked_35 ?_
          refine fd_if_ne C (tgt := 50) dM_checked_38 rfl ⟨by omega, by omega⟩ (fun h38t => ?_) (fun h38f => ?_)
          · skip
            exfalso; omega
          · skip
            refine fd_aload_n C dM_checked_41 rfl ?_
            refine fd_get C (k := 0) (i := 0) (j := 7) (v := .int (fd_I (M 0 0 7))) (mo_m (by decide)) rfl rfl (by decide) wsM fw3_44 rfl dM_checked_42 ?_
            refine fd_bipush C dM_checked_45 (by decide) ?_
            refine fd_icmp_ne C (tgt := 54) dM_checked_47 rfl ⟨by omega, by omega⟩ ⟨by omega, by omega⟩ (fun h47t => ?_) (fun h47f => ?_)
            · skip
              refine fd_iconst C dM_checked_54 ?_
              exact fd_iret C hr hlk (by first | rfl | omega | (split <;> omega) | (simp; omega)) rfl dM_checked_55
            · skip
              exfalso; omega
        · skip
          exfalso; omega
set_option maxRecDepth 20000 in
theorem mM_make (l : Launch) (D : va_G) (cI : ClassId) (ad : Nat → Nat → Nat) (M : fd_Mem) (st9 f pl tk : Int) (hm : 0 ≤ M 0 0 7 ∧ M 0 0 7 < 60) : mo_Mi l D cI ad yM_make wM_make ({ frames := 0, cells := 0, slots := 0, locals := 0 }) [.ref (ad 0 0), .int (fd_I (st9)), .int (fd_I (f)), .int (fd_I (pl)), .int (fd_I (tk))] M (M 0 0 7) (mo_mk M st9 f pl tk) := by
  refine fd_enterI (by decide) rfl mo_nd (by simp [Value.category]) (Nat.le_of_ble_eq_true rfl) ?_
  intro A p e s m args below meth c C hr hlk hE
  have C : fd_C p m c cM_make 6 s args fd_T "FareDeskModel" D fd_cl (mo_tys cI) mo_wl A := C
  refine fd_pad 1 ?_
  refine fd_aload_n C dM_make_0 rfl ?_
  refine fd_get C (k := 0) (i := 0) (j := 7) (v := .int (fd_I (M 0 0 7))) (mo_m (by decide)) rfl rfl (by decide) wsM fw3_44 rfl dM_make_1 ?_
  refine fd_istore C dM_make_4 (by decide) ?_
  refine fd_aload_n C dM_make_6 rfl ?_
  refine fd_get C (k := 0) (i := 0) (j := 8) (v := .ref (ad 3 0)) (mo_m (by decide)) rfl rfl (by decide) wsM fw3_45 rfl dM_make_7 ?_
  refine fd_iload C dM_make_10 rfl ?_
  refine fd_iload_n C dM_make_12 rfl ?_
  refine fd_iast C (k := 3) (i := 0) (x := (M 0 0 7).toNat) (v := st9) (mo_m (by decide)) (fun _ => rfl) (mo_tI cI) (Int.toNat_of_nonneg (by omega)).symm (by omega) (by decide) dM_make_13 ?_
  refine fd_aload_n C dM_make_14 rfl ?_
  refine fd_get C (k := 0) (i := 0) (j := 9) (v := .ref (ad 4 0)) (mo_m (by decide)) rfl rfl (by decide) wsM fw3_46 rfl dM_make_15 ?_
  refine fd_iload C dM_make_18 rfl ?_
  refine fd_iload_n C dM_make_20 rfl ?_
  refine fd_iast C (k := 4) (i := 0) (x := (M 0 0 7).toNat) (v := f) (mo_m (by decide)) (fun _ => rfl) (mo_tI cI) (Int.toNat_of_nonneg (by omega)).symm (by omega) (by decide) dM_make_21 ?_
  refine fd_aload_n C dM_make_22 rfl ?_
  refine fd_get C (k := 0) (i := 0) (j := 10) (v := .ref (ad 5 0)) (mo_m (by decide)) rfl rfl (by decide) wsM fw3_47 rfl dM_make_23 ?_
  refine fd_iload C dM_make_26 rfl ?_
  refine fd_iload_n C dM_make_28 rfl ?_
  refine fd_iast C (k := 5) (i := 0) (x := (M 0 0 7).toNat) (v := pl) (mo_m (by decide)) (fun _ => rfl) (mo_tI cI) (Int.toNat_of_nonneg (by omega)).symm (by omega) (by decide) dM_make_29 ?_
  refine fd_aload_n C dM_make_30 rfl ?_
  refine fd_get C (k := 0) (i := 0) (j := 11) (v := .ref (ad 6 0)) (mo_m (by decide)) rfl rfl (by decide) wsM fw3_48 rfl dM_make_31 ?_
  refine fd_iload C dM_make_34 rfl ?_
  refine fd_iload C dM_make_36 rfl ?_
  refine fd_iast C (k := 6) (i := 0) (x := (M 0 0 7).toNat) (v := tk) (mo_m (by decide)) (fun _ => rfl) (mo_tI cI) (Int.toNat_of_nonneg (by omega)).symm (by omega) (by decide) dM_make_38 ?_
  refine fd_aload_n C dM_make_39 rfl ?_
  refine fd_get C (k := 0) (i := 0) (j := 12) (v := .ref (ad 7 0)) (mo_m (by decide)) rfl rfl (by decide) wsM fw3_49 rfl dM_make_40 ?_
  refine fd_iload C dM_make_43 rfl ?_
  refine fd_aload_n C dM_make_45 rfl ?_
  refine fd_get C (k := 0) (i := 0) (j := 2) (v := .int (fd_I (M 0 0 2))) (mo_m (by decide)) rfl rfl (by decide) wsM fw3_39 rfl dM_make_46 ?_
  refine fd_iload C dM_make_49 rfl ?_
  refine fd_iadd C dM_make_51 ?_
  refine fd_iast C (k := 7) (i := 0) (x := (M 0 0 7).toNat) (v := ((M 0 0 2) + tk)) (mo_m (by decide)) (fun _ => rfl) (mo_tI cI) (Int.toNat_of_nonneg (by omega)).symm (by omega) (by decide) dM_make_52 ?_
  refine fd_aload_n C dM_make_53 rfl ?_
  refine fd_dup C dM_make_54 rfl ?_
  refine fd_get C (k := 0) (i := 0) (j := 7) (v := .int (fd_I (M 0 0 7))) (mo_m (by decide)) rfl rfl (by decide) wsM fw3_44 rfl dM_make_55 ?_
  refine fd_iconst C dM_make_58 ?_
  refine fd_iadd C dM_make_59 ?_
  refine fd_put C (k := 0) (i := 0) (j := 7) (z := ((M 0 0 7) + 1)) (ty := .int) tyM (mo_m (by decide)) rfl rfl rfl (by decide) wsM tyM_ok nmM fw3_44 rfl (by decide +kernel) rfl rfl (Nat.le_of_ble_eq_true rfl) dM_make_60 ?_
  refine fd_iload C dM_make_63 rfl ?_
  exact fd_iret C hr hlk (by first | rfl | omega | (split <;> omega) | (simp; omega)) rfl dM_make_65
set_option maxRecDepth 20000 in
theorem mM_hold_1 (l : Launch) (D : va_G) (cI : ClassId) (ad : Nat → Nat → Nat) (M : fd_Mem) (f pl tk : Int) (hf : -2147483648 ≤ f ∧ f < 2147483648) (hpl : -2147483648 ≤ pl ∧ pl < 2147483648) (htk : -2147483648 ≤ tk ∧ tk < 2147483648) (hg : ¬ ((0 ≤ f ∧ f < 4) ∧ (1 ≤ pl ∧ pl ≤ 6) ∧ (1 ≤ tk ∧ tk ≤ 50)))  : mo_Mi l D cI ad yM_hold wM_hold ({ frames := 2, cells := 0, slots := 0, locals := 44 }) [.ref (ad 0 0), .int (fd_I (f)), .int (fd_I (pl)), .int (fd_I (tk))] M (0) ((fd_u3 M 0 0 0 1)) := by
  refine fd_enterI (by decide) rfl mo_nd (by simp [Value.category]) (Nat.le_of_ble_eq_true rfl) ?_
  intro A p e s m args below meth c C hr hlk hE
  have C : fd_C p m c cM_hold 4 s args fd_T "FareDeskModel" D fd_cl (mo_tys cI) mo_wl A := C
  refine fd_pad 0 ?_
  refine fd_aload_n C dM_hold_0 rfl ?_
  refine fd_aload_n C dM_hold_1 rfl ?_
  refine fd_iload_n C dM_hold_2 rfl ?_
  refine fd_iload_n C dM_hold_3 rfl ?_
  refine fd_iload_n C dM_hold_4 rfl ?_
  refine fd_callVi C hE [.int (fd_I (f)), .int (fd_I (pl)), .int (fd_I (tk))] (k := 0) (i := 0) (mM_checked_1 l D cI ad M f pl tk hf hpl htk hg) (cwV 3 C.1.2.2.2.2 (gM_checked fw3_125) rfl rfl rfl ⟨rfl, by decide, by decide, by decide +kernel⟩ ⟨by decide, by decide⟩) (mo_m (by decide)) rfl rfl rfl (Nat.le_of_ble_eq_true rfl) dM_hold_5 ⟨by decide, by decide⟩ ?_
  refine fd_put C (k := 0) (i := 0) (j := 0) (z := 1) (ty := .int) tyM (mo_m (by decide)) rfl rfl rfl (by decide) wsM tyM_ok nmM fw3_37 rfl (by decide +kernel) rfl rfl (Nat.le_of_ble_eq_true rfl) dM_hold_8 ?_
  refine fd_aload_n C dM_hold_11 rfl ?_
  refine fd_aload_n C dM_hold_12 rfl ?_
  refine fd_get C (k := 0) (i := 0) (j := 0) (v := .int (fd_I (1))) (mo_m (by decide)) rfl rfl (by decide) wsM fw3_37 (congrArg (fun z => some (Value.int (fd_I z))) (fd_u3_same M 0 0 0 (1))) dM_hold_13 ?_
  refine fd_if_ne C (tgt := 33) dM_hold_16 rfl ⟨by omega, by omega⟩ (fun h16t => ?_) (fun h16f => ?_)
  rotate_left
  · exfalso; omega
  refine fd_aload_n C dM_hold_33 rfl ?_
  refine fd_get C (k := 0) (i := 0) (j := 0) (v := .int (fd_I (1))) (mo_m (by decide)) rfl rfl (by decide) wsM fw3_37 (congrArg (fun z => some (Value.int (fd_I z))) (fd_u3_same M 0 0 0 (1))) dM_hold_34 ?_
  refine fd_put C (k := 0) (i := 0) (j := 0) (z := 1) (ty := .int) tyM (mo_m (by decide)) rfl rfl rfl (by decide) wsM tyM_ok nmM fw3_37 rfl (by decide +kernel) rfl rfl (Nat.le_of_ble_eq_true rfl) dM_hold_37 ?_
  refine fd_aload_n C dM_hold_40 rfl ?_
  refine fd_get C (k := 0) (i := 0) (j := 0) (v := .int (fd_I (1))) (mo_m (by decide)) rfl rfl (by decide) wsM fw3_37 (congrArg (fun z => some (Value.int (fd_I z))) (fd_u3_same (fd_u3 M 0 0 0 (1)) 0 0 0 (1))) dM_hold_41 ?_
  refine fd_if_ne C (tgt := 58) dM_hold_44 rfl ⟨by omega, by omega⟩ (fun h44t => ?_) (fun h44f => ?_)
  rotate_left
  · exfalso; omega
  refine fd_iconst C dM_hold_58 ?_
  exact fd_iret C hr hlk rfl (fd_u3_u _ _ _ _ _ _) dM_hold_59
set_option maxRecDepth 20000 in
theorem mM_hold_2 (l : Launch) (D : va_G) (cI : ClassId) (ad : Nat → Nat → Nat) (M : fd_Mem) (f pl tk : Int) (hf : (0 ≤ f ∧ f < 4)) (hp : (1 ≤ pl ∧ pl ≤ 6)) (ht : (1 ≤ tk ∧ tk ≤ 50)) (hc : 0 ≤ M 0 0 4 ∧ M 0 0 4 ≤ 1) (hm : 0 ≤ M 0 0 7 ∧ M 0 0 7 ≤ 60) (hb : M 0 0 4 = 1 ∨ 60 ≤ M 0 0 7)  : mo_Mi l D cI ad yM_hold wM_hold ({ frames := 2, cells := 0, slots := 0, locals := 44 }) [.ref (ad 0 0), .int (fd_I (f)), .int (fd_I (pl)), .int (fd_I (tk))] M (0) ((fd_u3 M 0 0 0 2)) := by
  refine fd_enterI (by decide) rfl mo_nd (by simp [Value.category]) (Nat.le_of_ble_eq_true rfl) ?_
  intro A p e s m args below meth c C hr hlk hE
  have C : fd_C p m c cM_hold 4 s args fd_T "FareDeskModel" D fd_cl (mo_tys cI) mo_wl A := C
  refine fd_pad 0 ?_
  refine fd_aload_n C dM_hold_0 rfl ?_
  refine fd_aload_n C dM_hold_1 rfl ?_
  refine fd_iload_n C dM_hold_2 rfl ?_
  refine fd_iload_n C dM_hold_3 rfl ?_
  refine fd_iload_n C dM_hold_4 rfl ?_
  refine fd_callVi C hE [.int (fd_I (f)), .int (fd_I (pl)), .int (fd_I (tk))] (k := 0) (i := 0) (mM_checked_2 l D cI ad M f pl tk hf hp ht hc hm hb) (cwV 3 C.1.2.2.2.2 (gM_checked fw3_125) rfl rfl rfl ⟨rfl, by decide, by decide, by decide +kernel⟩ ⟨by decide, by decide⟩) (mo_m (by decide)) rfl rfl rfl (Nat.le_of_ble_eq_true rfl) dM_hold_5 ⟨by decide, by decide⟩ ?_
  refine fd_put C (k := 0) (i := 0) (j := 0) (z := 2) (ty := .int) tyM (mo_m (by decide)) rfl rfl rfl (by decide) wsM tyM_ok nmM fw3_37 rfl (by decide +kernel) rfl rfl (Nat.le_of_ble_eq_true rfl) dM_hold_8 ?_
  refine fd_aload_n C dM_hold_11 rfl ?_
  refine fd_aload_n C dM_hold_12 rfl ?_
  refine fd_get C (k := 0) (i := 0) (j := 0) (v := .int (fd_I (2))) (mo_m (by decide)) rfl rfl (by decide) wsM fw3_37 (congrArg (fun z => some (Value.int (fd_I z))) (fd_u3_same M 0 0 0 (2))) dM_hold_13 ?_
  refine fd_if_ne C (tgt := 33) dM_hold_16 rfl ⟨by omega, by omega⟩ (fun h16t => ?_) (fun h16f => ?_)
  rotate_left
  · exfalso; omega
  refine fd_aload_n C dM_hold_33 rfl ?_
  refine fd_get C (k := 0) (i := 0) (j := 0) (v := .int (fd_I (2))) (mo_m (by decide)) rfl rfl (by decide) wsM fw3_37 (congrArg (fun z => some (Value.int (fd_I z))) (fd_u3_same M 0 0 0 (2))) dM_hold_34 ?_
  refine fd_put C (k := 0) (i := 0) (j := 0) (z := 2) (ty := .int) tyM (mo_m (by decide)) rfl rfl rfl (by decide) wsM tyM_ok nmM fw3_37 rfl (by decide +kernel) rfl rfl (Nat.le_of_ble_eq_true rfl) dM_hold_37 ?_
  refine fd_aload_n C dM_hold_40 rfl ?_
  refine fd_get C (k := 0) (i := 0) (j := 0) (v := .int (fd_I (2))) (mo_m (by decide)) rfl rfl (by decide) wsM fw3_37 (congrArg (fun z => some (Value.int (fd_I z))) (fd_u3_same (fd_u3 M 0 0 0 (2)) 0 0 0 (2))) dM_hold_41 ?_
  refine fd_if_ne C (tgt := 58) dM_hold_44 rfl ⟨by omega, by omega⟩ (fun h44t => ?_) (fun h44f => ?_)
  rotate_left
  · exfalso; omega
  refine fd_iconst C dM_hold_58 ?_
  exact fd_iret C hr hlk rfl (fd_u3_u _ _ _ _ _ _) dM_hold_59
set_option maxRecDepth 20000 in
theorem mM_hold_3 (l : Launch) (D : va_G) (cI : ClassId) (ad : Nat → Nat → Nat) (M : fd_Mem) (f pl tk : Int) (hf : (0 ≤ f ∧ f < 4)) (hp : (1 ≤ pl ∧ pl ≤ 6)) (ht : (1 ≤ tk ∧ tk ≤ 50)) (hc : M 0 0 4 = 0) (hm : 0 ≤ M 0 0 7 ∧ M 0 0 7 < 60) (hok : mo_ok M) (hr9 : mo_r (fd_u3 M 0 0 0 (0)) (-1) (f.toNat + 1) < pl) : mo_Mi l D cI ad yM_hold wM_hold ({ frames := 2, cells := 0, slots := 0, locals := 48 }) [.ref (ad 0 0), .int (fd_I (f)), .int (fd_I (pl)), .int (fd_I (tk))] M (0) ((fd_u3 M 0 0 0 3)) := by
  refine fd_enterI (by decide) rfl mo_nd (by simp [Value.category]) (Nat.le_of_ble_eq_true rfl) ?_
  intro A p e s m args below meth c C hr hlk hE
  have C : fd_C p m c cM_hold 4 s args fd_T "FareDeskModel" D fd_cl (mo_tys cI) mo_wl A := C
  refine fd_pad 0 ?_
  refine fd_aload_n C dM_hold_0 rfl ?_
  refine fd_aload_n C dM_hold_1 rfl ?_
  refine fd_iload_n C dM_hold_2 rfl ?_
  refine fd_iload_n C dM_hold_3 rfl ?_
  refine fd_iload_n C dM_hold_4 rfl ?_
  refine fd_callVi C hE [.int (fd_I (f)), .int (fd_I (pl)), .int (fd_I (tk))] (k := 0) (i := 0) (mM_checked_0 l D cI ad M f pl tk hf hp ht hc hm) (cwV 3 C.1.2.2.2.2 (gM_checked fw3_125) rfl rfl rfl ⟨rfl, by decide, by decide, by decide +kernel⟩ ⟨by decide, by decide⟩) (mo_m (by decide)) rfl rfl rfl (Nat.le_of_ble_eq_true rfl) dM_hold_5 ⟨by decide, by decide⟩ ?_
  refine fd_put C (k := 0) (i := 0) (j := 0) (z := 0) (ty := .int) tyM (mo_m (by decide)) rfl rfl rfl (by decide) wsM tyM_ok nmM fw3_37 rfl (by decide +kernel) rfl rfl (Nat.le_of_ble_eq_true rfl) dM_hold_8 ?_
  refine fd_aload_n C dM_hold_11 rfl ?_
  refine fd_aload_n C dM_hold_12 rfl ?_
  refine fd_get C (k := 0) (i := 0) (j := 0) (v := .int (fd_I (0))) (mo_m (by decide)) rfl rfl (by decide) wsM fw3_37 (congrArg (fun z => some (Value.int (fd_I z))) (fd_u3_same M 0 0 0 (0))) dM_hold_13 ?_
  refine fd_if_ne C (tgt := 33) dM_hold_16 rfl ⟨by omega, by omega⟩ (fun h16t => ?_) (fun h16f => ?_)
  · exfalso; omega
  refine fd_aload_n C dM_hold_19 rfl ?_
  refine fd_iload_n C dM_hold_20 rfl ?_
  refine fd_iconst C dM_hold_21 ?_
  refine fd_callVi C hE [.int (fd_I (f)), .int (fd_I (-1))] (k := 0) (i := 0) (mM_roomOf l D cI ad (fd_u3 M 0 0 0 (0)) f (-1) hf (by omega) (hok.thr 0)) (cwV 2 C.1.2.2.2.2 (gM_roomOf fw3_105) rfl rfl rfl ⟨rfl, by decide, by decide, by decide +kernel⟩ ⟨by decide, by decide⟩) (mo_m (by decide)) rfl rfl rfl (Nat.le_of_ble_eq_true rfl) dM_hold_22 ⟨by decide, by decide⟩ ?_
  have e1 := mo_r_bd (hok.thr 0) (-1) (f.toNat + 1) (by omega)
  refine fd_iload_n C dM_hold_25 rfl ?_
  refine fd_icmp_ge C (tgt := 33) dM_hold_26 rfl ⟨by omega, by omega⟩ ⟨by omega, by omega⟩ (fun h26t => ?_) (fun h26f => ?_)
  · skip
    exfalso; omega
  · skip
    refine fd_iconst C dM_hold_29 ?_
    refine fd_goto C (tgt := 37) dM_hold_30 rfl ?_
    refine fd_put C (k := 0) (i := 0) (j := 0) (z := 3) (ty := .int) tyM (mo_m (by decide)) rfl rfl rfl (by decide) wsM tyM_ok nmM fw3_37 rfl (by decide +kernel) rfl rfl (Nat.le_of_ble_eq_true rfl) dM_hold_37 ?_
    refine fd_aload_n C dM_hold_40 rfl ?_
    refine fd_get C (k := 0) (i := 0) (j := 0) (v := .int (fd_I (3))) (mo_m (by decide)) rfl rfl (by decide) wsM fw3_37 (congrArg (fun z => some (Value.int (fd_I z))) (fd_u3_same (fd_u3 M 0 0 0 (0)) 0 0 0 (3))) dM_hold_41 ?_
    refine fd_if_ne C (tgt := 58) dM_hold_44 rfl ⟨by omega, by omega⟩ (fun h44t => ?_) (fun h44f => ?_)
    rotate_left
    · exfalso; omega
    refine fd_iconst C dM_hold_58 ?_
    exact fd_iret C hr hlk rfl (fd_u3_u _ _ _ _ _ _) dM_hold_59
set_option maxRecDepth 20000 in
theorem mM_hold (l : Launch) (D : va_G) (cI : ClassId) (ad : Nat → Nat → Nat) (M : fd_Mem) (f pl tk : Int) (hf : (0 ≤ f ∧ f < 4)) (hp : (1 ≤ pl ∧ pl ≤ 6)) (ht : (1 ≤ tk ∧ tk ≤ 50)) (hc : M 0 0 4 = 0) (hm : 0 ≤ M 0 0 7 ∧ M 0 0 7 < 60) (hok : mo_ok M) (hr9 : pl ≤ mo_r (fd_u3 M 0 0 0 (0)) (-1) (f.toNat + 1)) : mo_Mi l D cI ad yM_hold wM_hold ({ frames := 2, cells := 0, slots := 0, locals := 48 }) [.ref (ad 0 0), .int (fd_I (f)), .int (fd_I (pl)), .int (fd_I (tk))] M (M 0 0 7) (mo_mk (fd_u3 M 0 0 0 0) 1 f pl tk) := by
  refine fd_enterI (by decide) rfl mo_nd (by simp [Value.category]) (Nat.le_of_ble_eq_true rfl) ?_
  intro A p e s m args below meth c C hr hlk hE
  have C : fd_C p m c cM_hold 4 s args fd_T "FareDeskModel" D fd_cl (mo_tys cI) mo_wl A := C
  refine fd_pad 0 ?_
  refine fd_aload_n C dM_hold_0 rfl ?_
  refine fd_aload_n C dM_hold_1 rfl ?_
  refine fd_iload_n C dM_hold_2 rfl ?_
  refine fd_iload_n C dM_hold_3 rfl ?_
  refine fd_iload_n C dM_hold_4 rfl ?_
  refine fd_callVi C hE [.int (fd_I (f)), .int (fd_I (pl)), .int (fd_I (tk))] (k := 0) (i := 0) (mM_checked_0 l D cI ad M f pl tk hf hp ht hc hm) (cwV 3 C.1.2.2.2.2 (gM_checked fw3_125) rfl rfl rfl ⟨rfl, by decide, by decide, by decide +kernel⟩ ⟨by decide, by decide⟩) (mo_m (by decide)) rfl rfl rfl (Nat.le_of_ble_eq_true rfl) dM_hold_5 ⟨by decide, by decide⟩ ?_
  refine fd_put C (k := 0) (i := 0) (j := 0) (z := 0) (ty := .int) tyM (mo_m (by decide)) rfl rfl rfl (by decide) wsM tyM_ok nmM fw3_37 rfl (by decide +kernel) rfl rfl (Nat.le_of_ble_eq_true rfl) dM_hold_8 ?_
  refine fd_aload_n C dM_hold_11 rfl ?_
  refine fd_aload_n C dM_hold_12 rfl ?_
  refine fd_get C (k := 0) (i := 0) (j := 0) (v := .int (fd_I (0))) (mo_m (by decide)) rfl rfl (by decide) wsM fw3_37 (congrArg (fun z => some (Value.int (fd_I z))) (fd_u3_same M 0 0 0 (0))) dM_hold_13 ?_
  refine fd_if_ne C (tgt := 33) dM_hold_16 rfl ⟨by omega, by omega⟩ (fun h16t => ?_) (fun h16f => ?_)
  · exfalso; omega
  refine fd_aload_n C dM_hold_19 rfl ?_
  refine fd_iload_n C dM_hold_20 rfl ?_
  refine fd_iconst C dM_hold_21 ?_
  refine fd_callVi C hE [.int (fd_I (f)), .int (fd_I (-1))] (k := 0) (i := 0) (mM_roomOf l D cI ad (fd_u3 M 0 0 0 (0)) f (-1) hf (by omega) (hok.thr 0)) (cwV 2 C.1.2.2.2.2 (gM_roomOf fw3_105) rfl rfl rfl ⟨rfl, by decide, by decide, by decide +kernel⟩ ⟨by decide, by decide⟩) (mo_m (by decide)) rfl rfl rfl (Nat.le_of_ble_eq_true rfl) dM_hold_22 ⟨by decide, by decide⟩ ?_
  have e1 := mo_r_bd (hok.thr 0) (-1) (f.toNat + 1) (by omega)
  refine fd_iload_n C dM_hold_25 rfl ?_
  refine fd_icmp_ge C (tgt := 33) dM_hold_26 rfl ⟨by omega, by omega⟩ ⟨by omega, by omega⟩ (fun h26t => ?_) (fun h26f => ?_)
  · skip
    refine fd_aload_n C dM_hold_33 rfl ?_
    refine fd_get C (k := 0) (i := 0) (j := 0) (v := .int (fd_I (0))) (mo_m (by decide)) rfl rfl (by decide) wsM fw3_37 (congrArg (fun z => some (Value.int (fd_I z))) (fd_u3_same M 0 0 0 (0))) dM_hold_34 ?_
    refine fd_put C (k := 0) (i := 0) (j := 0) (z := 0) (ty := .int) tyM (mo_m (by decide)) rfl rfl rfl (by decide) wsM tyM_ok nmM fw3_37 rfl (by decide +kernel) rfl rfl (Nat.le_of_ble_eq_true rfl) dM_hold_37 ?_
    refine fd_aload_n C dM_hold_40 rfl ?_
    refine fd_get C (k := 0) (i := 0) (j := 0) (v := .int (fd_I (0))) (mo_m (by decide)) rfl rfl (by decide) wsM fw3_37 (congrArg (fun z => some (Value.int (fd_I z))) (fd_u3_same (fd_u3 M 0 0 0 (0)) 0 0 0 (0))) dM_hold_41 ?_
    refine fd_if_ne C (tgt := 58) dM_hold_44 rfl ⟨by omega, by omega⟩ (fun h44t => ?_) (fun h44f => ?_)
    · exfalso; omega
    refine fd_aload_n C dM_hold_47 rfl ?_
    refine fd_iconst C dM_hold_48 ?_
    refine fd_iload_n C dM_hold_49 rfl ?_
    refine fd_iload_n C dM_hold_50 rfl ?_
    refine fd_iload_n C dM_hold_51 rfl ?_
    refine fd_callVi C hE [.int (fd_I (1)), .int (fd_I (f)), .int (fd_I (pl)), .int (fd_I (tk))] (k := 0) (i := 0) (mM_make l D cI ad (fd_u3 (fd_u3 M 0 0 0 (0)) 0 0 0 (0)) 1 f pl tk hm) (cwV 4 C.1.2.2.2.2 (gM_make fw3_129) rfl rfl rfl ⟨rfl, by decide, by decide, by decide +kernel⟩ ⟨by decide, by decide⟩) (mo_m (by decide)) rfl rfl rfl (Nat.le_of_ble_eq_true rfl) dM_hold_52 ⟨by decide, by decide⟩ ?_
    refine fd_goto C (tgt := 59) dM_hold_55 rfl ?_
    exact fd_iret C hr hlk rfl (by rw [fd_u3_u]) dM_hold_59
  · skip
    exfalso; omega
set_option maxRecDepth 20000 in
theorem mM_join_1 (l : Launch) (D : va_G) (cI : ClassId) (ad : Nat → Nat → Nat) (M : fd_Mem) (f pl tk : Int) (hf : -2147483648 ≤ f ∧ f < 2147483648) (hpl : -2147483648 ≤ pl ∧ pl < 2147483648) (htk : -2147483648 ≤ tk ∧ tk < 2147483648) (hg : ¬ ((0 ≤ f ∧ f < 4) ∧ (1 ≤ pl ∧ pl ≤ 6) ∧ (1 ≤ tk ∧ tk ≤ 50)))  : mo_Mi l D cI ad yM_join wM_join ({ frames := 2, cells := 0, slots := 0, locals := 44 }) [.ref (ad 0 0), .int (fd_I (f)), .int (fd_I (pl)), .int (fd_I (tk))] M (0) ((fd_u3 M 0 0 0 1)) := by
  refine fd_enterI (by decide) rfl mo_nd (by simp [Value.category]) (Nat.le_of_ble_eq_true rfl) ?_
  intro A p e s m args below meth c C hr hlk hE
  have C : fd_C p m c cM_join 5 s args fd_T "FareDeskModel" D fd_cl (mo_tys cI) mo_wl A := C
  refine fd_pad 1 ?_
  refine fd_aload_n C dM_join_0 rfl ?_
  refine fd_aload_n C dM_join_1 rfl ?_
  refine fd_iload_n C dM_join_2 rfl ?_
  refine fd_iload_n C dM_join_3 rfl ?_
  refine fd_iload_n C dM_join_4 rfl ?_
  refine fd_callVi C hE [.int (fd_I (f)), .int (fd_I (pl)), .int (fd_I (tk))] (k := 0) (i := 0) (mM_checked_1 l D cI ad M f pl tk hf hpl htk hg) (cwV 3 C.1.2.2.2.2 (gM_checked fw3_125) rfl rfl rfl ⟨rfl, by decide, by decide, by decide +kernel⟩ ⟨by decide, by decide⟩) (mo_m (by decide)) rfl rfl rfl (Nat.le_of_ble_eq_true rfl) dM_join_5 ⟨by decide, by decide⟩ ?_
  refine fd_put C (k := 0) (i := 0) (j := 0) (z := 1) (ty := .int) tyM (mo_m (by decide)) rfl rfl rfl (by decide) wsM tyM_ok nmM fw3_37 rfl (by decide +kernel) rfl rfl (Nat.le_of_ble_eq_true rfl) dM_join_8 ?_
  refine fd_aload_n C dM_join_11 rfl ?_
  refine fd_get C (k := 0) (i := 0) (j := 0) (v := .int (fd_I (1))) (mo_m (by decide)) rfl rfl (by decide) wsM fw3_37 (congrArg (fun z => some (Value.int (fd_I z))) (fd_u3_same M 0 0 0 (1))) dM_join_12 ?_
  refine fd_if_eq C (tgt := 20) dM_join_15 rfl ⟨by omega, by omega⟩ (fun h15t => ?_) (fun h15f => ?_)
  · exfalso; omega
  refine fd_iconst C dM_join_18 ?_
  exact fd_iret C hr hlk (by first | rfl | omega | (split <;> omega) | (simp; omega)) rfl dM_join_19
set_option maxRecDepth 20000 in
theorem mM_join_2 (l : Launch) (D : va_G) (cI : ClassId) (ad : Nat → Nat → Nat) (M : fd_Mem) (f pl tk : Int) (hf : (0 ≤ f ∧ f < 4)) (hp : (1 ≤ pl ∧ pl ≤ 6)) (ht : (1 ≤ tk ∧ tk ≤ 50)) (hc : 0 ≤ M 0 0 4 ∧ M 0 0 4 ≤ 1) (hm : 0 ≤ M 0 0 7 ∧ M 0 0 7 ≤ 60) (hb : M 0 0 4 = 1 ∨ 60 ≤ M 0 0 7)  : mo_Mi l D cI ad yM_join wM_join ({ frames := 2, cells := 0, slots := 0, locals := 44 }) [.ref (ad 0 0), .int (fd_I (f)), .int (fd_I (pl)), .int (fd_I (tk))] M (0) ((fd_u3 M 0 0 0 2)) := by
  refine fd_enterI (by decide) rfl mo_nd (by simp [Value.category]) (Nat.le_of_ble_eq_true rfl) ?_
  intro A p e s m args below meth c C hr hlk hE
  have C : fd_C p m c cM_join 5 s args fd_T "FareDeskModel" D fd_cl (mo_tys cI) mo_wl A := C
  refine fd_pad 1 ?_
  refine fd_aload_n C dM_join_0 rfl ?_
  refine fd_aload_n C dM_join_1 rfl ?_
  refine fd_iload_n C dM_join_2 rfl ?_
  refine fd_iload_n C dM_join_3 rfl ?_
  refine fd_iload_n C dM_join_4 rfl ?_
  refine fd_callVi C hE [.int (fd_I (f)), .int (fd_I (pl)), .int (fd_I (tk))] (k := 0) (i := 0) (mM_checked_2 l D cI ad M f pl tk hf hp ht hc hm hb) (cwV 3 C.1.2.2.2.2 (gM_checked fw3_125) rfl rfl rfl ⟨rfl, by decide, by decide, by decide +kernel⟩ ⟨by decide, by decide⟩) (mo_m (by decide)) rfl rfl rfl (Nat.le_of_ble_eq_true rfl) dM_join_5 ⟨by decide, by decide⟩ ?_
  refine fd_put C (k := 0) (i := 0) (j := 0) (z := 2) (ty := .int) tyM (mo_m (by decide)) rfl rfl rfl (by decide) wsM tyM_ok nmM fw3_37 rfl (by decide +kernel) rfl rfl (Nat.le_of_ble_eq_true rfl) dM_join_8 ?_
  refine fd_aload_n C dM_join_11 rfl ?_
  refine fd_get C (k := 0) (i := 0) (j := 0) (v := .int (fd_I (2))) (mo_m (by decide)) rfl rfl (by decide) wsM fw3_37 (congrArg (fun z => some (Value.int (fd_I z))) (fd_u3_same M 0 0 0 (2))) dM_join_12 ?_
  refine fd_if_eq C (tgt := 20) dM_join_15 rfl ⟨by omega, by omega⟩ (fun h15t => ?_) (fun h15f => ?_)
  · exfalso; omega
  refine fd_iconst C dM_join_18 ?_
  exact fd_iret C hr hlk (by first | rfl | omega | (split <;> omega) | (simp; omega)) rfl dM_join_19
set_option maxRecDepth 20000 in
theorem mM_join (l : Launch) (D : va_G) (cI : ClassId) (ad : Nat → Nat → Nat) (M : fd_Mem) (f pl tk : Int) (hf : (0 ≤ f ∧ f < 4)) (hp : (1 ≤ pl ∧ pl ≤ 6)) (ht : (1 ≤ tk ∧ tk ≤ 50)) (hc : M 0 0 4 = 0) (hm : 0 ≤ M 0 0 7 ∧ M 0 0 7 < 60) (hok2 : mo_ok (mo_mk (fd_u3 M 0 0 0 (0)) 3 f pl tk)) (dv : Nat) (Nv : fd_Mem) (hd : mo_sv dv 0 (mo_mk (fd_u3 M 0 0 0 (0)) 3 f pl tk) = some Nv) : mo_Mi l D cI ad yM_join wM_join ({ frames := 3, cells := 0, slots := 0, locals := 69 }) [.ref (ad 0 0), .int (fd_I (f)), .int (fd_I (pl)), .int (fd_I (tk))] M (M 0 0 7) (Nv) := by
  refine fd_enterI (by decide) rfl mo_nd (by simp [Value.category]) (Nat.le_of_ble_eq_true rfl) ?_
  intro A p e s m args below meth c C hr hlk hE
  have C : fd_C p m c cM_join 5 s args fd_T "FareDeskModel" D fd_cl (mo_tys cI) mo_wl A := C
  refine fd_pad 1 ?_
  refine fd_aload_n C dM_join_0 rfl ?_
  refine fd_aload_n C dM_join_1 rfl ?_
  refine fd_iload_n C dM_join_2 rfl ?_
  refine fd_iload_n C dM_join_3 rfl ?_
  refine fd_iload_n C dM_join_4 rfl ?_
  refine fd_callVi C hE [.int (fd_I (f)), .int (fd_I (pl)), .int (fd_I (tk))] (k := 0) (i := 0) (mM_checked_0 l D cI ad M f pl tk hf hp ht hc hm) (cwV 3 C.1.2.2.2.2 (gM_checked fw3_125) rfl rfl rfl ⟨rfl, by decide, by decide, by decide +kernel⟩ ⟨by decide, by decide⟩) (mo_m (by decide)) rfl rfl rfl (Nat.le_of_ble_eq_true rfl) dM_join_5 ⟨by decide, by decide⟩ ?_
  refine fd_put C (k := 0) (i := 0) (j := 0) (z := 0) (ty := .int) tyM (mo_m (by decide)) rfl rfl rfl (by decide) wsM tyM_ok nmM fw3_37 rfl (by decide +kernel) rfl rfl (Nat.le_of_ble_eq_true rfl) dM_join_8 ?_
  refine fd_aload_n C dM_join_11 rfl ?_
  refine fd_get C (k := 0) (i := 0) (j := 0) (v := .int (fd_I (0))) (mo_m (by decide)) rfl rfl (by decide) wsM fw3_37 (congrArg (fun z => some (Value.int (fd_I z))) (fd_u3_same M 0 0 0 (0))) dM_join_12 ?_
  refine fd_if_eq C (tgt := 20) dM_join_15 rfl ⟨by omega, by omega⟩ (fun h15t => ?_) (fun h15f => ?_)
  rotate_left
  · exfalso; omega
  refine fd_aload_n C dM_join_20 rfl ?_
  refine fd_iconst C dM_join_21 ?_
  refine fd_iload_n C dM_join_22 rfl ?_
  refine fd_iload_n C dM_join_23 rfl ?_
  refine fd_iload_n C dM_join_24 rfl ?_
  refine fd_callVi C hE [.int (fd_I (3)), .int (fd_I (f)), .int (fd_I (pl)), .int (fd_I (tk))] (k := 0) (i := 0) (mM_make l D cI ad (fd_u3 M 0 0 0 (0)) 3 f pl tk hm) (cwV 4 C.1.2.2.2.2 (gM_make fw3_129) rfl rfl rfl ⟨rfl, by decide, by decide, by decide +kernel⟩ ⟨by decide, by decide⟩) (mo_m (by decide)) rfl rfl rfl (Nat.le_of_ble_eq_true rfl) dM_join_25 ⟨by decide, by decide⟩ ?_
  refine fd_istore C dM_join_28 (by decide) ?_
  refine fd_aload_n C dM_join_30 rfl ?_
  refine fd_callVv C hE [] (k := 0) (i := 0) (mM_serve l D cI ad (mo_mk (fd_u3 M 0 0 0 (0)) 3 f pl tk) hok2 dv Nv hd) (cwV 0 C.1.2.2.2.2 (gM_serve fw3_101) rfl rfl rfl ⟨rfl, by decide, by decide, by decide +kernel⟩ ⟨by decide, by decide⟩) (mo_m (by decide)) rfl rfl rfl (Nat.le_of_ble_eq_true rfl) dM_join_31 ⟨by decide, by decide⟩ ?_
  refine fd_iload C dM_join_34 rfl ?_
  exact fd_iret C hr hlk (by first | rfl | omega | (split <;> omega) | (simp; omega)) rfl dM_join_36
set_option maxRecDepth 20000 in
theorem mM_confirm_B (l : Launch) (D : va_G) (cI : ClassId) (ad : Nat → Nat → Nat) (M : fd_Mem) (n : Int) (hn : -2147483648 ≤ n ∧ n < 2147483648) (hok : mo_ok M) (hb : n < 0 ∨ M 0 0 7 ≤ n) : mo_Mi l D cI ad yM_confirm wM_confirm ({ frames := 1, cells := 0, slots := 0, locals := 21 }) [.ref (ad 0 0), .int (fd_I (n))] M (0) ((fd_u3 M 0 0 0 1)) := by
  refine fd_enterI (by decide) rfl mo_nd (by simp [Value.category]) (Nat.le_of_ble_eq_true rfl) ?_
  intro A p e s m args below meth c C hr hlk hE
  have C : fd_C p m c cM_confirm 2 s args fd_T "FareDeskModel" D fd_cl (mo_tys cI) mo_wl A := C
  refine fd_pad 0 ?_
  refine fd_aload_n C dM_confirm_0 rfl ?_
  refine fd_aload_n C dM_confirm_1 rfl ?_
  refine fd_iload_n C dM_confirm_2 rfl ?_
  refine fd_callVi C hE [.int (fd_I (n))] (k := 0) (i := 0) (mM_noBooking_1 l D cI ad M n hn hok.made hb) (cwV 1 C.1.2.2.2.2 (gM_noBooking fw3_141) rfl rfl rfl ⟨rfl, by decide, by decide, by decide +kernel⟩ ⟨by decide, by decide⟩) (mo_m (by decide)) rfl rfl rfl (Nat.le_of_ble_eq_true rfl) dM_confirm_3 ⟨by decide, by decide⟩ ?_
  refine fd_if_eq C (tgt := 13) dM_confirm_6 rfl ⟨by omega, by omega⟩ (fun h6t => ?_) (fun h6f => ?_)
  · exfalso; omega
  refine fd_iconst C dM_confirm_9 ?_
  refine fd_goto C (tgt := 28) dM_confirm_10 rfl ?_
  refine fd_put C (k := 0) (i := 0) (j := 0) (z := 1) (ty := .int) tyM (mo_m (by decide)) rfl rfl rfl (by decide) wsM tyM_ok nmM fw3_37 rfl (by decide +kernel) rfl rfl (Nat.le_of_ble_eq_true rfl) dM_confirm_28 ?_
  refine fd_aload_n C dM_confirm_31 rfl ?_
  refine fd_get C (k := 0) (i := 0) (j := 0) (v := .int (fd_I (1))) (mo_m (by decide)) rfl rfl (by decide) wsM fw3_37 (congrArg (fun z => some (Value.int (fd_I z))) (fd_u3_same M 0 0 0 (1))) dM_confirm_32 ?_
  refine fd_if_eq C (tgt := 40) dM_confirm_35 rfl ⟨by omega, by omega⟩ (fun h35t => ?_) (fun h35f => ?_)
  · exfalso; omega
  refine fd_iconst C dM_confirm_38 ?_
  exact fd_iret C hr hlk (by first | rfl | omega | (split <;> omega) | (simp; omega)) rfl dM_confirm_39
set_option maxRecDepth 20000 in
theorem mM_confirm_2 (l : Launch) (D : va_G) (cI : ClassId) (ad : Nat → Nat → Nat) (M : fd_Mem) (n : Nat) (hn : (n : Int) < M 0 0 7) (hok : mo_ok M) (hs : M 3 0 n ≠ 1) : mo_Mi l D cI ad yM_confirm wM_confirm ({ frames := 1, cells := 0, slots := 0, locals := 21 }) [.ref (ad 0 0), .int (fd_I ((n : Nat) : Int))] M (0) ((fd_u3 M 0 0 0 2)) := by
  have hm := hok.made
  have hn6 : n < 60 := by omega
  have e3 := hok.sta hn6
  have e4 := hok.far hn6
  have e5 := hok.pla hn6
  have e6 := hok.sea hn6
  have e8 := hok.pai hn6
  refine fd_enterI (by decide) rfl mo_nd (by simp [Value.category]) (Nat.le_of_ble_eq_true rfl) ?_
  intro A p e s m args below meth c C hr hlk hE
  have C : fd_C p m c cM_confirm 2 s args fd_T "FareDeskModel" D fd_cl (mo_tys cI) mo_wl A := C
  refine fd_pad 0 ?_
  refine fd_aload_n C dM_confirm_0 rfl ?_
  refine fd_aload_n C dM_confirm_1 rfl ?_
  refine fd_iload_n C dM_confirm_2 rfl ?_
  refine fd_callVi C hE [.int (fd_I ((n : Nat) : Int))] (k := 0) (i := 0) (mM_noBooking_0 l D cI ad M n hok.made hn) (cwV 1 C.1.2.2.2.2 (gM_noBooking fw3_141) rfl rfl rfl ⟨rfl, by decide, by decide, by decide +kernel⟩ ⟨by decide, by decide⟩) (mo_m (by decide)) rfl rfl rfl (Nat.le_of_ble_eq_true rfl) dM_confirm_3 ⟨by decide, by decide⟩ ?_
  refine fd_if_eq C (tgt := 13) dM_confirm_6 rfl ⟨by omega, by omega⟩ (fun h6t => ?_) (fun h6f => ?_)
  rotate_left
  · exfalso; omega
  refine fd_aload_n C dM_confirm_13 rfl ?_
  refine fd_get C (k := 0) (i := 0) (j := 8) (v := .ref (ad 3 0)) (mo_m (by decide)) rfl rfl (by decide) wsM fw3_45 rfl dM_confirm_14 ?_
  refine fd_iload_n C dM_confirm_17 rfl ?_
  refine fd_iald C (k := 3) (i := 0) (x := n) (v := M 3 0 n) (mo_m (by decide)) (fun _ => rfl) (mo_tI cI) rfl (by omega) (by decide) rfl dM_confirm_18 ?_
  refine fd_iconst C dM_confirm_19 ?_
  refine fd_icmp_eq C (tgt := 27) dM_confirm_20 rfl ⟨by omega, by omega⟩ ⟨by omega, by omega⟩ (fun h20t => ?_) (fun h20f => ?_)
  · skip
    exfalso; omega
  · skip
    refine fd_iconst C dM_confirm_23 ?_
    refine fd_goto C (tgt := 28) dM_confirm_24 rfl ?_
    refine fd_put C (k := 0) (i := 0) (j := 0) (z := 2) (ty := .int) tyM (mo_m (by decide)) rfl rfl rfl (by decide) wsM tyM_ok nmM fw3_37 rfl (by decide +kernel) rfl rfl (Nat.le_of_ble_eq_true rfl) dM_confirm_28 ?_
    refine fd_aload_n C dM_confirm_31 rfl ?_
    refine fd_get C (k := 0) (i := 0) (j := 0) (v := .int (fd_I (2))) (mo_m (by decide)) rfl rfl (by decide) wsM fw3_37 (congrArg (fun z => some (Value.int (fd_I z))) (fd_u3_same M 0 0 0 (2))) dM_confirm_32 ?_
    refine fd_if_eq C (tgt := 40) dM_confirm_35 rfl ⟨by omega, by omega⟩ (fun h35t => ?_) (fun h35f => ?_)
    · exfalso; omega
    refine fd_iconst C dM_confirm_38 ?_
    exact fd_iret C hr hlk (by first | rfl | omega | (split <;> omega) | (simp; omega)) rfl dM_confirm_39
set_option maxRecDepth 20000 in
theorem mM_confirm (l : Launch) (D : va_G) (cI : ClassId) (ad : Nat → Nat → Nat) (M : fd_Mem) (n : Nat) (hn : (n : Int) < M 0 0 7) (hok : mo_ok M) (hs : M 3 0 n = 1) : mo_Mi l D cI ad yM_confirm wM_confirm ({ frames := 1, cells := 0, slots := 0, locals := 21 }) [.ref (ad 0 0), .int (fd_I ((n : Nat) : Int))] M (M 5 0 n * M 1 0 (M 4 0 n).toNat) (mo_cf (fd_u3 M 0 0 0 0) n) := by
  have hm := hok.made
  have hn6 : n < 60 := by omega
  have e3 := hok.sta hn6
  have e4 := hok.far hn6
  have e5 := hok.pla hn6
  have e6 := hok.sea hn6
  have e8 := hok.pai hn6
  refine fd_enterI (by decide) rfl mo_nd (by simp [Value.category]) (Nat.le_of_ble_eq_true rfl) ?_
  intro A p e s m args below meth c C hr hlk hE
  have C : fd_C p m c cM_confirm 2 s args fd_T "FareDeskModel" D fd_cl (mo_tys cI) mo_wl A := C
  refine fd_pad 0 ?_
  refine fd_aload_n C dM_confirm_0 rfl ?_
  refine fd_aload_n C dM_confirm_1 rfl ?_
  refine fd_iload_n C dM_confirm_2 rfl ?_
  refine fd_callVi C hE [.int (fd_I ((n : Nat) : Int))] (k := 0) (i := 0) (mM_noBooking_0 l D cI ad M n hok.made hn) (cwV 1 C.1.2.2.2.2 (gM_noBooking fw3_141) rfl rfl rfl ⟨rfl, by decide, by decide, by decide +kernel⟩ ⟨by decide, by decide⟩) (mo_m (by decide)) rfl rfl rfl (Nat.le_of_ble_eq_true rfl) dM_confirm_3 ⟨by decide, by decide⟩ ?_
  refine fd_if_eq C (tgt := 13) dM_confirm_6 rfl ⟨by omega, by omega⟩ (fun h6t => ?_) (fun h6f => ?_)
  rotate_left
  · exfalso; omega
  refine fd_aload_n C dM_confirm_13 rfl ?_
  refine fd_get C (k := 0) (i := 0) (j := 8) (v := .ref (ad 3 0)) (mo_m (by decide)) rfl rfl (by decide) wsM fw3_45 rfl dM_confirm_14 ?_
  refine fd_iload_n C dM_confirm_17 rfl ?_
  refine fd_iald C (k := 3) (i := 0) (x := n) (v := M 3 0 n) (mo_m (by decide)) (fun _ => rfl) (mo_tI cI) rfl (by omega) (by decide) rfl dM_confirm_18 ?_
  refine fd_iconst C dM_confirm_19 ?_
  refine fd_icmp_eq C (tgt := 27) dM_confirm_20 rfl ⟨by omega, by omega⟩ ⟨by omega, by omega⟩ (fun h20t => ?_) (fun h20f => ?_)
  · skip
    refine fd_iconst C dM_confirm_27 ?_
    refine fd_put C (k := 0) (i := 0) (j := 0) (z := 0) (ty := .int) tyM (mo_m (by decide)) rfl rfl rfl (by decide) wsM tyM_ok nmM fw3_37 rfl (by decide +kernel) rfl rfl (Nat.le_of_ble_eq_true rfl) dM_confirm_28 ?_
    refine fd_aload_n C dM_confirm_31 rfl ?_
    refine fd_get C (k := 0) (i := 0) (j := 0) (v := .int (fd_I (0))) (mo_m (by decide)) rfl rfl (by decide) wsM fw3_37 (congrArg (fun z => some (Value.int (fd_I z))) (fd_u3_same M 0 0 0 (0))) dM_confirm_32 ?_
    refine fd_if_eq C (tgt := 40) dM_confirm_35 rfl ⟨by omega, by omega⟩ (fun h35t => ?_) (fun h35f => ?_)
    rotate_left
    · exfalso; omega
    refine fd_aload_n C dM_confirm_40 rfl ?_
    refine fd_get C (k := 0) (i := 0) (j := 8) (v := .ref (ad 3 0)) (mo_m (by decide)) rfl rfl (by decide) wsM fw3_45 rfl dM_confirm_41 ?_
    refine fd_iload_n C dM_confirm_44 rfl ?_
    refine fd_iconst C dM_confirm_45 ?_
    refine fd_iast C (k := 3) (i := 0) (x := n) (v := 2) (mo_m (by decide)) (fun _ => rfl) (mo_tI cI) rfl (by omega) (by decide) dM_confirm_46 ?_
    refine fd_aload_n C dM_confirm_47 rfl ?_
    refine fd_get C (k := 0) (i := 0) (j := 13) (v := .ref (ad 8 0)) (mo_m (by decide)) rfl rfl (by decide) wsM fw3_50 rfl dM_confirm_48 ?_
    refine fd_iload_n C dM_confirm_51 rfl ?_
    refine fd_aload_n C dM_confirm_52 rfl ?_
    refine fd_get C (k := 0) (i := 0) (j := 10) (v := .ref (ad 5 0)) (mo_m (by decide)) rfl rfl (by decide) wsM fw3_47 rfl dM_confirm_53 ?_
    refine fd_iload_n C dM_confirm_56 rfl ?_
    refine fd_iald C (k := 5) (i := 0) (x := n) (v := M 5 0 n) (mo_m (by decide)) (fun _ => rfl) (mo_tI cI) rfl (by omega) (by decide) rfl dM_confirm_57 ?_
    refine fd_aload_n C dM_confirm_58 rfl ?_
    refine fd_get C (k := 0) (i := 0) (j := 5) (v := .ref (ad 1 0)) (mo_m (by decide)) rfl rfl (by decide) wsM fw3_42 rfl dM_confirm_59 ?_
    refine fd_aload_n C dM_confirm_62 rfl ?_
    refine fd_get C (k := 0) (i := 0) (j := 9) (v := .ref (ad 4 0)) (mo_m (by decide)) rfl rfl (by decide) wsM fw3_46 rfl dM_confirm_63 ?_
    refine fd_iload_n C dM_confirm_66 rfl ?_
    refine fd_iald C (k := 4) (i := 0) (x := n) (v := M 4 0 n) (mo_m (by decide)) (fun _ => rfl) (mo_tI cI) rfl (by omega) (by decide) rfl dM_confirm_67 ?_
    refine fd_iald C (k := 1) (i := 0) (x := (M 4 0 n).toNat) (v := M 1 0 ((M 4 0 n).toNat)) (mo_m (by decide)) (fun _ => rfl) (mo_tI cI) (Int.toNat_of_nonneg (by omega)).symm (by omega) (by decide) rfl dM_confirm_68 ?_
    refine fd_imul C dM_confirm_69 ?_
    refine fd_iast C (k := 8) (i := 0) (x := n) (v := ((M 5 0 n) * (M 1 0 ((M 4 0 n).toNat)))) (mo_m (by decide)) (fun _ => rfl) (mo_tI cI) rfl (by omega) (by decide) dM_confirm_70 ?_
    refine fd_aload_n C dM_confirm_71 rfl ?_
    refine fd_dup C dM_confirm_72 rfl ?_
    refine fd_get C (k := 0) (i := 0) (j := 3) (v := .int (fd_I (M 0 0 3))) (mo_m (by decide)) rfl rfl (by decide) wsM fw3_40 rfl dM_confirm_73 ?_
    refine fd_aload_n C dM_confirm_76 rfl ?_
    refine fd_get C (k := 0) (i := 0) (j := 13) (v := .ref (ad 8 0)) (mo_m (by decide)) rfl rfl (by decide) wsM fw3_50 rfl dM_confirm_77 ?_
    refine fd_iload_n C dM_confirm_80 rfl ?_
    refine fd_iald C (k := 8) (i := 0) (x := n) (v := (M 5 0 n) * (M 1 0 ((M 4 0 n).toNat))) (mo_m (by decide)) (fun _ => rfl) (mo_tI cI) rfl (by omega) (by decide) (fd_u3_same (fd_u3 (fd_u3 M 0 0 0 (0)) 3 0 n (2)) 8 0 n ((M 5 0 n) * (M 1 0 ((M 4 0 n).toNat)))) dM_confirm_81 ?_
    refine fd_iadd C dM_confirm_82 ?_
    refine fd_put C (k := 0) (i := 0) (j := 3) (z := ((M 0 0 3) + ((M 5 0 n) * (M 1 0 ((M 4 0 n).toNat))))) (ty := .int) tyM (mo_m (by decide)) rfl rfl rfl (by decide) wsM tyM_ok nmM fw3_40 rfl (by decide +kernel) rfl rfl (Nat.le_of_ble_eq_true rfl) dM_confirm_83 ?_
    refine fd_aload_n C dM_confirm_86 rfl ?_
    refine fd_get C (k := 0) (i := 0) (j := 13) (v := .ref (ad 8 0)) (mo_m (by decide)) rfl rfl (by decide) wsM fw3_50 rfl dM_confirm_87 ?_
    refine fd_iload_n C dM_confirm_90 rfl ?_
    refine fd_iald C (k := 8) (i := 0) (x := n) (v := (M 5 0 n) * (M 1 0 ((M 4 0 n).toNat))) (mo_m (by decide)) (fun _ => rfl) (mo_tI cI) rfl (by omega) (by decide) (fd_u3_same (fd_u3 (fd_u3 M 0 0 0 (0)) 3 0 n (2)) 8 0 n ((M 5 0 n) * (M 1 0 ((M 4 0 n).toNat)))) dM_confirm_91 ?_
    exact fd_iret C hr hlk (by first | rfl | omega | (split <;> omega) | (simp; omega)) rfl dM_confirm_92
  · skip
    exfalso; omega
