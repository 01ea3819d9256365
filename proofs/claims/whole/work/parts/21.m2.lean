/-! the desk: fares and cabin -/
set_option maxRecDepth 20000 in
theorem mF_mayLimit (l : Launch) (D : va_G) (cI cB : ClassId) (L : Nat) (ad : Nat → Nat → Nat) (M : fd_Mem) (f : Nat) (hf : f < 4) (x : Int) (hx : -2147483648 ≤ x ∧ x < 2147483648) (h3 : ∀ k, k < 4 → 0 ≤ M 3 0 k ∧ M 3 0 k ≤ 99) : ds_Mi l D cI cB L ad yF_mayLimit wF_mayLimit ({ frames := 0, cells := 0, slots := 0, locals := 0 }) [.ref (ad 2 0), .int (fd_I ((f : Nat) : Int)), .int (fd_I (x))] M (if 0 ≤ x ∧ x ≤ 99 ∧ (f = 0 ∨ x ≤ M 3 0 (f - 1)) ∧ (f = 3 ∨ M 3 0 (f + 1) ≤ x) then 1 else 0) (M) := by
  refine fd_enterI (by decide) rfl ds_nd (by simp [Value.category]) (Nat.le_of_ble_eq_true rfl) ?_
  intro A p e s m args below meth c C hr hlk hE
  have C : fd_C p m c cF_mayLimit 3 s args fd_T "FareDesk$Fares" D fd_cl (ds_tys cI cB) ds_wl A := C
  refine fd_pad 0 ?_
  refine fd_iload_n C dF_mayLimit_0 rfl ?_
  refine fd_if_lt C (tgt := 10) dF_mayLimit_1 rfl ⟨by omega, by omega⟩ (fun h1t => ?_) (fun h1f => ?_)
  · skip
    refine fd_iconst C dF_mayLimit_10 ?_
    exact fd_zret C hr hlk (by first | rfl | omega | (split <;> omega) | (simp; omega)) (by omega) rfl dF_mayLimit_11
  · skip
    refine fd_iload_n C dF_mayLimit_4 rfl ?_
    refine fd_bipush C dF_mayLimit_5 (by decide) ?_
    refine fd_icmp_le C (tgt := 12) dF_mayLimit_7 rfl ⟨by omega, by omega⟩ ⟨by omega, by omega⟩ (fun h7t => ?_) (fun h7f => ?_)
    · skip
      refine fd_iload_n C dF_mayLimit_12 rfl ?_
      refine fd_if_le C (tgt := 30) dF_mayLimit_13 rfl ⟨by omega, by omega⟩ (fun h13t => ?_) (fun h13f => ?_)
      · skip
        refine fd_iload_n C dF_mayLimit_30 rfl ?_
        refine fd_iconst C dF_mayLimit_31 ?_
        refine fd_icmp_eq C (tgt := 47) dF_mayLimit_32 rfl ⟨by omega, by omega⟩ ⟨by omega, by omega⟩ (fun h32t => ?_) (fun h32f => ?_)
        · skip
          refine fd_iconst C dF_mayLimit_47 ?_
          refine fd_goto C (tgt := 52) dF_mayLimit_48 rfl ?_
          exact fd_zret C hr hlk (by first | rfl | omega | (split <;> omega) | (simp; omega)) (by omega) rfl dF_mayLimit_52
        · skip
          refine fd_iload_n C dF_mayLimit_35 rfl ?_
          refine fd_aload_n C dF_mayLimit_36 rfl ?_
          refine fd_get C (k := 2) (i := 0) (j := 0) (v := .ref (ad 3 0)) (ds_m (by decide)) rfl rfl (by decide) wsF fw1_39 rfl dF_mayLimit_37 ?_
          refine fd_iload_n C dF_mayLimit_40 rfl ?_
          refine fd_iconst C dF_mayLimit_41 ?_
          refine fd_iadd C dF_mayLimit_42 ?_
          refine fd_iald C (k := 3) (i := 0) (x := f + 1) (v := M 3 0 (f + 1)) (ds_m (by decide)) (fun _ => rfl) (ds_tI cI cB) rfl (by omega) (by decide) rfl dF_mayLimit_43 ?_
          have e2 := h3 (f + 1) (by omega)
          refine fd_icmp_lt C (tgt := 51) dF_mayLimit_44 rfl ⟨by omega, by omega⟩ ⟨by omega, by omega⟩ (fun h44t => ?_) (fun h44f => ?_)
          · skip
            refine fd_iconst C dF_mayLimit_51 ?_
            exact fd_zret C hr hlk (by first | rfl | omega | (split <;> omega) | (simp; omega)) (by omega) rfl dF_mayLimit_52
          · skip
            refine fd_iconst C dF_mayLimit_47 ?_
            refine fd_goto C (tgt := 52) dF_mayLimit_48 rfl ?_
            exact fd_zret C hr hlk (by first | rfl | omega | (split <;> omega) | (simp; omega)) (by omega) rfl dF_mayLimit_52
      · skip
        refine fd_iload_n C dF_mayLimit_16 rfl ?_
        refine fd_aload_n C dF_mayLimit_17 rfl ?_
        refine fd_get C (k := 2) (i := 0) (j := 0) (v := .ref (ad 3 0)) (ds_m (by decide)) rfl rfl (by decide) wsF fw1_39 rfl dF_mayLimit_18 ?_
        refine fd_iload_n C dF_mayLimit_21 rfl ?_
        refine fd_iconst C dF_mayLimit_22 ?_
        refine fd_isub C dF_mayLimit_23 ?_
        refine fd_iald C (k := 3) (i := 0) (x := (f - 1)) (v := M 3 0 ((f - 1))) (ds_m (by decide)) (fun _ => rfl) (ds_tI cI cB) (by omega) (by omega) (by decide) rfl dF_mayLimit_24 ?_
        have e1 := h3 (f - 1) (by omega)
        refine fd_icmp_le C (tgt := 30) dF_mayLimit_25 rfl ⟨by omega, by omega⟩ ⟨by omega, by omega⟩ (fun h25t => ?_) (fun h25f => ?_)
        · skip
          refine fd_iload_n C dF_mayLimit_30 rfl ?_
          refine fd_iconst C dF_mayLimit_31 ?_
          refine fd_icmp_eq C (tgt := 47) dF_mayLimit_32 rfl ⟨by omega, by omega⟩ ⟨by omega, by omega⟩ (fun h32t => ?_) (fun h32f => ?_)
          · skip
            refine fd_iconst C dF_mayLimit_47 ?_
            refine fd_goto C (tgt := 52) dF_mayLimit_48 rfl ?_
            exact fd_zret C hr hlk (by first | rfl | omega | (split <;> omega) | (simp; omega)) (by omega) rfl dF_mayLimit_52
          · skip
            refine fd_iload_n C dF_mayLimit_35 rfl ?_
            refine fd_aload_n C dF_mayLimit_36 rfl ?_
            refine fd_get C (k := 2) (i := 0) (j := 0) (v := .ref (ad 3 0)) (ds_m (by decide)) rfl rfl (by decide) wsF fw1_39 rfl dF_mayLimit_37 ?_
            refine fd_iload_n C dF_mayLimit_40 rfl ?_
            refine fd_iconst C dF_mayLimit_41 ?_
            refine fd_iadd C dF_mayLimit_42 ?_
            refine fd_iald C (k := 3) (i := 0) (x := f + 1) (v := M 3 0 (f + 1)) (ds_m (by decide)) (fun _ => rfl) (ds_tI cI cB) rfl (by omega) (by decide) rfl dF_mayLimit_43 ?_
            have e2 := h3 (f + 1) (by omega)
            refine fd_icmp_lt C (tgt := 51) dF_mayLimit_44 rfl ⟨by omega, by omega⟩ ⟨by omega, by omega⟩ (fun h44t => ?_) (fun h44f => ?_)
            · skip
              refine fd_iconst C dF_mayLimit_51 ?_
              exact fd_zret C hr hlk (by first | rfl | omega | (split <;> omega) | (simp; omega)) (by omega) rfl dF_mayLimit_52
            · skip
              refine fd_iconst C dF_mayLimit_47 ?_
              refine fd_goto C (tgt := 52) dF_mayLimit_48 rfl ?_
              exact fd_zret C hr hlk (by first | rfl | omega | (split <;> omega) | (simp; omega)) (by omega) rfl dF_mayLimit_52
        · skip
          refine fd_iconst C dF_mayLimit_28 ?_
          exact fd_zret C hr hlk (by first | rfl | omega | (split <;> omega) | (simp; omega)) (by omega) rfl dF_mayLimit_29
    · skip
      refine fd_iconst C dF_mayLimit_10 ?_
      exact fd_zret C hr hlk (by first | rfl | omega | (split <;> omega) | (simp; omega)) (by omega) rfl dF_mayLimit_11
set_option maxRecDepth 20000 in
theorem mF_shareFrom (l : Launch) (D : va_G) (cI cB : ClassId) (L : Nat) (ad : Nat → Nat → Nat) (M : fd_Mem) (f : Nat) (hf : f ≤ 4) : ds_Mi l D cI cB L ad yF_shareFrom wF_shareFrom ({ frames := 0, cells := 0, slots := 0, locals := 0 }) [.ref (ad 2 0), .int (fd_I ((f : Nat) : Int))] M (ds_sh M f) (M) := by
  refine fd_enterI (by decide) rfl ds_nd (by simp [Value.category]) (Nat.le_of_ble_eq_true rfl) ?_
  intro A p e s m args below meth c C hr hlk hE
  have C : fd_C p m c cF_shareFrom 4 s args fd_T "FareDesk$Fares" D fd_cl (ds_tys cI cB) ds_wl A := C
  refine fd_pad 2 ?_
  refine fd_iconst C dF_shareFrom_0 ?_
  refine fd_istore_n C dF_shareFrom_1 (by decide) ?_
  refine fd_iload_n C dF_shareFrom_2 rfl ?_
  refine fd_istore_n C dF_shareFrom_3 (by decide) ?_
  have hloop4 : ∀ (dd4 : Nat) (k : Nat), dd4 = 4 - k → (f ≤ k) → (k ≤ 4) → fd_J p l e ({ frames := 0, cells := 0, slots := 0, locals := 0 }) s m args below meth c D fd_cl A ad (ds_en cI cB L ad) ds_wl 4 0 0 (MQ below (fd_QI D fd_cl (ds_tys cI cB) ad (ds_en cI cB L ad) ds_wl A (ds_sh M f) (M)) args s 0 0 A) M 4 [some (.ref (ad 2 0)), some (.int (fd_I ((f : Nat) : Int))), some (.int (fd_I (ds_shp M f k))), some (.int (fd_I ((k : Nat) : Int)))] [] := by
    intro dd4
    induction dd4 using Nat.strongRecOn with
    | ind dd4 ih4 =>
      intro k hdd4 hk1 hk2
      refine fd_iload_n C dF_shareFrom_4 rfl ?_
      refine fd_iconst C dF_shareFrom_5 ?_
      refine fd_icmp_ge C (tgt := 24) dF_shareFrom_6 rfl ⟨by omega, by omega⟩ ⟨by omega, by omega⟩ (fun h6t => ?_) (fun h6f => ?_)
      · skip
        refine fd_iload_n C dF_shareFrom_24 rfl ?_
        exact fd_iret C hr hlk (by rw [show k = 4 by omega]; rfl) rfl dF_shareFrom_25
      · skip
        refine fd_iload_n C dF_shareFrom_9 rfl ?_
        refine fd_aload_n C dF_shareFrom_10 rfl ?_
        refine fd_get C (k := 2) (i := 0) (j := 2) (v := .ref (ad 5 0)) (ds_m (by decide)) rfl rfl (by decide) wsF fw1_43 rfl dF_shareFrom_11 ?_
        refine fd_iload_n C dF_shareFrom_14 rfl ?_
        refine fd_iald C (k := 5) (i := 0) (x := k) (v := M 5 0 k) (ds_m (by decide)) (fun _ => rfl) (ds_tI cI cB) rfl (by omega) (by decide) rfl dF_shareFrom_15 ?_
        refine fd_iadd C dF_shareFrom_16 ?_
        refine fd_istore_n C dF_shareFrom_17 (by decide) ?_
        refine fd_iinc C dF_shareFrom_18 rfl (by decide) ?_
        refine fd_goto C (tgt := 4) dF_shareFrom_21 rfl ?_
        have h9 := ih4 (4 - (k + 1)) (by omega) (k + 1) rfl (by omega) (by omega)
        rw [ds_shp_s M hk1] at h9
        exact h9
  have h9 := hloop4 _ f rfl (by omega) (by omega)
  rw [ds_shp_0] at h9
  exact h9
set_option maxRecDepth 20000 in
theorem mF_roomIn (l : Launch) (D : va_G) (cI cB : ClassId) (L : Nat) (ad : Nat → Nat → Nat) (M : fd_Mem) (f : Nat) (hf : f < 4) (hb : ds_b35 M) : ds_Mi l D cI cB L ad yF_roomIn wF_roomIn ({ frames := 1, cells := 0, slots := 0, locals := 23 }) [.ref (ad 2 0), .int (fd_I ((f : Nat) : Int))] M (ds_rm M f) (M) := by
  refine fd_enterI (by decide) rfl ds_nd (by simp [Value.category]) (Nat.le_of_ble_eq_true rfl) ?_
  intro A p e s m args below meth c C hr hlk hE
  have C : fd_C p m c cF_roomIn 4 s args fd_T "FareDesk$Fares" D fd_cl (ds_tys cI cB) ds_wl A := C
  refine fd_pad 2 ?_
  refine fd_aload_n C dF_roomIn_0 rfl ?_
  refine fd_get C (k := 2) (i := 0) (j := 0) (v := .ref (ad 3 0)) (ds_m (by decide)) rfl rfl (by decide) wsF fw1_39 rfl dF_roomIn_1 ?_
  refine fd_iconst C dF_roomIn_4 ?_
  refine fd_iald C (k := 3) (i := 0) (x := 0) (v := M 3 0 0) (ds_m (by decide)) (fun _ => rfl) (ds_tI cI cB) rfl (by omega) (by decide) rfl dF_roomIn_5 ?_
  refine fd_aload_n C dF_roomIn_6 rfl ?_
  refine fd_iconst C dF_roomIn_7 ?_
  refine fd_callVi C hE [.int (fd_I (0))] (k := 2) (i := 0) (mF_shareFrom l D cI cB L ad M 0 (by omega)) (cwV 1 C.1.2.2.2.2 (gF_shareFrom fw2_20) rfl rfl rfl ⟨rfl, by decide, by decide, by decide +kernel⟩ ⟨by decide, by decide⟩) (ds_m (by decide)) rfl rfl rfl (Nat.le_of_ble_eq_true rfl) dF_roomIn_8 ⟨by decide, by decide⟩ ?_
  refine fd_isub C dF_roomIn_11 ?_
  refine fd_istore_n C dF_roomIn_12 (by decide) ?_
  refine fd_iconst C dF_roomIn_13 ?_
  refine fd_istore_n C dF_roomIn_14 (by decide) ?_
  have hloop15 : ∀ (dd15 : Nat) (j : Nat), dd15 = 4 - j → (j ≤ f) → fd_J p l e ({ frames := 1, cells := 0, slots := 0, locals := 23 }) s m args below meth c D fd_cl A ad (ds_en cI cB L ad) ds_wl 4 0 0 (MQ below (fd_QI D fd_cl (ds_tys cI cB) ad (ds_en cI cB L ad) ds_wl A (ds_rm M f) (M)) args s 0 0 A) M 15 [some (.ref (ad 2 0)), some (.int (fd_I ((f : Nat) : Int))), some (.int (fd_I (ds_rm M j))), some (.int (fd_I ((j + 1 : Nat) : Int)))] [] := by
    intro dd15
    induction dd15 using Nat.strongRecOn with
    | ind dd15 ih15 =>
      intro j hdd15 hj
      refine fd_iload_n C dF_roomIn_15 rfl ?_
      refine fd_iload_n C dF_roomIn_16 rfl ?_
      refine fd_icmp_gt C (tgt := 43) dF_roomIn_17 rfl ⟨by omega, by omega⟩ ⟨by omega, by omega⟩ (fun h17t => ?_) (fun h17f => ?_)
      · skip
        refine fd_iload_n C dF_roomIn_43 rfl ?_
        exact fd_iret C hr hlk (by rw [show j = f by omega]) rfl dF_roomIn_44
      · skip
        refine fd_iload_n C dF_roomIn_20 rfl ?_
        refine fd_aload_n C dF_roomIn_21 rfl ?_
        refine fd_get C (k := 2) (i := 0) (j := 0) (v := .ref (ad 3 0)) (ds_m (by decide)) rfl rfl (by decide) wsF fw1_39 rfl dF_roomIn_22 ?_
        refine fd_iload_n C dF_roomIn_25 rfl ?_
        refine fd_iald C (k := 3) (i := 0) (x := j + 1) (v := M 3 0 (j + 1)) (ds_m (by decide)) (fun _ => rfl) (ds_tI cI cB) rfl (by omega) (by decide) rfl dF_roomIn_26 ?_
        refine fd_aload_n C dF_roomIn_27 rfl ?_
        refine fd_iload_n C dF_roomIn_28 rfl ?_
        refine fd_callVi C hE [.int (fd_I ((j + 1 : Nat) : Int))] (k := 2) (i := 0) (mF_shareFrom l D cI cB L ad M (j + 1) (by omega)) (cwV 1 C.1.2.2.2.2 (gF_shareFrom fw2_20) rfl rfl rfl ⟨rfl, by decide, by decide, by decide +kernel⟩ ⟨by decide, by decide⟩) (ds_m (by decide)) rfl rfl rfl (Nat.le_of_ble_eq_true rfl) dF_roomIn_29 ⟨by decide, by decide⟩ ?_
        refine fd_isub C dF_roomIn_32 ?_
        have e1 := ds_rm_bd hb j (by omega)
        have e2 := ds_sh_bd hb (j + 1)
        have e3 := hb (j + 1) (by omega)
        refine fd_mmin C fw2_24 fw1_25 fw1_2 fw1_26 ⟨by decide, by decide⟩ ⟨by decide, by decide⟩ dF_roomIn_33 ⟨by omega, by omega⟩ ⟨by omega, by omega⟩ ?_
        refine fd_istore_n C dF_roomIn_36 (by decide) ?_
        refine fd_iinc C dF_roomIn_37 rfl (by decide) ?_
        refine fd_goto C (tgt := 15) dF_roomIn_40 rfl ?_
        exact ih15 (4 - (j + 1)) (by omega) (j + 1) rfl (by omega)
  exact hloop15 _ 0 rfl (by omega)
set_option maxRecDepth 20000 in
theorem mF_roomWithout (l : Launch) (D : va_G) (cI cB : ClassId) (L : Nat) (ad : Nat → Nat → Nat) (M : fd_Mem) (i : Nat) (hi : i < 60) (h4 : 0 ≤ M 8 i 4 ∧ M 8 i 4 ≤ 3) (f : Nat) (hf : f < 4) (hb : ds_b35 (fd_u3 M 5 0 (M 8 i 4).toNat (M 5 0 (M 8 i 4).toNat - M 8 i 5))) : ds_Mi l D cI cB L ad yF_roomWithout wF_roomWithout ({ frames := 2, cells := 0, slots := 0, locals := 46 }) [.ref (ad 2 0), .ref (ad 8 i), .int (fd_I ((f : Nat) : Int))] M (ds_rm (fd_u3 M 5 0 (M 8 i 4).toNat (M 5 0 (M 8 i 4).toNat - M 8 i 5)) f) (M) := by
  refine fd_enterI (by decide) rfl ds_nd (by simp [Value.category]) (Nat.le_of_ble_eq_true rfl) ?_
  intro A p e s m args below meth c C hr hlk hE
  have C : fd_C p m c cF_roomWithout 4 s args fd_T "FareDesk$Fares" D fd_cl (ds_tys cI cB) ds_wl A := C
  refine fd_pad 1 ?_
  refine fd_aload_n C dF_roomWithout_0 rfl ?_
  refine fd_get C (k := 2) (i := 0) (j := 2) (v := .ref (ad 5 0)) (ds_m (by decide)) rfl rfl (by decide) wsF fw1_43 rfl dF_roomWithout_1 ?_
  refine fd_aload_n C dF_roomWithout_4 rfl ?_
  refine fd_get C (k := 8) (i := i) (j := 4) (v := .int (fd_I (M 8 i 4))) (ds_m8 hi) rfl rfl (by decide) wsB fw1_85 rfl dF_roomWithout_5 ?_
  refine fd_dup2 C dF_roomWithout_8 rfl rfl ?_
  refine fd_iald C (k := 5) (i := 0) (x := (M 8 i 4).toNat) (v := M 5 0 ((M 8 i 4).toNat)) (ds_m (by decide)) (fun _ => rfl) (ds_tI cI cB) (Int.toNat_of_nonneg (by omega)).symm (by omega) (by decide) rfl dF_roomWithout_9 ?_
  refine fd_aload_n C dF_roomWithout_10 rfl ?_
  refine fd_get C (k := 8) (i := i) (j := 5) (v := .int (fd_I (M 8 i 5))) (ds_m8 hi) rfl rfl (by decide) wsB fw1_88 rfl dF_roomWithout_11 ?_
  refine fd_isub C dF_roomWithout_14 ?_
  refine fd_iast C (k := 5) (i := 0) (x := (M 8 i 4).toNat) (v := ((M 5 0 ((M 8 i 4).toNat)) - (M 8 i 5))) (ds_m (by decide)) (fun _ => rfl) (ds_tI cI cB) (Int.toNat_of_nonneg (by omega)).symm (by omega) (by decide) dF_roomWithout_15 ?_
  refine fd_aload_n C dF_roomWithout_16 rfl ?_
  refine fd_iload_n C dF_roomWithout_17 rfl ?_
  refine fd_callVi C hE [.int (fd_I ((f : Nat) : Int))] (k := 2) (i := 0) (mF_roomIn l D cI cB L ad (fd_u3 M 5 0 ((M 8 i 4).toNat) ((M 5 0 ((M 8 i 4).toNat)) - (M 8 i 5))) f hf hb) (cwV 1 C.1.2.2.2.2 (gF_roomIn fw2_159) rfl rfl rfl ⟨rfl, by decide, by decide, by decide +kernel⟩ ⟨by decide, by decide⟩) (ds_m (by decide)) rfl rfl rfl (Nat.le_of_ble_eq_true rfl) dF_roomWithout_18 ⟨by decide, by decide⟩ ?_
  refine fd_istore_n C dF_roomWithout_21 (by decide) ?_
  refine fd_aload_n C dF_roomWithout_22 rfl ?_
  refine fd_get C (k := 2) (i := 0) (j := 2) (v := .ref (ad 5 0)) (ds_m (by decide)) rfl rfl (by decide) wsF fw1_43 rfl dF_roomWithout_23 ?_
  refine fd_aload_n C dF_roomWithout_26 rfl ?_
  refine fd_get C (k := 8) (i := i) (j := 4) (v := .int (fd_I (M 8 i 4))) (ds_m8 hi) rfl rfl (by decide) wsB fw1_85 rfl dF_roomWithout_27 ?_
  refine fd_dup2 C dF_roomWithout_30 rfl rfl ?_
  refine fd_iald C (k := 5) (i := 0) (x := (M 8 i 4).toNat) (v := (M 5 0 ((M 8 i 4).toNat)) - (M 8 i 5)) (ds_m (by decide)) (fun _ => rfl) (ds_tI cI cB) (Int.toNat_of_nonneg (by omega)).symm (by omega) (by decide) (fd_u3_same M 5 0 ((M 8 i 4).toNat) ((M 5 0 ((M 8 i 4).toNat)) - (M 8 i 5))) dF_roomWithout_31 ?_
  refine fd_aload_n C dF_roomWithout_32 rfl ?_
  refine fd_get C (k := 8) (i := i) (j := 5) (v := .int (fd_I (M 8 i 5))) (ds_m8 hi) rfl rfl (by decide) wsB fw1_88 rfl dF_roomWithout_33 ?_
  refine fd_iadd C dF_roomWithout_36 ?_
  refine fd_iast C (k := 5) (i := 0) (x := (M 8 i 4).toNat) (v := (((M 5 0 ((M 8 i 4).toNat)) - (M 8 i 5)) + (M 8 i 5))) (ds_m (by decide)) (fun _ => rfl) (ds_tI cI cB) (Int.toNat_of_nonneg (by omega)).symm (by omega) (by decide) dF_roomWithout_37 ?_
  refine fd_iload_n C dF_roomWithout_38 rfl ?_
  exact fd_iret C hr hlk rfl (by rw [fd_u3_u, show M 5 0 (M 8 i 4).toNat - M 8 i 5 + M 8 i 5 = M 5 0 (M 8 i 4).toNat by omega, fd_u3_self]) dF_roomWithout_39
set_option maxRecDepth 20000 in
theorem mK_give (l : Launch) (D : va_G) (cI cB : ClassId) (L : Nat) (ad : Nat → Nat → Nat) (M : fd_Mem) (i : Nat) (hi : i < 60) (sq : Nat) (hs : sq < L) (hL : L ≤ 60) (h2 : 0 ≤ M 8 i 2 ∧ M 8 i 2 < 6) : ds_Mv l D cI cB L ad yK_give wK_give ({ frames := 0, cells := 0, slots := 0, locals := 0 }) [.ref (ad 6 0), .ref (ad 8 i), .int (fd_I ((sq : Nat) : Int))] M (ds_give M i sq) := by
  refine fd_enterV (by decide) rfl ds_nd (by simp [Value.category]) (Nat.le_of_ble_eq_true rfl) ?_
  intro A p e s m args below meth c C hr hlk hE
  have C : fd_C p m c cK_give 3 s args fd_T "FareDesk$Cabin" D fd_cl (ds_tys cI cB) ds_wl A := C
  refine fd_pad 0 ?_
  refine fd_aload_n C dK_give_0 rfl ?_
  refine fd_get C (k := 6) (i := 0) (j := 0) (v := .ref (ad 7 0)) (ds_m (by decide)) rfl rfl (by decide) wsK fw1_60 rfl dK_give_1 ?_
  refine fd_iload_n C dK_give_4 rfl ?_
  refine fd_aload_n C dK_give_5 rfl ?_
  refine fd_get C (k := 8) (i := i) (j := 0) (v := .int (fd_I (M 8 i 0))) (ds_m8 hi) rfl rfl (by decide) wsB fw1_75 rfl dK_give_6 ?_
  refine fd_iast C (k := 7) (i := 0) (x := sq) (v := (M 8 i 0)) (ds_m (by decide)) (fun _ => rfl) (ds_tI cI cB) rfl (by omega) (by omega) dK_give_9 ?_
  refine fd_aload_n C dK_give_10 rfl ?_
  refine fd_get C (k := 8) (i := i) (j := 1) (v := .ref (ad 9 i)) (ds_m8 hi) rfl rfl (by decide) wsB fw1_78 rfl dK_give_11 ?_
  refine fd_aload_n C dK_give_14 rfl ?_
  refine fd_get C (k := 8) (i := i) (j := 2) (v := .int (fd_I (M 8 i 2))) (ds_m8 hi) rfl rfl (by decide) wsB fw1_81 rfl dK_give_15 ?_
  refine fd_iload_n C dK_give_18 rfl ?_
  refine fd_iast C (k := 9) (i := i) (x := (M 8 i 2).toNat) (v := (((sq : Nat) : Int))) (ds_m9 hi) (fun _ => rfl) (ds_tI cI cB) (Int.toNat_of_nonneg (by omega)).symm (by omega) (by decide) dK_give_19 ?_
  refine fd_aload_n C dK_give_20 rfl ?_
  refine fd_dup C dK_give_21 rfl ?_
  refine fd_get C (k := 8) (i := i) (j := 2) (v := .int (fd_I (M 8 i 2))) (ds_m8 hi) rfl rfl (by decide) wsB fw1_81 rfl dK_give_22 ?_
  refine fd_iconst C dK_give_25 ?_
  refine fd_iadd C dK_give_26 ?_
  refine fd_put C (k := 8) (i := i) (j := 2) (z := ((M 8 i 2) + 1)) (ty := .int) tyB (ds_m8 hi) rfl rfl rfl (by decide) wsB tyB_ok nmB fw1_81 rfl (by decide +kernel) rfl rfl (Nat.le_of_ble_eq_true rfl) dK_give_27 ?_
  refine fd_aload_n C dK_give_30 rfl ?_
  refine fd_dup C dK_give_31 rfl ?_
  refine fd_get C (k := 6) (i := 0) (j := 1) (v := .int (fd_I (M 6 0 1))) (ds_m (by decide)) rfl rfl (by decide) wsK fw1_62 rfl dK_give_32 ?_
  refine fd_iconst C dK_give_35 ?_
  refine fd_isub C dK_give_36 ?_
  refine fd_put C (k := 6) (i := 0) (j := 1) (z := ((M 6 0 1) - 1)) (ty := .int) tyK (ds_m (by decide)) rfl rfl rfl (by decide) wsK tyK_ok nmK fw1_62 rfl (by decide +kernel) rfl rfl (Nat.le_of_ble_eq_true rfl) dK_give_37 ?_
  exact fd_vret C hr hlk rfl dK_give_40
set_option maxRecDepth 20000 in
theorem mK_giveMissing (l : Launch) (D : va_G) (cI cB : ClassId) (L : Nat) (ad : Nat → Nat → Nat) (M : fd_Mem) (i : Nat) (hi : i < 60) (s0 : Nat) (hs0 : s0 ≤ L) (hL : L ≤ 60) (hg : ds_gb L M i) : ds_Mv l D cI cB L ad yK_giveMissing wK_giveMissing ({ frames := 1, cells := 0, slots := 0, locals := 22 }) [.ref (ad 6 0), .ref (ad 8 i), .int (fd_I ((s0 : Nat) : Int))] M (ds_miss i (L - s0) s0 M) := by
  refine fd_enterV (by decide) rfl ds_nd (by simp [Value.category]) (Nat.le_of_ble_eq_true rfl) ?_
  intro A p e s m args below meth c C hr hlk hE
  have C : fd_C p m c cK_giveMissing 4 s args fd_T "FareDesk$Cabin" D fd_cl (ds_tys cI cB) ds_wl A := C
  refine fd_pad 1 ?_
  refine fd_iload_n C dK_giveMissing_0 rfl ?_
  refine fd_istore_n C dK_giveMissing_1 (by decide) ?_
  have hloop2 : ∀ (dd2 : Nat) (sq : Nat) (P : fd_Mem), dd2 = L - sq → (sq ≤ L) → (ds_gb L P i) → (ds_miss i (L - sq) sq P = ds_miss i (L - s0) s0 M) → fd_J p l e ({ frames := 1, cells := 0, slots := 0, locals := 22 }) s m args below meth c D fd_cl A ad (ds_en cI cB L ad) ds_wl 4 0 0 (MQ below (fd_QV D fd_cl (ds_tys cI cB) ad (ds_en cI cB L ad) ds_wl A (ds_miss i (L - s0) s0 M)) args s 0 0 A) P 2 [some (.ref (ad 6 0)), some (.ref (ad 8 i)), some (.int (fd_I ((s0 : Nat) : Int))), some (.int (fd_I ((sq : Nat) : Int)))] [] := by
    intro dd2
    induction dd2 using Nat.strongRecOn with
    | ind dd2 ih2 =>
      intro sq P hdd2 hs hgP hN
      refine fd_iload_n C dK_giveMissing_2 rfl ?_
      refine fd_aload_n C dK_giveMissing_3 rfl ?_
      refine fd_get C (k := 6) (i := 0) (j := 0) (v := .ref (ad 7 0)) (ds_m (by decide)) rfl rfl (by decide) wsK fw1_60 rfl dK_giveMissing_4 ?_
      refine fd_alen C (k := 7) (i := 0) (ds_m (by decide)) rfl (ds_tI cI cB) dK_giveMissing_7 ?_
      have e1 := hgP.1
      refine fd_icmp_ge C (tgt := 38) dK_giveMissing_8 rfl ⟨by omega, by omega⟩ ⟨by omega, by omega⟩ (fun h8t => ?_) (fun h8f => ?_)
      · skip
        exact fd_vret C hr hlk (by rw [← hN]; cases hd : L - sq with | zero => rfl | succ d => (unfold ds_miss; rw [if_pos (by omega)])) dK_giveMissing_38
      · skip
        refine fd_aload_n C dK_giveMissing_11 rfl ?_
        refine fd_callVi C hE [] (k := 8) (i := i) (mB_seatsMissing l D cI cB L ad P i hi) (cwV 0 C.1.2.2.2.2 (gB_seatsMissing fw2_213) rfl rfl rfl ⟨rfl, by decide, by decide, by decide +kernel⟩ ⟨by decide, by decide⟩) (ds_m8 hi) rfl rfl rfl (Nat.le_of_ble_eq_true rfl) dK_giveMissing_12 ⟨by decide, by decide⟩ ?_
        refine fd_if_le C (tgt := 38) dK_giveMissing_15 rfl ⟨by omega, by omega⟩ (fun h15t => ?_) (fun h15f => ?_)
        · skip
          exact fd_vret C hr hlk (by rw [← hN]; cases hd : L - sq with | zero => rfl | succ d => (unfold ds_miss; rw [if_pos (by omega)])) dK_giveMissing_38
        · skip
          refine fd_aload_n C dK_giveMissing_18 rfl ?_
          refine fd_iload_n C dK_giveMissing_19 rfl ?_
          refine fd_callVi C hE [.int (fd_I ((sq : Nat) : Int))] (k := 6) (i := 0) (mK_isFree l D cI cB L ad P sq (by omega) hL (hgP.2.2 sq (by omega))) (cwV 1 C.1.2.2.2.2 (gK_isFree fw2_208) rfl rfl rfl ⟨rfl, by decide, by decide, by decide +kernel⟩ ⟨by decide, by decide⟩) (ds_m (by decide)) rfl rfl rfl (Nat.le_of_ble_eq_true rfl) dK_giveMissing_20 ⟨by decide, by decide⟩ ?_
          refine fd_if_eq C (tgt := 32) dK_giveMissing_23 rfl ⟨by split <;> omega, by split <;> omega⟩ (fun h23t => ?_) (fun h23f => ?_)
          · skip
            refine fd_iinc C dK_giveMissing_32 rfl (by decide) ?_
            refine fd_goto C (tgt := 2) dK_giveMissing_35 rfl ?_
            have hgt : ¬ P 7 0 sq = -1 := by
              intro hc
              rw [if_pos hc] at h23t
              omega
            rw [show L - sq = (L - (sq + 1)) + 1 by omega] at hN
            rw [ds_miss_s, if_neg (by omega), if_neg hgt] at hN
            exact ih2 (L - (sq + 1)) (by omega) (sq + 1) P rfl (by omega) hgP hN
          · skip
            refine fd_aload_n C dK_giveMissing_26 rfl ?_
            refine fd_aload_n C dK_giveMissing_27 rfl ?_
            refine fd_iload_n C dK_giveMissing_28 rfl ?_
            refine fd_callVv C hE [.ref (ad 8 i), .int (fd_I ((sq : Nat) : Int))] (k := 6) (i := 0) (mK_give l D cI cB L ad P i hi sq (by omega) hL (by omega)) (cwV 2 C.1.2.2.2.2 (gK_give fw2_214) rfl rfl rfl ⟨rfl, by decide, by decide, by decide +kernel⟩ ⟨by decide, by decide⟩) (ds_m (by decide)) rfl rfl rfl (Nat.le_of_ble_eq_true rfl) dK_giveMissing_29 ⟨by decide, by decide⟩ ?_
            refine fd_iinc C dK_giveMissing_32 rfl (by decide) ?_
            refine fd_goto C (tgt := 2) dK_giveMissing_35 rfl ?_
            have hgt : P 7 0 sq = -1 := by
              by_cases hc : P 7 0 sq = -1
              · exact hc
              · rw [if_neg hc] at h23f
                exact absurd rfl h23f
            rw [show L - sq = (L - (sq + 1)) + 1 by omega] at hN
            rw [ds_miss_s, if_neg (by omega), if_pos hgt] at hN
            exact ih2 (L - (sq + 1)) (by omega) (sq + 1) (ds_give P i sq) rfl (by omega) (ds_gb_give hgP (by omega)) hN
  exact hloop2 _ s0 M rfl hs0 hg rfl
set_option maxRecDepth 20000 in
theorem mK_takeAllBut (l : Launch) (D : va_G) (cI cB : ClassId) (L : Nat) (ad : Nat → Nat → Nat) (M : fd_Mem) (i : Nat) (hi : i < 60) (k : Int) (hk : 0 ≤ k ∧ k ≤ 6) (hL : L ≤ 60) (ht : ds_tb L M i) : ds_Mv l D cI cB L ad yK_takeAllBut wK_takeAllBut ({ frames := 0, cells := 0, slots := 0, locals := 0 }) [.ref (ad 6 0), .ref (ad 8 i), .int (fd_I (k))] M (ds_take i (M 8 i 2 - k).toNat M) := by
  refine fd_enterV (by decide) rfl ds_nd (by simp [Value.category]) (Nat.le_of_ble_eq_true rfl) ?_
  intro A p e s m args below meth c C hr hlk hE
  have C : fd_C p m c cK_takeAllBut 3 s args fd_T "FareDesk$Cabin" D fd_cl (ds_tys cI cB) ds_wl A := C
  refine fd_pad 0 ?_
  have hloop0 : ∀ (dd0 : Nat) (P : fd_Mem), dd0 = (P 8 i 2 - k).toNat → (ds_tb L P i) → (ds_take i (P 8 i 2 - k).toNat P = ds_take i (M 8 i 2 - k).toNat M) → fd_J p l e ({ frames := 0, cells := 0, slots := 0, locals := 0 }) s m args below meth c D fd_cl A ad (ds_en cI cB L ad) ds_wl 3 0 0 (MQ below (fd_QV D fd_cl (ds_tys cI cB) ad (ds_en cI cB L ad) ds_wl A (ds_take i (M 8 i 2 - k).toNat M)) args s 0 0 A) P 0 [some (.ref (ad 6 0)), some (.ref (ad 8 i)), some (.int (fd_I (k)))] [] := by
    intro dd0
    induction dd0 using Nat.strongRecOn with
    | ind dd0 ih0 =>
      intro P hdd0 htP hN
      refine fd_aload_n C dK_takeAllBut_0 rfl ?_
      refine fd_get C (k := 8) (i := i) (j := 2) (v := .int (fd_I (P 8 i 2))) (ds_m8 hi) rfl rfl (by decide) wsB fw1_81 rfl dK_takeAllBut_1 ?_
      refine fd_iload_n C dK_takeAllBut_4 rfl ?_
      have e1 := htP.1
      refine fd_icmp_le C (tgt := 46) dK_takeAllBut_5 rfl ⟨by omega, by omega⟩ ⟨by omega, by omega⟩ (fun h5t => ?_) (fun h5f => ?_)
      · skip
        exact fd_vret C hr hlk (by rw [← hN, show (P 8 i 2 - k).toNat = 0 by omega]; rfl) dK_takeAllBut_46
      · skip
        refine fd_aload_n C dK_takeAllBut_8 rfl ?_
        refine fd_dup C dK_takeAllBut_9 rfl ?_
        refine fd_get C (k := 8) (i := i) (j := 2) (v := .int (fd_I (P 8 i 2))) (ds_m8 hi) rfl rfl (by decide) wsB fw1_81 rfl dK_takeAllBut_10 ?_
        refine fd_iconst C dK_takeAllBut_13 ?_
        refine fd_isub C dK_takeAllBut_14 ?_
        refine fd_put C (k := 8) (i := i) (j := 2) (z := ((P 8 i 2) - 1)) (ty := .int) tyB (ds_m8 hi) rfl rfl rfl (by decide) wsB tyB_ok nmB fw1_81 rfl (by decide +kernel) rfl rfl (Nat.le_of_ble_eq_true rfl) dK_takeAllBut_15 ?_
        refine fd_aload_n C dK_takeAllBut_18 rfl ?_
        refine fd_get C (k := 6) (i := 0) (j := 0) (v := .ref (ad 7 0)) (ds_m (by decide)) rfl rfl (by decide) wsK fw1_60 rfl dK_takeAllBut_19 ?_
        refine fd_aload_n C dK_takeAllBut_22 rfl ?_
        refine fd_get C (k := 8) (i := i) (j := 1) (v := .ref (ad 9 i)) (ds_m8 hi) rfl rfl (by decide) wsB fw1_78 rfl dK_takeAllBut_23 ?_
        refine fd_aload_n C dK_takeAllBut_26 rfl ?_
        refine fd_get C (k := 8) (i := i) (j := 2) (v := .int (fd_I ((P 8 i 2) - 1))) (ds_m8 hi) rfl rfl (by decide) wsB fw1_81 (congrArg (fun z => some (Value.int (fd_I z))) (fd_u3_same P 8 i 2 ((P 8 i 2) - 1))) dK_takeAllBut_27 ?_
        refine fd_iald C (k := 9) (i := i) (x := ((P 8 i 2) - 1).toNat) (v := P 9 i (((P 8 i 2) - 1).toNat)) (ds_m9 hi) (fun _ => rfl) (ds_tI cI cB) (Int.toNat_of_nonneg (by omega)).symm (by omega) (by decide) rfl dK_takeAllBut_30 ?_
        refine fd_iconst C dK_takeAllBut_31 ?_
        have e2 := htP.2 (P 8 i 2 - 1).toNat (by omega)
        refine fd_iast C (k := 7) (i := 0) (x := (P 9 i (((P 8 i 2) - 1).toNat)).toNat) (v := (-1)) (ds_m (by decide)) (fun _ => rfl) (ds_tI cI cB) (Int.toNat_of_nonneg (by omega)).symm (by omega) (by omega) dK_takeAllBut_32 ?_
        refine fd_aload_n C dK_takeAllBut_33 rfl ?_
        refine fd_dup C dK_takeAllBut_34 rfl ?_
        refine fd_get C (k := 6) (i := 0) (j := 1) (v := .int (fd_I (P 6 0 1))) (ds_m (by decide)) rfl rfl (by decide) wsK fw1_62 rfl dK_takeAllBut_35 ?_
        refine fd_iconst C dK_takeAllBut_38 ?_
        refine fd_iadd C dK_takeAllBut_39 ?_
        refine fd_put C (k := 6) (i := 0) (j := 1) (z := ((P 6 0 1) + 1)) (ty := .int) tyK (ds_m (by decide)) rfl rfl rfl (by decide) wsK tyK_ok nmK fw1_62 rfl (by decide +kernel) rfl rfl (Nat.le_of_ble_eq_true rfl) dK_takeAllBut_40 ?_
        refine fd_goto C (tgt := 0) dK_takeAllBut_43 rfl ?_
        have e9 : (ds_take1 P i) 8 i 2 = P 8 i 2 - 1 := by simp [ds_take1, fd_u3_at]
        rw [show (P 8 i 2 - k).toNat = ((ds_take1 P i) 8 i 2 - k).toNat + 1 by rw [e9]; omega] at hN
        exact ih0 ((ds_take1 P i) 8 i 2 - k).toNat (by rw [e9]; omega) (ds_take1 P i) rfl (ds_tb_take htP (by omega)) hN
  exact hloop0 _ M rfl ht rfl
set_option maxRecDepth 20000 in
theorem mK_areFree (l : Launch) (D : va_G) (cI cB : ClassId) (L : Nat) (ad : Nat → Nat → Nat) (M : fd_Mem) (a w : Nat) (haw : a + w ≤ L) (hL : L ≤ 60) (h7 : ∀ sq, sq < L → -1 ≤ M 7 0 sq ∧ M 7 0 sq ≤ 60) : ds_Mi l D cI cB L ad yK_areFree wK_areFree ({ frames := 1, cells := 0, slots := 0, locals := 21 }) [.ref (ad 6 0), .int (fd_I ((a : Nat) : Int)), .int (fd_I ((w : Nat) : Int))] M (ds_af M w a) (M) := by
  refine fd_enterI (by decide) rfl ds_nd (by simp [Value.category]) (Nat.le_of_ble_eq_true rfl) ?_
  intro A p e s m args below meth c C hr hlk hE
  have C : fd_C p m c cK_areFree 4 s args fd_T "FareDesk$Cabin" D fd_cl (ds_tys cI cB) ds_wl A := C
  refine fd_pad 1 ?_
  refine fd_iload_n C dK_areFree_0 rfl ?_
  refine fd_istore_n C dK_areFree_1 (by decide) ?_
  have hloop2 : ∀ (dd2 : Nat) (sq : Nat), dd2 = a + w - sq → (a ≤ sq) → (sq ≤ a + w) → (ds_af M (a + w - sq) sq = ds_af M w a) → fd_J p l e ({ frames := 1, cells := 0, slots := 0, locals := 21 }) s m args below meth c D fd_cl A ad (ds_en cI cB L ad) ds_wl 4 0 0 (MQ below (fd_QI D fd_cl (ds_tys cI cB) ad (ds_en cI cB L ad) ds_wl A (ds_af M w a) (M)) args s 0 0 A) M 2 [some (.ref (ad 6 0)), some (.int (fd_I ((a : Nat) : Int))), some (.int (fd_I ((w : Nat) : Int))), some (.int (fd_I ((sq : Nat) : Int)))] [] := by
    intro dd2
    induction dd2 using Nat.strongRecOn with
    | ind dd2 ih2 =>
      intro sq hdd2 hs1 hs2 hN
      refine fd_iload_n C dK_areFree_2 rfl ?_
      refine fd_iload_n C dK_areFree_3 rfl ?_
      refine fd_iload_n C dK_areFree_4 rfl ?_
      refine fd_iadd C dK_areFree_5 ?_
      refine fd_icmp_ge C (tgt := 25) dK_areFree_6 rfl ⟨by omega, by omega⟩ ⟨by omega, by omega⟩ (fun h6t => ?_) (fun h6f => ?_)
      · skip
        refine fd_iconst C dK_areFree_25 ?_
        exact fd_zret C hr hlk (by rw [← hN, show a + w - sq = 0 by omega]; rfl) (by omega) rfl dK_areFree_26
      · skip
        refine fd_aload_n C dK_areFree_9 rfl ?_
        refine fd_iload_n C dK_areFree_10 rfl ?_
        refine fd_callVi C hE [.int (fd_I ((sq : Nat) : Int))] (k := 6) (i := 0) (mK_isFree l D cI cB L ad M sq (by omega) hL (h7 sq (by omega))) (cwV 1 C.1.2.2.2.2 (gK_isFree fw2_208) rfl rfl rfl ⟨rfl, by decide, by decide, by decide +kernel⟩ ⟨by decide, by decide⟩) (ds_m (by decide)) rfl rfl rfl (Nat.le_of_ble_eq_true rfl) dK_areFree_11 ⟨by decide, by decide⟩ ?_
        refine fd_if_ne C (tgt := 19) dK_areFree_14 rfl ⟨by split <;> omega, by split <;> omega⟩ (fun h14t => ?_) (fun h14f => ?_)
        · skip
          refine fd_iinc C dK_areFree_19 rfl (by decide) ?_
          refine fd_goto C (tgt := 2) dK_areFree_22 rfl ?_
          have hfr : M 7 0 sq = -1 := by
            by_cases hc : M 7 0 sq = -1
            · exact hc
            · rw [if_neg hc] at h14t
              exact absurd rfl h14t
          rw [show a + w - sq = (a + w - (sq + 1)) + 1 by omega] at hN
          rw [ds_af_s, if_pos hfr] at hN
          exact ih2 (a + w - (sq + 1)) (by omega) (sq + 1) rfl (by omega) (by omega) hN
        · skip
          refine fd_iconst C dK_areFree_17 ?_
          exact fd_zret C hr hlk (by
            rw [← hN, show a + w - sq = (a + w - (sq + 1)) + 1 by omega]
            unfold ds_af
            rw [if_neg (by intro hc; rw [if_pos hc] at h14f; omega)]) (by omega) rfl dK_areFree_18
  exact hloop2 _ a rfl (by omega) (by omega) (by rw [show a + w - a = w by omega])
set_option maxRecDepth 20000 in
theorem mK_blockStart3 (l : Launch) (D : va_G) (cI cB : ClassId) (L : Nat) (ad : Nat → Nat → Nat) (M : fd_Mem) (w : Nat) (hw : 1 ≤ w ∧ w ≤ 6) (hL : L ≤ 60) (h7 : ∀ sq, sq < L → -1 ≤ M 7 0 sq ∧ M 7 0 sq ≤ 60) : ds_Mi l D cI cB L ad yK_blockStart wK_blockStart ({ frames := 2, cells := 0, slots := 0, locals := 44 }) [.ref (ad 6 0), .int (fd_I ((w : Nat) : Int)), .int (fd_I (3))] M (ds_bo M w 3 (L / 3) 0) (M) := by
  refine fd_enterI (by decide) rfl ds_nd (by simp [Value.category]) (Nat.le_of_ble_eq_true rfl) ?_
  intro A p e s m args below meth c C hr hlk hE
  have C : fd_C p m c cK_blockStart 5 s args fd_T "FareDesk$Cabin" D fd_cl (ds_tys cI cB) ds_wl A := C
  refine fd_pad 2 ?_
  refine fd_iconst C dK_blockStart_0 ?_
  refine fd_istore_n C dK_blockStart_1 (by decide) ?_
  have hloop2 : ∀ (dd2 : Nat) (lf : Nat), dd2 = L - lf → (lf ≤ L) → (ds_bo M w 3 ((L - lf) / 3) lf = ds_bo M w 3 (L / 3) 0) → fd_J p l e ({ frames := 2, cells := 0, slots := 0, locals := 44 }) s m args below meth c D fd_cl A ad (ds_en cI cB L ad) ds_wl 5 0 0 (MQ below (fd_QI D fd_cl (ds_tys cI cB) ad (ds_en cI cB L ad) ds_wl A (ds_bo M w 3 (L / 3) 0) (M)) args s 0 0 A) M 2 [some (.ref (ad 6 0)), some (.int (fd_I ((w : Nat) : Int))), some (.int (fd_I (3))), some (.int (fd_I ((lf : Nat) : Int))), none] [] := by
    intro dd2
    induction dd2 using Nat.strongRecOn with
    | ind dd2 ih2 =>
      intro lf hdd2 hlf hO
      refine fd_iload_n C dK_blockStart_2 rfl ?_
      refine fd_iload_n C dK_blockStart_3 rfl ?_
      refine fd_iadd C dK_blockStart_4 ?_
      refine fd_aload_n C dK_blockStart_5 rfl ?_
      refine fd_get C (k := 6) (i := 0) (j := 0) (v := .ref (ad 7 0)) (ds_m (by decide)) rfl rfl (by decide) wsK fw1_60 rfl dK_blockStart_6 ?_
      refine fd_alen C (k := 7) (i := 0) (ds_m (by decide)) rfl (ds_tI cI cB) dK_blockStart_9 ?_
      refine fd_icmp_gt C (tgt := 52) dK_blockStart_10 rfl ⟨by omega, by omega⟩ ⟨by omega, by omega⟩ (fun h10t => ?_) (fun h10f => ?_)
      · skip
        refine fd_iconst C dK_blockStart_52 ?_
        exact fd_iret C hr hlk (by rw [← hO, show (L - lf) / 3 = 0 by omega]; rfl) rfl dK_blockStart_53
      · skip
        refine fd_iload_n C dK_blockStart_13 rfl ?_
        refine fd_istore C dK_blockStart_14 (by decide) ?_
        have hloop16 : ∀ (dd16 : Nat) (sq : Nat), dd16 = lf + 3 - sq → (lf ≤ sq) → (sq ≤ lf + 3) → (ds_bi M w (lf + 3 + 1 - w - sq) sq = ds_bi M w (3 + 1 - w) lf) → fd_J p l e ({ frames := 2, cells := 0, slots := 0, locals := 44 }) s m args below meth c D fd_cl A ad (ds_en cI cB L ad) ds_wl 5 0 0 (MQ below (fd_QI D fd_cl (ds_tys cI cB) ad (ds_en cI cB L ad) ds_wl A (ds_bo M w 3 (L / 3) 0) (M)) args s 0 0 A) M 16 [some (.ref (ad 6 0)), some (.int (fd_I ((w : Nat) : Int))), some (.int (fd_I (3))), some (.int (fd_I ((lf : Nat) : Int))), some (.int (fd_I ((sq : Nat) : Int)))] [] := by
          intro dd16
          induction dd16 using Nat.strongRecOn with
          | ind dd16 ih16 =>
            intro sq hdd16 hsq hsq2 hI
            refine fd_iload C dK_blockStart_16 rfl ?_
            refine fd_iload_n C dK_blockStart_18 rfl ?_
            refine fd_iadd C dK_blockStart_19 ?_
            refine fd_iload_n C dK_blockStart_20 rfl ?_
            refine fd_iload_n C dK_blockStart_21 rfl ?_
            refine fd_iadd C dK_blockStart_22 ?_
            refine fd_icmp_gt C (tgt := 45) dK_blockStart_23 rfl ⟨by omega, by omega⟩ ⟨by omega, by omega⟩ (fun h23t => ?_) (fun h23f => ?_)
            · skip
              refine fd_iload_n C dK_blockStart_45 rfl ?_
              refine fd_iload_n C dK_blockStart_46 rfl ?_
              refine fd_iadd C dK_blockStart_47 ?_
              refine fd_istore_n C dK_blockStart_48 (by decide) ?_
              refine fd_goto C (tgt := 2) dK_blockStart_49 rfl ?_
              have e5 : ds_bi M w (3 + 1 - w) lf = -1 := by
                rw [← hI, show lf + 3 + 1 - w - sq = 0 by omega]
                rfl
              rw [show (L - lf) / 3 = (L - (lf + 3)) / 3 + 1 by omega, ds_bo_s, if_pos e5] at hO
              refine fd_drop 4 ?_
              exact ih2 (L - (lf + 3)) (by omega) (lf + 3) rfl (by omega) hO
            · skip
              refine fd_aload_n C dK_blockStart_26 rfl ?_
              refine fd_iload C dK_blockStart_27 rfl ?_
              refine fd_iload_n C dK_blockStart_29 rfl ?_
              refine fd_callVi C hE [.int (fd_I ((sq : Nat) : Int)), .int (fd_I ((w : Nat) : Int))] (k := 6) (i := 0) (mK_areFree l D cI cB L ad M sq w (by omega) hL h7) (cwV 2 C.1.2.2.2.2 (gK_areFree fw2_204) rfl rfl rfl ⟨rfl, by decide, by decide, by decide +kernel⟩ ⟨by decide, by decide⟩) (ds_m (by decide)) rfl rfl rfl (Nat.le_of_ble_eq_true rfl) dK_blockStart_30 ⟨by decide, by decide⟩ ?_
              have e3 := ds_af_01 M w sq
              refine fd_if_eq C (tgt := 39) dK_blockStart_33 rfl ⟨by omega, by omega⟩ (fun h33t => ?_) (fun h33f => ?_)
              · skip
                refine fd_iinc C dK_blockStart_39 rfl (by decide) ?_
                refine fd_goto C (tgt := 16) dK_blockStart_42 rfl ?_
                rw [show lf + 3 + 1 - w - sq = (lf + 3 + 1 - w - (sq + 1)) + 1 by omega, ds_bi_s, if_neg (by omega)] at hI
                exact ih16 (lf + 3 - (sq + 1)) (by omega) (sq + 1) rfl (by omega) (by omega) hI
              · skip
                refine fd_iload C dK_blockStart_36 rfl ?_
                exact fd_iret C hr hlk (by
            rw [show lf + 3 + 1 - w - sq = (lf + 3 + 1 - w - (sq + 1)) + 1 by omega, ds_bi_s, if_pos (by omega)] at hI
            rw [← hO, show (L - lf) / 3 = (L - (lf + 3)) / 3 + 1 by omega, ds_bo_s, ← hI, if_neg (by omega)]) rfl dK_blockStart_38
        exact hloop16 _ lf rfl (by omega) (by omega) (by rw [show lf + 3 + 1 - w - lf = 3 + 1 - w by omega])
  exact hloop2 _ 0 rfl (by omega) (by rw [show L - 0 = L by omega])
set_option maxRecDepth 20000 in
theorem mK_blockStart6 (l : Launch) (D : va_G) (cI cB : ClassId) (L : Nat) (ad : Nat → Nat → Nat) (M : fd_Mem) (w : Nat) (hw : 1 ≤ w ∧ w ≤ 6) (hL : L ≤ 60) (h7 : ∀ sq, sq < L → -1 ≤ M 7 0 sq ∧ M 7 0 sq ≤ 60) : ds_Mi l D cI cB L ad yK_blockStart wK_blockStart ({ frames := 2, cells := 0, slots := 0, locals := 44 }) [.ref (ad 6 0), .int (fd_I ((w : Nat) : Int)), .int (fd_I (6))] M (ds_bo M w 6 (L / 6) 0) (M) := by
  refine fd_enterI (by decide) rfl ds_nd (by simp [Value.category]) (Nat.le_of_ble_eq_true rfl) ?_
  intro A p e s m args below meth c C hr hlk hE
  have C : fd_C p m c cK_blockStart 5 s args fd_T "FareDesk$Cabin" D fd_cl (ds_tys cI cB) ds_wl A := C
  refine fd_pad 2 ?_
  refine fd_iconst C dK_blockStart_0 ?_
  refine fd_istore_n C dK_blockStart_1 (by decide) ?_
  have hloop2 : ∀ (dd2 : Nat) (lf : Nat), dd2 = L - lf → (lf ≤ L) → (ds_bo M w 6 ((L - lf) / 6) lf = ds_bo M w 6 (L / 6) 0) → fd_J p l e ({ frames := 2, cells := 0, slots := 0, locals := 44 }) s m args below meth c D fd_cl A ad (ds_en cI cB L ad) ds_wl 5 0 0 (MQ below (fd_QI D fd_cl (ds_tys cI cB) ad (ds_en cI cB L ad) ds_wl A (ds_bo M w 6 (L / 6) 0) (M)) args s 0 0 A) M 2 [some (.ref (ad 6 0)), some (.int (fd_I ((w : Nat) : Int))), some (.int (fd_I (6))), some (.int (fd_I ((lf : Nat) : Int))), none] [] := by
    intro dd2
    induction dd2 using Nat.strongRecOn with
    | ind dd2 ih2 =>
      intro lf hdd2 hlf hO
      refine fd_iload_n C dK_blockStart_2 rfl ?_
      refine fd_iload_n C dK_blockStart_3 rfl ?_
      refine fd_iadd C dK_blockStart_4 ?_
      refine fd_aload_n C dK_blockStart_5 rfl ?_
      refine fd_get C (k := 6) (i := 0) (j := 0) (v := .ref (ad 7 0)) (ds_m (by decide)) rfl rfl (by decide) wsK fw1_60 rfl dK_blockStart_6 ?_
      refine fd_alen C (k := 7) (i := 0) (ds_m (by decide)) rfl (ds_tI cI cB) dK_blockStart_9 ?_
      refine fd_icmp_gt C (tgt := 52) dK_blockStart_10 rfl ⟨by omega, by omega⟩ ⟨by omega, by omega⟩ (fun h10t => ?_) (fun h10f => ?_)
      · skip
        refine fd_iconst C dK_blockStart_52 ?_
        exact fd_iret C hr hlk (by rw [← hO, show (L - lf) / 6 = 0 by omega]; rfl) rfl dK_blockStart_53
      · skip
        refine fd_iload_n C dK_blockStart_13 rfl ?_
        refine fd_istore C dK_blockStart_14 (by decide) ?_
        have hloop16 : ∀ (dd16 : Nat) (sq : Nat), dd16 = lf + 6 - sq → (lf ≤ sq) → (sq ≤ lf + 6) → (ds_bi M w (lf + 6 + 1 - w - sq) sq = ds_bi M w (6 + 1 - w) lf) → fd_J p l e ({ frames := 2, cells := 0, slots := 0, locals := 44 }) s m args below meth c D fd_cl A ad (ds_en cI cB L ad) ds_wl 5 0 0 (MQ below (fd_QI D fd_cl (ds_tys cI cB) ad (ds_en cI cB L ad) ds_wl A (ds_bo M w 6 (L / 6) 0) (M)) args s 0 0 A) M 16 [some (.ref (ad 6 0)), some (.int (fd_I ((w : Nat) : Int))), some (.int (fd_I (6))), some (.int (fd_I ((lf : Nat) : Int))), some (.int (fd_I ((sq : Nat) : Int)))] [] := by
          intro dd16
          induction dd16 using Nat.strongRecOn with
          | ind dd16 ih16 =>
            intro sq hdd16 hsq hsq2 hI
            refine fd_iload C dK_blockStart_16 rfl ?_
            refine fd_iload_n C dK_blockStart_18 rfl ?_
            refine fd_iadd C dK_blockStart_19 ?_
            refine fd_iload_n C dK_blockStart_20 rfl ?_
            refine fd_iload_n C dK_blockStart_21 rfl ?_
            refine fd_iadd C dK_blockStart_22 ?_
            refine fd_icmp_gt C (tgt := 45) dK_blockStart_23 rfl ⟨by omega, by omega⟩ ⟨by omega, by omega⟩ (fun h23t => ?_) (fun h23f => ?_)
            · skip
              refine fd_iload_n C dK_blockStart_45 rfl ?_
              refine fd_iload_n C dK_blockStart_46 rfl ?_
              refine fd_iadd C dK_blockStart_47 ?_
              refine fd_istore_n C dK_blockStart_48 (by decide) ?_
              refine fd_goto C (tgt := 2) dK_blockStart_49 rfl ?_
              have e5 : ds_bi M w (6 + 1 - w) lf = -1 := by
                rw [← hI, show lf + 6 + 1 - w - sq = 0 by omega]
                rfl
              rw [show (L - lf) / 6 = (L - (lf + 6)) / 6 + 1 by omega, ds_bo_s, if_pos e5] at hO
              refine fd_drop 4 ?_
              exact ih2 (L - (lf + 6)) (by omega) (lf + 6) rfl (by omega) hO
            · skip
              refine fd_aload_n C dK_blockStart_26 rfl ?_
              refine fd_iload C dK_blockStart_27 rfl ?_
              refine fd_iload_n C dK_blockStart_29 rfl ?_
              refine fd_callVi C hE [.int (fd_I ((sq : Nat) : Int)), .int (fd_I ((w : Nat) : Int))] (k := 6) (i := 0) (mK_areFree l D cI cB L ad M sq w (by omega) hL h7) (cwV 2 C.1.2.2.2.2 (gK_areFree fw2_204) rfl rfl rfl ⟨rfl, by decide, by decide, by decide +kernel⟩ ⟨by decide, by decide⟩) (ds_m (by decide)) rfl rfl rfl (Nat.le_of_ble_eq_true rfl) dK_blockStart_30 ⟨by decide, by decide⟩ ?_
              have e3 := ds_af_01 M w sq
              refine fd_if_eq C (tgt := 39) dK_blockStart_33 rfl ⟨by omega, by omega⟩ (fun h33t => ?_) (fun h33f => ?_)
              · skip
                refine fd_iinc C dK_blockStart_39 rfl (by decide) ?_
                refine fd_goto C (tgt := 16) dK_blockStart_42 rfl ?_
                rw [show lf + 6 + 1 - w - sq = (lf + 6 + 1 - w - (sq + 1)) + 1 by omega, ds_bi_s, if_neg (by omega)] at hI
                exact ih16 (lf + 6 - (sq + 1)) (by omega) (sq + 1) rfl (by omega) (by omega) hI
              · skip
                refine fd_iload C dK_blockStart_36 rfl ?_
                exact fd_iret C hr hlk (by
            rw [show lf + 6 + 1 - w - sq = (lf + 6 + 1 - w - (sq + 1)) + 1 by omega, ds_bi_s, if_pos (by omega)] at hI
            rw [← hO, show (L - lf) / 6 = (L - (lf + 6)) / 6 + 1 by omega, ds_bo_s, ← hI, if_neg (by omega)]) rfl dK_blockStart_38
        exact hloop16 _ lf rfl (by omega) (by omega) (by rw [show lf + 6 + 1 - w - lf = 6 + 1 - w by omega])
  exact hloop2 _ 0 rfl (by omega) (by rw [show L - 0 = L by omega])
set_option maxRecDepth 20000 in
theorem mK_bestStart (l : Launch) (D : va_G) (cI cB : ClassId) (L : Nat) (ad : Nat → Nat → Nat) (M : fd_Mem) (w : Nat) (hw : 1 ≤ w ∧ w ≤ 6) (hL : L ≤ 60) (h7 : ∀ sq, sq < L → -1 ≤ M 7 0 sq ∧ M 7 0 sq ≤ 60) : ds_Mi l D cI cB L ad yK_bestStart wK_bestStart ({ frames := 3, cells := 0, slots := 0, locals := 68 }) [.ref (ad 6 0), .int (fd_I ((w : Nat) : Int))] M (ds_best M L w) (M) := by
  refine fd_enterI (by decide) rfl ds_nd (by simp [Value.category]) (Nat.le_of_ble_eq_true rfl) ?_
  intro A p e s m args below meth c C hr hlk hE
  have C : fd_C p m c cK_bestStart 3 s args fd_T "FareDesk$Cabin" D fd_cl (ds_tys cI cB) ds_wl A := C
  refine fd_pad 1 ?_
  refine fd_aload_n C dK_bestStart_0 rfl ?_
  refine fd_iload_n C dK_bestStart_1 rfl ?_
  refine fd_iconst C dK_bestStart_2 ?_
  refine fd_callVi C hE [.int (fd_I ((w : Nat) : Int)), .int (fd_I (3))] (k := 6) (i := 0) (mK_blockStart3 l D cI cB L ad M w hw hL h7) (cwV 2 C.1.2.2.2.2 (gK_blockStart fw2_200) rfl rfl rfl ⟨rfl, by decide, by decide, by decide +kernel⟩ ⟨by decide, by decide⟩) (ds_m (by decide)) rfl rfl rfl (Nat.le_of_ble_eq_true rfl) dK_bestStart_3 ⟨by decide, by decide⟩ ?_
  have e1 := ds_bo_bd M w 3 (by omega) (L / 3) 0
  refine fd_istore_n C dK_bestStart_6 (by decide) ?_
  refine fd_iload_n C dK_bestStart_7 rfl ?_
  refine fd_iconst C dK_bestStart_8 ?_
  refine fd_icmp_ne C (tgt := 20) dK_bestStart_9 rfl ⟨by omega, by omega⟩ ⟨by omega, by omega⟩ (fun h9t => ?_) (fun h9f => ?_)
  · skip
    refine fd_iload_n C dK_bestStart_20 rfl ?_
    refine fd_iconst C dK_bestStart_21 ?_
    refine fd_icmp_ne C (tgt := 34) dK_bestStart_22 rfl ⟨by omega, by omega⟩ ⟨by omega, by omega⟩ (fun h22t => ?_) (fun h22f => ?_)
    · skip
      refine fd_iload_n C dK_bestStart_34 rfl ?_
      exact fd_iret C hr hlk (by unfold ds_best; repeat (first | rw [if_pos (by omega)] | rw [if_neg (by omega)])) rfl dK_bestStart_35
    · skip
      refine fd_aload_n C dK_bestStart_25 rfl ?_
      refine fd_iconst C dK_bestStart_26 ?_
      refine fd_iconst C dK_bestStart_27 ?_
      refine fd_callVi C hE [.int (fd_I (1)), .int (fd_I (3))] (k := 6) (i := 0) (mK_blockStart3 l D cI cB L ad M 1 (by omega) hL h7) (cwV 2 C.1.2.2.2.2 (gK_blockStart fw2_200) rfl rfl rfl ⟨rfl, by decide, by decide, by decide +kernel⟩ ⟨by decide, by decide⟩) (ds_m (by decide)) rfl rfl rfl (Nat.le_of_ble_eq_true rfl) dK_bestStart_28 ⟨by decide, by decide⟩ ?_
      refine fd_goto C (tgt := 35) dK_bestStart_31 rfl ?_
      exact fd_iret C hr hlk (by unfold ds_best; repeat (first | rw [if_pos (by omega)] | rw [if_neg (by omega)])) rfl dK_bestStart_35
  · skip
    refine fd_aload_n C dK_bestStart_12 rfl ?_
    refine fd_iload_n C dK_bestStart_13 rfl ?_
    refine fd_bipush C dK_bestStart_14 (by decide) ?_
    refine fd_callVi C hE [.int (fd_I ((w : Nat) : Int)), .int (fd_I (6))] (k := 6) (i := 0) (mK_blockStart6 l D cI cB L ad M w hw hL h7) (cwV 2 C.1.2.2.2.2 (gK_blockStart fw2_200) rfl rfl rfl ⟨rfl, by decide, by decide, by decide +kernel⟩ ⟨by decide, by decide⟩) (ds_m (by decide)) rfl rfl rfl (Nat.le_of_ble_eq_true rfl) dK_bestStart_16 ⟨by decide, by decide⟩ ?_
    have e2 := ds_bo_bd M w 6 (by omega) (L / 6) 0
    refine fd_istore_n C dK_bestStart_19 (by decide) ?_
    refine fd_iload_n C dK_bestStart_20 rfl ?_
    refine fd_iconst C dK_bestStart_21 ?_
    refine fd_icmp_ne C (tgt := 34) dK_bestStart_22 rfl ⟨by omega, by omega⟩ ⟨by omega, by omega⟩ (fun h22t => ?_) (fun h22f => ?_)
    · skip
      refine fd_iload_n C dK_bestStart_34 rfl ?_
      exact fd_iret C hr hlk (by unfold ds_best; repeat (first | rw [if_pos (by omega)] | rw [if_neg (by omega)])) rfl dK_bestStart_35
    · skip
      refine fd_aload_n C dK_bestStart_25 rfl ?_
      refine fd_iconst C dK_bestStart_26 ?_
      refine fd_iconst C dK_bestStart_27 ?_
      refine fd_callVi C hE [.int (fd_I (1)), .int (fd_I (3))] (k := 6) (i := 0) (mK_blockStart3 l D cI cB L ad M 1 (by omega) hL h7) (cwV 2 C.1.2.2.2.2 (gK_blockStart fw2_200) rfl rfl rfl ⟨rfl, by decide, by decide, by decide +kernel⟩ ⟨by decide, by decide⟩) (ds_m (by decide)) rfl rfl rfl (Nat.le_of_ble_eq_true rfl) dK_bestStart_28 ⟨by decide, by decide⟩ ?_
      refine fd_goto C (tgt := 35) dK_bestStart_31 rfl ?_
      exact fd_iret C hr hlk (by unfold ds_best; repeat (first | rw [if_pos (by omega)] | rw [if_neg (by omega)])) rfl dK_bestStart_35
