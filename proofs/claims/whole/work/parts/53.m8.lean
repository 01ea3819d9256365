/-! the law's helpers: one row for the call that answers, one for each exception it catches -/
theorem iL_limit : Cond.codeWith yL_limit cL_limit 4 (some .int) [(0, 6, 9, 13), (0, 6, 12, 15)] ∈ fd_T := fd_t1 148 rfl rfl
abbrev wL_limit : List Cond := Cond.codeWith yL_limit cL_limit 4 (some .int) [(0, 6, 9, 13), (0, 6, 12, 15)] :: fd_T
set_option maxRecDepth 20000 in
theorem hL_limit (l : Launch) (D : va_G) (cI cB cJ : ClassId) (L : Nat) (ad : Nat → Nat → Nat) (M P : fd_Mem) (o : Int) {rm : Room} {N : fd_Mem} (a : Int) (b : Int) (hrm : rm.cells = 0 ∧ rm.slots = 0 ∧ rm.frames ≤ 10 ∧ rm.locals ≤ 300) (hC : ds_Mv l D cI cB L ad yD_limit wD_limit rm [.ref (ad 0 0), .int (fd_I a), .int (fd_I b)] M (N)) : la_H l D cI cB cJ L ad yL_limit wL_limit [.ref (ad 0 0), .int (fd_I a), .int (fd_I b)] (la_M M P o) 0 (la_M N P o) 0 0 := by
  refine fd_enterH (by decide) rfl lo_nd (by simp [Value.category]) (Nat.le_of_ble_eq_true rfl) ?_
  intro A p e s m args below meth c C hr hlk htab hE hN3
  have C : fd_C p m c cL_limit 4 s args fd_T "FareDeskLaw" D fd_cl (la_tys cI cB cJ) lo_wl A := C
  refine fd_pad 1 ?_
  refine fd_aload_n C dL_limit_0 rfl ?_
  refine fd_iload_n C dL_limit_1 rfl ?_
  refine fd_iload_n C dL_limit_2 rfl ?_
  refine fd_subVv C hE (la_subD cI cB cJ L ad) (fun k i h => (la_d M P o (ds_wl_lt h) i).symm) (la_backD M N P o) (C.2.1.sub (tys' := ds_tys cI cB) [0, 1] rfl) [.int (fd_I a), .int (fd_I b)] (k := 0) (i := 0) hC (cwV 2 C.1.2.2.2.2 (gD_limit fw1_151) rfl hrm.1 hrm.2.1 ⟨rfl, by decide, by decide, by decide +kernel⟩ ⟨by have := hrm.2.2.1; show rm.frames + 1 ≤ 11; omega, by have := hrm.2.2.2; show 8 + (3 + 11) + rm.locals ≤ 400; omega⟩) (ds_m (by decide)) rfl rfl rfl (Nat.le_of_ble_eq_true rfl) dL_limit_3 ⟨Nat.le_refl _, Nat.le_refl _⟩ ?_
  refine fd_goto C (tgt := 15) dL_limit_6 rfl ?_
  refine fd_iconst C dL_limit_15 ?_
  exact fd_iret C hr hlk rfl rfl dL_limit_16
set_option maxRecDepth 20000 in
theorem hL_limit_I (l : Launch) (D : va_G) (cI cB cJ : ClassId) (L : Nat) (ad : Nat → Nat → Nat) (M P : fd_Mem) (o : Int) {rm : Room} (a : Int) (b : Int) (hrm : rm.cells = 1 ∧ rm.slots = 6 ∧ rm.frames ≤ 10 ∧ rm.locals ≤ 300) (hC : ds_MT l D cI cB L ad yD_limit wD_limit rm [.ref (ad 0 0), .int (fd_I a), .int (fd_I b)] M "java/lang/IllegalArgumentException") : la_H l D cI cB cJ L ad yL_limit wL_limit [.ref (ad 0 0), .int (fd_I a), .int (fd_I b)] (la_M M P o) 1 (la_M M P o) 1 6 := by
  refine fd_enterH (by decide) rfl lo_nd (by simp [Value.category]) (Nat.le_of_ble_eq_true rfl) ?_
  intro A p e s m args below meth c C hr hlk htab hE hN3
  have C : fd_C p m c cL_limit 4 s args fd_T "FareDeskLaw" D fd_cl (la_tys cI cB cJ) lo_wl A := C
  refine fd_pad 1 ?_
  refine fd_aload_n C dL_limit_0 rfl ?_
  refine fd_iload_n C dL_limit_1 rfl ?_
  refine fd_iload_n C dL_limit_2 rfl ?_
  refine fd_subVT C hE (la_subD cI cB cJ L ad) (fun k i h => (la_d M P o (ds_wl_lt h) i).symm) (C.2.1.sub (tys' := ds_tys cI cB) [0, 1] rfl) [.int (fd_I a), .int (fd_I b)] (k := 0) (i := 0) (name := "java/lang/IllegalArgumentException") hC (cwV 2 C.1.2.2.2.2 (gD_limit fw1_151) rfl hrm.1 hrm.2.1 ⟨rfl, by decide, by decide, by decide +kernel⟩ ⟨by have := hrm.2.2.1; show rm.frames + 1 ≤ 11; omega, by have := hrm.2.2.2; show 8 + (3 + 11) + rm.locals ≤ 400; omega⟩) (ds_m (by decide)) rfl rfl rfl (Nat.le_of_ble_eq_true rfl) dL_limit_3 ⟨Nat.le_refl _, Nat.le_refl _⟩ [] ⟨0, 6, 9, 13⟩ [⟨0, 6, 12, 15⟩] htab (fun z h => nomatch h) (by decide) (by decide) (C.1.2.2.2.2 _ (fd_t1 149 rfl rfl)) (la_cast hE (List.mem_of_getElem? (i := 0) rfl)) (fun q9 => ?_)
  refine fd_astore_n C dL_limit_9 (by decide) ?_
  refine fd_iconst C dL_limit_10 ?_
  exact fd_iret C hr hlk rfl rfl dL_limit_11
set_option maxRecDepth 20000 in
theorem hL_limit_S (l : Launch) (D : va_G) (cI cB cJ : ClassId) (L : Nat) (ad : Nat → Nat → Nat) (M P : fd_Mem) (o : Int) {rm : Room} (a : Int) (b : Int) (hrm : rm.cells = 1 ∧ rm.slots = 6 ∧ rm.frames ≤ 10 ∧ rm.locals ≤ 300) (hC : ds_MT l D cI cB L ad yD_limit wD_limit rm [.ref (ad 0 0), .int (fd_I a), .int (fd_I b)] M "java/lang/IllegalStateException") : la_H l D cI cB cJ L ad yL_limit wL_limit [.ref (ad 0 0), .int (fd_I a), .int (fd_I b)] (la_M M P o) 2 (la_M M P o) 1 6 := by
  refine fd_enterH (by decide) rfl lo_nd (by simp [Value.category]) (Nat.le_of_ble_eq_true rfl) ?_
  intro A p e s m args below meth c C hr hlk htab hE hN3
  have C : fd_C p m c cL_limit 4 s args fd_T "FareDeskLaw" D fd_cl (la_tys cI cB cJ) lo_wl A := C
  refine fd_pad 1 ?_
  refine fd_aload_n C dL_limit_0 rfl ?_
  refine fd_iload_n C dL_limit_1 rfl ?_
  refine fd_iload_n C dL_limit_2 rfl ?_
  refine fd_subVT C hE (la_subD cI cB cJ L ad) (fun k i h => (la_d M P o (ds_wl_lt h) i).symm) (C.2.1.sub (tys' := ds_tys cI cB) [0, 1] rfl) [.int (fd_I a), .int (fd_I b)] (k := 0) (i := 0) (name := "java/lang/IllegalStateException") hC (cwV 2 C.1.2.2.2.2 (gD_limit fw1_151) rfl hrm.1 hrm.2.1 ⟨rfl, by decide, by decide, by decide +kernel⟩ ⟨by have := hrm.2.2.1; show rm.frames + 1 ≤ 11; omega, by have := hrm.2.2.2; show 8 + (3 + 11) + rm.locals ≤ 400; omega⟩) (ds_m (by decide)) rfl rfl rfl (Nat.le_of_ble_eq_true rfl) dL_limit_3 ⟨Nat.le_refl _, Nat.le_refl _⟩ [⟨0, 6, 9, 13⟩] ⟨0, 6, 12, 15⟩ [] htab (fun z h => by rw [List.mem_singleton] at h; subst h; exact Or.inr ⟨by decide, "java/lang/IllegalArgumentException", C.1.2.2.2.2 _ (fd_t1 149 rfl rfl), hN3.1⟩) (by decide) (by decide) (C.1.2.2.2.2 _ (fd_t1 150 rfl rfl)) (la_cast hE (List.mem_of_getElem? (i := 7) rfl)) (fun q9 => ?_)
  refine fd_astore_n C dL_limit_12 (by decide) ?_
  refine fd_iconst C dL_limit_13 ?_
  exact fd_iret C hr hlk rfl rfl dL_limit_14
theorem iL_price : Cond.codeWith yL_price cL_price 4 (some .int) [(0, 6, 9, 13)] ∈ fd_T := fd_t2 31 rfl rfl
abbrev wL_price : List Cond := Cond.codeWith yL_price cL_price 4 (some .int) [(0, 6, 9, 13)] :: fd_T
set_option maxRecDepth 20000 in
theorem hL_price (l : Launch) (D : va_G) (cI cB cJ : ClassId) (L : Nat) (ad : Nat → Nat → Nat) (M P : fd_Mem) (o : Int) {rm : Room} {N : fd_Mem} (a : Int) (b : Int) (hrm : rm.cells = 0 ∧ rm.slots = 0 ∧ rm.frames ≤ 10 ∧ rm.locals ≤ 300) (hC : ds_Mv l D cI cB L ad yD_price wD_price rm [.ref (ad 0 0), .int (fd_I a), .int (fd_I b)] M (N)) : la_H l D cI cB cJ L ad yL_price wL_price [.ref (ad 0 0), .int (fd_I a), .int (fd_I b)] (la_M M P o) 0 (la_M N P o) 0 0 := by
  refine fd_enterH (by decide) rfl lo_nd (by simp [Value.category]) (Nat.le_of_ble_eq_true rfl) ?_
  intro A p e s m args below meth c C hr hlk htab hE hN3
  have C : fd_C p m c cL_price 4 s args fd_T "FareDeskLaw" D fd_cl (la_tys cI cB cJ) lo_wl A := C
  refine fd_pad 1 ?_
  refine fd_aload_n C dL_price_0 rfl ?_
  refine fd_iload_n C dL_price_1 rfl ?_
  refine fd_iload_n C dL_price_2 rfl ?_
  refine fd_subVv C hE (la_subD cI cB cJ L ad) (fun k i h => (la_d M P o (ds_wl_lt h) i).symm) (la_backD M N P o) (C.2.1.sub (tys' := ds_tys cI cB) [0, 1] rfl) [.int (fd_I a), .int (fd_I b)] (k := 0) (i := 0) hC (cwV 2 C.1.2.2.2.2 (gD_price fw2_32) rfl hrm.1 hrm.2.1 ⟨rfl, by decide, by decide, by decide +kernel⟩ ⟨by have := hrm.2.2.1; show rm.frames + 1 ≤ 11; omega, by have := hrm.2.2.2; show 8 + (3 + 11) + rm.locals ≤ 400; omega⟩) (ds_m (by decide)) rfl rfl rfl (Nat.le_of_ble_eq_true rfl) dL_price_3 ⟨Nat.le_refl _, Nat.le_refl _⟩ ?_
  refine fd_goto C (tgt := 12) dL_price_6 rfl ?_
  refine fd_iconst C dL_price_12 ?_
  exact fd_iret C hr hlk rfl rfl dL_price_13
set_option maxRecDepth 20000 in
theorem hL_price_I (l : Launch) (D : va_G) (cI cB cJ : ClassId) (L : Nat) (ad : Nat → Nat → Nat) (M P : fd_Mem) (o : Int) {rm : Room} (a : Int) (b : Int) (hrm : rm.cells = 1 ∧ rm.slots = 6 ∧ rm.frames ≤ 10 ∧ rm.locals ≤ 300) (hC : ds_MT l D cI cB L ad yD_price wD_price rm [.ref (ad 0 0), .int (fd_I a), .int (fd_I b)] M "java/lang/IllegalArgumentException") : la_H l D cI cB cJ L ad yL_price wL_price [.ref (ad 0 0), .int (fd_I a), .int (fd_I b)] (la_M M P o) 1 (la_M M P o) 1 6 := by
  refine fd_enterH (by decide) rfl lo_nd (by simp [Value.category]) (Nat.le_of_ble_eq_true rfl) ?_
  intro A p e s m args below meth c C hr hlk htab hE hN3
  have C : fd_C p m c cL_price 4 s args fd_T "FareDeskLaw" D fd_cl (la_tys cI cB cJ) lo_wl A := C
  refine fd_pad 1 ?_
  refine fd_aload_n C dL_price_0 rfl ?_
  refine fd_iload_n C dL_price_1 rfl ?_
  refine fd_iload_n C dL_price_2 rfl ?_
  refine fd_subVT C hE (la_subD cI cB cJ L ad) (fun k i h => (la_d M P o (ds_wl_lt h) i).symm) (C.2.1.sub (tys' := ds_tys cI cB) [0, 1] rfl) [.int (fd_I a), .int (fd_I b)] (k := 0) (i := 0) (name := "java/lang/IllegalArgumentException") hC (cwV 2 C.1.2.2.2.2 (gD_price fw2_32) rfl hrm.1 hrm.2.1 ⟨rfl, by decide, by decide, by decide +kernel⟩ ⟨by have := hrm.2.2.1; show rm.frames + 1 ≤ 11; omega, by have := hrm.2.2.2; show 8 + (3 + 11) + rm.locals ≤ 400; omega⟩) (ds_m (by decide)) rfl rfl rfl (Nat.le_of_ble_eq_true rfl) dL_price_3 ⟨Nat.le_refl _, Nat.le_refl _⟩ [] ⟨0, 6, 9, 13⟩ [] htab (fun z h => nomatch h) (by decide) (by decide) (C.1.2.2.2.2 _ (fd_t1 149 rfl rfl)) (la_cast hE (List.mem_of_getElem? (i := 0) rfl)) (fun q9 => ?_)
  refine fd_astore_n C dL_price_9 (by decide) ?_
  refine fd_iconst C dL_price_10 ?_
  exact fd_iret C hr hlk rfl rfl dL_price_11
theorem iL_room : Cond.codeWith yL_room cL_room 4 (some .int) [(0, 9, 12, 13)] ∈ fd_T := fd_t2 39 rfl rfl
abbrev wL_room : List Cond := Cond.codeWith yL_room cL_room 4 (some .int) [(0, 9, 12, 13)] :: fd_T
set_option maxRecDepth 20000 in
theorem hL_room (l : Launch) (D : va_G) (cI cB cJ : ClassId) (L : Nat) (ad : Nat → Nat → Nat) (M P : fd_Mem) (o : Int) {rm : Room} {N : fd_Mem} {z : Int} (a : Int) (hrm : rm.cells = 0 ∧ rm.slots = 0 ∧ rm.frames ≤ 10 ∧ rm.locals ≤ 300) (hC : ds_Mi l D cI cB L ad yD_room wD_room rm [.ref (ad 0 0), .int (fd_I a)] M z (N)) : la_H l D cI cB cJ L ad yL_room wL_room [.ref (ad 0 0), .int (fd_I a), .ref (ad 10 0)] (la_M M P o) 0 (la_M N P z) 0 0 := by
  refine fd_enterH (by decide) rfl lo_nd (by simp [Value.category]) (Nat.le_of_ble_eq_true rfl) ?_
  intro A p e s m args below meth c C hr hlk htab hE hN3
  have C : fd_C p m c cL_room 4 s args fd_T "FareDeskLaw" D fd_cl (la_tys cI cB cJ) lo_wl A := C
  refine fd_pad 1 ?_
  refine fd_aload_n C dL_room_0 rfl ?_
  refine fd_iconst C dL_room_1 ?_
  refine fd_aload_n C dL_room_2 rfl ?_
  refine fd_iload_n C dL_room_3 rfl ?_
  refine fd_subVi C hE (la_subD cI cB cJ L ad) (fun k i h => (la_d M P o (ds_wl_lt h) i).symm) (la_backD M N P o) (C.2.1.sub (tys' := ds_tys cI cB) [0, 1] rfl) [.int (fd_I a)] (k := 0) (i := 0) hC (cwV 1 C.1.2.2.2.2 (gD_room fw2_40) rfl hrm.1 hrm.2.1 ⟨rfl, by decide, by decide, by decide +kernel⟩ ⟨by have := hrm.2.2.1; show rm.frames + 1 ≤ 11; omega, by have := hrm.2.2.2; show 8 + (2 + 11) + rm.locals ≤ 400; omega⟩) (ds_m (by decide)) rfl rfl rfl (Nat.le_of_ble_eq_true rfl) dL_room_4 ⟨Nat.le_refl _, Nat.le_refl _⟩ ?_
  refine fd_i2l C dL_room_7 ?_
  refine la_last C lo_10 (la_tJ cI cB cJ) dL_room_8 ?_
  refine fd_goto C (tgt := 15) dL_room_9 rfl ?_
  refine fd_iconst C dL_room_15 ?_
  exact fd_iret C hr hlk rfl rfl dL_room_16
set_option maxRecDepth 20000 in
theorem hL_room_I (l : Launch) (D : va_G) (cI cB cJ : ClassId) (L : Nat) (ad : Nat → Nat → Nat) (M P : fd_Mem) (o : Int) {rm : Room} (a : Int) (hrm : rm.cells = 1 ∧ rm.slots = 6 ∧ rm.frames ≤ 10 ∧ rm.locals ≤ 300) (hC : ds_MT l D cI cB L ad yD_room wD_room rm [.ref (ad 0 0), .int (fd_I a)] M "java/lang/IllegalArgumentException") : la_H l D cI cB cJ L ad yL_room wL_room [.ref (ad 0 0), .int (fd_I a), .ref (ad 10 0)] (la_M M P o) 1 (la_M M P o) 1 6 := by
  refine fd_enterH (by decide) rfl lo_nd (by simp [Value.category]) (Nat.le_of_ble_eq_true rfl) ?_
  intro A p e s m args below meth c C hr hlk htab hE hN3
  have C : fd_C p m c cL_room 4 s args fd_T "FareDeskLaw" D fd_cl (la_tys cI cB cJ) lo_wl A := C
  refine fd_pad 1 ?_
  refine fd_aload_n C dL_room_0 rfl ?_
  refine fd_iconst C dL_room_1 ?_
  refine fd_aload_n C dL_room_2 rfl ?_
  refine fd_iload_n C dL_room_3 rfl ?_
  refine fd_subVT C hE (la_subD cI cB cJ L ad) (fun k i h => (la_d M P o (ds_wl_lt h) i).symm) (C.2.1.sub (tys' := ds_tys cI cB) [0, 1] rfl) [.int (fd_I a)] (k := 0) (i := 0) (name := "java/lang/IllegalArgumentException") hC (cwV 1 C.1.2.2.2.2 (gD_room fw2_40) rfl hrm.1 hrm.2.1 ⟨rfl, by decide, by decide, by decide +kernel⟩ ⟨by have := hrm.2.2.1; show rm.frames + 1 ≤ 11; omega, by have := hrm.2.2.2; show 8 + (2 + 11) + rm.locals ≤ 400; omega⟩) (ds_m (by decide)) rfl rfl rfl (Nat.le_of_ble_eq_true rfl) dL_room_4 ⟨Nat.le_refl _, Nat.le_refl _⟩ [] ⟨0, 9, 12, 13⟩ [] htab (fun z h => nomatch h) (by decide) (by decide) (C.1.2.2.2.2 _ (fd_t1 149 rfl rfl)) (la_cast hE (List.mem_of_getElem? (i := 0) rfl)) (fun q9 => ?_)
  refine fd_astore_n C dL_room_12 (by decide) ?_
  refine fd_iconst C dL_room_13 ?_
  exact fd_iret C hr hlk rfl rfl dL_room_14
theorem iL_hold : Cond.codeWith yL_hold cL_hold 6 (some .int) [(0, 12, 15, 13), (0, 12, 19, 15), (0, 12, 23, 28)] ∈ fd_T := fd_t2 46 rfl rfl
abbrev wL_hold : List Cond := Cond.codeWith yL_hold cL_hold 6 (some .int) [(0, 12, 15, 13), (0, 12, 19, 15), (0, 12, 23, 28)] :: fd_T
set_option maxRecDepth 20000 in
theorem hL_hold (l : Launch) (D : va_G) (cI cB cJ : ClassId) (L : Nat) (ad : Nat → Nat → Nat) (M P : fd_Mem) (o : Int) {rm : Room} {N : fd_Mem} {z : Int} (a : Int) (b : Int) (d : Int) (hrm : rm.cells = 0 ∧ rm.slots = 0 ∧ rm.frames ≤ 10 ∧ rm.locals ≤ 300) (hC : ds_Mi l D cI cB L ad yD_hold wD_hold rm [.ref (ad 0 0), .int (fd_I a), .int (fd_I b), .int (fd_I d)] M z (N)) : la_H l D cI cB cJ L ad yL_hold wL_hold [.ref (ad 0 0), .int (fd_I a), .int (fd_I b), .int (fd_I d), .ref (ad 10 0)] (la_M M P o) 0 (la_M N P z) 0 0 := by
  refine fd_enterH (by decide) rfl lo_nd (by simp [Value.category]) (Nat.le_of_ble_eq_true rfl) ?_
  intro A p e s m args below meth c C hr hlk htab hE hN3
  have C : fd_C p m c cL_hold 6 s args fd_T "FareDeskLaw" D fd_cl (la_tys cI cB cJ) lo_wl A := C
  refine fd_pad 1 ?_
  refine fd_aload C dL_hold_0 rfl ?_
  refine fd_iconst C dL_hold_2 ?_
  refine fd_aload_n C dL_hold_3 rfl ?_
  refine fd_iload_n C dL_hold_4 rfl ?_
  refine fd_iload_n C dL_hold_5 rfl ?_
  refine fd_iload_n C dL_hold_6 rfl ?_
  refine fd_subVi C hE (la_subD cI cB cJ L ad) (fun k i h => (la_d M P o (ds_wl_lt h) i).symm) (la_backD M N P o) (C.2.1.sub (tys' := ds_tys cI cB) [0, 1] rfl) [.int (fd_I a), .int (fd_I b), .int (fd_I d)] (k := 0) (i := 0) hC (cwV 3 C.1.2.2.2.2 (gD_hold fw2_48) rfl hrm.1 hrm.2.1 ⟨rfl, by decide, by decide, by decide +kernel⟩ ⟨by have := hrm.2.2.1; show rm.frames + 1 ≤ 11; omega, by have := hrm.2.2.2; show 8 + (5 + 11) + rm.locals ≤ 400; omega⟩) (ds_m (by decide)) rfl rfl rfl (Nat.le_of_ble_eq_true rfl) dL_hold_7 ⟨Nat.le_refl _, Nat.le_refl _⟩ ?_
  refine fd_i2l C dL_hold_10 ?_
  refine la_last C lo_10 (la_tJ cI cB cJ) dL_hold_11 ?_
  refine fd_goto C (tgt := 27) dL_hold_12 rfl ?_
  refine fd_iconst C dL_hold_27 ?_
  exact fd_iret C hr hlk rfl rfl dL_hold_28
set_option maxRecDepth 20000 in
theorem hL_hold_I (l : Launch) (D : va_G) (cI cB cJ : ClassId) (L : Nat) (ad : Nat → Nat → Nat) (M P : fd_Mem) (o : Int) {rm : Room} (a : Int) (b : Int) (d : Int) (hrm : rm.cells = 1 ∧ rm.slots = 6 ∧ rm.frames ≤ 10 ∧ rm.locals ≤ 300) (hC : ds_MT l D cI cB L ad yD_hold wD_hold rm [.ref (ad 0 0), .int (fd_I a), .int (fd_I b), .int (fd_I d)] M "java/lang/IllegalArgumentException") : la_H l D cI cB cJ L ad yL_hold wL_hold [.ref (ad 0 0), .int (fd_I a), .int (fd_I b), .int (fd_I d), .ref (ad 10 0)] (la_M M P o) 1 (la_M M P o) 1 6 := by
  refine fd_enterH (by decide) rfl lo_nd (by simp [Value.category]) (Nat.le_of_ble_eq_true rfl) ?_
  intro A p e s m args below meth c C hr hlk htab hE hN3
  have C : fd_C p m c cL_hold 6 s args fd_T "FareDeskLaw" D fd_cl (la_tys cI cB cJ) lo_wl A := C
  refine fd_pad 1 ?_
  refine fd_aload C dL_hold_0 rfl ?_
  refine fd_iconst C dL_hold_2 ?_
  refine fd_aload_n C dL_hold_3 rfl ?_
  refine fd_iload_n C dL_hold_4 rfl ?_
  refine fd_iload_n C dL_hold_5 rfl ?_
  refine fd_iload_n C dL_hold_6 rfl ?_
  refine fd_subVT C hE (la_subD cI cB cJ L ad) (fun k i h => (la_d M P o (ds_wl_lt h) i).symm) (C.2.1.sub (tys' := ds_tys cI cB) [0, 1] rfl) [.int (fd_I a), .int (fd_I b), .int (fd_I d)] (k := 0) (i := 0) (name := "java/lang/IllegalArgumentException") hC (cwV 3 C.1.2.2.2.2 (gD_hold fw2_48) rfl hrm.1 hrm.2.1 ⟨rfl, by decide, by decide, by decide +kernel⟩ ⟨by have := hrm.2.2.1; show rm.frames + 1 ≤ 11; omega, by have := hrm.2.2.2; show 8 + (5 + 11) + rm.locals ≤ 400; omega⟩) (ds_m (by decide)) rfl rfl rfl (Nat.le_of_ble_eq_true rfl) dL_hold_7 ⟨Nat.le_refl _, Nat.le_refl _⟩ [] ⟨0, 12, 15, 13⟩ [⟨0, 12, 19, 15⟩, ⟨0, 12, 23, 28⟩] htab (fun z h => nomatch h) (by decide) (by decide) (C.1.2.2.2.2 _ (fd_t1 149 rfl rfl)) (la_cast hE (List.mem_of_getElem? (i := 0) rfl)) (fun q9 => ?_)
  refine fd_astore C dL_hold_15 (by decide) ?_
  refine fd_iconst C dL_hold_17 ?_
  exact fd_iret C hr hlk rfl rfl dL_hold_18
set_option maxRecDepth 20000 in
theorem hL_hold_S (l : Launch) (D : va_G) (cI cB cJ : ClassId) (L : Nat) (ad : Nat → Nat → Nat) (M P : fd_Mem) (o : Int) {rm : Room} (a : Int) (b : Int) (d : Int) (hrm : rm.cells = 1 ∧ rm.slots = 6 ∧ rm.frames ≤ 10 ∧ rm.locals ≤ 300) (hC : ds_MT l D cI cB L ad yD_hold wD_hold rm [.ref (ad 0 0), .int (fd_I a), .int (fd_I b), .int (fd_I d)] M "java/lang/IllegalStateException") : la_H l D cI cB cJ L ad yL_hold wL_hold [.ref (ad 0 0), .int (fd_I a), .int (fd_I b), .int (fd_I d), .ref (ad 10 0)] (la_M M P o) 2 (la_M M P o) 1 6 := by
  refine fd_enterH (by decide) rfl lo_nd (by simp [Value.category]) (Nat.le_of_ble_eq_true rfl) ?_
  intro A p e s m args below meth c C hr hlk htab hE hN3
  have C : fd_C p m c cL_hold 6 s args fd_T "FareDeskLaw" D fd_cl (la_tys cI cB cJ) lo_wl A := C
  refine fd_pad 1 ?_
  refine fd_aload C dL_hold_0 rfl ?_
  refine fd_iconst C dL_hold_2 ?_
  refine fd_aload_n C dL_hold_3 rfl ?_
  refine fd_iload_n C dL_hold_4 rfl ?_
  refine fd_iload_n C dL_hold_5 rfl ?_
  refine fd_iload_n C dL_hold_6 rfl ?_
  refine fd_subVT C hE (la_subD cI cB cJ L ad) (fun k i h => (la_d M P o (ds_wl_lt h) i).symm) (C.2.1.sub (tys' := ds_tys cI cB) [0, 1] rfl) [.int (fd_I a), .int (fd_I b), .int (fd_I d)] (k := 0) (i := 0) (name := "java/lang/IllegalStateException") hC (cwV 3 C.1.2.2.2.2 (gD_hold fw2_48) rfl hrm.1 hrm.2.1 ⟨rfl, by decide, by decide, by decide +kernel⟩ ⟨by have := hrm.2.2.1; show rm.frames + 1 ≤ 11; omega, by have := hrm.2.2.2; show 8 + (5 + 11) + rm.locals ≤ 400; omega⟩) (ds_m (by decide)) rfl rfl rfl (Nat.le_of_ble_eq_true rfl) dL_hold_7 ⟨Nat.le_refl _, Nat.le_refl _⟩ [⟨0, 12, 15, 13⟩] ⟨0, 12, 19, 15⟩ [⟨0, 12, 23, 28⟩] htab (fun z h => by rw [List.mem_singleton] at h; subst h; exact Or.inr ⟨by decide, "java/lang/IllegalArgumentException", C.1.2.2.2.2 _ (fd_t1 149 rfl rfl), hN3.1⟩) (by decide) (by decide) (C.1.2.2.2.2 _ (fd_t1 150 rfl rfl)) (la_cast hE (List.mem_of_getElem? (i := 7) rfl)) (fun q9 => ?_)
  refine fd_astore C dL_hold_19 (by decide) ?_
  refine fd_iconst C dL_hold_21 ?_
  exact fd_iret C hr hlk rfl rfl dL_hold_22
set_option maxRecDepth 20000 in
theorem hL_hold_U (l : Launch) (D : va_G) (cI cB cJ : ClassId) (L : Nat) (ad : Nat → Nat → Nat) (M P : fd_Mem) (o : Int) {rm : Room} (a : Int) (b : Int) (d : Int) (hrm : rm.cells = 1 ∧ rm.slots = 6 ∧ rm.frames ≤ 10 ∧ rm.locals ≤ 300) (hC : ds_MT l D cI cB L ad yD_hold wD_hold rm [.ref (ad 0 0), .int (fd_I a), .int (fd_I b), .int (fd_I d)] M "java/lang/UnsupportedOperationException") : la_H l D cI cB cJ L ad yL_hold wL_hold [.ref (ad 0 0), .int (fd_I a), .int (fd_I b), .int (fd_I d), .ref (ad 10 0)] (la_M M P o) 3 (la_M M P o) 1 6 := by
  refine fd_enterH (by decide) rfl lo_nd (by simp [Value.category]) (Nat.le_of_ble_eq_true rfl) ?_
  intro A p e s m args below meth c C hr hlk htab hE hN3
  have C : fd_C p m c cL_hold 6 s args fd_T "FareDeskLaw" D fd_cl (la_tys cI cB cJ) lo_wl A := C
  refine fd_pad 1 ?_
  refine fd_aload C dL_hold_0 rfl ?_
  refine fd_iconst C dL_hold_2 ?_
  refine fd_aload_n C dL_hold_3 rfl ?_
  refine fd_iload_n C dL_hold_4 rfl ?_
  refine fd_iload_n C dL_hold_5 rfl ?_
  refine fd_iload_n C dL_hold_6 rfl ?_
  refine fd_subVT C hE (la_subD cI cB cJ L ad) (fun k i h => (la_d M P o (ds_wl_lt h) i).symm) (C.2.1.sub (tys' := ds_tys cI cB) [0, 1] rfl) [.int (fd_I a), .int (fd_I b), .int (fd_I d)] (k := 0) (i := 0) (name := "java/lang/UnsupportedOperationException") hC (cwV 3 C.1.2.2.2.2 (gD_hold fw2_48) rfl hrm.1 hrm.2.1 ⟨rfl, by decide, by decide, by decide +kernel⟩ ⟨by have := hrm.2.2.1; show rm.frames + 1 ≤ 11; omega, by have := hrm.2.2.2; show 8 + (5 + 11) + rm.locals ≤ 400; omega⟩) (ds_m (by decide)) rfl rfl rfl (Nat.le_of_ble_eq_true rfl) dL_hold_7 ⟨Nat.le_refl _, Nat.le_refl _⟩ [⟨0, 12, 15, 13⟩, ⟨0, 12, 19, 15⟩] ⟨0, 12, 23, 28⟩ [] htab (fun z h => by
    rcases List.mem_cons.mp h with h | h
    · subst h; exact Or.inr ⟨by decide, "java/lang/IllegalArgumentException", C.1.2.2.2.2 _ (fd_t1 149 rfl rfl), hN3.2.1⟩
    · rw [List.mem_singleton] at h; subst h; exact Or.inr ⟨by decide, "java/lang/IllegalStateException", C.1.2.2.2.2 _ (fd_t1 150 rfl rfl), hN3.2.2⟩) (by decide) (by decide) (C.1.2.2.2.2 _ (fd_t2 47 rfl rfl)) (la_cast hE (List.mem_of_getElem? (i := 8) rfl)) (fun q9 => ?_)
  refine fd_astore C dL_hold_23 (by decide) ?_
  refine fd_iconst C dL_hold_25 ?_
  exact fd_iret C hr hlk rfl rfl dL_hold_26
theorem iL_join : Cond.codeWith yL_join cL_join 6 (some .int) [(0, 12, 15, 13), (0, 12, 19, 15)] ∈ fd_T := fd_t2 85 rfl rfl
abbrev wL_join : List Cond := Cond.codeWith yL_join cL_join 6 (some .int) [(0, 12, 15, 13), (0, 12, 19, 15)] :: fd_T
set_option maxRecDepth 20000 in
theorem hL_join (l : Launch) (D : va_G) (cI cB cJ : ClassId) (L : Nat) (ad : Nat → Nat → Nat) (M P : fd_Mem) (o : Int) {rm : Room} {N : fd_Mem} {z : Int} (a : Int) (b : Int) (d : Int) (hrm : rm.cells = 0 ∧ rm.slots = 0 ∧ rm.frames ≤ 10 ∧ rm.locals ≤ 300) (hC : ds_Mi l D cI cB L ad yD_join wD_join rm [.ref (ad 0 0), .int (fd_I a), .int (fd_I b), .int (fd_I d)] M z (N)) : la_H l D cI cB cJ L ad yL_join wL_join [.ref (ad 0 0), .int (fd_I a), .int (fd_I b), .int (fd_I d), .ref (ad 10 0)] (la_M M P o) 0 (la_M N P z) 0 0 := by
  refine fd_enterH (by decide) rfl lo_nd (by simp [Value.category]) (Nat.le_of_ble_eq_true rfl) ?_
  intro A p e s m args below meth c C hr hlk htab hE hN3
  have C : fd_C p m c cL_join 6 s args fd_T "FareDeskLaw" D fd_cl (la_tys cI cB cJ) lo_wl A := C
  refine fd_pad 1 ?_
  refine fd_aload C dL_join_0 rfl ?_
  refine fd_iconst C dL_join_2 ?_
  refine fd_aload_n C dL_join_3 rfl ?_
  refine fd_iload_n C dL_join_4 rfl ?_
  refine fd_iload_n C dL_join_5 rfl ?_
  refine fd_iload_n C dL_join_6 rfl ?_
  refine fd_subVi C hE (la_subD cI cB cJ L ad) (fun k i h => (la_d M P o (ds_wl_lt h) i).symm) (la_backD M N P o) (C.2.1.sub (tys' := ds_tys cI cB) [0, 1] rfl) [.int (fd_I a), .int (fd_I b), .int (fd_I d)] (k := 0) (i := 0) hC (cwV 3 C.1.2.2.2.2 (gD_join fw2_86) rfl hrm.1 hrm.2.1 ⟨rfl, by decide, by decide, by decide +kernel⟩ ⟨by have := hrm.2.2.1; show rm.frames + 1 ≤ 11; omega, by have := hrm.2.2.2; show 8 + (5 + 11) + rm.locals ≤ 400; omega⟩) (ds_m (by decide)) rfl rfl rfl (Nat.le_of_ble_eq_true rfl) dL_join_7 ⟨Nat.le_refl _, Nat.le_refl _⟩ ?_
  refine fd_i2l C dL_join_10 ?_
  refine la_last C lo_10 (la_tJ cI cB cJ) dL_join_11 ?_
  refine fd_goto C (tgt := 23) dL_join_12 rfl ?_
  refine fd_iconst C dL_join_23 ?_
  exact fd_iret C hr hlk rfl rfl dL_join_24
set_option maxRecDepth 20000 in
theorem hL_join_I (l : Launch) (D : va_G) (cI cB cJ : ClassId) (L : Nat) (ad : Nat → Nat → Nat) (M P : fd_Mem) (o : Int) {rm : Room} (a : Int) (b : Int) (d : Int) (hrm : rm.cells = 1 ∧ rm.slots = 6 ∧ rm.frames ≤ 10 ∧ rm.locals ≤ 300) (hC : ds_MT l D cI cB L ad yD_join wD_join rm [.ref (ad 0 0), .int (fd_I a), .int (fd_I b), .int (fd_I d)] M "java/lang/IllegalArgumentException") : la_H l D cI cB cJ L ad yL_join wL_join [.ref (ad 0 0), .int (fd_I a), .int (fd_I b), .int (fd_I d), .ref (ad 10 0)] (la_M M P o) 1 (la_M M P o) 1 6 := by
  refine fd_enterH (by decide) rfl lo_nd (by simp [Value.category]) (Nat.le_of_ble_eq_true rfl) ?_
  intro A p e s m args below meth c C hr hlk htab hE hN3
  have C : fd_C p m c cL_join 6 s args fd_T "FareDeskLaw" D fd_cl (la_tys cI cB cJ) lo_wl A := C
  refine fd_pad 1 ?_
  refine fd_aload C dL_join_0 rfl ?_
  refine fd_iconst C dL_join_2 ?_
  refine fd_aload_n C dL_join_3 rfl ?_
  refine fd_iload_n C dL_join_4 rfl ?_
  refine fd_iload_n C dL_join_5 rfl ?_
  refine fd_iload_n C dL_join_6 rfl ?_
  refine fd_subVT C hE (la_subD cI cB cJ L ad) (fun k i h => (la_d M P o (ds_wl_lt h) i).symm) (C.2.1.sub (tys' := ds_tys cI cB) [0, 1] rfl) [.int (fd_I a), .int (fd_I b), .int (fd_I d)] (k := 0) (i := 0) (name := "java/lang/IllegalArgumentException") hC (cwV 3 C.1.2.2.2.2 (gD_join fw2_86) rfl hrm.1 hrm.2.1 ⟨rfl, by decide, by decide, by decide +kernel⟩ ⟨by have := hrm.2.2.1; show rm.frames + 1 ≤ 11; omega, by have := hrm.2.2.2; show 8 + (5 + 11) + rm.locals ≤ 400; omega⟩) (ds_m (by decide)) rfl rfl rfl (Nat.le_of_ble_eq_true rfl) dL_join_7 ⟨Nat.le_refl _, Nat.le_refl _⟩ [] ⟨0, 12, 15, 13⟩ [⟨0, 12, 19, 15⟩] htab (fun z h => nomatch h) (by decide) (by decide) (C.1.2.2.2.2 _ (fd_t1 149 rfl rfl)) (la_cast hE (List.mem_of_getElem? (i := 0) rfl)) (fun q9 => ?_)
  refine fd_astore C dL_join_15 (by decide) ?_
  refine fd_iconst C dL_join_17 ?_
  exact fd_iret C hr hlk rfl rfl dL_join_18
set_option maxRecDepth 20000 in
theorem hL_join_S (l : Launch) (D : va_G) (cI cB cJ : ClassId) (L : Nat) (ad : Nat → Nat → Nat) (M P : fd_Mem) (o : Int) {rm : Room} (a : Int) (b : Int) (d : Int) (hrm : rm.cells = 1 ∧ rm.slots = 6 ∧ rm.frames ≤ 10 ∧ rm.locals ≤ 300) (hC : ds_MT l D cI cB L ad yD_join wD_join rm [.ref (ad 0 0), .int (fd_I a), .int (fd_I b), .int (fd_I d)] M "java/lang/IllegalStateException") : la_H l D cI cB cJ L ad yL_join wL_join [.ref (ad 0 0), .int (fd_I a), .int (fd_I b), .int (fd_I d), .ref (ad 10 0)] (la_M M P o) 2 (la_M M P o) 1 6 := by
  refine fd_enterH (by decide) rfl lo_nd (by simp [Value.category]) (Nat.le_of_ble_eq_true rfl) ?_
  intro A p e s m args below meth c C hr hlk htab hE hN3
  have C : fd_C p m c cL_join 6 s args fd_T "FareDeskLaw" D fd_cl (la_tys cI cB cJ) lo_wl A := C
  refine fd_pad 1 ?_
  refine fd_aload C dL_join_0 rfl ?_
  refine fd_iconst C dL_join_2 ?_
  refine fd_aload_n C dL_join_3 rfl ?_
  refine fd_iload_n C dL_join_4 rfl ?_
  refine fd_iload_n C dL_join_5 rfl ?_
  refine fd_iload_n C dL_join_6 rfl ?_
  refine fd_subVT C hE (la_subD cI cB cJ L ad) (fun k i h => (la_d M P o (ds_wl_lt h) i).symm) (C.2.1.sub (tys' := ds_tys cI cB) [0, 1] rfl) [.int (fd_I a), .int (fd_I b), .int (fd_I d)] (k := 0) (i := 0) (name := "java/lang/IllegalStateException") hC (cwV 3 C.1.2.2.2.2 (gD_join fw2_86) rfl hrm.1 hrm.2.1 ⟨rfl, by decide, by decide, by decide +kernel⟩ ⟨by have := hrm.2.2.1; show rm.frames + 1 ≤ 11; omega, by have := hrm.2.2.2; show 8 + (5 + 11) + rm.locals ≤ 400; omega⟩) (ds_m (by decide)) rfl rfl rfl (Nat.le_of_ble_eq_true rfl) dL_join_7 ⟨Nat.le_refl _, Nat.le_refl _⟩ [⟨0, 12, 15, 13⟩] ⟨0, 12, 19, 15⟩ [] htab (fun z h => by rw [List.mem_singleton] at h; subst h; exact Or.inr ⟨by decide, "java/lang/IllegalArgumentException", C.1.2.2.2.2 _ (fd_t1 149 rfl rfl), hN3.1⟩) (by decide) (by decide) (C.1.2.2.2.2 _ (fd_t1 150 rfl rfl)) (la_cast hE (List.mem_of_getElem? (i := 7) rfl)) (fun q9 => ?_)
  refine fd_astore C dL_join_19 (by decide) ?_
  refine fd_iconst C dL_join_21 ?_
  exact fd_iret C hr hlk rfl rfl dL_join_22
theorem iL_confirm : Cond.codeWith yL_confirm cL_confirm 4 (some .int) [(0, 9, 12, 13), (0, 9, 15, 15)] ∈ fd_T := fd_t2 92 rfl rfl
abbrev wL_confirm : List Cond := Cond.codeWith yL_confirm cL_confirm 4 (some .int) [(0, 9, 12, 13), (0, 9, 15, 15)] :: fd_T
set_option maxRecDepth 20000 in
theorem hL_confirm (l : Launch) (D : va_G) (cI cB cJ : ClassId) (L : Nat) (ad : Nat → Nat → Nat) (M P : fd_Mem) (o : Int) {rm : Room} {N : fd_Mem} {z : Int} (a : Int) (hrm : rm.cells = 0 ∧ rm.slots = 0 ∧ rm.frames ≤ 10 ∧ rm.locals ≤ 300) (hC : ds_Mi l D cI cB L ad yD_confirm wD_confirm rm [.ref (ad 0 0), .int (fd_I a)] M z (N)) : la_H l D cI cB cJ L ad yL_confirm wL_confirm [.ref (ad 0 0), .int (fd_I a), .ref (ad 10 0)] (la_M M P o) 0 (la_M N P z) 0 0 := by
  refine fd_enterH (by decide) rfl lo_nd (by simp [Value.category]) (Nat.le_of_ble_eq_true rfl) ?_
  intro A p e s m args below meth c C hr hlk htab hE hN3
  have C : fd_C p m c cL_confirm 4 s args fd_T "FareDeskLaw" D fd_cl (la_tys cI cB cJ) lo_wl A := C
  refine fd_pad 1 ?_
  refine fd_aload_n C dL_confirm_0 rfl ?_
  refine fd_iconst C dL_confirm_1 ?_
  refine fd_aload_n C dL_confirm_2 rfl ?_
  refine fd_iload_n C dL_confirm_3 rfl ?_
  refine fd_subVi C hE (la_subD cI cB cJ L ad) (fun k i h => (la_d M P o (ds_wl_lt h) i).symm) (la_backD M N P o) (C.2.1.sub (tys' := ds_tys cI cB) [0, 1] rfl) [.int (fd_I a)] (k := 0) (i := 0) hC (cwV 1 C.1.2.2.2.2 (gD_confirm fw2_93) rfl hrm.1 hrm.2.1 ⟨rfl, by decide, by decide, by decide +kernel⟩ ⟨by have := hrm.2.2.1; show rm.frames + 1 ≤ 11; omega, by have := hrm.2.2.2; show 8 + (3 + 11) + rm.locals ≤ 400; omega⟩) (ds_m (by decide)) rfl rfl rfl (Nat.le_of_ble_eq_true rfl) dL_confirm_4 ⟨Nat.le_refl _, Nat.le_refl _⟩ ?_
  refine fd_i2l C dL_confirm_7 ?_
  refine la_last C lo_10 (la_tJ cI cB cJ) dL_confirm_8 ?_
  refine fd_goto C (tgt := 18) dL_confirm_9 rfl ?_
  refine fd_iconst C dL_confirm_18 ?_
  exact fd_iret C hr hlk rfl rfl dL_confirm_19
set_option maxRecDepth 20000 in
theorem hL_confirm_I (l : Launch) (D : va_G) (cI cB cJ : ClassId) (L : Nat) (ad : Nat → Nat → Nat) (M P : fd_Mem) (o : Int) {rm : Room} (a : Int) (hrm : rm.cells = 1 ∧ rm.slots = 6 ∧ rm.frames ≤ 10 ∧ rm.locals ≤ 300) (hC : ds_MT l D cI cB L ad yD_confirm wD_confirm rm [.ref (ad 0 0), .int (fd_I a)] M "java/lang/IllegalArgumentException") : la_H l D cI cB cJ L ad yL_confirm wL_confirm [.ref (ad 0 0), .int (fd_I a), .ref (ad 10 0)] (la_M M P o) 1 (la_M M P o) 1 6 := by
  refine fd_enterH (by decide) rfl lo_nd (by simp [Value.category]) (Nat.le_of_ble_eq_true rfl) ?_
  intro A p e s m args below meth c C hr hlk htab hE hN3
  have C : fd_C p m c cL_confirm 4 s args fd_T "FareDeskLaw" D fd_cl (la_tys cI cB cJ) lo_wl A := C
  refine fd_pad 1 ?_
  refine fd_aload_n C dL_confirm_0 rfl ?_
  refine fd_iconst C dL_confirm_1 ?_
  refine fd_aload_n C dL_confirm_2 rfl ?_
  refine fd_iload_n C dL_confirm_3 rfl ?_
  refine fd_subVT C hE (la_subD cI cB cJ L ad) (fun k i h => (la_d M P o (ds_wl_lt h) i).symm) (C.2.1.sub (tys' := ds_tys cI cB) [0, 1] rfl) [.int (fd_I a)] (k := 0) (i := 0) (name := "java/lang/IllegalArgumentException") hC (cwV 1 C.1.2.2.2.2 (gD_confirm fw2_93) rfl hrm.1 hrm.2.1 ⟨rfl, by decide, by decide, by decide +kernel⟩ ⟨by have := hrm.2.2.1; show rm.frames + 1 ≤ 11; omega, by have := hrm.2.2.2; show 8 + (3 + 11) + rm.locals ≤ 400; omega⟩) (ds_m (by decide)) rfl rfl rfl (Nat.le_of_ble_eq_true rfl) dL_confirm_4 ⟨Nat.le_refl _, Nat.le_refl _⟩ [] ⟨0, 9, 12, 13⟩ [⟨0, 9, 15, 15⟩] htab (fun z h => nomatch h) (by decide) (by decide) (C.1.2.2.2.2 _ (fd_t1 149 rfl rfl)) (la_cast hE (List.mem_of_getElem? (i := 0) rfl)) (fun q9 => ?_)
  refine fd_astore_n C dL_confirm_12 (by decide) ?_
  refine fd_iconst C dL_confirm_13 ?_
  exact fd_iret C hr hlk rfl rfl dL_confirm_14
set_option maxRecDepth 20000 in
theorem hL_confirm_S (l : Launch) (D : va_G) (cI cB cJ : ClassId) (L : Nat) (ad : Nat → Nat → Nat) (M P : fd_Mem) (o : Int) {rm : Room} (a : Int) (hrm : rm.cells = 1 ∧ rm.slots = 6 ∧ rm.frames ≤ 10 ∧ rm.locals ≤ 300) (hC : ds_MT l D cI cB L ad yD_confirm wD_confirm rm [.ref (ad 0 0), .int (fd_I a)] M "java/lang/IllegalStateException") : la_H l D cI cB cJ L ad yL_confirm wL_confirm [.ref (ad 0 0), .int (fd_I a), .ref (ad 10 0)] (la_M M P o) 2 (la_M M P o) 1 6 := by
  refine fd_enterH (by decide) rfl lo_nd (by simp [Value.category]) (Nat.le_of_ble_eq_true rfl) ?_
  intro A p e s m args below meth c C hr hlk htab hE hN3
  have C : fd_C p m c cL_confirm 4 s args fd_T "FareDeskLaw" D fd_cl (la_tys cI cB cJ) lo_wl A := C
  refine fd_pad 1 ?_
  refine fd_aload_n C dL_confirm_0 rfl ?_
  refine fd_iconst C dL_confirm_1 ?_
  refine fd_aload_n C dL_confirm_2 rfl ?_
  refine fd_iload_n C dL_confirm_3 rfl ?_
  refine fd_subVT C hE (la_subD cI cB cJ L ad) (fun k i h => (la_d M P o (ds_wl_lt h) i).symm) (C.2.1.sub (tys' := ds_tys cI cB) [0, 1] rfl) [.int (fd_I a)] (k := 0) (i := 0) (name := "java/lang/IllegalStateException") hC (cwV 1 C.1.2.2.2.2 (gD_confirm fw2_93) rfl hrm.1 hrm.2.1 ⟨rfl, by decide, by decide, by decide +kernel⟩ ⟨by have := hrm.2.2.1; show rm.frames + 1 ≤ 11; omega, by have := hrm.2.2.2; show 8 + (3 + 11) + rm.locals ≤ 400; omega⟩) (ds_m (by decide)) rfl rfl rfl (Nat.le_of_ble_eq_true rfl) dL_confirm_4 ⟨Nat.le_refl _, Nat.le_refl _⟩ [⟨0, 9, 12, 13⟩] ⟨0, 9, 15, 15⟩ [] htab (fun z h => by rw [List.mem_singleton] at h; subst h; exact Or.inr ⟨by decide, "java/lang/IllegalArgumentException", C.1.2.2.2.2 _ (fd_t1 149 rfl rfl), hN3.1⟩) (by decide) (by decide) (C.1.2.2.2.2 _ (fd_t1 150 rfl rfl)) (la_cast hE (List.mem_of_getElem? (i := 7) rfl)) (fun q9 => ?_)
  refine fd_astore_n C dL_confirm_15 (by decide) ?_
  refine fd_iconst C dL_confirm_16 ?_
  exact fd_iret C hr hlk rfl rfl dL_confirm_17
theorem iL_cancel : Cond.codeWith yL_cancel cL_cancel 4 (some .int) [(0, 9, 12, 13), (0, 9, 15, 15)] ∈ fd_T := fd_t2 105 rfl rfl
abbrev wL_cancel : List Cond := Cond.codeWith yL_cancel cL_cancel 4 (some .int) [(0, 9, 12, 13), (0, 9, 15, 15)] :: fd_T
set_option maxRecDepth 20000 in
theorem hL_cancel (l : Launch) (D : va_G) (cI cB cJ : ClassId) (L : Nat) (ad : Nat → Nat → Nat) (M P : fd_Mem) (o : Int) {rm : Room} {N : fd_Mem} {z : Int} (a : Int) (hrm : rm.cells = 0 ∧ rm.slots = 0 ∧ rm.frames ≤ 10 ∧ rm.locals ≤ 300) (hC : ds_Mi l D cI cB L ad yD_cancel wD_cancel rm [.ref (ad 0 0), .int (fd_I a)] M z (N)) : la_H l D cI cB cJ L ad yL_cancel wL_cancel [.ref (ad 0 0), .int (fd_I a), .ref (ad 10 0)] (la_M M P o) 0 (la_M N P z) 0 0 := by
  refine fd_enterH (by decide) rfl lo_nd (by simp [Value.category]) (Nat.le_of_ble_eq_true rfl) ?_
  intro A p e s m args below meth c C hr hlk htab hE hN3
  have C : fd_C p m c cL_cancel 4 s args fd_T "FareDeskLaw" D fd_cl (la_tys cI cB cJ) lo_wl A := C
  refine fd_pad 1 ?_
  refine fd_aload_n C dL_cancel_0 rfl ?_
  refine fd_iconst C dL_cancel_1 ?_
  refine fd_aload_n C dL_cancel_2 rfl ?_
  refine fd_iload_n C dL_cancel_3 rfl ?_
  refine fd_subVi C hE (la_subD cI cB cJ L ad) (fun k i h => (la_d M P o (ds_wl_lt h) i).symm) (la_backD M N P o) (C.2.1.sub (tys' := ds_tys cI cB) [0, 1] rfl) [.int (fd_I a)] (k := 0) (i := 0) hC (cwV 1 C.1.2.2.2.2 (gD_cancel fw2_106) rfl hrm.1 hrm.2.1 ⟨rfl, by decide, by decide, by decide +kernel⟩ ⟨by have := hrm.2.2.1; show rm.frames + 1 ≤ 11; omega, by have := hrm.2.2.2; show 8 + (4 + 11) + rm.locals ≤ 400; omega⟩) (ds_m (by decide)) rfl rfl rfl (Nat.le_of_ble_eq_true rfl) dL_cancel_4 ⟨Nat.le_refl _, Nat.le_refl _⟩ ?_
  refine fd_i2l C dL_cancel_7 ?_
  refine la_last C lo_10 (la_tJ cI cB cJ) dL_cancel_8 ?_
  refine fd_goto C (tgt := 18) dL_cancel_9 rfl ?_
  refine fd_iconst C dL_cancel_18 ?_
  exact fd_iret C hr hlk rfl rfl dL_cancel_19
set_option maxRecDepth 20000 in
theorem hL_cancel_I (l : Launch) (D : va_G) (cI cB cJ : ClassId) (L : Nat) (ad : Nat → Nat → Nat) (M P : fd_Mem) (o : Int) {rm : Room} (a : Int) (hrm : rm.cells = 1 ∧ rm.slots = 6 ∧ rm.frames ≤ 10 ∧ rm.locals ≤ 300) (hC : ds_MT l D cI cB L ad yD_cancel wD_cancel rm [.ref (ad 0 0), .int (fd_I a)] M "java/lang/IllegalArgumentException") : la_H l D cI cB cJ L ad yL_cancel wL_cancel [.ref (ad 0 0), .int (fd_I a), .ref (ad 10 0)] (la_M M P o) 1 (la_M M P o) 1 6 := by
  refine fd_enterH (by decide) rfl lo_nd (by simp [Value.category]) (Nat.le_of_ble_eq_true rfl) ?_
  intro A p e s m args below meth c C hr hlk htab hE hN3
  have C : fd_C p m c cL_cancel 4 s args fd_T "FareDeskLaw" D fd_cl (la_tys cI cB cJ) lo_wl A := C
  refine fd_pad 1 ?_
  refine fd_aload_n C dL_cancel_0 rfl ?_
  refine fd_iconst C dL_cancel_1 ?_
  refine fd_aload_n C dL_cancel_2 rfl ?_
  refine fd_iload_n C dL_cancel_3 rfl ?_
  refine fd_subVT C hE (la_subD cI cB cJ L ad) (fun k i h => (la_d M P o (ds_wl_lt h) i).symm) (C.2.1.sub (tys' := ds_tys cI cB) [0, 1] rfl) [.int (fd_I a)] (k := 0) (i := 0) (name := "java/lang/IllegalArgumentException") hC (cwV 1 C.1.2.2.2.2 (gD_cancel fw2_106) rfl hrm.1 hrm.2.1 ⟨rfl, by decide, by decide, by decide +kernel⟩ ⟨by have := hrm.2.2.1; show rm.frames + 1 ≤ 11; omega, by have := hrm.2.2.2; show 8 + (4 + 11) + rm.locals ≤ 400; omega⟩) (ds_m (by decide)) rfl rfl rfl (Nat.le_of_ble_eq_true rfl) dL_cancel_4 ⟨Nat.le_refl _, Nat.le_refl _⟩ [] ⟨0, 9, 12, 13⟩ [⟨0, 9, 15, 15⟩] htab (fun z h => nomatch h) (by decide) (by decide) (C.1.2.2.2.2 _ (fd_t1 149 rfl rfl)) (la_cast hE (List.mem_of_getElem? (i := 0) rfl)) (fun q9 => ?_)
  refine fd_astore_n C dL_cancel_12 (by decide) ?_
  refine fd_iconst C dL_cancel_13 ?_
  exact fd_iret C hr hlk rfl rfl dL_cancel_14
set_option maxRecDepth 20000 in
theorem hL_cancel_S (l : Launch) (D : va_G) (cI cB cJ : ClassId) (L : Nat) (ad : Nat → Nat → Nat) (M P : fd_Mem) (o : Int) {rm : Room} (a : Int) (hrm : rm.cells = 1 ∧ rm.slots = 6 ∧ rm.frames ≤ 10 ∧ rm.locals ≤ 300) (hC : ds_MT l D cI cB L ad yD_cancel wD_cancel rm [.ref (ad 0 0), .int (fd_I a)] M "java/lang/IllegalStateException") : la_H l D cI cB cJ L ad yL_cancel wL_cancel [.ref (ad 0 0), .int (fd_I a), .ref (ad 10 0)] (la_M M P o) 2 (la_M M P o) 1 6 := by
  refine fd_enterH (by decide) rfl lo_nd (by simp [Value.category]) (Nat.le_of_ble_eq_true rfl) ?_
  intro A p e s m args below meth c C hr hlk htab hE hN3
  have C : fd_C p m c cL_cancel 4 s args fd_T "FareDeskLaw" D fd_cl (la_tys cI cB cJ) lo_wl A := C
  refine fd_pad 1 ?_
  refine fd_aload_n C dL_cancel_0 rfl ?_
  refine fd_iconst C dL_cancel_1 ?_
  refine fd_aload_n C dL_cancel_2 rfl ?_
  refine fd_iload_n C dL_cancel_3 rfl ?_
  refine fd_subVT C hE (la_subD cI cB cJ L ad) (fun k i h => (la_d M P o (ds_wl_lt h) i).symm) (C.2.1.sub (tys' := ds_tys cI cB) [0, 1] rfl) [.int (fd_I a)] (k := 0) (i := 0) (name := "java/lang/IllegalStateException") hC (cwV 1 C.1.2.2.2.2 (gD_cancel fw2_106) rfl hrm.1 hrm.2.1 ⟨rfl, by decide, by decide, by decide +kernel⟩ ⟨by have := hrm.2.2.1; show rm.frames + 1 ≤ 11; omega, by have := hrm.2.2.2; show 8 + (4 + 11) + rm.locals ≤ 400; omega⟩) (ds_m (by decide)) rfl rfl rfl (Nat.le_of_ble_eq_true rfl) dL_cancel_4 ⟨Nat.le_refl _, Nat.le_refl _⟩ [⟨0, 9, 12, 13⟩] ⟨0, 9, 15, 15⟩ [] htab (fun z h => by rw [List.mem_singleton] at h; subst h; exact Or.inr ⟨by decide, "java/lang/IllegalArgumentException", C.1.2.2.2.2 _ (fd_t1 149 rfl rfl), hN3.1⟩) (by decide) (by decide) (C.1.2.2.2.2 _ (fd_t1 150 rfl rfl)) (la_cast hE (List.mem_of_getElem? (i := 7) rfl)) (fun q9 => ?_)
  refine fd_astore_n C dL_cancel_15 (by decide) ?_
  refine fd_iconst C dL_cancel_16 ?_
  exact fd_iret C hr hlk rfl rfl dL_cancel_17
theorem iL_shrink : Cond.codeWith yL_shrink cL_shrink 5 (some .int) [(0, 10, 13, 13), (0, 10, 17, 15)] ∈ fd_T := fd_t2 141 rfl rfl
abbrev wL_shrink : List Cond := Cond.codeWith yL_shrink cL_shrink 5 (some .int) [(0, 10, 13, 13), (0, 10, 17, 15)] :: fd_T
set_option maxRecDepth 20000 in
theorem hL_shrink (l : Launch) (D : va_G) (cI cB cJ : ClassId) (L : Nat) (ad : Nat → Nat → Nat) (M P : fd_Mem) (o : Int) {rm : Room} {N : fd_Mem} {z : Int} (a : Int) (b : Int) (hrm : rm.cells = 0 ∧ rm.slots = 0 ∧ rm.frames ≤ 10 ∧ rm.locals ≤ 300) (hC : ds_Mi l D cI cB L ad yD_shrink wD_shrink rm [.ref (ad 0 0), .int (fd_I a), .int (fd_I b)] M z (N)) : la_H l D cI cB cJ L ad yL_shrink wL_shrink [.ref (ad 0 0), .int (fd_I a), .int (fd_I b), .ref (ad 10 0)] (la_M M P o) 0 (la_M N P z) 0 0 := by
  refine fd_enterH (by decide) rfl lo_nd (by simp [Value.category]) (Nat.le_of_ble_eq_true rfl) ?_
  intro A p e s m args below meth c C hr hlk htab hE hN3
  have C : fd_C p m c cL_shrink 5 s args fd_T "FareDeskLaw" D fd_cl (la_tys cI cB cJ) lo_wl A := C
  refine fd_pad 1 ?_
  refine fd_aload_n C dL_shrink_0 rfl ?_
  refine fd_iconst C dL_shrink_1 ?_
  refine fd_aload_n C dL_shrink_2 rfl ?_
  refine fd_iload_n C dL_shrink_3 rfl ?_
  refine fd_iload_n C dL_shrink_4 rfl ?_
  refine fd_subVi C hE (la_subD cI cB cJ L ad) (fun k i h => (la_d M P o (ds_wl_lt h) i).symm) (la_backD M N P o) (C.2.1.sub (tys' := ds_tys cI cB) [0, 1] rfl) [.int (fd_I a), .int (fd_I b)] (k := 0) (i := 0) hC (cwV 2 C.1.2.2.2.2 (gD_shrink fw2_142) rfl hrm.1 hrm.2.1 ⟨rfl, by decide, by decide, by decide +kernel⟩ ⟨by have := hrm.2.2.1; show rm.frames + 1 ≤ 11; omega, by have := hrm.2.2.2; show 8 + (5 + 11) + rm.locals ≤ 400; omega⟩) (ds_m (by decide)) rfl rfl rfl (Nat.le_of_ble_eq_true rfl) dL_shrink_5 ⟨Nat.le_refl _, Nat.le_refl _⟩ ?_
  refine fd_i2l C dL_shrink_8 ?_
  refine la_last C lo_10 (la_tJ cI cB cJ) dL_shrink_9 ?_
  refine fd_goto C (tgt := 21) dL_shrink_10 rfl ?_
  refine fd_iconst C dL_shrink_21 ?_
  exact fd_iret C hr hlk rfl rfl dL_shrink_22
set_option maxRecDepth 20000 in
theorem hL_shrink_I (l : Launch) (D : va_G) (cI cB cJ : ClassId) (L : Nat) (ad : Nat → Nat → Nat) (M P : fd_Mem) (o : Int) {rm : Room} (a : Int) (b : Int) (hrm : rm.cells = 1 ∧ rm.slots = 6 ∧ rm.frames ≤ 10 ∧ rm.locals ≤ 300) (hC : ds_MT l D cI cB L ad yD_shrink wD_shrink rm [.ref (ad 0 0), .int (fd_I a), .int (fd_I b)] M "java/lang/IllegalArgumentException") : la_H l D cI cB cJ L ad yL_shrink wL_shrink [.ref (ad 0 0), .int (fd_I a), .int (fd_I b), .ref (ad 10 0)] (la_M M P o) 1 (la_M M P o) 1 6 := by
  refine fd_enterH (by decide) rfl lo_nd (by simp [Value.category]) (Nat.le_of_ble_eq_true rfl) ?_
  intro A p e s m args below meth c C hr hlk htab hE hN3
  have C : fd_C p m c cL_shrink 5 s args fd_T "FareDeskLaw" D fd_cl (la_tys cI cB cJ) lo_wl A := C
  refine fd_pad 1 ?_
  refine fd_aload_n C dL_shrink_0 rfl ?_
  refine fd_iconst C dL_shrink_1 ?_
  refine fd_aload_n C dL_shrink_2 rfl ?_
  refine fd_iload_n C dL_shrink_3 rfl ?_
  refine fd_iload_n C dL_shrink_4 rfl ?_
  refine fd_subVT C hE (la_subD cI cB cJ L ad) (fun k i h => (la_d M P o (ds_wl_lt h) i).symm) (C.2.1.sub (tys' := ds_tys cI cB) [0, 1] rfl) [.int (fd_I a), .int (fd_I b)] (k := 0) (i := 0) (name := "java/lang/IllegalArgumentException") hC (cwV 2 C.1.2.2.2.2 (gD_shrink fw2_142) rfl hrm.1 hrm.2.1 ⟨rfl, by decide, by decide, by decide +kernel⟩ ⟨by have := hrm.2.2.1; show rm.frames + 1 ≤ 11; omega, by have := hrm.2.2.2; show 8 + (5 + 11) + rm.locals ≤ 400; omega⟩) (ds_m (by decide)) rfl rfl rfl (Nat.le_of_ble_eq_true rfl) dL_shrink_5 ⟨Nat.le_refl _, Nat.le_refl _⟩ [] ⟨0, 10, 13, 13⟩ [⟨0, 10, 17, 15⟩] htab (fun z h => nomatch h) (by decide) (by decide) (C.1.2.2.2.2 _ (fd_t1 149 rfl rfl)) (la_cast hE (List.mem_of_getElem? (i := 0) rfl)) (fun q9 => ?_)
  refine fd_astore C dL_shrink_13 (by decide) ?_
  refine fd_iconst C dL_shrink_15 ?_
  exact fd_iret C hr hlk rfl rfl dL_shrink_16
set_option maxRecDepth 20000 in
theorem hL_shrink_S (l : Launch) (D : va_G) (cI cB cJ : ClassId) (L : Nat) (ad : Nat → Nat → Nat) (M P : fd_Mem) (o : Int) {rm : Room} (a : Int) (b : Int) (hrm : rm.cells = 1 ∧ rm.slots = 6 ∧ rm.frames ≤ 10 ∧ rm.locals ≤ 300) (hC : ds_MT l D cI cB L ad yD_shrink wD_shrink rm [.ref (ad 0 0), .int (fd_I a), .int (fd_I b)] M "java/lang/IllegalStateException") : la_H l D cI cB cJ L ad yL_shrink wL_shrink [.ref (ad 0 0), .int (fd_I a), .int (fd_I b), .ref (ad 10 0)] (la_M M P o) 2 (la_M M P o) 1 6 := by
  refine fd_enterH (by decide) rfl lo_nd (by simp [Value.category]) (Nat.le_of_ble_eq_true rfl) ?_
  intro A p e s m args below meth c C hr hlk htab hE hN3
  have C : fd_C p m c cL_shrink 5 s args fd_T "FareDeskLaw" D fd_cl (la_tys cI cB cJ) lo_wl A := C
  refine fd_pad 1 ?_
  refine fd_aload_n C dL_shrink_0 rfl ?_
  refine fd_iconst C dL_shrink_1 ?_
  refine fd_aload_n C dL_shrink_2 rfl ?_
  refine fd_iload_n C dL_shrink_3 rfl ?_
  refine fd_iload_n C dL_shrink_4 rfl ?_
  refine fd_subVT C hE (la_subD cI cB cJ L ad) (fun k i h => (la_d M P o (ds_wl_lt h) i).symm) (C.2.1.sub (tys' := ds_tys cI cB) [0, 1] rfl) [.int (fd_I a), .int (fd_I b)] (k := 0) (i := 0) (name := "java/lang/IllegalStateException") hC (cwV 2 C.1.2.2.2.2 (gD_shrink fw2_142) rfl hrm.1 hrm.2.1 ⟨rfl, by decide, by decide, by decide +kernel⟩ ⟨by have := hrm.2.2.1; show rm.frames + 1 ≤ 11; omega, by have := hrm.2.2.2; show 8 + (5 + 11) + rm.locals ≤ 400; omega⟩) (ds_m (by decide)) rfl rfl rfl (Nat.le_of_ble_eq_true rfl) dL_shrink_5 ⟨Nat.le_refl _, Nat.le_refl _⟩ [⟨0, 10, 13, 13⟩] ⟨0, 10, 17, 15⟩ [] htab (fun z h => by rw [List.mem_singleton] at h; subst h; exact Or.inr ⟨by decide, "java/lang/IllegalArgumentException", C.1.2.2.2.2 _ (fd_t1 149 rfl rfl), hN3.1⟩) (by decide) (by decide) (C.1.2.2.2.2 _ (fd_t1 150 rfl rfl)) (la_cast hE (List.mem_of_getElem? (i := 7) rfl)) (fun q9 => ?_)
  refine fd_astore C dL_shrink_17 (by decide) ?_
  refine fd_iconst C dL_shrink_19 ?_
  exact fd_iret C hr hlk rfl rfl dL_shrink_20
theorem iL_change : Cond.codeWith yL_change cL_change 4 (some .int) [(0, 6, 9, 13), (0, 6, 12, 15), (0, 6, 15, 28)] ∈ fd_T := fd_t2 149 rfl rfl
abbrev wL_change : List Cond := Cond.codeWith yL_change cL_change 4 (some .int) [(0, 6, 9, 13), (0, 6, 12, 15), (0, 6, 15, 28)] :: fd_T
set_option maxRecDepth 20000 in
theorem hL_change (l : Launch) (D : va_G) (cI cB cJ : ClassId) (L : Nat) (ad : Nat → Nat → Nat) (M P : fd_Mem) (o : Int) {rm : Room} {N : fd_Mem} (a : Int) (b : Int) (hrm : rm.cells = 0 ∧ rm.slots = 0 ∧ rm.frames ≤ 10 ∧ rm.locals ≤ 300) (hC : ds_Mv l D cI cB L ad yD_change wD_change rm [.ref (ad 0 0), .int (fd_I a), .int (fd_I b)] M (N)) : la_H l D cI cB cJ L ad yL_change wL_change [.ref (ad 0 0), .int (fd_I a), .int (fd_I b)] (la_M M P o) 0 (la_M N P o) 0 0 := by
  refine fd_enterH (by decide) rfl lo_nd (by simp [Value.category]) (Nat.le_of_ble_eq_true rfl) ?_
  intro A p e s m args below meth c C hr hlk htab hE hN3
  have C : fd_C p m c cL_change 4 s args fd_T "FareDeskLaw" D fd_cl (la_tys cI cB cJ) lo_wl A := C
  refine fd_pad 1 ?_
  refine fd_aload_n C dL_change_0 rfl ?_
  refine fd_iload_n C dL_change_1 rfl ?_
  refine fd_iload_n C dL_change_2 rfl ?_
  refine fd_subVv C hE (la_subD cI cB cJ L ad) (fun k i h => (la_d M P o (ds_wl_lt h) i).symm) (la_backD M N P o) (C.2.1.sub (tys' := ds_tys cI cB) [0, 1] rfl) [.int (fd_I a), .int (fd_I b)] (k := 0) (i := 0) hC (cwV 2 C.1.2.2.2.2 (gD_change fw2_150) rfl hrm.1 hrm.2.1 ⟨rfl, by decide, by decide, by decide +kernel⟩ ⟨by have := hrm.2.2.1; show rm.frames + 1 ≤ 11; omega, by have := hrm.2.2.2; show 8 + (4 + 11) + rm.locals ≤ 400; omega⟩) (ds_m (by decide)) rfl rfl rfl (Nat.le_of_ble_eq_true rfl) dL_change_3 ⟨Nat.le_refl _, Nat.le_refl _⟩ ?_
  refine fd_goto C (tgt := 18) dL_change_6 rfl ?_
  refine fd_iconst C dL_change_18 ?_
  exact fd_iret C hr hlk rfl rfl dL_change_19
set_option maxRecDepth 20000 in
theorem hL_change_I (l : Launch) (D : va_G) (cI cB cJ : ClassId) (L : Nat) (ad : Nat → Nat → Nat) (M P : fd_Mem) (o : Int) {rm : Room} (a : Int) (b : Int) (hrm : rm.cells = 1 ∧ rm.slots = 6 ∧ rm.frames ≤ 10 ∧ rm.locals ≤ 300) (hC : ds_MT l D cI cB L ad yD_change wD_change rm [.ref (ad 0 0), .int (fd_I a), .int (fd_I b)] M "java/lang/IllegalArgumentException") : la_H l D cI cB cJ L ad yL_change wL_change [.ref (ad 0 0), .int (fd_I a), .int (fd_I b)] (la_M M P o) 1 (la_M M P o) 1 6 := by
  refine fd_enterH (by decide) rfl lo_nd (by simp [Value.category]) (Nat.le_of_ble_eq_true rfl) ?_
  intro A p e s m args below meth c C hr hlk htab hE hN3
  have C : fd_C p m c cL_change 4 s args fd_T "FareDeskLaw" D fd_cl (la_tys cI cB cJ) lo_wl A := C
  refine fd_pad 1 ?_
  refine fd_aload_n C dL_change_0 rfl ?_
  refine fd_iload_n C dL_change_1 rfl ?_
  refine fd_iload_n C dL_change_2 rfl ?_
  refine fd_subVT C hE (la_subD cI cB cJ L ad) (fun k i h => (la_d M P o (ds_wl_lt h) i).symm) (C.2.1.sub (tys' := ds_tys cI cB) [0, 1] rfl) [.int (fd_I a), .int (fd_I b)] (k := 0) (i := 0) (name := "java/lang/IllegalArgumentException") hC (cwV 2 C.1.2.2.2.2 (gD_change fw2_150) rfl hrm.1 hrm.2.1 ⟨rfl, by decide, by decide, by decide +kernel⟩ ⟨by have := hrm.2.2.1; show rm.frames + 1 ≤ 11; omega, by have := hrm.2.2.2; show 8 + (4 + 11) + rm.locals ≤ 400; omega⟩) (ds_m (by decide)) rfl rfl rfl (Nat.le_of_ble_eq_true rfl) dL_change_3 ⟨Nat.le_refl _, Nat.le_refl _⟩ [] ⟨0, 6, 9, 13⟩ [⟨0, 6, 12, 15⟩, ⟨0, 6, 15, 28⟩] htab (fun z h => nomatch h) (by decide) (by decide) (C.1.2.2.2.2 _ (fd_t1 149 rfl rfl)) (la_cast hE (List.mem_of_getElem? (i := 0) rfl)) (fun q9 => ?_)
  refine fd_astore_n C dL_change_9 (by decide) ?_
  refine fd_iconst C dL_change_10 ?_
  exact fd_iret C hr hlk rfl rfl dL_change_11
set_option maxRecDepth 20000 in
theorem hL_change_S (l : Launch) (D : va_G) (cI cB cJ : ClassId) (L : Nat) (ad : Nat → Nat → Nat) (M P : fd_Mem) (o : Int) {rm : Room} (a : Int) (b : Int) (hrm : rm.cells = 1 ∧ rm.slots = 6 ∧ rm.frames ≤ 10 ∧ rm.locals ≤ 300) (hC : ds_MT l D cI cB L ad yD_change wD_change rm [.ref (ad 0 0), .int (fd_I a), .int (fd_I b)] M "java/lang/IllegalStateException") : la_H l D cI cB cJ L ad yL_change wL_change [.ref (ad 0 0), .int (fd_I a), .int (fd_I b)] (la_M M P o) 2 (la_M M P o) 1 6 := by
  refine fd_enterH (by decide) rfl lo_nd (by simp [Value.category]) (Nat.le_of_ble_eq_true rfl) ?_
  intro A p e s m args below meth c C hr hlk htab hE hN3
  have C : fd_C p m c cL_change 4 s args fd_T "FareDeskLaw" D fd_cl (la_tys cI cB cJ) lo_wl A := C
  refine fd_pad 1 ?_
  refine fd_aload_n C dL_change_0 rfl ?_
  refine fd_iload_n C dL_change_1 rfl ?_
  refine fd_iload_n C dL_change_2 rfl ?_
  refine fd_subVT C hE (la_subD cI cB cJ L ad) (fun k i h => (la_d M P o (ds_wl_lt h) i).symm) (C.2.1.sub (tys' := ds_tys cI cB) [0, 1] rfl) [.int (fd_I a), .int (fd_I b)] (k := 0) (i := 0) (name := "java/lang/IllegalStateException") hC (cwV 2 C.1.2.2.2.2 (gD_change fw2_150) rfl hrm.1 hrm.2.1 ⟨rfl, by decide, by decide, by decide +kernel⟩ ⟨by have := hrm.2.2.1; show rm.frames + 1 ≤ 11; omega, by have := hrm.2.2.2; show 8 + (4 + 11) + rm.locals ≤ 400; omega⟩) (ds_m (by decide)) rfl rfl rfl (Nat.le_of_ble_eq_true rfl) dL_change_3 ⟨Nat.le_refl _, Nat.le_refl _⟩ [⟨0, 6, 9, 13⟩] ⟨0, 6, 12, 15⟩ [⟨0, 6, 15, 28⟩] htab (fun z h => by rw [List.mem_singleton] at h; subst h; exact Or.inr ⟨by decide, "java/lang/IllegalArgumentException", C.1.2.2.2.2 _ (fd_t1 149 rfl rfl), hN3.1⟩) (by decide) (by decide) (C.1.2.2.2.2 _ (fd_t1 150 rfl rfl)) (la_cast hE (List.mem_of_getElem? (i := 7) rfl)) (fun q9 => ?_)
  refine fd_astore_n C dL_change_12 (by decide) ?_
  refine fd_iconst C dL_change_13 ?_
  exact fd_iret C hr hlk rfl rfl dL_change_14
set_option maxRecDepth 20000 in
theorem hL_change_U (l : Launch) (D : va_G) (cI cB cJ : ClassId) (L : Nat) (ad : Nat → Nat → Nat) (M P : fd_Mem) (o : Int) {rm : Room} (a : Int) (b : Int) (hrm : rm.cells = 1 ∧ rm.slots = 6 ∧ rm.frames ≤ 10 ∧ rm.locals ≤ 300) (hC : ds_MT l D cI cB L ad yD_change wD_change rm [.ref (ad 0 0), .int (fd_I a), .int (fd_I b)] M "java/lang/UnsupportedOperationException") : la_H l D cI cB cJ L ad yL_change wL_change [.ref (ad 0 0), .int (fd_I a), .int (fd_I b)] (la_M M P o) 3 (la_M M P o) 1 6 := by
  refine fd_enterH (by decide) rfl lo_nd (by simp [Value.category]) (Nat.le_of_ble_eq_true rfl) ?_
  intro A p e s m args below meth c C hr hlk htab hE hN3
  have C : fd_C p m c cL_change 4 s args fd_T "FareDeskLaw" D fd_cl (la_tys cI cB cJ) lo_wl A := C
  refine fd_pad 1 ?_
  refine fd_aload_n C dL_change_0 rfl ?_
  refine fd_iload_n C dL_change_1 rfl ?_
  refine fd_iload_n C dL_change_2 rfl ?_
  refine fd_subVT C hE (la_subD cI cB cJ L ad) (fun k i h => (la_d M P o (ds_wl_lt h) i).symm) (C.2.1.sub (tys' := ds_tys cI cB) [0, 1] rfl) [.int (fd_I a), .int (fd_I b)] (k := 0) (i := 0) (name := "java/lang/UnsupportedOperationException") hC (cwV 2 C.1.2.2.2.2 (gD_change fw2_150) rfl hrm.1 hrm.2.1 ⟨rfl, by decide, by decide, by decide +kernel⟩ ⟨by have := hrm.2.2.1; show rm.frames + 1 ≤ 11; omega, by have := hrm.2.2.2; show 8 + (4 + 11) + rm.locals ≤ 400; omega⟩) (ds_m (by decide)) rfl rfl rfl (Nat.le_of_ble_eq_true rfl) dL_change_3 ⟨Nat.le_refl _, Nat.le_refl _⟩ [⟨0, 6, 9, 13⟩, ⟨0, 6, 12, 15⟩] ⟨0, 6, 15, 28⟩ [] htab (fun z h => by
    rcases List.mem_cons.mp h with h | h
    · subst h; exact Or.inr ⟨by decide, "java/lang/IllegalArgumentException", C.1.2.2.2.2 _ (fd_t1 149 rfl rfl), hN3.2.1⟩
    · rw [List.mem_singleton] at h; subst h; exact Or.inr ⟨by decide, "java/lang/IllegalStateException", C.1.2.2.2.2 _ (fd_t1 150 rfl rfl), hN3.2.2⟩) (by decide) (by decide) (C.1.2.2.2.2 _ (fd_t2 47 rfl rfl)) (la_cast hE (List.mem_of_getElem? (i := 8) rfl)) (fun q9 => ?_)
  refine fd_astore_n C dL_change_15 (by decide) ?_
  refine fd_iconst C dL_change_16 ?_
  exact fd_iret C hr hlk rfl rfl dL_change_17
theorem iL_seat : Cond.codeWith yL_seat cL_seat 5 (some .int) [(0, 10, 13, 13), (0, 10, 17, 15), (0, 10, 21, 28)] ∈ fd_T := fd_t2 163 rfl rfl
abbrev wL_seat : List Cond := Cond.codeWith yL_seat cL_seat 5 (some .int) [(0, 10, 13, 13), (0, 10, 17, 15), (0, 10, 21, 28)] :: fd_T
set_option maxRecDepth 20000 in
theorem hL_seat (l : Launch) (D : va_G) (cI cB cJ : ClassId) (L : Nat) (ad : Nat → Nat → Nat) (M P : fd_Mem) (o : Int) {rm : Room} {N : fd_Mem} {z : Int} (a : Int) (b : Int) (hrm : rm.cells = 0 ∧ rm.slots = 0 ∧ rm.frames ≤ 10 ∧ rm.locals ≤ 300) (hC : ds_Mi l D cI cB L ad yD_seat wD_seat rm [.ref (ad 0 0), .int (fd_I a), .int (fd_I b)] M z (N)) : la_H l D cI cB cJ L ad yL_seat wL_seat [.ref (ad 0 0), .int (fd_I a), .int (fd_I b), .ref (ad 10 0)] (la_M M P o) 0 (la_M N P z) 0 0 := by
  refine fd_enterH (by decide) rfl lo_nd (by simp [Value.category]) (Nat.le_of_ble_eq_true rfl) ?_
  intro A p e s m args below meth c C hr hlk htab hE hN3
  have C : fd_C p m c cL_seat 5 s args fd_T "FareDeskLaw" D fd_cl (la_tys cI cB cJ) lo_wl A := C
  refine fd_pad 1 ?_
  refine fd_aload_n C dL_seat_0 rfl ?_
  refine fd_iconst C dL_seat_1 ?_
  refine fd_aload_n C dL_seat_2 rfl ?_
  refine fd_iload_n C dL_seat_3 rfl ?_
  refine fd_iload_n C dL_seat_4 rfl ?_
  refine fd_subVi C hE (la_subD cI cB cJ L ad) (fun k i h => (la_d M P o (ds_wl_lt h) i).symm) (la_backD M N P o) (C.2.1.sub (tys' := ds_tys cI cB) [0, 1] rfl) [.int (fd_I a), .int (fd_I b)] (k := 0) (i := 0) hC (cwV 2 C.1.2.2.2.2 (gD_seat fw2_164) rfl hrm.1 hrm.2.1 ⟨rfl, by decide, by decide, by decide +kernel⟩ ⟨by have := hrm.2.2.1; show rm.frames + 1 ≤ 11; omega, by have := hrm.2.2.2; show 8 + (4 + 11) + rm.locals ≤ 400; omega⟩) (ds_m (by decide)) rfl rfl rfl (Nat.le_of_ble_eq_true rfl) dL_seat_5 ⟨Nat.le_refl _, Nat.le_refl _⟩ ?_
  refine fd_i2l C dL_seat_8 ?_
  refine la_last C lo_10 (la_tJ cI cB cJ) dL_seat_9 ?_
  refine fd_goto C (tgt := 25) dL_seat_10 rfl ?_
  refine fd_iconst C dL_seat_25 ?_
  exact fd_iret C hr hlk rfl rfl dL_seat_26
set_option maxRecDepth 20000 in
theorem hL_seat_I (l : Launch) (D : va_G) (cI cB cJ : ClassId) (L : Nat) (ad : Nat → Nat → Nat) (M P : fd_Mem) (o : Int) {rm : Room} (a : Int) (b : Int) (hrm : rm.cells = 1 ∧ rm.slots = 6 ∧ rm.frames ≤ 10 ∧ rm.locals ≤ 300) (hC : ds_MT l D cI cB L ad yD_seat wD_seat rm [.ref (ad 0 0), .int (fd_I a), .int (fd_I b)] M "java/lang/IllegalArgumentException") : la_H l D cI cB cJ L ad yL_seat wL_seat [.ref (ad 0 0), .int (fd_I a), .int (fd_I b), .ref (ad 10 0)] (la_M M P o) 1 (la_M M P o) 1 6 := by
  refine fd_enterH (by decide) rfl lo_nd (by simp [Value.category]) (Nat.le_of_ble_eq_true rfl) ?_
  intro A p e s m args below meth c C hr hlk htab hE hN3
  have C : fd_C p m c cL_seat 5 s args fd_T "FareDeskLaw" D fd_cl (la_tys cI cB cJ) lo_wl A := C
  refine fd_pad 1 ?_
  refine fd_aload_n C dL_seat_0 rfl ?_
  refine fd_iconst C dL_seat_1 ?_
  refine fd_aload_n C dL_seat_2 rfl ?_
  refine fd_iload_n C dL_seat_3 rfl ?_
  refine fd_iload_n C dL_seat_4 rfl ?_
  refine fd_subVT C hE (la_subD cI cB cJ L ad) (fun k i h => (la_d M P o (ds_wl_lt h) i).symm) (C.2.1.sub (tys' := ds_tys cI cB) [0, 1] rfl) [.int (fd_I a), .int (fd_I b)] (k := 0) (i := 0) (name := "java/lang/IllegalArgumentException") hC (cwV 2 C.1.2.2.2.2 (gD_seat fw2_164) rfl hrm.1 hrm.2.1 ⟨rfl, by decide, by decide, by decide +kernel⟩ ⟨by have := hrm.2.2.1; show rm.frames + 1 ≤ 11; omega, by have := hrm.2.2.2; show 8 + (4 + 11) + rm.locals ≤ 400; omega⟩) (ds_m (by decide)) rfl rfl rfl (Nat.le_of_ble_eq_true rfl) dL_seat_5 ⟨Nat.le_refl _, Nat.le_refl _⟩ [] ⟨0, 10, 13, 13⟩ [⟨0, 10, 17, 15⟩, ⟨0, 10, 21, 28⟩] htab (fun z h => nomatch h) (by decide) (by decide) (C.1.2.2.2.2 _ (fd_t1 149 rfl rfl)) (la_cast hE (List.mem_of_getElem? (i := 0) rfl)) (fun q9 => ?_)
  refine fd_astore C dL_seat_13 (by decide) ?_
  refine fd_iconst C dL_seat_15 ?_
  exact fd_iret C hr hlk rfl rfl dL_seat_16
set_option maxRecDepth 20000 in
theorem hL_seat_S (l : Launch) (D : va_G) (cI cB cJ : ClassId) (L : Nat) (ad : Nat → Nat → Nat) (M P : fd_Mem) (o : Int) {rm : Room} (a : Int) (b : Int) (hrm : rm.cells = 1 ∧ rm.slots = 6 ∧ rm.frames ≤ 10 ∧ rm.locals ≤ 300) (hC : ds_MT l D cI cB L ad yD_seat wD_seat rm [.ref (ad 0 0), .int (fd_I a), .int (fd_I b)] M "java/lang/IllegalStateException") : la_H l D cI cB cJ L ad yL_seat wL_seat [.ref (ad 0 0), .int (fd_I a), .int (fd_I b), .ref (ad 10 0)] (la_M M P o) 2 (la_M M P o) 1 6 := by
  refine fd_enterH (by decide) rfl lo_nd (by simp [Value.category]) (Nat.le_of_ble_eq_true rfl) ?_
  intro A p e s m args below meth c C hr hlk htab hE hN3
  have C : fd_C p m c cL_seat 5 s args fd_T "FareDeskLaw" D fd_cl (la_tys cI cB cJ) lo_wl A := C
  refine fd_pad 1 ?_
  refine fd_aload_n C dL_seat_0 rfl ?_
  refine fd_iconst C dL_seat_1 ?_
  refine fd_aload_n C dL_seat_2 rfl ?_
  refine fd_iload_n C dL_seat_3 rfl ?_
  refine fd_iload_n C dL_seat_4 rfl ?_
  refine fd_subVT C hE (la_subD cI cB cJ L ad) (fun k i h => (la_d M P o (ds_wl_lt h) i).symm) (C.2.1.sub (tys' := ds_tys cI cB) [0, 1] rfl) [.int (fd_I a), .int (fd_I b)] (k := 0) (i := 0) (name := "java/lang/IllegalStateException") hC (cwV 2 C.1.2.2.2.2 (gD_seat fw2_164) rfl hrm.1 hrm.2.1 ⟨rfl, by decide, by decide, by decide +kernel⟩ ⟨by have := hrm.2.2.1; show rm.frames + 1 ≤ 11; omega, by have := hrm.2.2.2; show 8 + (4 + 11) + rm.locals ≤ 400; omega⟩) (ds_m (by decide)) rfl rfl rfl (Nat.le_of_ble_eq_true rfl) dL_seat_5 ⟨Nat.le_refl _, Nat.le_refl _⟩ [⟨0, 10, 13, 13⟩] ⟨0, 10, 17, 15⟩ [⟨0, 10, 21, 28⟩] htab (fun z h => by rw [List.mem_singleton] at h; subst h; exact Or.inr ⟨by decide, "java/lang/IllegalArgumentException", C.1.2.2.2.2 _ (fd_t1 149 rfl rfl), hN3.1⟩) (by decide) (by decide) (C.1.2.2.2.2 _ (fd_t1 150 rfl rfl)) (la_cast hE (List.mem_of_getElem? (i := 7) rfl)) (fun q9 => ?_)
  refine fd_astore C dL_seat_17 (by decide) ?_
  refine fd_iconst C dL_seat_19 ?_
  exact fd_iret C hr hlk rfl rfl dL_seat_20
set_option maxRecDepth 20000 in
theorem hL_seat_U (l : Launch) (D : va_G) (cI cB cJ : ClassId) (L : Nat) (ad : Nat → Nat → Nat) (M P : fd_Mem) (o : Int) {rm : Room} (a : Int) (b : Int) (hrm : rm.cells = 1 ∧ rm.slots = 6 ∧ rm.frames ≤ 10 ∧ rm.locals ≤ 300) (hC : ds_MT l D cI cB L ad yD_seat wD_seat rm [.ref (ad 0 0), .int (fd_I a), .int (fd_I b)] M "java/lang/UnsupportedOperationException") : la_H l D cI cB cJ L ad yL_seat wL_seat [.ref (ad 0 0), .int (fd_I a), .int (fd_I b), .ref (ad 10 0)] (la_M M P o) 3 (la_M M P o) 1 6 := by
  refine fd_enterH (by decide) rfl lo_nd (by simp [Value.category]) (Nat.le_of_ble_eq_true rfl) ?_
  intro A p e s m args below meth c C hr hlk htab hE hN3
  have C : fd_C p m c cL_seat 5 s args fd_T "FareDeskLaw" D fd_cl (la_tys cI cB cJ) lo_wl A := C
  refine fd_pad 1 ?_
  refine fd_aload_n C dL_seat_0 rfl ?_
  refine fd_iconst C dL_seat_1 ?_
  refine fd_aload_n C dL_seat_2 rfl ?_
  refine fd_iload_n C dL_seat_3 rfl ?_
  refine fd_iload_n C dL_seat_4 rfl ?_
  refine fd_subVT C hE (la_subD cI cB cJ L ad) (fun k i h => (la_d M P o (ds_wl_lt h) i).symm) (C.2.1.sub (tys' := ds_tys cI cB) [0, 1] rfl) [.int (fd_I a), .int (fd_I b)] (k := 0) (i := 0) (name := "java/lang/UnsupportedOperationException") hC (cwV 2 C.1.2.2.2.2 (gD_seat fw2_164) rfl hrm.1 hrm.2.1 ⟨rfl, by decide, by decide, by decide +kernel⟩ ⟨by have := hrm.2.2.1; show rm.frames + 1 ≤ 11; omega, by have := hrm.2.2.2; show 8 + (4 + 11) + rm.locals ≤ 400; omega⟩) (ds_m (by decide)) rfl rfl rfl (Nat.le_of_ble_eq_true rfl) dL_seat_5 ⟨Nat.le_refl _, Nat.le_refl _⟩ [⟨0, 10, 13, 13⟩, ⟨0, 10, 17, 15⟩] ⟨0, 10, 21, 28⟩ [] htab (fun z h => by
    rcases List.mem_cons.mp h with h | h
    · subst h; exact Or.inr ⟨by decide, "java/lang/IllegalArgumentException", C.1.2.2.2.2 _ (fd_t1 149 rfl rfl), hN3.2.1⟩
    · rw [List.mem_singleton] at h; subst h; exact Or.inr ⟨by decide, "java/lang/IllegalStateException", C.1.2.2.2.2 _ (fd_t1 150 rfl rfl), hN3.2.2⟩) (by decide) (by decide) (C.1.2.2.2.2 _ (fd_t2 47 rfl rfl)) (la_cast hE (List.mem_of_getElem? (i := 8) rfl)) (fun q9 => ?_)
  refine fd_astore C dL_seat_21 (by decide) ?_
  refine fd_iconst C dL_seat_23 ?_
  exact fd_iret C hr hlk rfl rfl dL_seat_24
theorem iL_together : Cond.codeWith yL_together cL_together 4 (some .int) [(0, 9, 12, 13), (0, 9, 15, 15), (0, 9, 18, 28)] ∈ fd_T := fd_t2 190 rfl rfl
abbrev wL_together : List Cond := Cond.codeWith yL_together cL_together 4 (some .int) [(0, 9, 12, 13), (0, 9, 15, 15), (0, 9, 18, 28)] :: fd_T
set_option maxRecDepth 20000 in
theorem hL_together (l : Launch) (D : va_G) (cI cB cJ : ClassId) (L : Nat) (ad : Nat → Nat → Nat) (M P : fd_Mem) (o : Int) {rm : Room} {N : fd_Mem} {z : Int} (a : Int) (hrm : rm.cells = 0 ∧ rm.slots = 0 ∧ rm.frames ≤ 10 ∧ rm.locals ≤ 300) (hC : ds_Mi l D cI cB L ad yD_together wD_together rm [.ref (ad 0 0), .int (fd_I a)] M z (N)) : la_H l D cI cB cJ L ad yL_together wL_together [.ref (ad 0 0), .int (fd_I a), .ref (ad 10 0)] (la_M M P o) 0 (la_M N P z) 0 0 := by
  refine fd_enterH (by decide) rfl lo_nd (by simp [Value.category]) (Nat.le_of_ble_eq_true rfl) ?_
  intro A p e s m args below meth c C hr hlk htab hE hN3
  have C : fd_C p m c cL_together 4 s args fd_T "FareDeskLaw" D fd_cl (la_tys cI cB cJ) lo_wl A := C
  refine fd_pad 1 ?_
  refine fd_aload_n C dL_together_0 rfl ?_
  refine fd_iconst C dL_together_1 ?_
  refine fd_aload_n C dL_together_2 rfl ?_
  refine fd_iload_n C dL_together_3 rfl ?_
  refine fd_subVi C hE (la_subD cI cB cJ L ad) (fun k i h => (la_d M P o (ds_wl_lt h) i).symm) (la_backD M N P o) (C.2.1.sub (tys' := ds_tys cI cB) [0, 1] rfl) [.int (fd_I a)] (k := 0) (i := 0) hC (cwV 1 C.1.2.2.2.2 (gD_together fw2_191) rfl hrm.1 hrm.2.1 ⟨rfl, by decide, by decide, by decide +kernel⟩ ⟨by have := hrm.2.2.1; show rm.frames + 1 ≤ 11; omega, by have := hrm.2.2.2; show 8 + (4 + 11) + rm.locals ≤ 400; omega⟩) (ds_m (by decide)) rfl rfl rfl (Nat.le_of_ble_eq_true rfl) dL_together_4 ⟨Nat.le_refl _, Nat.le_refl _⟩ ?_
  refine fd_i2l C dL_together_7 ?_
  refine la_last C lo_10 (la_tJ cI cB cJ) dL_together_8 ?_
  refine fd_goto C (tgt := 21) dL_together_9 rfl ?_
  refine fd_iconst C dL_together_21 ?_
  exact fd_iret C hr hlk rfl rfl dL_together_22
set_option maxRecDepth 20000 in
theorem hL_together_I (l : Launch) (D : va_G) (cI cB cJ : ClassId) (L : Nat) (ad : Nat → Nat → Nat) (M P : fd_Mem) (o : Int) {rm : Room} (a : Int) (hrm : rm.cells = 1 ∧ rm.slots = 6 ∧ rm.frames ≤ 10 ∧ rm.locals ≤ 300) (hC : ds_MT l D cI cB L ad yD_together wD_together rm [.ref (ad 0 0), .int (fd_I a)] M "java/lang/IllegalArgumentException") : la_H l D cI cB cJ L ad yL_together wL_together [.ref (ad 0 0), .int (fd_I a), .ref (ad 10 0)] (la_M M P o) 1 (la_M M P o) 1 6 := by
  refine fd_enterH (by decide) rfl lo_nd (by simp [Value.category]) (Nat.le_of_ble_eq_true rfl) ?_
  intro A p e s m args below meth c C hr hlk htab hE hN3
  have C : fd_C p m c cL_together 4 s args fd_T "FareDeskLaw" D fd_cl (la_tys cI cB cJ) lo_wl A := C
  refine fd_pad 1 ?_
  refine fd_aload_n C dL_together_0 rfl ?_
  refine fd_iconst C dL_together_1 ?_
  refine fd_aload_n C dL_together_2 rfl ?_
  refine fd_iload_n C dL_together_3 rfl ?_
  refine fd_subVT C hE (la_subD cI cB cJ L ad) (fun k i h => (la_d M P o (ds_wl_lt h) i).symm) (C.2.1.sub (tys' := ds_tys cI cB) [0, 1] rfl) [.int (fd_I a)] (k := 0) (i := 0) (name := "java/lang/IllegalArgumentException") hC (cwV 1 C.1.2.2.2.2 (gD_together fw2_191) rfl hrm.1 hrm.2.1 ⟨rfl, by decide, by decide, by decide +kernel⟩ ⟨by have := hrm.2.2.1; show rm.frames + 1 ≤ 11; omega, by have := hrm.2.2.2; show 8 + (4 + 11) + rm.locals ≤ 400; omega⟩) (ds_m (by decide)) rfl rfl rfl (Nat.le_of_ble_eq_true rfl) dL_together_4 ⟨Nat.le_refl _, Nat.le_refl _⟩ [] ⟨0, 9, 12, 13⟩ [⟨0, 9, 15, 15⟩, ⟨0, 9, 18, 28⟩] htab (fun z h => nomatch h) (by decide) (by decide) (C.1.2.2.2.2 _ (fd_t1 149 rfl rfl)) (la_cast hE (List.mem_of_getElem? (i := 0) rfl)) (fun q9 => ?_)
  refine fd_astore_n C dL_together_12 (by decide) ?_
  refine fd_iconst C dL_together_13 ?_
  exact fd_iret C hr hlk rfl rfl dL_together_14
set_option maxRecDepth 20000 in
theorem hL_together_S (l : Launch) (D : va_G) (cI cB cJ : ClassId) (L : Nat) (ad : Nat → Nat → Nat) (M P : fd_Mem) (o : Int) {rm : Room} (a : Int) (hrm : rm.cells = 1 ∧ rm.slots = 6 ∧ rm.frames ≤ 10 ∧ rm.locals ≤ 300) (hC : ds_MT l D cI cB L ad yD_together wD_together rm [.ref (ad 0 0), .int (fd_I a)] M "java/lang/IllegalStateException") : la_H l D cI cB cJ L ad yL_together wL_together [.ref (ad 0 0), .int (fd_I a), .ref (ad 10 0)] (la_M M P o) 2 (la_M M P o) 1 6 := by
  refine fd_enterH (by decide) rfl lo_nd (by simp [Value.category]) (Nat.le_of_ble_eq_true rfl) ?_
  intro A p e s m args below meth c C hr hlk htab hE hN3
  have C : fd_C p m c cL_together 4 s args fd_T "FareDeskLaw" D fd_cl (la_tys cI cB cJ) lo_wl A := C
  refine fd_pad 1 ?_
  refine fd_aload_n C dL_together_0 rfl ?_
  refine fd_iconst C dL_together_1 ?_
  refine fd_aload_n C dL_together_2 rfl ?_
  refine fd_iload_n C dL_together_3 rfl ?_
  refine fd_subVT C hE (la_subD cI cB cJ L ad) (fun k i h => (la_d M P o (ds_wl_lt h) i).symm) (C.2.1.sub (tys' := ds_tys cI cB) [0, 1] rfl) [.int (fd_I a)] (k := 0) (i := 0) (name := "java/lang/IllegalStateException") hC (cwV 1 C.1.2.2.2.2 (gD_together fw2_191) rfl hrm.1 hrm.2.1 ⟨rfl, by decide, by decide, by decide +kernel⟩ ⟨by have := hrm.2.2.1; show rm.frames + 1 ≤ 11; omega, by have := hrm.2.2.2; show 8 + (4 + 11) + rm.locals ≤ 400; omega⟩) (ds_m (by decide)) rfl rfl rfl (Nat.le_of_ble_eq_true rfl) dL_together_4 ⟨Nat.le_refl _, Nat.le_refl _⟩ [⟨0, 9, 12, 13⟩] ⟨0, 9, 15, 15⟩ [⟨0, 9, 18, 28⟩] htab (fun z h => by rw [List.mem_singleton] at h; subst h; exact Or.inr ⟨by decide, "java/lang/IllegalArgumentException", C.1.2.2.2.2 _ (fd_t1 149 rfl rfl), hN3.1⟩) (by decide) (by decide) (C.1.2.2.2.2 _ (fd_t1 150 rfl rfl)) (la_cast hE (List.mem_of_getElem? (i := 7) rfl)) (fun q9 => ?_)
  refine fd_astore_n C dL_together_15 (by decide) ?_
  refine fd_iconst C dL_together_16 ?_
  exact fd_iret C hr hlk rfl rfl dL_together_17
set_option maxRecDepth 20000 in
theorem hL_together_U (l : Launch) (D : va_G) (cI cB cJ : ClassId) (L : Nat) (ad : Nat → Nat → Nat) (M P : fd_Mem) (o : Int) {rm : Room} (a : Int) (hrm : rm.cells = 1 ∧ rm.slots = 6 ∧ rm.frames ≤ 10 ∧ rm.locals ≤ 300) (hC : ds_MT l D cI cB L ad yD_together wD_together rm [.ref (ad 0 0), .int (fd_I a)] M "java/lang/UnsupportedOperationException") : la_H l D cI cB cJ L ad yL_together wL_together [.ref (ad 0 0), .int (fd_I a), .ref (ad 10 0)] (la_M M P o) 3 (la_M M P o) 1 6 := by
  refine fd_enterH (by decide) rfl lo_nd (by simp [Value.category]) (Nat.le_of_ble_eq_true rfl) ?_
  intro A p e s m args below meth c C hr hlk htab hE hN3
  have C : fd_C p m c cL_together 4 s args fd_T "FareDeskLaw" D fd_cl (la_tys cI cB cJ) lo_wl A := C
  refine fd_pad 1 ?_
  refine fd_aload_n C dL_together_0 rfl ?_
  refine fd_iconst C dL_together_1 ?_
  refine fd_aload_n C dL_together_2 rfl ?_
  refine fd_iload_n C dL_together_3 rfl ?_
  refine fd_subVT C hE (la_subD cI cB cJ L ad) (fun k i h => (la_d M P o (ds_wl_lt h) i).symm) (C.2.1.sub (tys' := ds_tys cI cB) [0, 1] rfl) [.int (fd_I a)] (k := 0) (i := 0) (name := "java/lang/UnsupportedOperationException") hC (cwV 1 C.1.2.2.2.2 (gD_together fw2_191) rfl hrm.1 hrm.2.1 ⟨rfl, by decide, by decide, by decide +kernel⟩ ⟨by have := hrm.2.2.1; show rm.frames + 1 ≤ 11; omega, by have := hrm.2.2.2; show 8 + (4 + 11) + rm.locals ≤ 400; omega⟩) (ds_m (by decide)) rfl rfl rfl (Nat.le_of_ble_eq_true rfl) dL_together_4 ⟨Nat.le_refl _, Nat.le_refl _⟩ [⟨0, 9, 12, 13⟩, ⟨0, 9, 15, 15⟩] ⟨0, 9, 18, 28⟩ [] htab (fun z h => by
    rcases List.mem_cons.mp h with h | h
    · subst h; exact Or.inr ⟨by decide, "java/lang/IllegalArgumentException", C.1.2.2.2.2 _ (fd_t1 149 rfl rfl), hN3.2.1⟩
    · rw [List.mem_singleton] at h; subst h; exact Or.inr ⟨by decide, "java/lang/IllegalStateException", C.1.2.2.2.2 _ (fd_t1 150 rfl rfl), hN3.2.2⟩) (by decide) (by decide) (C.1.2.2.2.2 _ (fd_t2 47 rfl rfl)) (la_cast hE (List.mem_of_getElem? (i := 8) rfl)) (fun q9 => ?_)
  refine fd_astore_n C dL_together_18 (by decide) ?_
  refine fd_iconst C dL_together_19 ?_
  exact fd_iret C hr hlk rfl rfl dL_together_20
theorem iL_tick : Cond.codeWith yL_tick cL_tick 3 (some .int) [(0, 5, 8, 13)] ∈ fd_T := fd_t2 217 rfl rfl
abbrev wL_tick : List Cond := Cond.codeWith yL_tick cL_tick 3 (some .int) [(0, 5, 8, 13)] :: fd_T
set_option maxRecDepth 20000 in
theorem hL_tick (l : Launch) (D : va_G) (cI cB cJ : ClassId) (L : Nat) (ad : Nat → Nat → Nat) (M P : fd_Mem) (o : Int) {rm : Room} {N : fd_Mem} (a : Int) (hrm : rm.cells = 0 ∧ rm.slots = 0 ∧ rm.frames ≤ 10 ∧ rm.locals ≤ 300) (hC : ds_Mv l D cI cB L ad yD_tick wD_tick rm [.ref (ad 0 0), .int (fd_I a)] M (N)) : la_H l D cI cB cJ L ad yL_tick wL_tick [.ref (ad 0 0), .int (fd_I a)] (la_M M P o) 0 (la_M N P o) 0 0 := by
  refine fd_enterH (by decide) rfl lo_nd (by simp [Value.category]) (Nat.le_of_ble_eq_true rfl) ?_
  intro A p e s m args below meth c C hr hlk htab hE hN3
  have C : fd_C p m c cL_tick 3 s args fd_T "FareDeskLaw" D fd_cl (la_tys cI cB cJ) lo_wl A := C
  refine fd_pad 1 ?_
  refine fd_aload_n C dL_tick_0 rfl ?_
  refine fd_iload_n C dL_tick_1 rfl ?_
  refine fd_subVv C hE (la_subD cI cB cJ L ad) (fun k i h => (la_d M P o (ds_wl_lt h) i).symm) (la_backD M N P o) (C.2.1.sub (tys' := ds_tys cI cB) [0, 1] rfl) [.int (fd_I a)] (k := 0) (i := 0) hC (cwV 1 C.1.2.2.2.2 (gD_tick fw2_218) rfl hrm.1 hrm.2.1 ⟨rfl, by decide, by decide, by decide +kernel⟩ ⟨by have := hrm.2.2.1; show rm.frames + 1 ≤ 11; omega, by have := hrm.2.2.2; show 8 + (3 + 11) + rm.locals ≤ 400; omega⟩) (ds_m (by decide)) rfl rfl rfl (Nat.le_of_ble_eq_true rfl) dL_tick_2 ⟨Nat.le_refl _, Nat.le_refl _⟩ ?_
  refine fd_goto C (tgt := 11) dL_tick_5 rfl ?_
  refine fd_iconst C dL_tick_11 ?_
  exact fd_iret C hr hlk rfl rfl dL_tick_12
set_option maxRecDepth 20000 in
theorem hL_tick_I (l : Launch) (D : va_G) (cI cB cJ : ClassId) (L : Nat) (ad : Nat → Nat → Nat) (M P : fd_Mem) (o : Int) {rm : Room} (a : Int) (hrm : rm.cells = 1 ∧ rm.slots = 6 ∧ rm.frames ≤ 10 ∧ rm.locals ≤ 300) (hC : ds_MT l D cI cB L ad yD_tick wD_tick rm [.ref (ad 0 0), .int (fd_I a)] M "java/lang/IllegalArgumentException") : la_H l D cI cB cJ L ad yL_tick wL_tick [.ref (ad 0 0), .int (fd_I a)] (la_M M P o) 1 (la_M M P o) 1 6 := by
  refine fd_enterH (by decide) rfl lo_nd (by simp [Value.category]) (Nat.le_of_ble_eq_true rfl) ?_
  intro A p e s m args below meth c C hr hlk htab hE hN3
  have C : fd_C p m c cL_tick 3 s args fd_T "FareDeskLaw" D fd_cl (la_tys cI cB cJ) lo_wl A := C
  refine fd_pad 1 ?_
  refine fd_aload_n C dL_tick_0 rfl ?_
  refine fd_iload_n C dL_tick_1 rfl ?_
  refine fd_subVT C hE (la_subD cI cB cJ L ad) (fun k i h => (la_d M P o (ds_wl_lt h) i).symm) (C.2.1.sub (tys' := ds_tys cI cB) [0, 1] rfl) [.int (fd_I a)] (k := 0) (i := 0) (name := "java/lang/IllegalArgumentException") hC (cwV 1 C.1.2.2.2.2 (gD_tick fw2_218) rfl hrm.1 hrm.2.1 ⟨rfl, by decide, by decide, by decide +kernel⟩ ⟨by have := hrm.2.2.1; show rm.frames + 1 ≤ 11; omega, by have := hrm.2.2.2; show 8 + (3 + 11) + rm.locals ≤ 400; omega⟩) (ds_m (by decide)) rfl rfl rfl (Nat.le_of_ble_eq_true rfl) dL_tick_2 ⟨Nat.le_refl _, Nat.le_refl _⟩ [] ⟨0, 5, 8, 13⟩ [] htab (fun z h => nomatch h) (by decide) (by decide) (C.1.2.2.2.2 _ (fd_t1 149 rfl rfl)) (la_cast hE (List.mem_of_getElem? (i := 0) rfl)) (fun q9 => ?_)
  refine fd_astore_n C dL_tick_8 (by decide) ?_
  refine fd_iconst C dL_tick_9 ?_
  exact fd_iret C hr hlk rfl rfl dL_tick_10
theorem iL_close : Cond.codeWith yL_close cL_close 3 (some .int) [(0, 8, 11, 15)] ∈ fd_T := fd_t2 229 rfl rfl
abbrev wL_close : List Cond := Cond.codeWith yL_close cL_close 3 (some .int) [(0, 8, 11, 15)] :: fd_T
set_option maxRecDepth 20000 in
theorem hL_close (l : Launch) (D : va_G) (cI cB cJ : ClassId) (L : Nat) (ad : Nat → Nat → Nat) (M P : fd_Mem) (o : Int) {rm : Room} {N : fd_Mem} {z : Int} (hrm : rm.cells = 0 ∧ rm.slots = 0 ∧ rm.frames ≤ 10 ∧ rm.locals ≤ 300) (hC : ds_Mi l D cI cB L ad yD_close wD_close rm [.ref (ad 0 0)] M z (N)) : la_H l D cI cB cJ L ad yL_close wL_close [.ref (ad 0 0), .ref (ad 10 0)] (la_M M P o) 0 (la_M N P z) 0 0 := by
  refine fd_enterH (by decide) rfl lo_nd (by simp [Value.category]) (Nat.le_of_ble_eq_true rfl) ?_
  intro A p e s m args below meth c C hr hlk htab hE hN3
  have C : fd_C p m c cL_close 3 s args fd_T "FareDeskLaw" D fd_cl (la_tys cI cB cJ) lo_wl A := C
  refine fd_pad 1 ?_
  refine fd_aload_n C dL_close_0 rfl ?_
  refine fd_iconst C dL_close_1 ?_
  refine fd_aload_n C dL_close_2 rfl ?_
  refine fd_subVi C hE (la_subD cI cB cJ L ad) (fun k i h => (la_d M P o (ds_wl_lt h) i).symm) (la_backD M N P o) (C.2.1.sub (tys' := ds_tys cI cB) [0, 1] rfl) [] (k := 0) (i := 0) hC (cwV 0 C.1.2.2.2.2 (gD_close fw2_230) rfl hrm.1 hrm.2.1 ⟨rfl, by decide, by decide, by decide +kernel⟩ ⟨by have := hrm.2.2.1; show rm.frames + 1 ≤ 11; omega, by have := hrm.2.2.2; show 8 + (3 + 11) + rm.locals ≤ 400; omega⟩) (ds_m (by decide)) rfl rfl rfl (Nat.le_of_ble_eq_true rfl) dL_close_3 ⟨Nat.le_refl _, Nat.le_refl _⟩ ?_
  refine fd_i2l C dL_close_6 ?_
  refine la_last C lo_10 (la_tJ cI cB cJ) dL_close_7 ?_
  refine fd_goto C (tgt := 14) dL_close_8 rfl ?_
  refine fd_iconst C dL_close_14 ?_
  exact fd_iret C hr hlk rfl rfl dL_close_15
set_option maxRecDepth 20000 in
theorem hL_close_S (l : Launch) (D : va_G) (cI cB cJ : ClassId) (L : Nat) (ad : Nat → Nat → Nat) (M P : fd_Mem) (o : Int) {rm : Room} (hrm : rm.cells = 1 ∧ rm.slots = 6 ∧ rm.frames ≤ 10 ∧ rm.locals ≤ 300) (hC : ds_MT l D cI cB L ad yD_close wD_close rm [.ref (ad 0 0)] M "java/lang/IllegalStateException") : la_H l D cI cB cJ L ad yL_close wL_close [.ref (ad 0 0), .ref (ad 10 0)] (la_M M P o) 1 (la_M M P o) 1 6 := by
  refine fd_enterH (by decide) rfl lo_nd (by simp [Value.category]) (Nat.le_of_ble_eq_true rfl) ?_
  intro A p e s m args below meth c C hr hlk htab hE hN3
  have C : fd_C p m c cL_close 3 s args fd_T "FareDeskLaw" D fd_cl (la_tys cI cB cJ) lo_wl A := C
  refine fd_pad 1 ?_
  refine fd_aload_n C dL_close_0 rfl ?_
  refine fd_iconst C dL_close_1 ?_
  refine fd_aload_n C dL_close_2 rfl ?_
  refine fd_subVT C hE (la_subD cI cB cJ L ad) (fun k i h => (la_d M P o (ds_wl_lt h) i).symm) (C.2.1.sub (tys' := ds_tys cI cB) [0, 1] rfl) [] (k := 0) (i := 0) (name := "java/lang/IllegalStateException") hC (cwV 0 C.1.2.2.2.2 (gD_close fw2_230) rfl hrm.1 hrm.2.1 ⟨rfl, by decide, by decide, by decide +kernel⟩ ⟨by have := hrm.2.2.1; show rm.frames + 1 ≤ 11; omega, by have := hrm.2.2.2; show 8 + (3 + 11) + rm.locals ≤ 400; omega⟩) (ds_m (by decide)) rfl rfl rfl (Nat.le_of_ble_eq_true rfl) dL_close_3 ⟨Nat.le_refl _, Nat.le_refl _⟩ [] ⟨0, 8, 11, 15⟩ [] htab (fun z h => nomatch h) (by decide) (by decide) (C.1.2.2.2.2 _ (fd_t1 150 rfl rfl)) (la_cast hE (List.mem_of_getElem? (i := 7) rfl)) (fun q9 => ?_)
  refine fd_astore_n C dL_close_11 (by decide) ?_
  refine fd_iconst C dL_close_12 ?_
  exact fd_iret C hr hlk rfl rfl dL_close_13
theorem iL_of : Cond.codeWith yL_of cL_of 5 (some .int) [(0, 10, 13, 13)] ∈ fd_T := fd_t3 12 rfl rfl
abbrev wL_of : List Cond := Cond.codeWith yL_of cL_of 5 (some .int) [(0, 10, 13, 13)] :: fd_T
set_option maxRecDepth 20000 in
theorem hL_of (l : Launch) (D : va_G) (cI cB cJ : ClassId) (L : Nat) (ad : Nat → Nat → Nat) (M P : fd_Mem) (o : Int) {rm : Room} {N : fd_Mem} {z : Int} (a : Int) (b : Int) (hrm : rm.cells = 0 ∧ rm.slots = 0 ∧ rm.frames ≤ 10 ∧ rm.locals ≤ 300) (hC : ds_Mi l D cI cB L ad yD_of wD_of rm [.ref (ad 0 0), .int (fd_I a), .int (fd_I b)] M z (N)) : la_H l D cI cB cJ L ad yL_of wL_of [.ref (ad 0 0), .int (fd_I a), .int (fd_I b), .ref (ad 10 0)] (la_M M P o) 0 (la_M N P z) 0 0 := by
  refine fd_enterH (by decide) rfl lo_nd (by simp [Value.category]) (Nat.le_of_ble_eq_true rfl) ?_
  intro A p e s m args below meth c C hr hlk htab hE hN3
  have C : fd_C p m c cL_of 5 s args fd_T "FareDeskLaw" D fd_cl (la_tys cI cB cJ) lo_wl A := C
  refine fd_pad 1 ?_
  refine fd_aload_n C dL_of_0 rfl ?_
  refine fd_iconst C dL_of_1 ?_
  refine fd_aload_n C dL_of_2 rfl ?_
  refine fd_iload_n C dL_of_3 rfl ?_
  refine fd_iload_n C dL_of_4 rfl ?_
  refine fd_subVi C hE (la_subD cI cB cJ L ad) (fun k i h => (la_d M P o (ds_wl_lt h) i).symm) (la_backD M N P o) (C.2.1.sub (tys' := ds_tys cI cB) [0, 1] rfl) [.int (fd_I a), .int (fd_I b)] (k := 0) (i := 0) hC (cwV 2 C.1.2.2.2.2 (gD_of fw3_13) rfl hrm.1 hrm.2.1 ⟨rfl, by decide, by decide, by decide +kernel⟩ ⟨by have := hrm.2.2.1; show rm.frames + 1 ≤ 11; omega, by have := hrm.2.2.2; show 8 + (4 + 11) + rm.locals ≤ 400; omega⟩) (ds_m (by decide)) rfl rfl rfl (Nat.le_of_ble_eq_true rfl) dL_of_5 ⟨Nat.le_refl _, Nat.le_refl _⟩ ?_
  refine fd_i2l C dL_of_8 ?_
  refine la_last C lo_10 (la_tJ cI cB cJ) dL_of_9 ?_
  refine fd_goto C (tgt := 17) dL_of_10 rfl ?_
  refine fd_iconst C dL_of_17 ?_
  exact fd_iret C hr hlk rfl rfl dL_of_18
set_option maxRecDepth 20000 in
theorem hL_of_I (l : Launch) (D : va_G) (cI cB cJ : ClassId) (L : Nat) (ad : Nat → Nat → Nat) (M P : fd_Mem) (o : Int) {rm : Room} (a : Int) (b : Int) (hrm : rm.cells = 1 ∧ rm.slots = 6 ∧ rm.frames ≤ 10 ∧ rm.locals ≤ 300) (hC : ds_MT l D cI cB L ad yD_of wD_of rm [.ref (ad 0 0), .int (fd_I a), .int (fd_I b)] M "java/lang/IllegalArgumentException") : la_H l D cI cB cJ L ad yL_of wL_of [.ref (ad 0 0), .int (fd_I a), .int (fd_I b), .ref (ad 10 0)] (la_M M P o) 1 (la_M M P o) 1 6 := by
  refine fd_enterH (by decide) rfl lo_nd (by simp [Value.category]) (Nat.le_of_ble_eq_true rfl) ?_
  intro A p e s m args below meth c C hr hlk htab hE hN3
  have C : fd_C p m c cL_of 5 s args fd_T "FareDeskLaw" D fd_cl (la_tys cI cB cJ) lo_wl A := C
  refine fd_pad 1 ?_
  refine fd_aload_n C dL_of_0 rfl ?_
  refine fd_iconst C dL_of_1 ?_
  refine fd_aload_n C dL_of_2 rfl ?_
  refine fd_iload_n C dL_of_3 rfl ?_
  refine fd_iload_n C dL_of_4 rfl ?_
  refine fd_subVT C hE (la_subD cI cB cJ L ad) (fun k i h => (la_d M P o (ds_wl_lt h) i).symm) (C.2.1.sub (tys' := ds_tys cI cB) [0, 1] rfl) [.int (fd_I a), .int (fd_I b)] (k := 0) (i := 0) (name := "java/lang/IllegalArgumentException") hC (cwV 2 C.1.2.2.2.2 (gD_of fw3_13) rfl hrm.1 hrm.2.1 ⟨rfl, by decide, by decide, by decide +kernel⟩ ⟨by have := hrm.2.2.1; show rm.frames + 1 ≤ 11; omega, by have := hrm.2.2.2; show 8 + (4 + 11) + rm.locals ≤ 400; omega⟩) (ds_m (by decide)) rfl rfl rfl (Nat.le_of_ble_eq_true rfl) dL_of_5 ⟨Nat.le_refl _, Nat.le_refl _⟩ [] ⟨0, 10, 13, 13⟩ [] htab (fun z h => nomatch h) (by decide) (by decide) (C.1.2.2.2.2 _ (fd_t1 149 rfl rfl)) (la_cast hE (List.mem_of_getElem? (i := 0) rfl)) (fun q9 => ?_)
  refine fd_astore C dL_of_13 (by decide) ?_
  refine fd_iconst C dL_of_15 ?_
  exact fd_iret C hr hlk rfl rfl dL_of_16
theorem iL_count : Cond.codeWith yL_count cL_count 4 (some .int) [(0, 9, 12, 13)] ∈ fd_T := fd_t3 20 rfl rfl
abbrev wL_count : List Cond := Cond.codeWith yL_count cL_count 4 (some .int) [(0, 9, 12, 13)] :: fd_T
set_option maxRecDepth 20000 in
theorem hL_count (l : Launch) (D : va_G) (cI cB cJ : ClassId) (L : Nat) (ad : Nat → Nat → Nat) (M P : fd_Mem) (o : Int) {rm : Room} {N : fd_Mem} {z : Int} (a : Int) (hrm : rm.cells = 0 ∧ rm.slots = 0 ∧ rm.frames ≤ 10 ∧ rm.locals ≤ 300) (hC : ds_Mi l D cI cB L ad yD_count wD_count rm [.ref (ad 0 0), .int (fd_I a)] M z (N)) : la_H l D cI cB cJ L ad yL_count wL_count [.ref (ad 0 0), .int (fd_I a), .ref (ad 10 0)] (la_M M P o) 0 (la_M N P z) 0 0 := by
  refine fd_enterH (by decide) rfl lo_nd (by simp [Value.category]) (Nat.le_of_ble_eq_true rfl) ?_
  intro A p e s m args below meth c C hr hlk htab hE hN3
  have C : fd_C p m c cL_count 4 s args fd_T "FareDeskLaw" D fd_cl (la_tys cI cB cJ) lo_wl A := C
  refine fd_pad 1 ?_
  refine fd_aload_n C dL_count_0 rfl ?_
  refine fd_iconst C dL_count_1 ?_
  refine fd_aload_n C dL_count_2 rfl ?_
  refine fd_iload_n C dL_count_3 rfl ?_
  refine fd_subVi C hE (la_subD cI cB cJ L ad) (fun k i h => (la_d M P o (ds_wl_lt h) i).symm) (la_backD M N P o) (C.2.1.sub (tys' := ds_tys cI cB) [0, 1] rfl) [.int (fd_I a)] (k := 0) (i := 0) hC (cwV 1 C.1.2.2.2.2 (gD_count fw3_21) rfl hrm.1 hrm.2.1 ⟨rfl, by decide, by decide, by decide +kernel⟩ ⟨by have := hrm.2.2.1; show rm.frames + 1 ≤ 11; omega, by have := hrm.2.2.2; show 8 + (2 + 11) + rm.locals ≤ 400; omega⟩) (ds_m (by decide)) rfl rfl rfl (Nat.le_of_ble_eq_true rfl) dL_count_4 ⟨Nat.le_refl _, Nat.le_refl _⟩ ?_
  refine fd_i2l C dL_count_7 ?_
  refine la_last C lo_10 (la_tJ cI cB cJ) dL_count_8 ?_
  refine fd_goto C (tgt := 15) dL_count_9 rfl ?_
  refine fd_iconst C dL_count_15 ?_
  exact fd_iret C hr hlk rfl rfl dL_count_16
set_option maxRecDepth 20000 in
theorem hL_count_I (l : Launch) (D : va_G) (cI cB cJ : ClassId) (L : Nat) (ad : Nat → Nat → Nat) (M P : fd_Mem) (o : Int) {rm : Room} (a : Int) (hrm : rm.cells = 1 ∧ rm.slots = 6 ∧ rm.frames ≤ 10 ∧ rm.locals ≤ 300) (hC : ds_MT l D cI cB L ad yD_count wD_count rm [.ref (ad 0 0), .int (fd_I a)] M "java/lang/IllegalArgumentException") : la_H l D cI cB cJ L ad yL_count wL_count [.ref (ad 0 0), .int (fd_I a), .ref (ad 10 0)] (la_M M P o) 1 (la_M M P o) 1 6 := by
  refine fd_enterH (by decide) rfl lo_nd (by simp [Value.category]) (Nat.le_of_ble_eq_true rfl) ?_
  intro A p e s m args below meth c C hr hlk htab hE hN3
  have C : fd_C p m c cL_count 4 s args fd_T "FareDeskLaw" D fd_cl (la_tys cI cB cJ) lo_wl A := C
  refine fd_pad 1 ?_
  refine fd_aload_n C dL_count_0 rfl ?_
  refine fd_iconst C dL_count_1 ?_
  refine fd_aload_n C dL_count_2 rfl ?_
  refine fd_iload_n C dL_count_3 rfl ?_
  refine fd_subVT C hE (la_subD cI cB cJ L ad) (fun k i h => (la_d M P o (ds_wl_lt h) i).symm) (C.2.1.sub (tys' := ds_tys cI cB) [0, 1] rfl) [.int (fd_I a)] (k := 0) (i := 0) (name := "java/lang/IllegalArgumentException") hC (cwV 1 C.1.2.2.2.2 (gD_count fw3_21) rfl hrm.1 hrm.2.1 ⟨rfl, by decide, by decide, by decide +kernel⟩ ⟨by have := hrm.2.2.1; show rm.frames + 1 ≤ 11; omega, by have := hrm.2.2.2; show 8 + (2 + 11) + rm.locals ≤ 400; omega⟩) (ds_m (by decide)) rfl rfl rfl (Nat.le_of_ble_eq_true rfl) dL_count_4 ⟨Nat.le_refl _, Nat.le_refl _⟩ [] ⟨0, 9, 12, 13⟩ [] htab (fun z h => nomatch h) (by decide) (by decide) (C.1.2.2.2.2 _ (fd_t1 149 rfl rfl)) (la_cast hE (List.mem_of_getElem? (i := 0) rfl)) (fun q9 => ?_)
  refine fd_astore_n C dL_count_12 (by decide) ?_
  refine fd_iconst C dL_count_13 ?_
  exact fd_iret C hr hlk rfl rfl dL_count_14
