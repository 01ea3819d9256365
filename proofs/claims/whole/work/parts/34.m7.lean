/-! the model: its methods, last part -/
set_option maxRecDepth 20000 in
theorem mM_isRun_3 (l : Launch) (D : va_G) (cI : ClassId) (ad : Nat → Nat → Nat) (M : fd_Mem) (a w : Nat) (ha : (a : Int) < M 0 0 1) (hw : 1 ≤ w ∧ w ≤ 6) (hm : 0 ≤ M 0 0 1 ∧ M 0 0 1 ≤ 60) (h11 : ∀ sq, sq < 60 → 0 ≤ M 11 0 sq ∧ M 11 0 sq ≤ 60) : mo_Mi l D cI ad yM_isRun wM_isRun ({ frames := 0, cells := 0, slots := 0, locals := 0 }) [.ref (ad 0 0), .int (fd_I ((a : Nat) : Int)), .int (fd_I ((w : Nat) : Int)), .int (fd_I (1))] M (mo_ir M 3 w a) (M) := by
  refine fd_enterI (by decide) rfl mo_nd (by simp [Value.category]) (Nat.le_of_ble_eq_true rfl) ?_
  intro A p e s m args below meth c C hr hlk hE
  have C : fd_C p m c cM_isRun 8 s args fd_T "FareDeskModel" D fd_cl (mo_tys cI) mo_wl A := C
  refine fd_pad 4 ?_
  refine fd_iload_n C dM_isRun_0 rfl ?_
  refine fd_iload_n C dM_isRun_1 rfl ?_
  refine fd_iadd C dM_isRun_2 ?_
  refine fd_iconst C dM_isRun_3 ?_
  refine fd_isub C dM_isRun_4 ?_
  refine fd_istore C dM_isRun_5 (by decide) ?_
  refine fd_iload_n C dM_isRun_7 rfl ?_
  refine fd_if_eq C (tgt := 15) dM_isRun_8 rfl ⟨by omega, by omega⟩ (fun h8t => ?_) (fun h8f => ?_)
  · exfalso; omega
  refine fd_iconst C dM_isRun_11 ?_
  refine fd_goto C (tgt := 17) dM_isRun_12 rfl ?_
  refine fd_istore C dM_isRun_17 (by decide) ?_
  refine fd_iload C dM_isRun_19 rfl ?_
  refine fd_aload_n C dM_isRun_21 rfl ?_
  refine fd_get C (k := 0) (i := 0) (j := 1) (v := .int (fd_I (M 0 0 1))) (mo_m (by decide)) rfl rfl (by decide) wsM fw3_38 rfl dM_isRun_22 ?_
  refine fd_icmp_ge C (tgt := 44) dM_isRun_25 rfl ⟨by omega, by omega⟩ ⟨by omega, by omega⟩ (fun h25t => ?_) (fun h25f => ?_)
  · skip
    refine fd_iconst C dM_isRun_44 ?_
    refine fd_istore C dM_isRun_45 (by decide) ?_
    refine fd_iload_n C dM_isRun_47 rfl ?_
    refine fd_istore C dM_isRun_48 (by decide) ?_
    have hloop50 : ∀ (dd50 : Nat) (sq : Nat) (rr : Int), dd50 = a + w - sq → (rr = 0 ∨ rr = 1) → (a ≤ sq) → (sq ≤ a + w) → (rr = 1 → ((a + w : Nat) : Int) ≤ M 0 0 1) → ((if rr = 1 then mo_fa M (a + w - sq) sq else 0) = mo_ir M 3 w a) → fd_J p l e ({ frames := 0, cells := 0, slots := 0, locals := 0 }) s m args below meth c D fd_cl A ad (mo_en cI ad) mo_wl 8 0 0 (MQ below (fd_QI D fd_cl (mo_tys cI) ad (mo_en cI ad) mo_wl A (mo_ir M 3 w a) (M)) args s 0 0 A) M 50 [some (.ref (ad 0 0)), some (.int (fd_I ((a : Nat) : Int))), some (.int (fd_I ((w : Nat) : Int))), some (.int (fd_I (1))), some (.int (fd_I ((((a + w : Nat) : Int)) - 1))), some (.int (fd_I (3))), some (.int (fd_I (rr))), some (.int (fd_I ((sq : Nat) : Int)))] [] := by
      intro dd50
      induction dd50 using Nat.strongRecOn with
      | ind dd50 ih50 =>
        intro sq rr hdd50 h01 hs1 hs2 hlt hN
        refine fd_iload C dM_isRun_50 rfl ?_
        refine fd_iload C dM_isRun_52 rfl ?_
        refine fd_icmp_gt C (tgt := 85) dM_isRun_54 rfl ⟨by omega, by omega⟩ ⟨by omega, by omega⟩ (fun h54t => ?_) (fun h54f => ?_)
        · skip
          refine fd_iload C dM_isRun_85 rfl ?_
          have e9 := mo_ir_01 M 3 w a
          exact fd_zret C hr hlk (by
            rw [← hN]
            rcases h01 with h0 | h0
            · rw [if_neg (by omega)]; exact h0
            · rw [if_pos h0, show a + w - sq = 0 by omega]; exact h0) (by omega) rfl dM_isRun_87
        · skip
          refine fd_iload C dM_isRun_57 rfl ?_
          refine fd_if_eq C (tgt := 85) dM_isRun_59 rfl ⟨by omega, by omega⟩ (fun h59t => ?_) (fun h59f => ?_)
          · skip
            refine fd_iload C dM_isRun_85 rfl ?_
            have e9 := mo_ir_01 M 3 w a
            exact fd_zret C hr hlk (by
            rw [← hN]
            rcases h01 with h0 | h0
            · rw [if_neg (by omega)]; exact h0
            · rw [if_pos h0, show a + w - sq = 0 by omega]; exact h0) (by omega) rfl dM_isRun_87
          · skip
            have e1 := hlt (by omega)
            have e2 := h11 sq (by omega)
            refine fd_aload_n C dM_isRun_62 rfl ?_
            refine fd_get C (k := 0) (i := 0) (j := 16) (v := .ref (ad 11 0)) (mo_m (by decide)) rfl rfl (by decide) wsM fw3_53 rfl dM_isRun_63 ?_
            refine fd_iload C dM_isRun_66 rfl ?_
            refine fd_iald C (k := 11) (i := 0) (x := sq) (v := M 11 0 sq) (mo_m (by decide)) (fun _ => rfl) (mo_tI cI) rfl (by omega) (by decide) rfl dM_isRun_68 ?_
            refine fd_if_ne C (tgt := 76) dM_isRun_69 rfl ⟨by omega, by omega⟩ (fun h69t => ?_) (fun h69f => ?_)
            · skip
              refine fd_iconst C dM_isRun_76 ?_
              refine fd_istore C dM_isRun_77 (by decide) ?_
              refine fd_iinc C dM_isRun_79 rfl (by decide) ?_
              refine fd_goto C (tgt := 50) dM_isRun_82 rfl ?_
              rw [if_pos (by omega), show a + w - sq = (a + w - (sq + 1)) + 1 by omega, mo_fa_s] at hN
              rw [if_neg (by omega)] at hN
              exact ih50 (a + w - (sq + 1)) (by omega) (sq + 1) 0 rfl (Or.inl rfl) (by omega) (by omega) (fun q => absurd q (by decide)) (by rw [if_neg (by decide)]; exact hN)
            · skip
              refine fd_iconst C dM_isRun_72 ?_
              refine fd_goto C (tgt := 77) dM_isRun_73 rfl ?_
              refine fd_istore C dM_isRun_77 (by decide) ?_
              refine fd_iinc C dM_isRun_79 rfl (by decide) ?_
              refine fd_goto C (tgt := 50) dM_isRun_82 rfl ?_
              rw [if_pos (by omega), show a + w - sq = (a + w - (sq + 1)) + 1 by omega, mo_fa_s] at hN
              rw [if_pos (by omega)] at hN
              exact ih50 (a + w - (sq + 1)) (by omega) (sq + 1) 1 rfl (Or.inr rfl) (by omega) (by omega) (fun _ => hlt (by omega)) (by rw [if_pos rfl]; exact hN)
    exact hloop50 _ a 0 rfl (Or.inl rfl) (by omega) (by omega) (fun q => absurd q (by decide)) (by rw [if_neg (by decide)]; unfold mo_ir; rw [if_neg (by omega)])
  · skip
    refine fd_iload_n C dM_isRun_28 rfl ?_
    refine fd_iload C dM_isRun_29 rfl ?_
    refine fd_idiv C dM_isRun_31 ⟨by omega, by omega⟩ ⟨by omega, by omega⟩ (by omega) (by omega) ?_
    refine fd_iload C dM_isRun_32 rfl ?_
    refine fd_iload C dM_isRun_34 rfl ?_
    refine fd_idiv C dM_isRun_36 ⟨by omega, by omega⟩ ⟨by omega, by omega⟩ (by omega) (by omega) ?_
    refine fd_icmp_ne C (tgt := 44) dM_isRun_37 rfl ⟨by omega, by omega⟩ ⟨by omega, by omega⟩ (fun h37t => ?_) (fun h37f => ?_)
    · skip
      refine fd_iconst C dM_isRun_44 ?_
      refine fd_istore C dM_isRun_45 (by decide) ?_
      refine fd_iload_n C dM_isRun_47 rfl ?_
      refine fd_istore C dM_isRun_48 (by decide) ?_
      have hloop50 : ∀ (dd50 : Nat) (sq : Nat) (rr : Int), dd50 = a + w - sq → (rr = 0 ∨ rr = 1) → (a ≤ sq) → (sq ≤ a + w) → (rr = 1 → ((a + w : Nat) : Int) ≤ M 0 0 1) → ((if rr = 1 then mo_fa M (a + w - sq) sq else 0) = mo_ir M 3 w a) → fd_J p l e ({ frames := 0, cells := 0, slots := 0, locals := 0 }) s m args below meth c D fd_cl A ad (mo_en cI ad) mo_wl 8 0 0 (MQ below (fd_QI D fd_cl (mo_tys cI) ad (mo_en cI ad) mo_wl A (mo_ir M 3 w a) (M)) args s 0 0 A) M 50 [some (.ref (ad 0 0)), some (.int (fd_I ((a : Nat) : Int))), some (.int (fd_I ((w : Nat) : Int))), some (.int (fd_I (1))), some (.int (fd_I ((((a + w : Nat) : Int)) - 1))), some (.int (fd_I (3))), some (.int (fd_I (rr))), some (.int (fd_I ((sq : Nat) : Int)))] [] := by
        intro dd50
        induction dd50 using Nat.strongRecOn with
        | ind dd50 ih50 =>
          intro sq rr hdd50 h01 hs1 hs2 hlt hN
          refine fd_iload C dM_isRun_50 rfl ?_
          refine fd_iload C dM_isRun_52 rfl ?_
          refine fd_icmp_gt C (tgt := 85) dM_isRun_54 rfl ⟨by omega, by omega⟩ ⟨by omega, by omega⟩ (fun h54t => ?_) (fun h54f => ?_)
          · skip
            refine fd_iload C dM_isRun_85 rfl ?_
            have e9 := mo_ir_01 M 3 w a
            exact fd_zret C hr hlk (by
            rw [← hN]
            rcases h01 with h0 | h0
            · rw [if_neg (by omega)]; exact h0
            · rw [if_pos h0, show a + w - sq = 0 by omega]; exact h0) (by omega) rfl dM_isRun_87
          · skip
            refine fd_iload C dM_isRun_57 rfl ?_
            refine fd_if_eq C (tgt := 85) dM_isRun_59 rfl ⟨by omega, by omega⟩ (fun h59t => ?_) (fun h59f => ?_)
            · skip
              refine fd_iload C dM_isRun_85 rfl ?_
              have e9 := mo_ir_01 M 3 w a
              exact fd_zret C hr hlk (by
            rw [← hN]
            rcases h01 with h0 | h0
            · rw [if_neg (by omega)]; exact h0
            · rw [if_pos h0, show a + w - sq = 0 by omega]; exact h0) (by omega) rfl dM_isRun_87
            · skip
              have e1 := hlt (by omega)
              have e2 := h11 sq (by omega)
              refine fd_aload_n C dM_isRun_62 rfl ?_
              refine fd_get C (k := 0) (i := 0) (j := 16) (v := .ref (ad 11 0)) (mo_m (by decide)) rfl rfl (by decide) wsM fw3_53 rfl dM_isRun_63 ?_
              refine fd_iload C dM_isRun_66 rfl ?_
              refine fd_iald C (k := 11) (i := 0) (x := sq) (v := M 11 0 sq) (mo_m (by decide)) (fun _ => rfl) (mo_tI cI) rfl (by omega) (by decide) rfl dM_isRun_68 ?_
              refine fd_if_ne C (tgt := 76) dM_isRun_69 rfl ⟨by omega, by omega⟩ (fun h69t => ?_) (fun h69f => ?_)
              · skip
                refine fd_iconst C dM_isRun_76 ?_
                refine fd_istore C dM_isRun_77 (by decide) ?_
                refine fd_iinc C dM_isRun_79 rfl (by decide) ?_
                refine fd_goto C (tgt := 50) dM_isRun_82 rfl ?_
                rw [if_pos (by omega), show a + w - sq = (a + w - (sq + 1)) + 1 by omega, mo_fa_s] at hN
                rw [if_neg (by omega)] at hN
                exact ih50 (a + w - (sq + 1)) (by omega) (sq + 1) 0 rfl (Or.inl rfl) (by omega) (by omega) (fun q => absurd q (by decide)) (by rw [if_neg (by decide)]; exact hN)
              · skip
                refine fd_iconst C dM_isRun_72 ?_
                refine fd_goto C (tgt := 77) dM_isRun_73 rfl ?_
                refine fd_istore C dM_isRun_77 (by decide) ?_
                refine fd_iinc C dM_isRun_79 rfl (by decide) ?_
                refine fd_goto C (tgt := 50) dM_isRun_82 rfl ?_
                rw [if_pos (by omega), show a + w - sq = (a + w - (sq + 1)) + 1 by omega, mo_fa_s] at hN
                rw [if_pos (by omega)] at hN
                exact ih50 (a + w - (sq + 1)) (by omega) (sq + 1) 1 rfl (Or.inr rfl) (by omega) (by omega) (fun _ => hlt (by omega)) (by rw [if_pos rfl]; exact hN)
      exact hloop50 _ a 0 rfl (Or.inl rfl) (by omega) (by omega) (fun q => absurd q (by decide)) (by rw [if_neg (by decide)]; unfold mo_ir; rw [if_neg (by omega)])
    · skip
      refine fd_iconst C dM_isRun_40 ?_
      refine fd_goto C (tgt := 45) dM_isRun_41 rfl ?_
      refine fd_istore C dM_isRun_45 (by decide) ?_
      refine fd_iload_n C dM_isRun_47 rfl ?_
      refine fd_istore C dM_isRun_48 (by decide) ?_
      have hloop50 : ∀ (dd50 : Nat) (sq : Nat) (rr : Int), dd50 = a + w - sq → (rr = 0 ∨ rr = 1) → (a ≤ sq) → (sq ≤ a + w) → (rr = 1 → ((a + w : Nat) : Int) ≤ M 0 0 1) → ((if rr = 1 then mo_fa M (a + w - sq) sq else 0) = mo_ir M 3 w a) → fd_J p l e ({ frames := 0, cells := 0, slots := 0, locals := 0 }) s m args below meth c D fd_cl A ad (mo_en cI ad) mo_wl 8 0 0 (MQ below (fd_QI D fd_cl (mo_tys cI) ad (mo_en cI ad) mo_wl A (mo_ir M 3 w a) (M)) args s 0 0 A) M 50 [some (.ref (ad 0 0)), some (.int (fd_I ((a : Nat) : Int))), some (.int (fd_I ((w : Nat) : Int))), some (.int (fd_I (1))), some (.int (fd_I ((((a + w : Nat) : Int)) - 1))), some (.int (fd_I (3))), some (.int (fd_I (rr))), some (.int (fd_I ((sq : Nat) : Int)))] [] := by
        intro dd50
        induction dd50 using Nat.strongRecOn with
        | ind dd50 ih50 =>
          intro sq rr hdd50 h01 hs1 hs2 hlt hN
          refine fd_iload C dM_isRun_50 rfl ?_
          refine fd_iload C dM_isRun_52 rfl ?_
          refine fd_icmp_gt C (tgt := 85) dM_isRun_54 rfl ⟨by omega, by omega⟩ ⟨by omega, by omega⟩ (fun h54t => ?_) (fun h54f => ?_)
          · skip
            refine fd_iload C dM_isRun_85 rfl ?_
            have e9 := mo_ir_01 M 3 w a
            exact fd_zret C hr hlk (by
            rw [← hN]
            rcases h01 with h0 | h0
            · rw [if_neg (by omega)]; exact h0
            · rw [if_pos h0, show a + w - sq = 0 by omega]; exact h0) (by omega) rfl dM_isRun_87
          · skip
            refine fd_iload C dM_isRun_57 rfl ?_
            refine fd_if_eq C (tgt := 85) dM_isRun_59 rfl ⟨by omega, by omega⟩ (fun h59t => ?_) (fun h59f => ?_)
            · skip
              refine fd_iload C dM_isRun_85 rfl ?_
              have e9 := mo_ir_01 M 3 w a
              exact fd_zret C hr hlk (by
            rw [← hN]
            rcases h01 with h0 | h0
            · rw [if_neg (by omega)]; exact h0
            · rw [if_pos h0, show a + w - sq = 0 by omega]; exact h0) (by omega) rfl dM_isRun_87
            · skip
              have e1 := hlt (by omega)
              have e2 := h11 sq (by omega)
              refine fd_aload_n C dM_isRun_62 rfl ?_
              refine fd_get C (k := 0) (i := 0) (j := 16) (v := .ref (ad 11 0)) (mo_m (by decide)) rfl rfl (by decide) wsM fw3_53 rfl dM_isRun_63 ?_
              refine fd_iload C dM_isRun_66 rfl ?_
              refine fd_iald C (k := 11) (i := 0) (x := sq) (v := M 11 0 sq) (mo_m (by decide)) (fun _ => rfl) (mo_tI cI) rfl (by omega) (by decide) rfl dM_isRun_68 ?_
              refine fd_if_ne C (tgt := 76) dM_isRun_69 rfl ⟨by omega, by omega⟩ (fun h69t => ?_) (fun h69f => ?_)
              · skip
                refine fd_iconst C dM_isRun_76 ?_
                refine fd_istore C dM_isRun_77 (by decide) ?_
                refine fd_iinc C dM_isRun_79 rfl (by decide) ?_
                refine fd_goto C (tgt := 50) dM_isRun_82 rfl ?_
                rw [if_pos (by omega), show a + w - sq = (a + w - (sq + 1)) + 1 by omega, mo_fa_s] at hN
                rw [if_neg (by omega)] at hN
                exact ih50 (a + w - (sq + 1)) (by omega) (sq + 1) 0 rfl (Or.inl rfl) (by omega) (by omega) (fun q => absurd q (by decide)) (by rw [if_neg (by decide)]; exact hN)
              · skip
                refine fd_iconst C dM_isRun_72 ?_
                refine fd_goto C (tgt := 77) dM_isRun_73 rfl ?_
                refine fd_istore C dM_isRun_77 (by decide) ?_
                refine fd_iinc C dM_isRun_79 rfl (by decide) ?_
                refine fd_goto C (tgt := 50) dM_isRun_82 rfl ?_
                rw [if_pos (by omega), show a + w - sq = (a + w - (sq + 1)) + 1 by omega, mo_fa_s] at hN
                rw [if_pos (by omega)] at hN
                exact ih50 (a + w - (sq + 1)) (by omega) (sq + 1) 1 rfl (Or.inr rfl) (by omega) (by omega) (fun _ => hlt (by omega)) (by rw [if_pos rfl]; exact hN)
      have hc9 : ((a + w : Nat) : Int) - 1 < M 0 0 1 ∧ (a : Int) / ((3 : Nat) : Int) = (((a + w : Nat) : Int) - 1) / ((3 : Nat) : Int) := ⟨by omega, by omega⟩
      exact hloop50 _ a 1 rfl (Or.inr rfl) (by omega) (by omega) (fun _ => by omega) (by rw [if_pos rfl]; unfold mo_ir; rw [if_pos hc9, show a + w - a = w by omega])
set_option maxRecDepth 20000 in
theorem mM_findRun_3 (l : Launch) (D : va_G) (cI : ClassId) (ad : Nat → Nat → Nat) (M : fd_Mem) (w : Nat) (hw : 1 ≤ w ∧ w ≤ 6) (hm : 0 ≤ M 0 0 1 ∧ M 0 0 1 ≤ 60) (h11 : ∀ sq, sq < 60 → 0 ≤ M 11 0 sq ∧ M 11 0 sq ≤ 60) : mo_Mi l D cI ad yM_findRun wM_findRun ({ frames := 1, cells := 0, slots := 0, locals := 27 }) [.ref (ad 0 0), .int (fd_I ((w : Nat) : Int)), .int (fd_I (1))] M (mo_fd M 3 w (M 0 0 1).toNat 0) (M) := by
  refine fd_enterI (by decide) rfl mo_nd (by simp [Value.category]) (Nat.le_of_ble_eq_true rfl) ?_
  intro A p e s m args below meth c C hr hlk hE
  have C : fd_C p m c cM_findRun 4 s args fd_T "FareDeskModel" D fd_cl (mo_tys cI) mo_wl A := C
  refine fd_pad 1 ?_
  refine fd_iconst C dM_findRun_0 ?_
  refine fd_istore_n C dM_findRun_1 (by decide) ?_
  have hloop2 : ∀ (dd2 : Nat) (sq : Nat), dd2 = (M 0 0 1).toNat - sq → ((sq : Int) ≤ M 0 0 1) → (mo_fd M 3 w ((M 0 0 1).toNat - sq) sq = mo_fd M 3 w (M 0 0 1).toNat 0) → fd_J p l e ({ frames := 1, cells := 0, slots := 0, locals := 27 }) s m args below meth c D fd_cl A ad (mo_en cI ad) mo_wl 4 0 0 (MQ below (fd_QI D fd_cl (mo_tys cI) ad (mo_en cI ad) mo_wl A (mo_fd M 3 w (M 0 0 1).toNat 0) (M)) args s 0 0 A) M 2 [some (.ref (ad 0 0)), some (.int (fd_I ((w : Nat) : Int))), some (.int (fd_I (1))), some (.int (fd_I ((sq : Nat) : Int)))] [] := by
    intro dd2
    induction dd2 using Nat.strongRecOn with
    | ind dd2 ih2 =>
      intro sq hdd2 hq hN
      refine fd_iload_n C dM_findRun_2 rfl ?_
      refine fd_aload_n C dM_findRun_3 rfl ?_
      refine fd_get C (k := 0) (i := 0) (j := 1) (v := .int (fd_I (M 0 0 1))) (mo_m (by decide)) rfl rfl (by decide) wsM fw3_38 rfl dM_findRun_4 ?_
      refine fd_icmp_ge C (tgt := 28) dM_findRun_7 rfl ⟨by omega, by omega⟩ ⟨by omega, by omega⟩ (fun h7t => ?_) (fun h7f => ?_)
      · skip
        refine fd_iconst C dM_findRun_28 ?_
        exact fd_iret C hr hlk (by rw [show (M 0 0 1).toNat - sq = 0 by omega] at hN; exact hN) rfl dM_findRun_29
      · skip
        refine fd_aload_n C dM_findRun_10 rfl ?_
        refine fd_iload_n C dM_findRun_11 rfl ?_
        refine fd_iload_n C dM_findRun_12 rfl ?_
        refine fd_iload_n C dM_findRun_13 rfl ?_
        refine fd_callVi C hE [.int (fd_I ((sq : Nat) : Int)), .int (fd_I ((w : Nat) : Int)), .int (fd_I (1))] (k := 0) (i := 0) (mM_isRun_3 l D cI ad M sq w (by omega) hw hm h11) (cwV 3 C.1.2.2.2.2 (gM_isRun fw3_189) rfl rfl rfl ⟨rfl, by decide, by decide, by decide +kernel⟩ ⟨by decide, by decide⟩) (mo_m (by decide)) rfl rfl rfl (Nat.le_of_ble_eq_true rfl) dM_findRun_14 ⟨by decide, by decide⟩ ?_
        have e1 := mo_ir_01 M 3 w sq
        refine fd_if_eq C (tgt := 22) dM_findRun_17 rfl ⟨by omega, by omega⟩ (fun h17t => ?_) (fun h17f => ?_)
        · skip
          refine fd_iinc C dM_findRun_22 rfl (by decide) ?_
          refine fd_goto C (tgt := 2) dM_findRun_25 rfl ?_
          rw [show (M 0 0 1).toNat - sq = ((M 0 0 1).toNat - (sq + 1)) + 1 by omega, mo_fd_s, if_neg (by omega)] at hN
          exact ih2 ((M 0 0 1).toNat - (sq + 1)) (by omega) (sq + 1) rfl (by omega) hN
        · skip
          refine fd_iload_n C dM_findRun_20 rfl ?_
          exact fd_iret C hr hlk (by rw [show (M 0 0 1).toNat - sq = ((M 0 0 1).toNat - (sq + 1)) + 1 by omega, mo_fd_s, if_pos (by omega)] at hN; exact hN) rfl dM_findRun_21
  exact hloop2 _ 0 rfl (by omega) rfl
set_option maxRecDepth 20000 in
theorem mM_isRun_6 (l : Launch) (D : va_G) (cI : ClassId) (ad : Nat → Nat → Nat) (M : fd_Mem) (a w : Nat) (ha : (a : Int) < M 0 0 1) (hw : 1 ≤ w ∧ w ≤ 6) (hm : 0 ≤ M 0 0 1 ∧ M 0 0 1 ≤ 60) (h11 : ∀ sq, sq < 60 → 0 ≤ M 11 0 sq ∧ M 11 0 sq ≤ 60) : mo_Mi l D cI ad yM_isRun wM_isRun ({ frames := 0, cells := 0, slots := 0, locals := 0 }) [.ref (ad 0 0), .int (fd_I ((a : Nat) : Int)), .int (fd_I ((w : Nat) : Int)), .int (fd_I (0))] M (mo_ir M 6 w a) (M) := by
  refine fd_enterI (by decide) rfl mo_nd (by simp [Value.category]) (Nat.le_of_ble_eq_true rfl) ?_
  intro A p e s m args below meth c C hr hlk hE
  have C : fd_C p m c cM_isRun 8 s args fd_T "FareDeskModel" D fd_cl (mo_tys cI) mo_wl A := C
  refine fd_pad 4 ?_
  refine fd_iload_n C dM_isRun_0 rfl ?_
  refine fd_iload_n C dM_isRun_1 rfl ?_
  refine fd_iadd C dM_isRun_2 ?_
  refine fd_iconst C dM_isRun_3 ?_
  refine fd_isub C dM_isRun_4 ?_
  refine fd_istore C dM_isRun_5 (by decide) ?_
  refine fd_iload_n C dM_isRun_7 rfl ?_
  refine fd_if_eq C (tgt := 15) dM_isRun_8 rfl ⟨by omega, by omega⟩ (fun h8t => ?_) (fun h8f => ?_)
  rotate_left
  · exfalso; omega
  refine fd_bipush C dM_isRun_15 (by decide) ?_
  refine fd_istore C dM_isRun_17 (by decide) ?_
  refine fd_iload C dM_isRun_19 rfl ?_
  refine fd_aload_n C dM_isRun_21 rfl ?_
  refine fd_get C (k := 0) (i := 0) (j := 1) (v := .int (fd_I (M 0 0 1))) (mo_m (by decide)) rfl rfl (by decide) wsM fw3_38 rfl dM_isRun_22 ?_
  refine fd_icmp_ge C (tgt := 44) dM_isRun_25 rfl ⟨by omega, by omega⟩ ⟨by omega, by omega⟩ (fun h25t => ?_) (fun h25f => ?_)
  · skip
    refine fd_iconst C dM_isRun_44 ?_
    refine fd_istore C dM_isRun_45 (by decide) ?_
    refine fd_iload_n C dM_isRun_47 rfl ?_
    refine fd_istore C dM_isRun_48 (by decide) ?_
    have hloop50 : ∀ (dd50 : Nat) (sq : Nat) (rr : Int), dd50 = a + w - sq → (rr = 0 ∨ rr = 1) → (a ≤ sq) → (sq ≤ a + w) → (rr = 1 → ((a + w : Nat) : Int) ≤ M 0 0 1) → ((if rr = 1 then mo_fa M (a + w - sq) sq else 0) = mo_ir M 6 w a) → fd_J p l e ({ frames := 0, cells := 0, slots := 0, locals := 0 }) s m args below meth c D fd_cl A ad (mo_en cI ad) mo_wl 8 0 0 (MQ below (fd_QI D fd_cl (mo_tys cI) ad (mo_en cI ad) mo_wl A (mo_ir M 6 w a) (M)) args s 0 0 A) M 50 [some (.ref (ad 0 0)), some (.int (fd_I ((a : Nat) : Int))), some (.int (fd_I ((w : Nat) : Int))), some (.int (fd_I (0))), some (.int (fd_I ((((a + w : Nat) : Int)) - 1))), some (.int (fd_I (6))), some (.int (fd_I (rr))), some (.int (fd_I ((sq : Nat) : Int)))] [] := by
      intro dd50
      induction dd50 using Nat.strongRecOn with
      | ind dd50 ih50 =>
        intro sq rr hdd50 h01 hs1 hs2 hlt hN
        refine fd_iload C dM_isRun_50 rfl ?_
        refine fd_iload C dM_isRun_52 rfl ?_
        refine fd_icmp_gt C (tgt := 85) dM_isRun_54 rfl ⟨by omega, by omega⟩ ⟨by omega, by omega⟩ (fun h54t => ?_) (fun h54f => ?_)
        · skip
          refine fd_iload C dM_isRun_85 rfl ?_
          have e9 := mo_ir_01 M 6 w a
          exact fd_zret C hr hlk (by
            rw [← hN]
            rcases h01 with h0 | h0
            · rw [if_neg (by omega)]; exact h0
            · rw [if_pos h0, show a + w - sq = 0 by omega]; exact h0) (by omega) rfl dM_isRun_87
        · skip
          refine fd_iload C dM_isRun_57 rfl ?_
          refine fd_if_eq C (tgt := 85) dM_isRun_59 rfl ⟨by omega, by omega⟩ (fun h59t => ?_) (fun h59f => ?_)
          · skip
            refine fd_iload C dM_isRun_85 rfl ?_
            have e9 := mo_ir_01 M 6 w a
            exact fd_zret C hr hlk (by
            rw [← hN]
            rcases h01 with h0 | h0
            · rw [if_neg (by omega)]; exact h0
            · rw [if_pos h0, show a + w - sq = 0 by omega]; exact h0) (by omega) rfl dM_isRun_87
          · skip
            have e1 := hlt (by omega)
            have e2 := h11 sq (by omega)
            refine fd_aload_n C dM_isRun_62 rfl ?_
            refine fd_get C (k := 0) (i := 0) (j := 16) (v := .ref (ad 11 0)) (mo_m (by decide)) rfl rfl (by decide) wsM fw3_53 rfl dM_isRun_63 ?_
            refine fd_iload C dM_isRun_66 rfl ?_
            refine fd_iald C (k := 11) (i := 0) (x := sq) (v := M 11 0 sq) (mo_m (by decide)) (fun _ => rfl) (mo_tI cI) rfl (by omega) (by decide) rfl dM_isRun_68 ?_
            refine fd_if_ne C (tgt := 76) dM_isRun_69 rfl ⟨by omega, by omega⟩ (fun h69t => ?_) (fun h69f => ?_)
            · skip
              refine fd_iconst C dM_isRun_76 ?_
              refine fd_istore C dM_isRun_77 (by decide) ?_
              refine fd_iinc C dM_isRun_79 rfl (by decide) ?_
              refine fd_goto C (tgt := 50) dM_isRun_82 rfl ?_
              rw [if_pos (by omega), show a + w - sq = (a + w - (sq + 1)) + 1 by omega, mo_fa_s] at hN
              rw [if_neg (by omega)] at hN
              exact ih50 (a + w - (sq + 1)) (by omega) (sq + 1) 0 rfl (Or.inl rfl) (by omega) (by omega) (fun q => absurd q (by decide)) (by rw [if_neg (by decide)]; exact hN)
            · skip
              refine fd_iconst C dM_isRun_72 ?_
              refine fd_goto C (tgt := 77) dM_isRun_73 rfl ?_
              refine fd_istore C dM_isRun_77 (by decide) ?_
              refine fd_iinc C dM_isRun_79 rfl (by decide) ?_
              refine fd_goto C (tgt := 50) dM_isRun_82 rfl ?_
              rw [if_pos (by omega), show a + w - sq = (a + w - (sq + 1)) + 1 by omega, mo_fa_s] at hN
              rw [if_pos (by omega)] at hN
              exact ih50 (a + w - (sq + 1)) (by omega) (sq + 1) 1 rfl (Or.inr rfl) (by omega) (by omega) (fun _ => hlt (by omega)) (by rw [if_pos rfl]; exact hN)
    exact hloop50 _ a 0 rfl (Or.inl rfl) (by omega) (by omega) (fun q => absurd q (by decide)) (by rw [if_neg (by decide)]; unfold mo_ir; rw [if_neg (by omega)])
  · skip
    refine fd_iload_n C dM_isRun_28 rfl ?_
    refine fd_iload C dM_isRun_29 rfl ?_
    refine fd_idiv C dM_isRun_31 ⟨by omega, by omega⟩ ⟨by omega, by omega⟩ (by omega) (by omega) ?_
    refine fd_iload C dM_isRun_32 rfl ?_
    refine fd_iload C dM_isRun_34 rfl ?_
    refine fd_idiv C dM_isRun_36 ⟨by omega, by omega⟩ ⟨by omega, by omega⟩ (by omega) (by omega) ?_
    refine fd_icmp_ne C (tgt := 44) dM_isRun_37 rfl ⟨by omega, by omega⟩ ⟨by omega, by omega⟩ (fun h37t => ?_) (fun h37f => ?_)
    · skip
      refine fd_iconst C dM_isRun_44 ?_
      refine fd_istore C dM_isRun_45 (by decide) ?_
      refine fd_iload_n C dM_isRun_47 rfl ?_
      refine fd_istore C dM_isRun_48 (by decide) ?_
      have hloop50 : ∀ (dd50 : Nat) (sq : Nat) (rr : Int), dd50 = a + w - sq → (rr = 0 ∨ rr = 1) → (a ≤ sq) → (sq ≤ a + w) → (rr = 1 → ((a + w : Nat) : Int) ≤ M 0 0 1) → ((if rr = 1 then mo_fa M (a + w - sq) sq else 0) = mo_ir M 6 w a) → fd_J p l e ({ frames := 0, cells := 0, slots := 0, locals := 0 }) s m args below meth c D fd_cl A ad (mo_en cI ad) mo_wl 8 0 0 (MQ below (fd_QI D fd_cl (mo_tys cI) ad (mo_en cI ad) mo_wl A (mo_ir M 6 w a) (M)) args s 0 0 A) M 50 [some (.ref (ad 0 0)), some (.int (fd_I ((a : Nat) : Int))), some (.int (fd_I ((w : Nat) : Int))), some (.int (fd_I (0))), some (.int (fd_I ((((a + w : Nat) : Int)) - 1))), some (.int (fd_I (6))), some (.int (fd_I (rr))), some (.int (fd_I ((sq : Nat) : Int)))] [] := by
        intro dd50
        induction dd50 using Nat.strongRecOn with
        | ind dd50 ih50 =>
          intro sq rr hdd50 h01 hs1 hs2 hlt hN
          refine fd_iload C dM_isRun_50 rfl ?_
          refine fd_iload C dM_isRun_52 rfl ?_
          refine fd_icmp_gt C (tgt := 85) dM_isRun_54 rfl ⟨by omega, by omega⟩ ⟨by omega, by omega⟩ (fun h54t => ?_) (fun h54f => ?_)
          · skip
            refine fd_iload C dM_isRun_85 rfl ?_
            have e9 := mo_ir_01 M 6 w a
            exact fd_zret C hr hlk (by
            rw [← hN]
            rcases h01 with h0 | h0
            · rw [if_neg (by omega)]; exact h0
            · rw [if_pos h0, show a + w - sq = 0 by omega]; exact h0) (by omega) rfl dM_isRun_87
          · skip
            refine fd_iload C dM_isRun_57 rfl ?_
            refine fd_if_eq C (tgt := 85) dM_isRun_59 rfl ⟨by omega, by omega⟩ (fun h59t => ?_) (fun h59f => ?_)
            · skip
              refine fd_iload C dM_isRun_85 rfl ?_
              have e9 := mo_ir_01 M 6 w a
              exact fd_zret C hr hlk (by
            rw [← hN]
            rcases h01 with h0 | h0
            · rw [if_neg (by omega)]; exact h0
            · rw [if_pos h0, show a + w - sq = 0 by omega]; exact h0) (by omega) rfl dM_isRun_87
            · skip
              have e1 := hlt (by omega)
              have e2 := h11 sq (by omega)
              refine fd_aload_n C dM_isRun_62 rfl ?_
              refine fd_get C (k := 0) (i := 0) (j := 16) (v := .ref (ad 11 0)) (mo_m (by decide)) rfl rfl (by decide) wsM fw3_53 rfl dM_isRun_63 ?_
              refine fd_iload C dM_isRun_66 rfl ?_
              refine fd_iald C (k := 11) (i := 0) (x := sq) (v := M 11 0 sq) (mo_m (by decide)) (fun _ => rfl) (mo_tI cI) rfl (by omega) (by decide) rfl dM_isRun_68 ?_
              refine fd_if_ne C (tgt := 76) dM_isRun_69 rfl ⟨by omega, by omega⟩ (fun h69t => ?_) (fun h69f => ?_)
              · skip
                refine fd_iconst C dM_isRun_76 ?_
                refine fd_istore C dM_isRun_77 (by decide) ?_
                refine fd_iinc C dM_isRun_79 rfl (by decide) ?_
                refine fd_goto C (tgt := 50) dM_isRun_82 rfl ?_
                rw [if_pos (by omega), show a + w - sq = (a + w - (sq + 1)) + 1 by omega, mo_fa_s] at hN
                rw [if_neg (by omega)] at hN
                exact ih50 (a + w - (sq + 1)) (by omega) (sq + 1) 0 rfl (Or.inl rfl) (by omega) (by omega) (fun q => absurd q (by decide)) (by rw [if_neg (by decide)]; exact hN)
              · skip
                refine fd_iconst C dM_isRun_72 ?_
                refine fd_goto C (tgt := 77) dM_isRun_73 rfl ?_
                refine fd_istore C dM_isRun_77 (by decide) ?_
                refine fd_iinc C dM_isRun_79 rfl (by decide) ?_
                refine fd_goto C (tgt := 50) dM_isRun_82 rfl ?_
                rw [if_pos (by omega), show a + w - sq = (a + w - (sq + 1)) + 1 by omega, mo_fa_s] at hN
                rw [if_pos (by omega)] at hN
                exact ih50 (a + w - (sq + 1)) (by omega) (sq + 1) 1 rfl (Or.inr rfl) (by omega) (by omega) (fun _ => hlt (by omega)) (by rw [if_pos rfl]; exact hN)
      exact hloop50 _ a 0 rfl (Or.inl rfl) (by omega) (by omega) (fun q => absurd q (by decide)) (by rw [if_neg (by decide)]; unfold mo_ir; rw [if_neg (by omega)])
    · skip
      refine fd_iconst C dM_isRun_40 ?_
      refine fd_goto C (tgt := 45) dM_isRun_41 rfl ?_
      refine fd_istore C dM_isRun_45 (by decide) ?_
      refine fd_iload_n C dM_isRun_47 rfl ?_
      refine fd_istore C dM_isRun_48 (by decide) ?_
      have hloop50 : ∀ (dd50 : Nat) (sq : Nat) (rr : Int), dd50 = a + w - sq → (rr = 0 ∨ rr = 1) → (a ≤ sq) → (sq ≤ a + w) → (rr = 1 → ((a + w : Nat) : Int) ≤ M 0 0 1) → ((if rr = 1 then mo_fa M (a + w - sq) sq else 0) = mo_ir M 6 w a) → fd_J p l e ({ frames := 0, cells := 0, slots := 0, locals := 0 }) s m args below meth c D fd_cl A ad (mo_en cI ad) mo_wl 8 0 0 (MQ below (fd_QI D fd_cl (mo_tys cI) ad (mo_en cI ad) mo_wl A (mo_ir M 6 w a) (M)) args s 0 0 A) M 50 [some (.ref (ad 0 0)), some (.int (fd_I ((a : Nat) : Int))), some (.int (fd_I ((w : Nat) : Int))), some (.int (fd_I (0))), some (.int (fd_I ((((a + w : Nat) : Int)) - 1))), some (.int (fd_I (6))), some (.int (fd_I (rr))), some (.int (fd_I ((sq : Nat) : Int)))] [] := by
        intro dd50
        induction dd50 using Nat.strongRecOn with
        | ind dd50 ih50 =>
          intro sq rr hdd50 h01 hs1 hs2 hlt hN
          refine fd_iload C dM_isRun_50 rfl ?_
          refine fd_iload C dM_isRun_52 rfl ?_
          refine fd_icmp_gt C (tgt := 85) dM_isRun_54 rfl ⟨by omega, by omega⟩ ⟨by omega, by omega⟩ (fun h54t => ?_) (fun h54f => ?_)
          · skip
            refine fd_iload C dM_isRun_85 rfl ?_
            have e9 := mo_ir_01 M 6 w a
            exact fd_zret C hr hlk (by
            rw [← hN]
            rcases h01 with h0 | h0
            · rw [if_neg (by omega)]; exact h0
            · rw [if_pos h0, show a + w - sq = 0 by omega]; exact h0) (by omega) rfl dM_isRun_87
          · skip
            refine fd_iload C dM_isRun_57 rfl ?_
            refine fd_if_eq C (tgt := 85) dM_isRun_59 rfl ⟨by omega, by omega⟩ (fun h59t => ?_) (fun h59f => ?_)
            · skip
              refine fd_iload C dM_isRun_85 rfl ?_
              have e9 := mo_ir_01 M 6 w a
              exact fd_zret C hr hlk (by
            rw [← hN]
            rcases h01 with h0 | h0
            · rw [if_neg (by omega)]; exact h0
            · rw [if_pos h0, show a + w - sq = 0 by omega]; exact h0) (by omega) rfl dM_isRun_87
            · skip
              have e1 := hlt (by omega)
              have e2 := h11 sq (by omega)
              refine fd_aload_n C dM_isRun_62 rfl ?_
              refine fd_get C (k := 0) (i := 0) (j := 16) (v := .ref (ad 11 0)) (mo_m (by decide)) rfl rfl (by decide) wsM fw3_53 rfl dM_isRun_63 ?_
              refine fd_iload C dM_isRun_66 rfl ?_
              refine fd_iald C (k := 11) (i := 0) (x := sq) (v := M 11 0 sq) (mo_m (by decide)) (fun _ => rfl) (mo_tI cI) rfl (by omega) (by decide) rfl dM_isRun_68 ?_
              refine fd_if_ne C (tgt := 76) dM_isRun_69 rfl ⟨by omega, by omega⟩ (fun h69t => ?_) (fun h69f => ?_)
              · skip
                refine fd_iconst C dM_isRun_76 ?_
                refine fd_istore C dM_isRun_77 (by decide) ?_
                refine fd_iinc C dM_isRun_79 rfl (by decide) ?_
                refine fd_goto C (tgt := 50) dM_isRun_82 rfl ?_
                rw [if_pos (by omega), show a + w - sq = (a + w - (sq + 1)) + 1 by omega, mo_fa_s] at hN
                rw [if_neg (by omega)] at hN
                exact ih50 (a + w - (sq + 1)) (by omega) (sq + 1) 0 rfl (Or.inl rfl) (by omega) (by omega) (fun q => absurd q (by decide)) (by rw [if_neg (by decide)]; exact hN)
              · skip
                refine fd_iconst C dM_isRun_72 ?_
                refine fd_goto C (tgt := 77) dM_isRun_73 rfl ?_
                refine fd_istore C dM_isRun_77 (by decide) ?_
                refine fd_iinc C dM_isRun_79 rfl (by decide) ?_
                refine fd_goto C (tgt := 50) dM_isRun_82 rfl ?_
                rw [if_pos (by omega), show a + w - sq = (a + w - (sq + 1)) + 1 by omega, mo_fa_s] at hN
                rw [if_pos (by omega)] at hN
                exact ih50 (a + w - (sq + 1)) (by omega) (sq + 1) 1 rfl (Or.inr rfl) (by omega) (by omega) (fun _ => hlt (by omega)) (by rw [if_pos rfl]; exact hN)
      have hc9 : ((a + w : Nat) : Int) - 1 < M 0 0 1 ∧ (a : Int) / ((6 : Nat) : Int) = (((a + w : Nat) : Int) - 1) / ((6 : Nat) : Int) := ⟨by omega, by omega⟩
      exact hloop50 _ a 1 rfl (Or.inr rfl) (by omega) (by omega) (fun _ => by omega) (by rw [if_pos rfl]; unfold mo_ir; rw [if_pos hc9, show a + w - a = w by omega])
set_option maxRecDepth 20000 in
theorem mM_findRun_6 (l : Launch) (D : va_G) (cI : ClassId) (ad : Nat → Nat → Nat) (M : fd_Mem) (w : Nat) (hw : 1 ≤ w ∧ w ≤ 6) (hm : 0 ≤ M 0 0 1 ∧ M 0 0 1 ≤ 60) (h11 : ∀ sq, sq < 60 → 0 ≤ M 11 0 sq ∧ M 11 0 sq ≤ 60) : mo_Mi l D cI ad yM_findRun wM_findRun ({ frames := 1, cells := 0, slots := 0, locals := 27 }) [.ref (ad 0 0), .int (fd_I ((w : Nat) : Int)), .int (fd_I (0))] M (mo_fd M 6 w (M 0 0 1).toNat 0) (M) := by
  refine fd_enterI (by decide) rfl mo_nd (by simp [Value.category]) (Nat.le_of_ble_eq_true rfl) ?_
  intro A p e s m args below meth c C hr hlk hE
  have C : fd_C p m c cM_findRun 4 s args fd_T "FareDeskModel" D fd_cl (mo_tys cI) mo_wl A := C
  refine fd_pad 1 ?_
  refine fd_iconst C dM_findRun_0 ?_
  refine fd_istore_n C dM_findRun_1 (by decide) ?_
  have hloop2 : ∀ (dd2 : Nat) (sq : Nat), dd2 = (M 0 0 1).toNat - sq → ((sq : Int) ≤ M 0 0 1) → (mo_fd M 6 w ((M 0 0 1).toNat - sq) sq = mo_fd M 6 w (M 0 0 1).toNat 0) → fd_J p l e ({ frames := 1, cells := 0, slots := 0, locals := 27 }) s m args below meth c D fd_cl A ad (mo_en cI ad) mo_wl 4 0 0 (MQ below (fd_QI D fd_cl (mo_tys cI) ad (mo_en cI ad) mo_wl A (mo_fd M 6 w (M 0 0 1).toNat 0) (M)) args s 0 0 A) M 2 [some (.ref (ad 0 0)), some (.int (fd_I ((w : Nat) : Int))), some (.int (fd_I (0))), some (.int (fd_I ((sq : Nat) : Int)))] [] := by
    intro dd2
    induction dd2 using Nat.strongRecOn with
    | ind dd2 ih2 =>
      intro sq hdd2 hq hN
      refine fd_iload_n C dM_findRun_2 rfl ?_
      refine fd_aload_n C dM_findRun_3 rfl ?_
      refine fd_get C (k := 0) (i := 0) (j := 1) (v := .int (fd_I (M 0 0 1))) (mo_m (by decide)) rfl rfl (by decide) wsM fw3_38 rfl dM_findRun_4 ?_
      refine fd_icmp_ge C (tgt := 28) dM_findRun_7 rfl ⟨by omega, by omega⟩ ⟨by omega, by omega⟩ (fun h7t => ?_) (fun h7f => ?_)
      · skip
        refine fd_iconst C dM_findRun_28 ?_
        exact fd_iret C hr hlk (by rw [show (M 0 0 1).toNat - sq = 0 by omega] at hN; exact hN) rfl dM_findRun_29
      · skip
        refine fd_aload_n C dM_findRun_10 rfl ?_
        refine fd_iload_n C dM_findRun_11 rfl ?_
        refine fd_iload_n C dM_findRun_12 rfl ?_
        refine fd_iload_n C dM_findRun_13 rfl ?_
        refine fd_callVi C hE [.int (fd_I ((sq : Nat) : Int)), .int (fd_I ((w : Nat) : Int)), .int (fd_I (0))] (k := 0) (i := 0) (mM_isRun_6 l D cI ad M sq w (by omega) hw hm h11) (cwV 3 C.1.2.2.2.2 (gM_isRun fw3_189) rfl rfl rfl ⟨rfl, by decide, by decide, by decide +kernel⟩ ⟨by decide, by decide⟩) (mo_m (by decide)) rfl rfl rfl (Nat.le_of_ble_eq_true rfl) dM_findRun_14 ⟨by decide, by decide⟩ ?_
        have e1 := mo_ir_01 M 6 w sq
        refine fd_if_eq C (tgt := 22) dM_findRun_17 rfl ⟨by omega, by omega⟩ (fun h17t => ?_) (fun h17f => ?_)
        · skip
          refine fd_iinc C dM_findRun_22 rfl (by decide) ?_
          refine fd_goto C (tgt := 2) dM_findRun_25 rfl ?_
          rw [show (M 0 0 1).toNat - sq = ((M 0 0 1).toNat - (sq + 1)) + 1 by omega, mo_fd_s, if_neg (by omega)] at hN
          exact ih2 ((M 0 0 1).toNat - (sq + 1)) (by omega) (sq + 1) rfl (by omega) hN
        · skip
          refine fd_iload_n C dM_findRun_20 rfl ?_
          exact fd_iret C hr hlk (by rw [show (M 0 0 1).toNat - sq = ((M 0 0 1).toNat - (sq + 1)) + 1 by omega, mo_fd_s, if_pos (by omega)] at hN; exact hN) rfl dM_findRun_21
  exact hloop2 _ 0 rfl (by omega) rfl
set_option maxRecDepth 20000 in
theorem mM_giveFirst (l : Launch) (D : va_G) (cI : ClassId) (ad : Nat → Nat → Nat) (M : fd_Mem) (i : Nat) (hi : i < 60) (k : Int) (hm : 0 ≤ M 0 0 1 ∧ M 0 0 1 ≤ 60) (hg : mo_gb (M 0 0 1) M i k) : mo_Mv l D cI ad yM_giveFirst wM_giveFirst ({ frames := 1, cells := 0, slots := 0, locals := 22 }) [.ref (ad 0 0), .int (fd_I ((i : Nat) : Int)), .int (fd_I (k))] M (mo_gf i (M 0 0 1).toNat 0 k M) := by
  refine fd_enterV (by decide) rfl mo_nd (by simp [Value.category]) (Nat.le_of_ble_eq_true rfl) ?_
  intro A p e s m args below meth c C hr hlk hE
  have C : fd_C p m c cM_giveFirst 5 s args fd_T "FareDeskModel" D fd_cl (mo_tys cI) mo_wl A := C
  refine fd_pad 2 ?_
  refine fd_iload_n C dM_giveFirst_0 rfl ?_
  refine fd_istore_n C dM_giveFirst_1 (by decide) ?_
  refine fd_iconst C dM_giveFirst_2 ?_
  refine fd_istore C dM_giveFirst_3 (by decide) ?_
  have hloop5 : ∀ (dd5 : Nat) (sq : Nat) (k9 : Int) (P : fd_Mem), dd5 = (M 0 0 1).toNat - sq → ((sq : Int) ≤ M 0 0 1) → (mo_gb (M 0 0 1) P i k9) → (mo_gf i ((M 0 0 1).toNat - sq) sq k9 P = mo_gf i (M 0 0 1).toNat 0 k M) → fd_J p l e ({ frames := 1, cells := 0, slots := 0, locals := 22 }) s m args below meth c D fd_cl A ad (mo_en cI ad) mo_wl 5 0 0 (MQ below (fd_QV D fd_cl (mo_tys cI) ad (mo_en cI ad) mo_wl A (mo_gf i (M 0 0 1).toNat 0 k M)) args s 0 0 A) P 5 [some (.ref (ad 0 0)), some (.int (fd_I ((i : Nat) : Int))), some (.int (fd_I (k))), some (.int (fd_I (k9))), some (.int (fd_I ((sq : Nat) : Int)))] [] := by
    intro dd5
    induction dd5 using Nat.strongRecOn with
    | ind dd5 ih5 =>
      intro sq k9 P hdd5 hq hgP hN
      refine fd_iload C dM_giveFirst_5 rfl ?_
      have e1 := hgP.1
      have e2 := hgP.2.1
      refine fd_aload_n C dM_giveFirst_7 rfl ?_
      refine fd_get C (k := 0) (i := 0) (j := 1) (v := .int (fd_I (P 0 0 1))) (mo_m (by decide)) rfl rfl (by decide) wsM fw3_38 rfl dM_giveFirst_8 ?_
      refine fd_icmp_ge C (tgt := 44) dM_giveFirst_11 rfl ⟨by omega, by omega⟩ ⟨by omega, by omega⟩ (fun h11t => ?_) (fun h11f => ?_)
      · skip
        exact fd_vret C hr hlk (by rw [← hN]; cases hd : (M 0 0 1).toNat - sq with | zero => rfl | succ d => (rw [mo_gf_s, if_pos (by omega)])) dM_giveFirst_44
      · skip
        refine fd_iload_n C dM_giveFirst_14 rfl ?_
        refine fd_if_le C (tgt := 44) dM_giveFirst_15 rfl ⟨by omega, by omega⟩ (fun h15t => ?_) (fun h15f => ?_)
        · skip
          exact fd_vret C hr hlk (by rw [← hN]; cases hd : (M 0 0 1).toNat - sq with | zero => rfl | succ d => (rw [mo_gf_s, if_pos (by omega)])) dM_giveFirst_44
        · skip
          refine fd_aload_n C dM_giveFirst_18 rfl ?_
          refine fd_get C (k := 0) (i := 0) (j := 16) (v := .ref (ad 11 0)) (mo_m (by decide)) rfl rfl (by decide) wsM fw3_53 rfl dM_giveFirst_19 ?_
          refine fd_iload C dM_giveFirst_22 rfl ?_
          refine fd_iald C (k := 11) (i := 0) (x := sq) (v := P 11 0 sq) (mo_m (by decide)) (fun _ => rfl) (mo_tI cI) rfl (by omega) (by decide) rfl dM_giveFirst_24 ?_
          have e3 := hgP.2.2 sq (by omega)
          refine fd_if_ne C (tgt := 38) dM_giveFirst_25 rfl ⟨by omega, by omega⟩ (fun h25t => ?_) (fun h25f => ?_)
          · skip
            refine fd_iinc C dM_giveFirst_38 rfl (by decide) ?_
            refine fd_goto C (tgt := 5) dM_giveFirst_41 rfl ?_
            rw [show (M 0 0 1).toNat - sq = ((M 0 0 1).toNat - (sq + 1)) + 1 by omega, mo_gf_s, if_neg (by omega)] at hN
            rw [if_neg (by omega)] at hN
            exact ih5 ((M 0 0 1).toNat - (sq + 1)) (by omega) (sq + 1) k9 P rfl (by omega) hgP hN
          · skip
            refine fd_aload_n C dM_giveFirst_28 rfl ?_
            refine fd_iload_n C dM_giveFirst_29 rfl ?_
            refine fd_iload C dM_giveFirst_30 rfl ?_
            refine fd_callVv C hE [.int (fd_I ((i : Nat) : Int)), .int (fd_I ((sq : Nat) : Int))] (k := 0) (i := 0) (mM_give l D cI ad P i hi sq (by omega) (by omega)) (cwV 2 C.1.2.2.2.2 (gM_give fw3_173) rfl rfl rfl ⟨rfl, by decide, by decide, by decide +kernel⟩ ⟨by decide, by decide⟩) (mo_m (by decide)) rfl rfl rfl (Nat.le_of_ble_eq_true rfl) dM_giveFirst_32 ⟨by decide, by decide⟩ ?_
            refine fd_iinc C dM_giveFirst_35 rfl (by decide) ?_
            refine fd_iinc C dM_giveFirst_38 rfl (by decide) ?_
            refine fd_goto C (tgt := 5) dM_giveFirst_41 rfl ?_
            rw [show (M 0 0 1).toNat - sq = ((M 0 0 1).toNat - (sq + 1)) + 1 by omega, mo_gf_s, if_neg (by omega)] at hN
            rw [if_pos (by omega)] at hN
            exact ih5 ((M 0 0 1).toNat - (sq + 1)) (by omega) (sq + 1) (k9 - 1) (mo_gv P i sq) rfl (by omega) (mo_gb_gv hgP (by omega) hi) hN
  exact hloop5 _ 0 k M rfl (by omega) hg rfl
set_option maxRecDepth 20000 in
theorem mM_together_B (l : Launch) (D : va_G) (cI : ClassId) (ad : Nat → Nat → Nat) (M : fd_Mem) (n : Int) (hn : -2147483648 ≤ n ∧ n < 2147483648) (hok : mo_ok M) (hb : n < 0 ∨ M 0 0 7 ≤ n) : mo_Mi l D cI ad yM_together wM_together ({ frames := 1, cells := 0, slots := 0, locals := 21 }) [.ref (ad 0 0), .int (fd_I (n))] M (0) ((fd_u3 M 0 0 0 1)) := by
  refine fd_enterI (by decide) rfl mo_nd (by simp [Value.category]) (Nat.le_of_ble_eq_true rfl) ?_
  intro A p e s m args below meth c C hr hlk hE
  have C : fd_C p m c cM_together 6 s args fd_T "FareDeskModel" D fd_cl (mo_tys cI) mo_wl A := C
  refine fd_pad 4 ?_
  refine fd_aload_n C dM_together_0 rfl ?_
  refine fd_aload_n C dM_together_1 rfl ?_
  refine fd_iload_n C dM_together_2 rfl ?_
  refine fd_callVi C hE [.int (fd_I (n))] (k := 0) (i := 0) (mM_noBooking_1 l D cI ad M n hn hok.made hb) (cwV 1 C.1.2.2.2.2 (gM_noBooking fw3_141) rfl rfl rfl ⟨rfl, by decide, by decide, by decide +kernel⟩ ⟨by decide, by decide⟩) (mo_m (by decide)) rfl rfl rfl (Nat.le_of_ble_eq_true rfl) dM_together_3 ⟨by decide, by decide⟩ ?_
  refine fd_if_eq C (tgt := 13) dM_together_6 rfl ⟨by omega, by omega⟩ (fun h6t => ?_) (fun h6f => ?_)
  · exfalso; omega
  refine fd_iconst C dM_together_9 ?_
  refine fd_goto C (tgt := 50) dM_together_10 rfl ?_
  refine fd_put C (k := 0) (i := 0) (j := 0) (z := 1) (ty := .int) tyM (mo_m (by decide)) rfl rfl rfl (by decide) wsM tyM_ok nmM fw3_37 rfl (by decide +kernel) rfl rfl (Nat.le_of_ble_eq_true rfl) dM_together_50 ?_
  refine fd_aload_n C dM_together_53 rfl ?_
  refine fd_get C (k := 0) (i := 0) (j := 0) (v := .int (fd_I (1))) (mo_m (by decide)) rfl rfl (by decide) wsM fw3_37 (congrArg (fun z => some (Value.int (fd_I z))) (fd_u3_same M 0 0 0 (1))) dM_together_54 ?_
  refine fd_if_eq C (tgt := 62) dM_together_57 rfl ⟨by omega, by omega⟩ (fun h57t => ?_) (fun h57f => ?_)
  · exfalso; omega
  refine fd_iconst C dM_together_60 ?_
  exact fd_iret C hr hlk (by first | rfl | omega | (split <;> omega) | (simp; omega)) rfl dM_together_61
set_option maxRecDepth 20000 in
theorem mM_together_2 (l : Launch) (D : va_G) (cI : ClassId) (ad : Nat → Nat → Nat) (M : fd_Mem) (n : Nat) (hn : (n : Int) < M 0 0 7) (hok : mo_ok M) (hs : ¬ (M 3 0 n = 2 ∧ M 9 0 n < M 5 0 n))  : mo_Mi l D cI ad yM_together wM_together ({ frames := 1, cells := 0, slots := 0, locals := 21 }) [.ref (ad 0 0), .int (fd_I ((n : Nat) : Int))] M (0) ((fd_u3 M 0 0 0 2)) := by
  have hm := hok.made
  have hn6 : n < 60 := by omega
  have e3 := hok.sta hn6
  have e4 := hok.far hn6
  have e5 := hok.pla hn6
  have e6 := hok.sea hn6
  have e8 := hok.pai hn6
  have e1 := hok.cnt
  refine fd_enterI (by decide) rfl mo_nd (by simp [Value.category]) (Nat.le_of_ble_eq_true rfl) ?_
  intro A p e s m args below meth c C hr hlk hE
  have C : fd_C p m c cM_together 6 s args fd_T "FareDeskModel" D fd_cl (mo_tys cI) mo_wl A := C
  refine fd_pad 4 ?_
  refine fd_aload_n C dM_together_0 rfl ?_
  refine fd_aload_n C dM_together_1 rfl ?_
  refine fd_iload_n C dM_together_2 rfl ?_
  refine fd_callVi C hE [.int (fd_I ((n : Nat) : Int))] (k := 0) (i := 0) (mM_noBooking_0 l D cI ad M n hok.made hn) (cwV 1 C.1.2.2.2.2 (gM_noBooking fw3_141) rfl rfl rfl ⟨rfl, by decide, by decide, by decide +kernel⟩ ⟨by decide, by decide⟩) (mo_m (by decide)) rfl rfl rfl (Nat.le_of_ble_eq_true rfl) dM_together_3 ⟨by decide, by decide⟩ ?_
  refine fd_if_eq C (tgt := 13) dM_together_6 rfl ⟨by omega, by omega⟩ (fun h6t => ?_) (fun h6f => ?_)
  rotate_left
  · exfalso; omega
  refine fd_aload_n C dM_together_13 rfl ?_
  refine fd_iload_n C dM_together_14 rfl ?_
  refine fd_callVi C hE [.int (fd_I ((n : Nat) : Int))] (k := 0) (i := 0) (mM_hasAll_1 l D cI ad M n hn6 e3 e5 e6 hs) (cwV 1 C.1.2.2.2.2 (gM_hasAll fw3_169) rfl rfl rfl ⟨rfl, by decide, by decide, by decide +kernel⟩ ⟨by decide, by decide⟩) (mo_m (by decide)) rfl rfl rfl (Nat.le_of_ble_eq_true rfl) dM_together_15 ⟨by decide, by decide⟩ ?_
  refine fd_if_eq C (tgt := 25) dM_together_18 rfl ⟨by omega, by omega⟩ (fun h18t => ?_) (fun h18f => ?_)
  · exfalso; omega
  refine fd_iconst C dM_together_21 ?_
  refine fd_goto C (tgt := 50) dM_together_22 rfl ?_
  refine fd_put C (k := 0) (i := 0) (j := 0) (z := 2) (ty := .int) tyM (mo_m (by decide)) rfl rfl rfl (by decide) wsM tyM_ok nmM fw3_37 rfl (by decide +kernel) rfl rfl (Nat.le_of_ble_eq_true rfl) dM_together_50 ?_
  refine fd_aload_n C dM_together_53 rfl ?_
  refine fd_get C (k := 0) (i := 0) (j := 0) (v := .int (fd_I (2))) (mo_m (by decide)) rfl rfl (by decide) wsM fw3_37 (congrArg (fun z => some (Value.int (fd_I z))) (fd_u3_same M 0 0 0 (2))) dM_together_54 ?_
  refine fd_if_eq C (tgt := 62) dM_together_57 rfl ⟨by omega, by omega⟩ (fun h57t => ?_) (fun h57f => ?_)
  · exfalso; omega
  refine fd_iconst C dM_together_60 ?_
  exact fd_iret C hr hlk (by first | rfl | omega | (split <;> omega) | (simp; omega)) rfl dM_together_61
set_option maxRecDepth 20000 in
theorem mM_together_3 (l : Launch) (D : va_G) (cI : ClassId) (ad : Nat → Nat → Nat) (M : fd_Mem) (n : Nat) (hn : (n : Int) < M 0 0 7) (hok : mo_ok M) (hs : M 3 0 n = 2 ∧ M 9 0 n < M 5 0 n) (hf : mo_fr M (M 0 0 1).toNat < M 5 0 n - M 9 0 n) : mo_Mi l D cI ad yM_together wM_together ({ frames := 1, cells := 0, slots := 0, locals := 22 }) [.ref (ad 0 0), .int (fd_I ((n : Nat) : Int))] M (0) ((fd_u3 M 0 0 0 3)) := by
  have hm := hok.made
  have hn6 : n < 60 := by omega
  have e3 := hok.sta hn6
  have e4 := hok.far hn6
  have e5 := hok.pla hn6
  have e6 := hok.sea hn6
  have e8 := hok.pai hn6
  have e1 := hok.cnt
  refine fd_enterI (by decide) rfl mo_nd (by simp [Value.category]) (Nat.le_of_ble_eq_true rfl) ?_
  intro A p e s m args below meth c C hr hlk hE
  have C : fd_C p m c cM_together 6 s args fd_T "FareDeskModel" D fd_cl (mo_tys cI) mo_wl A := C
  refine fd_pad 4 ?_
  refine fd_aload_n C dM_together_0 rfl ?_
  refine fd_aload_n C dM_together_1 rfl ?_
  refine fd_iload_n C dM_together_2 rfl ?_
  refine fd_callVi C hE [.int (fd_I ((n : Nat) : Int))] (k := 0) (i := 0) (mM_noBooking_0 l D cI ad M n hok.made hn) (cwV 1 C.1.2.2.2.2 (gM_noBooking fw3_141) rfl rfl rfl ⟨rfl, by decide, by decide, by decide +kernel⟩ ⟨by decide, by decide⟩) (mo_m (by decide)) rfl rfl rfl (Nat.le_of_ble_eq_true rfl) dM_together_3 ⟨by decide, by decide⟩ ?_
  refine fd_if_eq C (tgt := 13) dM_together_6 rfl ⟨by omega, by omega⟩ (fun h6t => ?_) (fun h6f => ?_)
  rotate_left
  · exfalso; omega
  refine fd_aload_n C dM_together_13 rfl ?_
  refine fd_iload_n C dM_together_14 rfl ?_
  refine fd_callVi C hE [.int (fd_I ((n : Nat) : Int))] (k := 0) (i := 0) (mM_hasAll_0 l D cI ad M n hn6 e3 e5 e6 hs) (cwV 1 C.1.2.2.2.2 (gM_hasAll fw3_169) rfl rfl rfl ⟨rfl, by decide, by decide, by decide +kernel⟩ ⟨by decide, by decide⟩) (mo_m (by decide)) rfl rfl rfl (Nat.le_of_ble_eq_true rfl) dM_together_15 ⟨by decide, by decide⟩ ?_
  refine fd_if_eq C (tgt := 25) dM_together_18 rfl ⟨by omega, by omega⟩ (fun h18t => ?_) (fun h18f => ?_)
  rotate_left
  · exfalso; omega
  refine fd_aload_n C dM_together_25 rfl ?_
  refine fd_callVi C hE [] (k := 0) (i := 0) (mM_freeSeats l D cI ad M hok.cnt (fun _ hx => hok.own hx)) (cwV 0 C.1.2.2.2.2 (gM_freeSeats fw3_181) rfl rfl rfl ⟨rfl, by decide, by decide, by decide +kernel⟩ ⟨by decide, by decide⟩) (mo_m (by decide)) rfl rfl rfl (Nat.le_of_ble_eq_true rfl) dM_together_26 ⟨by decide, by decide⟩ ?_
  refine fd_aload_n C dM_together_29 rfl ?_
  refine fd_get C (k := 0) (i := 0) (j := 10) (v := .ref (ad 5 0)) (mo_m (by decide)) rfl rfl (by decide) wsM fw3_47 rfl dM_together_30 ?_
  refine fd_iload_n C dM_together_33 rfl ?_
  refine fd_iald C (k := 5) (i := 0) (x := n) (v := M 5 0 n) (mo_m (by decide)) (fun _ => rfl) (mo_tI cI) rfl (by omega) (by decide) rfl dM_together_34 ?_
  refine fd_aload_n C dM_together_35 rfl ?_
  refine fd_get C (k := 0) (i := 0) (j := 14) (v := .ref (ad 9 0)) (mo_m (by decide)) rfl rfl (by decide) wsM fw3_51 rfl dM_together_36 ?_
  refine fd_iload_n C dM_together_39 rfl ?_
  refine fd_iald C (k := 9) (i := 0) (x := n) (v := M 9 0 n) (mo_m (by decide)) (fun _ => rfl) (mo_tI cI) rfl (by omega) (by decide) rfl dM_together_40 ?_
  refine fd_isub C dM_together_41 ?_
  have e7 := mo_fr_bd M (M 0 0 1).toNat
  refine fd_icmp_ge C (tgt := 49) dM_together_42 rfl ⟨by omega, by omega⟩ ⟨by omega, by omega⟩ (fun h42t => ?_) (fun h42f => ?_)
  · skip
    exfalso; omega
  · skip
    refine fd_iconst C dM_together_45 ?_
    refine fd_goto C (tgt := 50) dM_together_46 rfl ?_
    refine fd_put C (k := 0) (i := 0) (j := 0) (z := 3) (ty := .int) tyM (mo_m (by decide)) rfl rfl rfl (by decide) wsM tyM_ok nmM fw3_37 rfl (by decide +kernel) rfl rfl (Nat.le_of_ble_eq_true rfl) dM_together_50 ?_
    refine fd_aload_n C dM_together_53 rfl ?_
    refine fd_get C (k := 0) (i := 0) (j := 0) (v := .int (fd_I (3))) (mo_m (by decide)) rfl rfl (by decide) wsM fw3_37 (congrArg (fun z => some (Value.int (fd_I z))) (fd_u3_same M 0 0 0 (3))) dM_together_54 ?_
    refine fd_if_eq C (tgt := 62) dM_together_57 rfl ⟨by omega, by omega⟩ (fun h57t => ?_) (fun h57f => ?_)
    · exfalso; omega
    refine fd_iconst C dM_together_60 ?_
    exact fd_iret C hr hlk (by first | rfl | omega | (split <;> omega) | (simp; omega)) rfl dM_together_61
set_option maxRecDepth 20000 in
theorem mM_together (l : Launch) (D : va_G) (cI : ClassId) (ad : Nat → Nat → Nat) (M : fd_Mem) (n : Nat) (hn : (n : Int) < M 0 0 7) (hok : mo_ok M) (hs : M 3 0 n = 2 ∧ M 9 0 n < M 5 0 n) (hf : M 5 0 n - M 9 0 n ≤ mo_fr M (M 0 0 1).toNat) : mo_Mi l D cI ad yM_together wM_together ({ frames := 2, cells := 0, slots := 0, locals := 50 }) [.ref (ad 0 0), .int (fd_I ((n : Nat) : Int))] M ((mo_tg (fd_u3 M 0 0 0 (0)) n) 10 0 (6 * (n : Int) + M 9 0 n).toNat) (mo_tg (fd_u3 M 0 0 0 (0)) n) := by
  have hm := hok.made
  have hn6 : n < 60 := by omega
  have e3 := hok.sta hn6
  have e4 := hok.far hn6
  have e5 := hok.pla hn6
  have e6 := hok.sea hn6
  have e8 := hok.pai hn6
  have e1 := hok.cnt
  have e0 : (fd_u3 M 0 0 0 (0)) 0 0 1 = M 0 0 1 := rfl
  refine fd_enterI (by decide) rfl mo_nd (by simp [Value.category]) (Nat.le_of_ble_eq_true rfl) ?_
  intro A p e s m args below meth c C hr hlk hE
  have C : fd_C p m c cM_together 6 s args fd_T "FareDeskModel" D fd_cl (mo_tys cI) mo_wl A := C
  refine fd_pad 4 ?_
  refine fd_aload_n C dM_together_0 rfl ?_
  refine fd_aload_n C dM_together_1 rfl ?_
  refine fd_iload_n C dM_together_2 rfl ?_
  refine fd_callVi C hE [.int (fd_I ((n : Nat) : Int))] (k := 0) (i := 0) (mM_noBooking_0 l D cI ad M n hok.made hn) (cwV 1 C.1.2.2.2.2 (gM_noBooking fw3_141) rfl rfl rfl ⟨rfl, by decide, by decide, by decide +kernel⟩ ⟨by decide, by decide⟩) (mo_m (by decide)) rfl rfl rfl (Nat.le_of_ble_eq_true rfl) dM_together_3 ⟨by decide, by decide⟩ ?_
  refine fd_if_eq C (tgt := 13) dM_together_6 rfl ⟨by omega, by omega⟩ (fun h6t => ?_) (fun h6f => ?_)
  rotate_left
  · exfalso; omega
  refine fd_aload_n C dM_together_13 rfl ?_
  refine fd_iload_n C dM_together_14 rfl ?_
  refine fd_callVi C hE [.int (fd_I ((n : Nat) : Int))] (k := 0) (i := 0) (mM_hasAll_0 l D cI ad M n hn6 e3 e5 e6 hs) (cwV 1 C.1.2.2.2.2 (gM_hasAll fw3_169) rfl rfl rfl ⟨rfl, by decide, by decide, by decide +kernel⟩ ⟨by decide, by decide⟩) (mo_m (by decide)) rfl rfl rfl (Nat.le_of_ble_eq_true rfl) dM_together_15 ⟨by decide, by decide⟩ ?_
  refine fd_if_eq C (tgt := 25) dM_together_18 rfl ⟨by omega, by omega⟩ (fun h18t => ?_) (fun h18f => ?_)
  rotate_left
  · exfalso; omega
  refine fd_aload_n C dM_together_25 rfl ?_
  refine fd_callVi C hE [] (k := 0) (i := 0) (mM_freeSeats l D cI ad M hok.cnt (fun _ hx => hok.own hx)) (cwV 0 C.1.2.2.2.2 (gM_freeSeats fw3_181) rfl rfl rfl ⟨rfl, by decide, by decide, by decide +kernel⟩ ⟨by decide, by decide⟩) (mo_m (by decide)) rfl rfl rfl (Nat.le_of_ble_eq_true rfl) dM_together_26 ⟨by decide, by decide⟩ ?_
  refine fd_aload_n C dM_together_29 rfl ?_
  refine fd_get C (k := 0) (i := 0) (j := 10) (v := .ref (ad 5 0)) (mo_m (by decide)) rfl rfl (by decide) wsM fw3_47 rfl dM_together_30 ?_
  refine fd_iload_n C dM_together_33 rfl ?_
  refine fd_iald C (k := 5) (i := 0) (x := n) (v := M 5 0 n) (mo_m (by decide)) (fun _ => rfl) (mo_tI cI) rfl (by omega) (by decide) rfl dM_together_34 ?_
  refine fd_aload_n C dM_together_35 rfl ?_
  refine fd_get C (k := 0) (i := 0) (j := 14) (v := .ref (ad 9 0)) (mo_m (by decide)) rfl rfl (by decide) wsM fw3_51 rfl dM_together_36 ?_
  refine fd_iload_n C dM_together_39 rfl ?_
  refine fd_iald C (k := 9) (i := 0) (x := n) (v := M 9 0 n) (mo_m (by decide)) (fun _ => rfl) (mo_tI cI) rfl (by omega) (by decide) rfl dM_together_40 ?_
  refine fd_isub C dM_together_41 ?_
  have e7 := mo_fr_bd M (M 0 0 1).toNat
  refine fd_icmp_ge C (tgt := 49) dM_together_42 rfl ⟨by omega, by omega⟩ ⟨by omega, by omega⟩ (fun h42t => ?_) (fun h42f => ?_)
  · skip
    refine fd_iconst C dM_together_49 ?_
    refine fd_put C (k := 0) (i := 0) (j := 0) (z := 0) (ty := .int) tyM (mo_m (by decide)) rfl rfl rfl (by decide) wsM tyM_ok nmM fw3_37 rfl (by decide +kernel) rfl rfl (Nat.le_of_ble_eq_true rfl) dM_together_50 ?_
    refine fd_aload_n C dM_together_53 rfl ?_
    refine fd_get C (k := 0) (i := 0) (j := 0) (v := .int (fd_I (0))) (mo_m (by decide)) rfl rfl (by decide) wsM fw3_37 (congrArg (fun z => some (Value.int (fd_I z))) (fd_u3_same M 0 0 0 (0))) dM_together_54 ?_
    refine fd_if_eq C (tgt := 62) dM_together_57 rfl ⟨by omega, by omega⟩ (fun h57t => ?_) (fun h57f => ?_)
    rotate_left
    · exfalso; omega
    refine fd_aload_n C dM_together_62 rfl ?_
    refine fd_get C (k := 0) (i := 0) (j := 14) (v := .ref (ad 9 0)) (mo_m (by decide)) rfl rfl (by decide) wsM fw3_51 rfl dM_together_63 ?_
    refine fd_iload_n C dM_together_66 rfl ?_
    refine fd_iald C (k := 9) (i := 0) (x := n) (v := M 9 0 n) (mo_m (by decide)) (fun _ => rfl) (mo_tI cI) rfl (by omega) (by decide) rfl dM_together_67 ?_
    refine fd_istore_n C dM_together_68 (by decide) ?_
    refine fd_aload_n C dM_together_69 rfl ?_
    refine fd_get C (k := 0) (i := 0) (j := 10) (v := .ref (ad 5 0)) (mo_m (by decide)) rfl rfl (by decide) wsM fw3_47 rfl dM_together_70 ?_
    refine fd_iload_n C dM_together_73 rfl ?_
    refine fd_iald C (k := 5) (i := 0) (x := n) (v := M 5 0 n) (mo_m (by decide)) (fun _ => rfl) (mo_tI cI) rfl (by omega) (by decide) rfl dM_together_74 ?_
    refine fd_iload_n C dM_together_75 rfl ?_
    refine fd_isub C dM_together_76 ?_
    refine fd_tp (b := (((M 5 0 n - M 9 0 n).toNat : Nat) : Int)) (Int.toNat_of_nonneg (by omega)).symm ?_
    refine fd_istore_n C dM_together_77 (by decide) ?_
    refine fd_aload_n C dM_together_78 rfl ?_
    refine fd_iload_n C dM_together_79 rfl ?_
    refine fd_iconst C dM_together_80 ?_
    refine fd_callVi C hE [.int (fd_I (((M 5 0 n - M 9 0 n).toNat : Nat) : Int)), .int (fd_I (1))] (k := 0) (i := 0) (mM_findRun_3 l D cI ad (fd_u3 M 0 0 0 (0)) (M 5 0 n - M 9 0 n).toNat (by omega) hok.cnt (fun _ hx => hok.own hx)) (cwV 2 C.1.2.2.2.2 (gM_findRun fw3_185) rfl rfl rfl ⟨rfl, by decide, by decide, by decide +kernel⟩ ⟨by decide, by decide⟩) (mo_m (by decide)) rfl rfl rfl (Nat.le_of_ble_eq_true rfl) dM_together_81 ⟨by decide, by decide⟩ ?_
    have b3 := mo_fd_bd (fd_u3 M 0 0 0 (0)) 3 (M 5 0 n - M 9 0 n).toNat ((fd_u3 M 0 0 0 (0)) 0 0 1).toNat 0
    refine fd_istore C dM_together_84 (by decide) ?_
    refine fd_iload C dM_together_86 rfl ?_
    refine fd_if_ge C (tgt := 100) dM_together_88 rfl ⟨by omega, by omega⟩ (fun h88t => ?_) (fun h88f => ?_)
    · skip
      refine fd_iload C dM_together_100 rfl ?_
      refine fd_istore C dM_together_102 (by decide) ?_
      refine fd_iload C dM_together_104 rfl ?_
      refine fd_if_ge C (tgt := 118) dM_together_106 rfl ⟨by omega, by omega⟩ (fun h106t => ?_) (fun h106f => ?_)
      · skip
        refine fd_iload C dM_together_118 rfl ?_
        obtain ⟨S9, hS9⟩ : ∃ S9 : Nat, (S9 : Int) = mo_fd (fd_u3 M 0 0 0 (0)) 3 (M 5 0 n - M 9 0 n).toNat ((fd_u3 M 0 0 0 (0)) 0 0 1).toNat 0 := ⟨(mo_fd (fd_u3 M 0 0 0 (0)) 3 (M 5 0 n - M 9 0 n).toNat ((fd_u3 M 0 0 0 (0)) 0 0 1).toNat 0).toNat, by omega⟩
        have hst : mo_st (fd_u3 M 0 0 0 (0)) (M 5 0 n - M 9 0 n).toNat = (S9 : Int) := by
          unfold mo_st
          first | (rw [if_neg (by omega)]; omega) | (rw [if_pos (by omega)]; omega)
        have hl9 : ((S9 + (M 5 0 n - M 9 0 n).toNat : Nat) : Int) - 1 < M 0 0 1 := by
          rcases b3 with q | q
          · exfalso; omega
          · have q2 := q.2
            rw [← hS9, Int.toNat_natCast] at q2
            exact mo_ir_lt (P := (fd_u3 M 0 0 0 (0))) q2
        refine fd_tp (b := ((S9 : Nat) : Int)) hS9.symm ?_
        refine fd_istore C dM_together_120 (by decide) ?_
        have hloop122 : ∀ (dd122 : Nat) (sq : Nat) (P : fd_Mem), dd122 = S9 + (M 5 0 n - M 9 0 n).toNat - sq → (S9 ≤ sq) → (sq ≤ S9 + (M 5 0 n - M 9 0 n).toNat) → (P 9 0 n = M 9 0 n + ((sq : Int) - S9)) → (mo_gr n (S9 + (M 5 0 n - M 9 0 n).toNat - sq) sq P = mo_gr n (M 5 0 n - M 9 0 n).toNat S9 (fd_u3 M 0 0 0 (0))) → fd_J p l e ({ frames := 2, cells := 0, slots := 0, locals := 50 }) s m args below meth c D fd_cl A ad (mo_en cI ad) mo_wl 6 0 0 (MQ below (fd_QI D fd_cl (mo_tys cI) ad (mo_en cI ad) mo_wl A ((mo_tg (fd_u3 M 0 0 0 (0)) n) 10 0 (6 * (n : Int) + M 9 0 n).toNat) (mo_tg (fd_u3 M 0 0 0 (0)) n)) args s 0 0 A) P 122 [some (.ref (ad 0 0)), some (.int (fd_I ((n : Nat) : Int))), some (.int (fd_I (M 9 0 n))), some (.int (fd_I (((M 5 0 n - M 9 0 n).toNat : Nat) : Int))), some (.int (fd_I (mo_fd (fd_u3 M 0 0 0 (0)) 3 (M 5 0 n - M 9 0 n).toNat ((fd_u3 M 0 0 0 (0)) 0 0 1).toNat 0))), some (.int (fd_I ((sq : Nat) : Int)))] [] := by
          intro dd122
          induction dd122 using Nat.strongRecOn with
          | ind dd122 ih122 =>
            intro sq P hdd122 hs1 hs2 h9P hN
            refine fd_iload C dM_together_122 rfl ?_
            refine fd_iload C dM_together_124 rfl ?_
            refine fd_iload_n C dM_together_126 rfl ?_
            refine fd_iadd C dM_together_127 ?_
            refine fd_icmp_ge C (tgt := 144) dM_together_128 rfl ⟨by omega, by omega⟩ ⟨by omega, by omega⟩ (fun h128t => ?_) (fun h128f => ?_)
            · skip
              have hT9 : P = mo_tg (fd_u3 M 0 0 0 (0)) n := by
                rw [show S9 + (M 5 0 n - M 9 0 n).toNat - sq = 0 by omega] at hN
                show P = if mo_st (fd_u3 M 0 0 0 (0)) (M 5 0 n - M 9 0 n).toNat < 0 then mo_gf n ((fd_u3 M 0 0 0 (0)) 0 0 1).toNat 0 (M 5 0 n - M 9 0 n) (fd_u3 M 0 0 0 (0)) else mo_gr n (M 5 0 n - M 9 0 n).toNat (mo_st (fd_u3 M 0 0 0 (0)) (M 5 0 n - M 9 0 n).toNat).toNat (fd_u3 M 0 0 0 (0))
                rw [if_neg (by omega), hst, Int.toNat_natCast]
                exact hN
              refine fd_aload_n C dM_together_144 rfl ?_
              refine fd_get C (k := 0) (i := 0) (j := 15) (v := .ref (ad 10 0)) (mo_m (by decide)) rfl rfl (by decide) wsM fw3_52 rfl dM_together_145 ?_
              refine fd_bipush C dM_together_148 (by decide) ?_
              refine fd_iload_n C dM_together_150 rfl ?_
              refine fd_imul C dM_together_151 ?_
              refine fd_iload_n C dM_together_152 rfl ?_
              refine fd_iadd C dM_together_153 ?_
              refine fd_iald C (k := 10) (i := 0) (x := ((6 * (((n : Nat) : Int))) + (M 9 0 n)).toNat) (v := P 10 0 (((6 * (((n : Nat) : Int))) + (M 9 0 n)).toNat)) (mo_m (by decide)) (fun _ => rfl) (mo_tI cI) (Int.toNat_of_nonneg (by omega)).symm (by omega) (by decide) rfl dM_together_154 ?_
              exact fd_iret C hr hlk (by rw [hT9]) hT9 dM_together_155
            · skip
              refine fd_aload_n C dM_together_131 rfl ?_
              refine fd_iload_n C dM_together_132 rfl ?_
              refine fd_iload C dM_together_133 rfl ?_
              refine fd_callVv C hE [.int (fd_I ((n : Nat) : Int)), .int (fd_I ((sq : Nat) : Int))] (k := 0) (i := 0) (mM_give l D cI ad P n hn6 sq (by omega) (by omega)) (cwV 2 C.1.2.2.2.2 (gM_give fw3_173) rfl rfl rfl ⟨rfl, by decide, by decide, by decide +kernel⟩ ⟨by decide, by decide⟩) (mo_m (by decide)) rfl rfl rfl (Nat.le_of_ble_eq_true rfl) dM_together_135 ⟨by decide, by decide⟩ ?_
              refine fd_iinc C dM_together_138 rfl (by decide) ?_
              refine fd_goto C (tgt := 122) dM_together_141 rfl ?_
              rw [show S9 + (M 5 0 n - M 9 0 n).toNat - sq = (S9 + (M 5 0 n - M 9 0 n).toNat - (sq + 1)) + 1 by omega, mo_gr_s] at hN
              exact ih122 (S9 + (M 5 0 n - M 9 0 n).toNat - (sq + 1)) (by omega) (sq + 1) (mo_gv P n sq) rfl (by omega) (by omega) (by rw [mo_gv_9]; omega) hN
        exact hloop122 _ S9 (fd_u3 M 0 0 0 (0)) rfl (by omega) (by omega) (show M 9 0 n = M 9 0 n + ((S9 : Int) - S9) by omega) (by rw [show S9 + (M 5 0 n - M 9 0 n).toNat - S9 = (M 5 0 n - M 9 0 n).toNat by omega])
      · skip
        refine fd_aload_n C dM_together_109 rfl ?_
        refine fd_iload_n C dM_together_110 rfl ?_
        refine fd_iload_n C dM_together_111 rfl ?_
        refine fd_callVv C hE [.int (fd_I ((n : Nat) : Int)), .int (fd_I (((M 5 0 n - M 9 0 n).toNat : Nat) : Int))] (k := 0) (i := 0) (mM_giveFirst l D cI ad (fd_u3 M 0 0 0 (0)) n hn6 (((M 5 0 n - M 9 0 n).toNat : Nat) : Int) hok.cnt ⟨rfl, (by show 0 ≤ (((M 5 0 n - M 9 0 n).toNat : Nat) : Int) ∧ 0 ≤ M 9 0 n ∧ M 9 0 n + (((M 5 0 n - M 9 0 n).toNat : Nat) : Int) ≤ 6; omega), (fun _ hx => hok.own hx)⟩) (cwV 2 C.1.2.2.2.2 (gM_giveFirst fw3_193) rfl rfl rfl ⟨rfl, by decide, by decide, by decide +kernel⟩ ⟨by decide, by decide⟩) (mo_m (by decide)) rfl rfl rfl (Nat.le_of_ble_eq_true rfl) dM_together_112 ⟨by decide, by decide⟩ ?_
        refine fd_goto C (tgt := 144) dM_together_115 rfl ?_
        have hT9 : (mo_gf n ((fd_u3 M 0 0 0 (0)) 0 0 1).toNat 0 (((M 5 0 n - M 9 0 n).toNat : Nat) : Int) (fd_u3 M 0 0 0 (0))) = mo_tg (fd_u3 M 0 0 0 (0)) n := by
          have hst : mo_st (fd_u3 M 0 0 0 (0)) (M 5 0 n - M 9 0 n).toNat < 0 := by
            unfold mo_st
            rw [if_pos (by omega)]
            omega
          show _ = if mo_st (fd_u3 M 0 0 0 (0)) (M 5 0 n - M 9 0 n).toNat < 0 then mo_gf n ((fd_u3 M 0 0 0 (0)) 0 0 1).toNat 0 (M 5 0 n - M 9 0 n) (fd_u3 M 0 0 0 (0)) else mo_gr n (M 5 0 n - M 9 0 n).toNat (mo_st (fd_u3 M 0 0 0 (0)) (M 5 0 n - M 9 0 n).toNat).toNat (fd_u3 M 0 0 0 (0))
          rw [if_pos hst, ← show (M 5 0 n - M 9 0 n) = (((M 5 0 n - M 9 0 n).toNat : Nat) : Int) from (Int.toNat_of_nonneg (by omega)).symm]
        refine fd_aload_n C dM_together_144 rfl ?_
        refine fd_get C (k := 0) (i := 0) (j := 15) (v := .ref (ad 10 0)) (mo_m (by decide)) rfl rfl (by decide) wsM fw3_52 rfl dM_together_145 ?_
        refine fd_bipush C dM_together_148 (by decide) ?_
        refine fd_iload_n C dM_together_150 rfl ?_
        refine fd_imul C dM_together_151 ?_
        refine fd_iload_n C dM_together_152 rfl ?_
        refine fd_iadd C dM_together_153 ?_
        refine fd_iald C (k := 10) (i := 0) (x := ((6 * (((n : Nat) : Int))) + (M 9 0 n)).toNat) (v := (mo_gf n ((fd_u3 M 0 0 0 (0)) 0 0 1).toNat 0 (((M 5 0 n - M 9 0 n).toNat : Nat) : Int) (fd_u3 M 0 0 0 (0))) 10 0 (((6 * (((n : Nat) : Int))) + (M 9 0 n)).toNat)) (mo_m (by decide)) (fun _ => rfl) (mo_tI cI) (Int.toNat_of_nonneg (by omega)).symm (by omega) (by decide) rfl dM_together_154 ?_
        exact fd_iret C hr hlk (by rw [hT9]) hT9 dM_together_155
    · skip
      refine fd_aload_n C dM_together_91 rfl ?_
      refine fd_iload_n C dM_together_92 rfl ?_
      refine fd_iconst C dM_together_93 ?_
      refine fd_callVi C hE [.int (fd_I (((M 5 0 n - M 9 0 n).toNat : Nat) : Int)), .int (fd_I (0))] (k := 0) (i := 0) (mM_findRun_6 l D cI ad (fd_u3 M 0 0 0 (0)) (M 5 0 n - M 9 0 n).toNat (by omega) hok.cnt (fun _ hx => hok.own hx)) (cwV 2 C.1.2.2.2.2 (gM_findRun fw3_185) rfl rfl rfl ⟨rfl, by decide, by decide, by decide +kernel⟩ ⟨by decide, by decide⟩) (mo_m (by decide)) rfl rfl rfl (Nat.le_of_ble_eq_true rfl) dM_together_94 ⟨by decide, by decide⟩ ?_
      have b6 := mo_fd_bd (fd_u3 M 0 0 0 (0)) 6 (M 5 0 n - M 9 0 n).toNat ((fd_u3 M 0 0 0 (0)) 0 0 1).toNat 0
      refine fd_goto C (tgt := 102) dM_together_97 rfl ?_
      refine fd_istore C dM_together_102 (by decide) ?_
      refine fd_iload C dM_together_104 rfl ?_
      refine fd_if_ge C (tgt := 118) dM_together_106 rfl ⟨by omega, by omega⟩ (fun h106t => ?_) (fun h106f => ?_)
      · skip
        refine fd_iload C dM_together_118 rfl ?_
        obtain ⟨S9, hS9⟩ : ∃ S9 : Nat, (S9 : Int) = mo_fd (fd_u3 M 0 0 0 (0)) 6 (M 5 0 n - M 9 0 n).toNat ((fd_u3 M 0 0 0 (0)) 0 0 1).toNat 0 := ⟨(mo_fd (fd_u3 M 0 0 0 (0)) 6 (M 5 0 n - M 9 0 n).toNat ((fd_u3 M 0 0 0 (0)) 0 0 1).toNat 0).toNat, by omega⟩
        have hst : mo_st (fd_u3 M 0 0 0 (0)) (M 5 0 n - M 9 0 n).toNat = (S9 : Int) := by
          unfold mo_st
          first | (rw [if_neg (by omega)]; omega) | (rw [if_pos (by omega)]; omega)
        have hl9 : ((S9 + (M 5 0 n - M 9 0 n).toNat : Nat) : Int) - 1 < M 0 0 1 := by
          rcases b6 with q | q
          · exfalso; omega
          · have q2 := q.2
            rw [← hS9, Int.toNat_natCast] at q2
            exact mo_ir_lt (P := (fd_u3 M 0 0 0 (0))) q2
        refine fd_tp (b := ((S9 : Nat) : Int)) hS9.symm ?_
        refine fd_istore C dM_together_120 (by decide) ?_
        have hloop122 : ∀ (dd122 : Nat) (sq : Nat) (P : fd_Mem), dd122 = S9 + (M 5 0 n - M 9 0 n).toNat - sq → (S9 ≤ sq) → (sq ≤ S9 + (M 5 0 n - M 9 0 n).toNat) → (P 9 0 n = M 9 0 n + ((sq : Int) - S9)) → (mo_gr n (S9 + (M 5 0 n - M 9 0 n).toNat - sq) sq P = mo_gr n (M 5 0 n - M 9 0 n).toNat S9 (fd_u3 M 0 0 0 (0))) → fd_J p l e ({ frames := 2, cells := 0, slots := 0, locals := 50 }) s m args below meth c D fd_cl A ad (mo_en cI ad) mo_wl 6 0 0 (MQ below (fd_QI D fd_cl (mo_tys cI) ad (mo_en cI ad) mo_wl A ((mo_tg (fd_u3 M 0 0 0 (0)) n) 10 0 (6 * (n : Int) + M 9 0 n).toNat) (mo_tg (fd_u3 M 0 0 0 (0)) n)) args s 0 0 A) P 122 [some (.ref (ad 0 0)), some (.int (fd_I ((n : Nat) : Int))), some (.int (fd_I (M 9 0 n))), some (.int (fd_I (((M 5 0 n - M 9 0 n).toNat : Nat) : Int))), some (.int (fd_I (mo_fd (fd_u3 M 0 0 0 (0)) 6 (M 5 0 n - M 9 0 n).toNat ((fd_u3 M 0 0 0 (0)) 0 0 1).toNat 0))), some (.int (fd_I ((sq : Nat) : Int)))] [] := by
          intro dd122
          induction dd122 using Nat.strongRecOn with
          | ind dd122 ih122 =>
            intro sq P hdd122 hs1 hs2 h9P hN
            refine fd_iload C dM_together_122 rfl ?_
            refine fd_iload C dM_together_124 rfl ?_
            refine fd_iload_n C dM_together_126 rfl ?_
            refine fd_iadd C dM_together_127 ?_
            refine fd_icmp_ge C (tgt := 144) dM_together_128 rfl ⟨by omega, by omega⟩ ⟨by omega, by omega⟩ (fun h128t => ?_) (fun h128f => ?_)
            · skip
              have hT9 : P = mo_tg (fd_u3 M 0 0 0 (0)) n := by
                rw [show S9 + (M 5 0 n - M 9 0 n).toNat - sq = 0 by omega] at hN
                show P = if mo_st (fd_u3 M 0 0 0 (0)) (M 5 0 n - M 9 0 n).toNat < 0 then mo_gf n ((fd_u3 M 0 0 0 (0)) 0 0 1).toNat 0 (M 5 0 n - M 9 0 n) (fd_u3 M 0 0 0 (0)) else mo_gr n (M 5 0 n - M 9 0 n).toNat (mo_st (fd_u3 M 0 0 0 (0)) (M 5 0 n - M 9 0 n).toNat).toNat (fd_u3 M 0 0 0 (0))
                rw [if_neg (by omega), hst, Int.toNat_natCast]
                exact hN
              refine fd_aload_n C dM_together_144 rfl ?_
              refine fd_get C (k := 0) (i := 0) (j := 15) (v := .ref (ad 10 0)) (mo_m (by decide)) rfl rfl (by decide) wsM fw3_52 rfl dM_together_145 ?_
              refine fd_bipush C dM_together_148 (by decide) ?_
              refine fd_iload_n C dM_together_150 rfl ?_
              refine fd_imul C dM_together_151 ?_
              refine fd_iload_n C dM_together_152 rfl ?_
              refine fd_iadd C dM_together_153 ?_
              refine fd_iald C (k := 10) (i := 0) (x := ((6 * (((n : Nat) : Int))) + (M 9 0 n)).toNat) (v := P 10 0 (((6 * (((n : Nat) : Int))) + (M 9 0 n)).toNat)) (mo_m (by decide)) (fun _ => rfl) (mo_tI cI) (Int.toNat_of_nonneg (by omega)).symm (by omega) (by decide) rfl dM_together_154 ?_
              exact fd_iret C hr hlk (by rw [hT9]) hT9 dM_together_155
            · skip
              refine fd_aload_n C dM_together_131 rfl ?_
              refine fd_iload_n C dM_together_132 rfl ?_
              refine fd_iload C dM_together_133 rfl ?_
              refine fd_callVv C hE [.int (fd_I ((n : Nat) : Int)), .int (fd_I ((sq : Nat) : Int))] (k := 0) (i := 0) (mM_give l D cI ad P n hn6 sq (by omega) (by omega)) (cwV 2 C.1.2.2.2.2 (gM_give fw3_173) rfl rfl rfl ⟨rfl, by decide, by decide, by decide +kernel⟩ ⟨by decide, by decide⟩) (mo_m (by decide)) rfl rfl rfl (Nat.le_of_ble_eq_true rfl) dM_together_135 ⟨by decide, by decide⟩ ?_
              refine fd_iinc C dM_together_138 rfl (by decide) ?_
              refine fd_goto C (tgt := 122) dM_together_141 rfl ?_
              rw [show S9 + (M 5 0 n - M 9 0 n).toNat - sq = (S9 + (M 5 0 n - M 9 0 n).toNat - (sq + 1)) + 1 by omega, mo_gr_s] at hN
              exact ih122 (S9 + (M 5 0 n - M 9 0 n).toNat - (sq + 1)) (by omega) (sq + 1) (mo_gv P n sq) rfl (by omega) (by omega) (by rw [mo_gv_9]; omega) hN
        exact hloop122 _ S9 (fd_u3 M 0 0 0 (0)) rfl (by omega) (by omega) (show M 9 0 n = M 9 0 n + ((S9 : Int) - S9) by omega) (by rw [show S9 + (M 5 0 n - M 9 0 n).toNat - S9 = (M 5 0 n - M 9 0 n).toNat by omega])
      · skip
        refine fd_aload_n C dM_together_109 rfl ?_
        refine fd_iload_n C dM_together_110 rfl ?_
        refine fd_iload_n C dM_together_111 rfl ?_
        refine fd_callVv C hE [.int (fd_I ((n : Nat) : Int)), .int (fd_I (((M 5 0 n - M 9 0 n).toNat : Nat) : Int))] (k := 0) (i := 0) (mM_giveFirst l D cI ad (fd_u3 M 0 0 0 (0)) n hn6 (((M 5 0 n - M 9 0 n).toNat : Nat) : Int) hok.cnt ⟨rfl, (by show 0 ≤ (((M 5 0 n - M 9 0 n).toNat : Nat) : Int) ∧ 0 ≤ M 9 0 n ∧ M 9 0 n + (((M 5 0 n - M 9 0 n).toNat : Nat) : Int) ≤ 6; omega), (fun _ hx => hok.own hx)⟩) (cwV 2 C.1.2.2.2.2 (gM_giveFirst fw3_193) rfl rfl rfl ⟨rfl, by decide, by decide, by decide +kernel⟩ ⟨by decide, by decide⟩) (mo_m (by decide)) rfl rfl rfl (Nat.le_of_ble_eq_true rfl) dM_together_112 ⟨by decide, by decide⟩ ?_
        refine fd_goto C (tgt := 144) dM_together_115 rfl ?_
        have hT9 : (mo_gf n ((fd_u3 M 0 0 0 (0)) 0 0 1).toNat 0 (((M 5 0 n - M 9 0 n).toNat : Nat) : Int) (fd_u3 M 0 0 0 (0))) = mo_tg (fd_u3 M 0 0 0 (0)) n := by
          have hst : mo_st (fd_u3 M 0 0 0 (0)) (M 5 0 n - M 9 0 n).toNat < 0 := by
            unfold mo_st
            rw [if_pos (by omega)]
            omega
          show _ = if mo_st (fd_u3 M 0 0 0 (0)) (M 5 0 n - M 9 0 n).toNat < 0 then mo_gf n ((fd_u3 M 0 0 0 (0)) 0 0 1).toNat 0 (M 5 0 n - M 9 0 n) (fd_u3 M 0 0 0 (0)) else mo_gr n (M 5 0 n - M 9 0 n).toNat (mo_st (fd_u3 M 0 0 0 (0)) (M 5 0 n - M 9 0 n).toNat).toNat (fd_u3 M 0 0 0 (0))
          rw [if_pos hst, ← show (M 5 0 n - M 9 0 n) = (((M 5 0 n - M 9 0 n).toNat : Nat) : Int) from (Int.toNat_of_nonneg (by omega)).symm]
        refine fd_aload_n C dM_together_144 rfl ?_
        refine fd_get C (k := 0) (i := 0) (j := 15) (v := .ref (ad 10 0)) (mo_m (by decide)) rfl rfl (by decide) wsM fw3_52 rfl dM_together_145 ?_
        refine fd_bipush C dM_together_148 (by decide) ?_
        refine fd_iload_n C dM_together_150 rfl ?_
        refine fd_imul C dM_together_151 ?_
        refine fd_iload_n C dM_together_152 rfl ?_
        refine fd_iadd C dM_together_153 ?_
        refine fd_iald C (k := 10) (i := 0) (x := ((6 * (((n : Nat) : Int))) + (M 9 0 n)).toNat) (v := (mo_gf n ((fd_u3 M 0 0 0 (0)) 0 0 1).toNat 0 (((M 5 0 n - M 9 0 n).toNat : Nat) : Int) (fd_u3 M 0 0 0 (0))) 10 0 (((6 * (((n : Nat) : Int))) + (M 9 0 n)).toNat)) (mo_m (by decide)) (fun _ => rfl) (mo_tI cI) (Int.toNat_of_nonneg (by omega)).symm (by omega) (by decide) rfl dM_together_154 ?_
        exact fd_iret C hr hlk (by rw [hT9]) hT9 dM_together_155
  · skip
    exfalso; omega
set_option maxRecDepth 20000 in
theorem mM_tick_1 (l : Launch) (D : va_G) (cI : ClassId) (ad : Nat → Nat → Nat) (M : fd_Mem) (x : Int) (hx : -2147483648 ≤ x ∧ x < 2147483648) (hb : x < 1 ∨ 100 < x) : mo_Mv l D cI ad yM_tick wM_tick ({ frames := 0, cells := 0, slots := 0, locals := 0 }) [.ref (ad 0 0), .int (fd_I (x))] M ((fd_u3 M 0 0 0 1)) := by
  refine fd_enterV (by decide) rfl mo_nd (by simp [Value.category]) (Nat.le_of_ble_eq_true rfl) ?_
  intro A p e s m args below meth c C hr hlk hE
  have C : fd_C p m c cM_tick 5 s args fd_T "FareDeskModel" D fd_cl (mo_tys cI) mo_wl A := C
  refine fd_pad 3 ?_
  refine fd_aload_n C dM_tick_0 rfl ?_
  refine fd_iload_n C dM_tick_1 rfl ?_
  refine fd_iconst C dM_tick_2 ?_
  refine fd_icmp_lt C (tgt := 12) dM_tick_3 rfl ⟨by omega, by omega⟩ ⟨by omega, by omega⟩ (fun h3t => ?_) (fun h3f => ?_)
  · skip
    refine fd_iconst C dM_tick_12 ?_
    refine fd_goto C (tgt := 17) dM_tick_13 rfl ?_
    refine fd_put C (k := 0) (i := 0) (j := 0) (z := 1) (ty := .int) tyM (mo_m (by decide)) rfl rfl rfl (by decide) wsM tyM_ok nmM fw3_37 rfl (by decide +kernel) rfl rfl (Nat.le_of_ble_eq_true rfl) dM_tick_17 ?_
    refine fd_iconst C dM_tick_20 ?_
    refine fd_istore_n C dM_tick_21 (by decide) ?_
    refine fd_iload_n C dM_tick_22 rfl ?_
    refine fd_iload_n C dM_tick_23 rfl ?_
    refine fd_icmp_ge C (tgt := 113) dM_tick_24 rfl ⟨by omega, by omega⟩ ⟨by omega, by omega⟩ (fun h24t => ?_) (fun h24f => ?_)
    · skip
      exact fd_vret C hr hlk rfl dM_tick_113
    · skip
      refine fd_aload_n C dM_tick_27 rfl ?_
      refine fd_get C (k := 0) (i := 0) (j := 0) (v := .int (fd_I (1))) (mo_m (by decide)) rfl rfl (by decide) wsM fw3_37 (congrArg (fun z => some (Value.int (fd_I z))) (fd_u3_same M 0 0 0 (1))) dM_tick_28 ?_
      refine fd_if_ne C (tgt := 113) dM_tick_31 rfl ⟨by omega, by omega⟩ (fun h31t => ?_) (fun h31f => ?_)
      rotate_left
      · exfalso; omega
      exact fd_vret C hr hlk rfl dM_tick_113
  · skip
    refine fd_iload_n C dM_tick_6 rfl ?_
    refine fd_bipush C dM_tick_7 (by decide) ?_
    refine fd_icmp_le C (tgt := 16) dM_tick_9 rfl ⟨by omega, by omega⟩ ⟨by omega, by omega⟩ (fun h9t => ?_) (fun h9f => ?_)
    · skip
      exfalso; omega
    · skip
      refine fd_iconst C dM_tick_12 ?_
      refine fd_goto C (tgt := 17) dM_tick_13 rfl ?_
      refine fd_put C (k := 0) (i := 0) (j := 0) (z := 1) (ty := .int) tyM (mo_m (by decide)) rfl rfl rfl (by decide) wsM tyM_ok nmM fw3_37 rfl (by decide +kernel) rfl rfl (Nat.le_of_ble_eq_true rfl) dM_tick_17 ?_
      refine fd_iconst C dM_tick_20 ?_
      refine fd_istore_n C dM_tick_21 (by decide) ?_
      refine fd_iload_n C dM_tick_22 rfl ?_
      refine fd_iload_n C dM_tick_23 rfl ?_
      refine fd_icmp_ge C (tgt := 113) dM_tick_24 rfl ⟨by omega, by omega⟩ ⟨by omega, by omega⟩ (fun h24t => ?_) (fun h24f => ?_)
      · skip
        exact fd_vret C hr hlk rfl dM_tick_113
      · skip
        refine fd_aload_n C dM_tick_27 rfl ?_
        refine fd_get C (k := 0) (i := 0) (j := 0) (v := .int (fd_I (1))) (mo_m (by decide)) rfl rfl (by decide) wsM fw3_37 (congrArg (fun z => some (Value.int (fd_I z))) (fd_u3_same M 0 0 0 (1))) dM_tick_28 ?_
        refine fd_if_ne C (tgt := 113) dM_tick_31 rfl ⟨by omega, by omega⟩ (fun h31t => ?_) (fun h31f => ?_)
        rotate_left
        · exfalso; omega
        exact fd_vret C hr hlk rfl dM_tick_113
set_option maxRecDepth 20000 in
theorem mM_tick (l : Launch) (D : va_G) (cI : ClassId) (ad : Nat → Nat → Nat) (M : fd_Mem) (x : Nat) (hx : 1 ≤ x ∧ x ≤ 100) (Sx : Nat → fd_Mem) (h0 : Sx 0 = (fd_u3 M 0 0 0 0)) (hS : ∀ k, k < x → mo_stp (Sx k) (Sx (k + 1))) : mo_Mv l D cI ad yM_tick wM_tick ({ frames := 3, cells := 0, slots := 0, locals := 69 }) [.ref (ad 0 0), .int (fd_I ((x : Nat) : Int))] M (Sx x) := by
  refine fd_enterV (by decide) rfl mo_nd (by simp [Value.category]) (Nat.le_of_ble_eq_true rfl) ?_
  intro A p e s m args below meth c C hr hlk hE
  have C : fd_C p m c cM_tick 5 s args fd_T "FareDeskModel" D fd_cl (mo_tys cI) mo_wl A := C
  refine fd_pad 3 ?_
  refine fd_aload_n C dM_tick_0 rfl ?_
  refine fd_iload_n C dM_tick_1 rfl ?_
  refine fd_iconst C dM_tick_2 ?_
  refine fd_icmp_lt C (tgt := 12) dM_tick_3 rfl ⟨by omega, by omega⟩ ⟨by omega, by omega⟩ (fun h3t => ?_) (fun h3f => ?_)
  · skip
    exfalso; omega
  · skip
    refine fd_iload_n C dM_tick_6 rfl ?_
    refine fd_bipush C dM_tick_7 (by decide) ?_
    refine fd_icmp_le C (tgt := 16) dM_tick_9 rfl ⟨by omega, by omega⟩ ⟨by omega, by omega⟩ (fun h9t => ?_) (fun h9f => ?_)
    · skip
      refine fd_iconst C dM_tick_16 ?_
      refine fd_put C (k := 0) (i := 0) (j := 0) (z := 0) (ty := .int) tyM (mo_m (by decide)) rfl rfl rfl (by decide) wsM tyM_ok nmM fw3_37 rfl (by decide +kernel) rfl rfl (Nat.le_of_ble_eq_true rfl) dM_tick_17 ?_
      refine fd_iconst C dM_tick_20 ?_
      refine fd_istore_n C dM_tick_21 (by decide) ?_
      have hloop22 : ∀ (dd22 : Nat) (k : Nat), dd22 = x - k → (k ≤ x) → fd_J p l e ({ frames := 3, cells := 0, slots := 0, locals := 69 }) s m args below meth c D fd_cl A ad (mo_en cI ad) mo_wl 5 0 0 (MQ below (fd_QV D fd_cl (mo_tys cI) ad (mo_en cI ad) mo_wl A (Sx x)) args s 0 0 A) (Sx k) 22 [some (.ref (ad 0 0)), some (.int (fd_I ((x : Nat) : Int))), some (.int (fd_I ((k : Nat) : Int))), none, none] [] := by
        intro dd22
        induction dd22 using Nat.strongRecOn with
        | ind dd22 ih22 =>
          intro k hdd22 hk
          refine fd_iload_n C dM_tick_22 rfl ?_
          refine fd_iload_n C dM_tick_23 rfl ?_
          refine fd_icmp_ge C (tgt := 113) dM_tick_24 rfl ⟨by omega, by omega⟩ ⟨by omega, by omega⟩ (fun h24t => ?_) (fun h24f => ?_)
          · skip
            exact fd_vret C hr hlk (by rw [show k = x by omega]) dM_tick_113
          · skip
            have tk := hS k (by omega)
            have e0 := tk.2.1
            have okq := tk.1
            have e7 : 0 ≤ Sx k 0 0 7 ∧ Sx k 0 0 7 ≤ 60 := okq.made
            refine fd_aload_n C dM_tick_27 rfl ?_
            refine fd_get C (k := 0) (i := 0) (j := 0) (v := .int (fd_I ((Sx k) 0 0 0))) (mo_m (by decide)) rfl rfl (by decide) wsM fw3_37 rfl dM_tick_28 ?_
            refine fd_if_ne C (tgt := 113) dM_tick_31 rfl ⟨by omega, by omega⟩ (fun h31t => ?_) (fun h31f => ?_)
            · skip
              exact fd_vret C hr hlk (by rw [show k = x by omega]) dM_tick_113
            · skip
              refine fd_aload_n C dM_tick_34 rfl ?_
              refine fd_dup C dM_tick_35 rfl ?_
              refine fd_get C (k := 0) (i := 0) (j := 2) (v := .int (fd_I ((Sx k) 0 0 2))) (mo_m (by decide)) rfl rfl (by decide) wsM fw3_39 rfl dM_tick_36 ?_
              refine fd_iconst C dM_tick_39 ?_
              refine fd_iadd C dM_tick_40 ?_
              refine fd_put C (k := 0) (i := 0) (j := 2) (z := (((Sx k) 0 0 2) + 1)) (ty := .int) tyM (mo_m (by decide)) rfl rfl rfl (by decide) wsM tyM_ok nmM fw3_39 rfl (by decide +kernel) rfl rfl (Nat.le_of_ble_eq_true rfl) dM_tick_41 ?_
              refine fd_iconst C dM_tick_44 ?_
              refine fd_istore_n C dM_tick_45 (by decide) ?_
              refine fd_iconst C dM_tick_46 ?_
              refine fd_istore C dM_tick_47 (by decide) ?_
              have hloop49 : ∀ (dd49 : Nat) (n9 : Nat), dd49 = (Sx k 0 0 7).toNat - n9 → ((n9 : Int) ≤ Sx k 0 0 7) → fd_J p l e ({ frames := 3, cells := 0, slots := 0, locals := 69 }) s m args below meth c D fd_cl A ad (mo_en cI ad) mo_wl 5 0 0 (MQ below (fd_QV D fd_cl (mo_tys cI) ad (mo_en cI ad) mo_wl A (Sx x)) args s 0 0 A) ((mo_xp (mo_q (Sx k)) n9).1) 49 [some (.ref (ad 0 0)), some (.int (fd_I ((x : Nat) : Int))), some (.int (fd_I ((k : Nat) : Int))), some (.int (fd_I ((mo_xp (mo_q (Sx k)) n9).2))), some (.int (fd_I ((n9 : Nat) : Int)))] [] := by
                intro dd49
                induction dd49 using Nat.strongRecOn with
                | ind dd49 ih49 =>
                  intro n9 hdd49 hn9
                  refine fd_iload C dM_tick_49 rfl ?_
                  refine fd_aload_n C dM_tick_51 rfl ?_
                  refine fd_get C (k := 0) (i := 0) (j := 7) (v := .int (fd_I (((mo_xp (mo_q (Sx k)) n9).1) 0 0 7))) (mo_m (by decide)) rfl rfl (by decide) wsM fw3_44 rfl dM_tick_52 ?_
                  have f7 : (mo_xp (mo_q (Sx k)) n9).1 0 0 7 = Sx k 0 0 7 := mo_xp_k _ (by decide) 0 7 n9
                  have f2 : (mo_xp (mo_q (Sx k)) n9).1 0 0 2 = (mo_q (Sx k)) 0 0 2 := mo_xp_k _ (by decide) 0 2 n9
                  have f2b := okq.now
                  refine fd_icmp_ge C (tgt := 99) dM_tick_55 rfl ⟨by omega, by omega⟩ ⟨by omega, by omega⟩ (fun h55t => ?_) (fun h55f => ?_)
                  · skip
                    have e01 := mo_xp_01 (mo_q (Sx k)) n9
                    have hX : (mo_xp (mo_q (Sx k)) n9) = mo_x (Sx k) := by
                      unfold mo_x
                      rw [show n9 = (Sx k 0 0 7).toNat by omega]
                    refine fd_iload_n C dM_tick_99 rfl ?_
                    refine fd_if_eq C (tgt := 107) dM_tick_100 rfl ⟨by omega, by omega⟩ (fun h100t => ?_) (fun h100f => ?_)
                    · skip
                      refine fd_iinc C dM_tick_107 rfl (by decide) ?_
                      refine fd_goto C (tgt := 22) dM_tick_110 rfl ?_
                      refine fd_mem (M' := Sx (k + 1)) (by
                        rcases tk.2.2 with q | q
                        · rw [hX]; exact q.2
                        · exfalso; have q1 := q.1; rw [← hX] at q1; omega) ?_
                      refine fd_drop 3 ?_
                      refine fd_drop 4 ?_
                      exact ih22 (x - (k + 1)) (by omega) (k + 1) rfl (by omega)
                    · skip
                      obtain ⟨hokx, dv, hdv⟩ : mo_ok (mo_xp (mo_q (Sx k)) n9).1 ∧ ∃ d, mo_sv d 0 (mo_xp (mo_q (Sx k)) n9).1 = some (Sx (k + 1)) := by
                        rw [hX]
                        rcases tk.2.2 with q | q
                        · exfalso; have q1 := q.1; rw [← hX] at q1; omega
                        · exact q.2
                      refine fd_aload_n C dM_tick_103 rfl ?_
                      refine fd_callVv C hE [] (k := 0) (i := 0) (mM_serve l D cI ad ((mo_xp (mo_q (Sx k)) n9).1) hokx dv (Sx (k + 1)) hdv) (cwV 0 C.1.2.2.2.2 (gM_serve fw3_101) rfl rfl rfl ⟨rfl, by decide, by decide, by decide +kernel⟩ ⟨by decide, by decide⟩) (mo_m (by decide)) rfl rfl rfl (Nat.le_of_ble_eq_true rfl) dM_tick_104 ⟨by decide, by decide⟩ ?_
                      refine fd_iinc C dM_tick_107 rfl (by decide) ?_
                      refine fd_goto C (tgt := 22) dM_tick_110 rfl ?_
                      refine fd_drop 3 ?_
                      refine fd_drop 4 ?_
                      exact ih22 (x - (k + 1)) (by omega) (k + 1) rfl (by omega)
                  · skip
                    refine fd_aload_n C dM_tick_58 rfl ?_
                    refine fd_get C (k := 0) (i := 0) (j := 8) (v := .ref (ad 3 0)) (mo_m (by decide)) rfl rfl (by decide) wsM fw3_45 rfl dM_tick_59 ?_
                    refine fd_iload C dM_tick_62 rfl ?_
                    refine fd_iald C (k := 3) (i := 0) (x := n9) (v := ((mo_xp (mo_q (Sx k)) n9).1) 3 0 n9) (mo_m (by decide)) (fun _ => rfl) (mo_tI cI) rfl (by omega) (by decide) rfl dM_tick_64 ?_
                    have f3 : (mo_xp (mo_q (Sx k)) n9).1 3 0 n9 = (mo_q (Sx k)) 3 0 n9 := mo_xp_f _ n9 n9 (Nat.le_refl _)
                    have f3b := okq.sta (show n9 < 60 by omega)
                    have f4 : (mo_xp (mo_q (Sx k)) n9).1 7 0 n9 = (mo_q (Sx k)) 7 0 n9 := mo_xp_k _ (by decide) 0 n9 n9
                    have f4b := okq.end9 (show n9 < 60 by omega)
                    refine fd_iconst C dM_tick_65 ?_
                    refine fd_icmp_ne C (tgt := 93) dM_tick_66 rfl ⟨by omega, by omega⟩ ⟨by omega, by omega⟩ (fun h66t => ?_) (fun h66f => ?_)
                    · skip
                      refine fd_iinc C dM_tick_93 rfl (by decide) ?_
                      refine fd_goto C (tgt := 49) dM_tick_96 rfl ?_
                      have h9 := ih49 ((Sx k 0 0 7).toNat - (n9 + 1)) (by omega) (n9 + 1) rfl (by omega)
                      rw [mo_xp_s, if_neg (by omega)] at h9
                      exact h9
                    · skip
                      refine fd_aload_n C dM_tick_69 rfl ?_
                      refine fd_get C (k := 0) (i := 0) (j := 12) (v := .ref (ad 7 0)) (mo_m (by decide)) rfl rfl (by decide) wsM fw3_49 rfl dM_tick_70 ?_
                      refine fd_iload C dM_tick_73 rfl ?_
                      refine fd_iald C (k := 7) (i := 0) (x := n9) (v := ((mo_xp (mo_q (Sx k)) n9).1) 7 0 n9) (mo_m (by decide)) (fun _ => rfl) (mo_tI cI) rfl (by omega) (by decide) rfl dM_tick_75 ?_
                      refine fd_aload_n C dM_tick_76 rfl ?_
                      refine fd_get C (k := 0) (i := 0) (j := 2) (v := .int (fd_I (((mo_xp (mo_q (Sx k)) n9).1) 0 0 2))) (mo_m (by decide)) rfl rfl (by decide) wsM fw3_39 rfl dM_tick_77 ?_
                      refine fd_icmp_gt C (tgt := 93) dM_tick_80 rfl ⟨by omega, by omega⟩ ⟨by omega, by omega⟩ (fun h80t => ?_) (fun h80f => ?_)
                      · skip
                        refine fd_iinc C dM_tick_93 rfl (by decide) ?_
                        refine fd_goto C (tgt := 49) dM_tick_96 rfl ?_
                        have h9 := ih49 ((Sx k 0 0 7).toNat - (n9 + 1)) (by omega) (n9 + 1) rfl (by omega)
                        rw [mo_xp_s, if_neg (by omega)] at h9
                        exact h9
                      · skip
                        refine fd_aload_n C dM_tick_83 rfl ?_
                        refine fd_get C (k := 0) (i := 0) (j := 8) (v := .ref (ad 3 0)) (mo_m (by decide)) rfl rfl (by decide) wsM fw3_45 rfl dM_tick_84 ?_
                        refine fd_iload C dM_tick_87 rfl ?_
                        refine fd_iconst C dM_tick_89 ?_
                        refine fd_iast C (k := 3) (i := 0) (x := n9) (v := 5) (mo_m (by decide)) (fun _ => rfl) (mo_tI cI) rfl (by omega) (by decide) dM_tick_90 ?_
                        refine fd_iconst C dM_tick_91 ?_
                        refine fd_istore_n C dM_tick_92 (by decide) ?_
                        refine fd_iinc C dM_tick_93 rfl (by decide) ?_
                        refine fd_goto C (tgt := 49) dM_tick_96 rfl ?_
                        have h9 := ih49 ((Sx k 0 0 7).toNat - (n9 + 1)) (by omega) (n9 + 1) rfl (by omega)
                        rw [mo_xp_s, if_pos ⟨by omega, by omega⟩] at h9
                        exact h9
              exact hloop49 _ 0 rfl (by omega)
      refine fd_mem (M' := Sx 0) h0 ?_
      exact hloop22 _ 0 rfl (by omega)
    · skip
      exfalso; omega
set_option maxRecDepth 20000 in
theorem mM_board (l : Launch) (D : va_G) (cI : ClassId) (ad : Nat → Nat → Nat) (M : fd_Mem) (i : Nat) (hi : i < 60) (hok : mo_ok M)  : mo_Mi l D cI ad yM_board wM_board ({ frames := 2, cells := 0, slots := 0, locals := 46 }) [.ref (ad 0 0), .int (fd_I ((i : Nat) : Int))] M ((mo_bd M i).2) ((mo_bd M i).1) := by
  have e1 := hok.cnt
  have e5 := hok.pla hi
  have e6 := hok.sea hi
  refine fd_enterI (by decide) rfl mo_nd (by simp [Value.category]) (Nat.le_of_ble_eq_true rfl) ?_
  intro A p e s m args below meth c C hr hlk hE
  have C : fd_C p m c cM_board 3 s args fd_T "FareDeskModel" D fd_cl (mo_tys cI) mo_wl A := C
  refine fd_pad 1 ?_
  refine fd_aload_n C dM_board_0 rfl ?_
  refine fd_get C (k := 0) (i := 0) (j := 10) (v := .ref (ad 5 0)) (mo_m (by decide)) rfl rfl (by decide) wsM fw3_47 rfl dM_board_1 ?_
  refine fd_iload_n C dM_board_4 rfl ?_
  refine fd_iald C (k := 5) (i := 0) (x := i) (v := M 5 0 i) (mo_m (by decide)) (fun _ => rfl) (mo_tI cI) rfl (by omega) (by decide) rfl dM_board_5 ?_
  refine fd_aload_n C dM_board_6 rfl ?_
  refine fd_get C (k := 0) (i := 0) (j := 14) (v := .ref (ad 9 0)) (mo_m (by decide)) rfl rfl (by decide) wsM fw3_51 rfl dM_board_7 ?_
  refine fd_iload_n C dM_board_10 rfl ?_
  refine fd_iald C (k := 9) (i := 0) (x := i) (v := M 9 0 i) (mo_m (by decide)) (fun _ => rfl) (mo_tI cI) rfl (by omega) (by decide) rfl dM_board_11 ?_
  refine fd_isub C dM_board_12 ?_
  refine fd_istore_n C dM_board_13 (by decide) ?_
  refine fd_aload_n C dM_board_14 rfl ?_
  refine fd_callVi C hE [] (k := 0) (i := 0) (mM_freeSeats l D cI ad M hok.cnt (fun _ hx => hok.own hx)) (cwV 0 C.1.2.2.2.2 (gM_freeSeats fw3_181) rfl rfl rfl ⟨rfl, by decide, by decide, by decide +kernel⟩ ⟨by decide, by decide⟩) (mo_m (by decide)) rfl rfl rfl (Nat.le_of_ble_eq_true rfl) dM_board_15 ⟨by decide, by decide⟩ ?_
  refine fd_iload_n C dM_board_18 rfl ?_
  have e7 := mo_fr_bd M (M 0 0 1).toNat
  refine fd_icmp_ge C (tgt := 60) dM_board_19 rfl ⟨by omega, by omega⟩ ⟨by omega, by omega⟩ (fun h19t => ?_) (fun h19f => ?_)
  · skip
    refine fd_aload_n C dM_board_60 rfl ?_
    refine fd_iload_n C dM_board_61 rfl ?_
    refine fd_iload_n C dM_board_62 rfl ?_
    refine fd_callVv C hE [.int (fd_I ((i : Nat) : Int)), .int (fd_I ((M 5 0 i) - (M 9 0 i)))] (k := 0) (i := 0) (mM_giveFirst l D cI ad M i hi (M 5 0 i - M 9 0 i) hok.cnt (hok.gb hi)) (cwV 2 C.1.2.2.2.2 (gM_giveFirst fw3_193) rfl rfl rfl ⟨rfl, by decide, by decide, by decide +kernel⟩ ⟨by decide, by decide⟩) (mo_m (by decide)) rfl rfl rfl (Nat.le_of_ble_eq_true rfl) dM_board_63 ⟨by decide, by decide⟩ ?_
    refine fd_aload_n C dM_board_66 rfl ?_
    refine fd_get C (k := 0) (i := 0) (j := 8) (v := .ref (ad 3 0)) (mo_m (by decide)) rfl rfl (by decide) wsM fw3_45 rfl dM_board_67 ?_
    refine fd_iload_n C dM_board_70 rfl ?_
    refine fd_bipush C dM_board_71 (by decide) ?_
    refine fd_iast C (k := 3) (i := 0) (x := i) (v := 6) (mo_m (by decide)) (fun _ => rfl) (mo_tI cI) rfl (by omega) (by decide) dM_board_73 ?_
    refine fd_aload_n C dM_board_74 rfl ?_
    refine fd_get C (k := 0) (i := 0) (j := 10) (v := .ref (ad 5 0)) (mo_m (by decide)) rfl rfl (by decide) wsM fw3_47 rfl dM_board_75 ?_
    refine fd_iload_n C dM_board_78 rfl ?_
    refine fd_iald C (k := 5) (i := 0) (x := i) (v := (mo_gf i (M 0 0 1).toNat 0 (M 5 0 i - M 9 0 i) M) 5 0 i) (mo_m (by decide)) (fun _ => rfl) (mo_tI cI) rfl (by omega) (by decide) rfl dM_board_79 ?_
    exact fd_iret C hr hlk (by unfold mo_bd; rw [if_neg (by omega)]) (by unfold mo_bd; rw [if_neg (by omega)]) dM_board_80
  · skip
    refine fd_aload_n C dM_board_22 rfl ?_
    refine fd_iload_n C dM_board_23 rfl ?_
    refine fd_iconst C dM_board_24 ?_
    refine fd_callVv C hE [.int (fd_I ((i : Nat) : Int)), .int (fd_I (0))] (k := 0) (i := 0) (mM_leaveSeats l D cI ad M i hi 0 (by omega) (hok.tb hi)) (cwV 2 C.1.2.2.2.2 (gM_leaveSeats fw3_153) rfl rfl rfl ⟨rfl, by decide, by decide, by decide +kernel⟩ ⟨by decide, by decide⟩) (mo_m (by decide)) rfl rfl rfl (Nat.le_of_ble_eq_true rfl) dM_board_25 ⟨by decide, by decide⟩ ?_
    refine fd_aload_n C dM_board_28 rfl ?_
    refine fd_get C (k := 0) (i := 0) (j := 8) (v := .ref (ad 3 0)) (mo_m (by decide)) rfl rfl (by decide) wsM fw3_45 rfl dM_board_29 ?_
    refine fd_iload_n C dM_board_32 rfl ?_
    refine fd_bipush C dM_board_33 (by decide) ?_
    refine fd_iast C (k := 3) (i := 0) (x := i) (v := 7) (mo_m (by decide)) (fun _ => rfl) (mo_tI cI) rfl (by omega) (by decide) dM_board_35 ?_
    refine fd_aload_n C dM_board_36 rfl ?_
    refine fd_dup C dM_board_37 rfl ?_
    refine fd_get C (k := 0) (i := 0) (j := 3) (v := .int (fd_I ((mo_lv i (M 9 0 i - 0).toNat M) 0 0 3))) (mo_m (by decide)) rfl rfl (by decide) wsM fw3_40 rfl dM_board_38 ?_
    refine fd_aload_n C dM_board_41 rfl ?_
    refine fd_get C (k := 0) (i := 0) (j := 13) (v := .ref (ad 8 0)) (mo_m (by decide)) rfl rfl (by decide) wsM fw3_50 rfl dM_board_42 ?_
    refine fd_iload_n C dM_board_45 rfl ?_
    refine fd_iald C (k := 8) (i := 0) (x := i) (v := (mo_lv i (M 9 0 i - 0).toNat M) 8 0 i) (mo_m (by decide)) (fun _ => rfl) (mo_tI cI) rfl (by omega) (by decide) rfl dM_board_46 ?_
    refine fd_isub C dM_board_47 ?_
    refine fd_put C (k := 0) (i := 0) (j := 3) (z := (((mo_lv i (M 9 0 i - 0).toNat M) 0 0 3) - ((mo_lv i (M 9 0 i - 0).toNat M) 8 0 i))) (ty := .int) tyM (mo_m (by decide)) rfl rfl rfl (by decide) wsM tyM_ok nmM fw3_40 rfl (by decide +kernel) rfl rfl (Nat.le_of_ble_eq_true rfl) dM_board_48 ?_
    refine fd_aload_n C dM_board_51 rfl ?_
    refine fd_get C (k := 0) (i := 0) (j := 13) (v := .ref (ad 8 0)) (mo_m (by decide)) rfl rfl (by decide) wsM fw3_50 rfl dM_board_52 ?_
    refine fd_iload_n C dM_board_55 rfl ?_
    refine fd_iconst C dM_board_56 ?_
    refine fd_iast C (k := 8) (i := 0) (x := i) (v := 0) (mo_m (by decide)) (fun _ => rfl) (mo_tI cI) rfl (by omega) (by decide) dM_board_57 ?_
    refine fd_iconst C dM_board_58 ?_
    exact fd_iret C hr hlk (by unfold mo_bd; rw [if_pos (by omega)]) (by unfold mo_bd; rw [if_pos (by omega)]) dM_board_59
set_option maxRecDepth 20000 in
theorem mM_close_1 (l : Launch) (D : va_G) (cI : ClassId) (ad : Nat → Nat → Nat) (M : fd_Mem) (hc : M 0 0 4 = 1) : mo_Mi l D cI ad yM_close wM_close ({ frames := 0, cells := 0, slots := 0, locals := 0 }) [.ref (ad 0 0)] M (0) ((fd_u3 M 0 0 0 1)) := by
  refine fd_enterI (by decide) rfl mo_nd (by simp [Value.category]) (Nat.le_of_ble_eq_true rfl) ?_
  intro A p e s m args below meth c C hr hlk hE
  have C : fd_C p m c cM_close 4 s args fd_T "FareDeskModel" D fd_cl (mo_tys cI) mo_wl A := C
  refine fd_pad 3 ?_
  refine fd_aload_n C dM_close_0 rfl ?_
  refine fd_aload_n C dM_close_1 rfl ?_
  refine fd_get C (k := 0) (i := 0) (j := 4) (v := .int (fd_I (M 0 0 4))) (mo_m (by decide)) rfl rfl (by decide) wsM fw3_41 rfl dM_close_2 ?_
  refine fd_if_eq C (tgt := 12) dM_close_5 rfl ⟨by omega, by omega⟩ (fun h5t => ?_) (fun h5f => ?_)
  · skip
    exfalso; omega
  · skip
    refine fd_iconst C dM_close_8 ?_
    refine fd_goto C (tgt := 13) dM_close_9 rfl ?_
    refine fd_put C (k := 0) (i := 0) (j := 0) (z := 1) (ty := .int) tyM (mo_m (by decide)) rfl rfl rfl (by decide) wsM tyM_ok nmM fw3_37 rfl (by decide +kernel) rfl rfl (Nat.le_of_ble_eq_true rfl) dM_close_13 ?_
    refine fd_aload_n C dM_close_16 rfl ?_
    refine fd_get C (k := 0) (i := 0) (j := 4) (v := .int (fd_I (M 0 0 4))) (mo_m (by decide)) rfl rfl (by decide) wsM fw3_41 rfl dM_close_17 ?_
    refine fd_if_eq C (tgt := 25) dM_close_20 rfl ⟨by omega, by omega⟩ (fun h20t => ?_) (fun h20f => ?_)
    · skip
      exfalso; omega
    · skip
      refine fd_iconst C dM_close_23 ?_
      exact fd_iret C hr hlk (by first | rfl | omega | (split <;> omega) | (simp; omega)) rfl dM_close_24
set_option maxRecDepth 20000 in
theorem mM_close (l : Launch) (D : va_G) (cI : ClassId) (ad : Nat → Nat → Nat) (M : fd_Mem) (hc : M 0 0 4 = 0) (hok : mo_ok M) (hb : ∀ f b : Nat, f < 4 → (b : Int) ≤ M 0 0 7 → mo_ok (mo_cl (mo_ca M f) ((f : Nat) : Int) b).1 ∧ (mo_cl (mo_ca M f) ((f : Nat) : Int) b).1 0 0 7 = M 0 0 7) : mo_Mi l D cI ad yM_close wM_close ({ frames := 3, cells := 0, slots := 0, locals := 68 }) [.ref (ad 0 0)] M ((mo_ca M 4).2) ((mo_ca M 4).1) := by
  have hm := hok.made
  refine fd_enterI (by decide) rfl mo_nd (by simp [Value.category]) (Nat.le_of_ble_eq_true rfl) ?_
  intro A p e s m args below meth c C hr hlk hE
  have C : fd_C p m c cM_close 4 s args fd_T "FareDeskModel" D fd_cl (mo_tys cI) mo_wl A := C
  refine fd_pad 3 ?_
  refine fd_aload_n C dM_close_0 rfl ?_
  refine fd_aload_n C dM_close_1 rfl ?_
  refine fd_get C (k := 0) (i := 0) (j := 4) (v := .int (fd_I (M 0 0 4))) (mo_m (by decide)) rfl rfl (by decide) wsM fw3_41 rfl dM_close_2 ?_
  refine fd_if_eq C (tgt := 12) dM_close_5 rfl ⟨by omega, by omega⟩ (fun h5t => ?_) (fun h5f => ?_)
  · skip
    refine fd_iconst C dM_close_12 ?_
    refine fd_put C (k := 0) (i := 0) (j := 0) (z := 0) (ty := .int) tyM (mo_m (by decide)) rfl rfl rfl (by decide) wsM tyM_ok nmM fw3_37 rfl (by decide +kernel) rfl rfl (Nat.le_of_ble_eq_true rfl) dM_close_13 ?_
    refine fd_aload_n C dM_close_16 rfl ?_
    refine fd_get C (k := 0) (i := 0) (j := 4) (v := .int (fd_I (M 0 0 4))) (mo_m (by decide)) rfl rfl (by decide) wsM fw3_41 rfl dM_close_17 ?_
    refine fd_if_eq C (tgt := 25) dM_close_20 rfl ⟨by omega, by omega⟩ (fun h20t => ?_) (fun h20f => ?_)
    · skip
      refine fd_aload_n C dM_close_25 rfl ?_
      refine fd_iconst C dM_close_26 ?_
      refine fd_put C (k := 0) (i := 0) (j := 4) (z := 1) (ty := .boolean) tyM (mo_m (by decide)) rfl rfl rfl (by decide) wsM tyM_ok nmM fw3_41 rfl (by decide +kernel) (by decide) (by decide) (Nat.le_of_ble_eq_true rfl) dM_close_27 ?_
      refine fd_iconst C dM_close_30 ?_
      refine fd_istore_n C dM_close_31 (by decide) ?_
      have hloop32 : ∀ (dd32 : Nat) (n : Nat), dd32 = (M 0 0 7).toNat - n → ((n : Int) ≤ M 0 0 7) → fd_J p l e ({ frames := 3, cells := 0, slots := 0, locals := 68 }) s m args below meth c D fd_cl A ad (mo_en cI ad) mo_wl 4 0 0 (MQ below (fd_QI D fd_cl (mo_tys cI) ad (mo_en cI ad) mo_wl A ((mo_ca M 4).2) ((mo_ca M 4).1)) args s 0 0 A) (mo_e (fd_u3 (fd_u3 M 0 0 0 (0)) 0 0 4 (1)) n) 32 [some (.ref (ad 0 0)), some (.int (fd_I ((n : Nat) : Int))), none, none] [] := by
        intro dd32
        induction dd32 using Nat.strongRecOn with
        | ind dd32 ih32 =>
          intro n hdd32 hn
          refine fd_iload_n C dM_close_32 rfl ?_
          refine fd_aload_n C dM_close_33 rfl ?_
          refine fd_get C (k := 0) (i := 0) (j := 7) (v := .int (fd_I ((mo_e (fd_u3 (fd_u3 M 0 0 0 (0)) 0 0 4 (1)) n) 0 0 7))) (mo_m (by decide)) rfl rfl (by decide) wsM fw3_44 rfl dM_close_34 ?_
          have e7 : (mo_e (fd_u3 (fd_u3 M 0 0 0 (0)) 0 0 4 (1)) n) 0 0 7 = M 0 0 7 := mo_e_k _ (by decide) 0 7 n
          refine fd_icmp_ge C (tgt := 86) dM_close_37 rfl ⟨by omega, by omega⟩ ⟨by omega, by omega⟩ (fun h37t => ?_) (fun h37f => ?_)
          · skip
            refine fd_iconst C dM_close_86 ?_
            refine fd_istore_n C dM_close_87 (by decide) ?_
            refine fd_iconst C dM_close_88 ?_
            refine fd_istore_n C dM_close_89 (by decide) ?_
            have hloop90 : ∀ (dd90 : Nat) (f : Nat), dd90 = 4 - f → (f ≤ 4) → fd_J p l e ({ frames := 3, cells := 0, slots := 0, locals := 68 }) s m args below meth c D fd_cl A ad (mo_en cI ad) mo_wl 4 0 0 (MQ below (fd_QI D fd_cl (mo_tys cI) ad (mo_en cI ad) mo_wl A ((mo_ca M 4).2) ((mo_ca M 4).1)) args s 0 0 A) ((mo_ca M f).1) 90 [some (.ref (ad 0 0)), some (.int (fd_I ((mo_ca M f).2))), some (.int (fd_I ((f : Nat) : Int))), none] [] := by
              intro dd90
              induction dd90 using Nat.strongRecOn with
              | ind dd90 ih90 =>
                intro f hdd90 hf4
                refine fd_iload_n C dM_close_90 rfl ?_
                refine fd_iconst C dM_close_91 ?_
                refine fd_icmp_ge C (tgt := 149) dM_close_92 rfl ⟨by omega, by omega⟩ ⟨by omega, by omega⟩ (fun h92t => ?_) (fun h92f => ?_)
                · skip
                  refine fd_iload_n C dM_close_149 rfl ?_
                  exact fd_iret C hr hlk (by rw [show f = 4 by omega]) (by rw [show f = 4 by omega]) dM_close_150
                · skip
                  refine fd_iconst C dM_close_95 ?_
                  refine fd_istore_n C dM_close_96 (by decide) ?_
                  have hloop97 : ∀ (dd97 : Nat) (b : Nat), dd97 = (M 0 0 7).toNat - b → ((b : Int) ≤ M 0 0 7) → fd_J p l e ({ frames := 3, cells := 0, slots := 0, locals := 68 }) s m args below meth c D fd_cl A ad (mo_en cI ad) mo_wl 4 0 0 (MQ below (fd_QI D fd_cl (mo_tys cI) ad (mo_en cI ad) mo_wl A ((mo_ca M 4).2) ((mo_ca M 4).1)) args s 0 0 A) ((mo_cl (mo_ca M f) ((f : Nat) : Int) b).1) 97 [some (.ref (ad 0 0)), some (.int (fd_I ((mo_cl (mo_ca M f) ((f : Nat) : Int) b).2))), some (.int (fd_I ((f : Nat) : Int))), some (.int (fd_I ((b : Nat) : Int)))] [] := by
                    intro dd97
                    induction dd97 using Nat.strongRecOn with
                    | ind dd97 ih97 =>
                      intro b hdd97 hb7
                      refine fd_iload_n C dM_close_97 rfl ?_
                      refine fd_aload_n C dM_close_98 rfl ?_
                      refine fd_get C (k := 0) (i := 0) (j := 7) (v := .int (fd_I (((mo_cl (mo_ca M f) ((f : Nat) : Int) b).1) 0 0 7))) (mo_m (by decide)) rfl rfl (by decide) wsM fw3_44 rfl dM_close_99 ?_
                      obtain ⟨okb, k7⟩ := hb f b (by omega) hb7
                      refine fd_icmp_ge C (tgt := 143) dM_close_102 rfl ⟨by omega, by omega⟩ ⟨by omega, by omega⟩ (fun h102t => ?_) (fun h102f => ?_)
                      · skip
                        refine fd_iinc C dM_close_143 rfl (by decide) ?_
                        refine fd_goto C (tgt := 90) dM_close_146 rfl ?_
                        refine fd_drop 3 ?_
                        have hb9 : b = (M 0 0 7).toNat := by omega
                        subst hb9
                        exact ih90 (4 - (f + 1)) (by omega) (f + 1) rfl (by omega)
                      · skip
                        refine fd_iload_n C dM_close_105 rfl ?_
                        refine fd_aload_n C dM_close_106 rfl ?_
                        refine fd_get C (k := 0) (i := 0) (j := 8) (v := .ref (ad 3 0)) (mo_m (by decide)) rfl rfl (by decide) wsM fw3_45 rfl dM_close_107 ?_
                        refine fd_iload_n C dM_close_110 rfl ?_
                        refine fd_iald C (k := 3) (i := 0) (x := b) (v := ((mo_cl (mo_ca M f) ((f : Nat) : Int) b).1) 3 0 b) (mo_m (by decide)) (fun _ => rfl) (mo_tI cI) rfl (by omega) (by decide) rfl dM_close_111 ?_
                        refine fd_iconst C dM_close_112 ?_
                        have g3 := okb.sta (show b < 60 by omega)
                        have g4 := okb.far (show b < 60 by omega)
                        refine fd_icmp_ne C (tgt := 134) dM_close_113 rfl ⟨by omega, by omega⟩ ⟨by omega, by omega⟩ (fun h113t => ?_) (fun h113f => ?_)
                        · skip
                          refine fd_iconst C dM_close_134 ?_
                          refine fd_iadd C dM_close_135 ?_
                          refine fd_istore_n C dM_close_136 (by decide) ?_
                          refine fd_iinc C dM_close_137 rfl (by decide) ?_
                          refine fd_goto C (tgt := 97) dM_close_140 rfl ?_
                          have h9 := ih97 ((M 0 0 7).toNat - (b + 1)) (by omega) (b + 1) rfl (by omega)
                          rw [mo_cl_s, if_neg (by omega)] at h9
                          rw [Int.add_zero]
                          exact h9
                        · skip
                          refine fd_aload_n C dM_close_116 rfl ?_
                          refine fd_get C (k := 0) (i := 0) (j := 9) (v := .ref (ad 4 0)) (mo_m (by decide)) rfl rfl (by decide) wsM fw3_46 rfl dM_close_117 ?_
                          refine fd_iload_n C dM_close_120 rfl ?_
                          refine fd_iald C (k := 4) (i := 0) (x := b) (v := ((mo_cl (mo_ca M f) ((f : Nat) : Int) b).1) 4 0 b) (mo_m (by decide)) (fun _ => rfl) (mo_tI cI) rfl (by omega) (by decide) rfl dM_close_121 ?_
                          refine fd_iload_n C dM_close_122 rfl ?_
                          refine fd_icmp_ne C (tgt := 134) dM_close_123 rfl ⟨by omega, by omega⟩ ⟨by omega, by omega⟩ (fun h123t => ?_) (fun h123f => ?_)
                          · skip
                            refine fd_iconst C dM_close_134 ?_
                            refine fd_iadd C dM_close_135 ?_
                            refine fd_istore_n C dM_close_136 (by decide) ?_
                            refine fd_iinc C dM_close_137 rfl (by decide) ?_
                            refine fd_goto C (tgt := 97) dM_close_140 rfl ?_
                            have h9 := ih97 ((M 0 0 7).toNat - (b + 1)) (by omega) (b + 1) rfl (by omega)
                            rw [mo_cl_s, if_neg (by omega)] at h9
                            rw [Int.add_zero]
                            exact h9
                          · skip
                            refine fd_aload_n C dM_close_126 rfl ?_
                            refine fd_iload_n C dM_close_127 rfl ?_
                            refine fd_callVi C hE [.int (fd_I ((b : Nat) : Int))] (k := 0) (i := 0) (mM_board l D cI ad ((mo_cl (mo_ca M f) ((f : Nat) : Int) b).1) b (by omega) okb) (cwV 1 C.1.2.2.2.2 (gM_board fw3_205) rfl rfl rfl ⟨rfl, by decide, by decide, by decide +kernel⟩ ⟨by decide, by decide⟩) (mo_m (by decide)) rfl rfl rfl (Nat.le_of_ble_eq_true rfl) dM_close_128 ⟨by decide, by decide⟩ ?_
                            refine fd_goto C (tgt := 135) dM_close_131 rfl ?_
                            refine fd_iadd C dM_close_135 ?_
                            refine fd_istore_n C dM_close_136 (by decide) ?_
                            refine fd_iinc C dM_close_137 rfl (by decide) ?_
                            refine fd_goto C (tgt := 97) dM_close_140 rfl ?_
                            have h9 := ih97 ((M 0 0 7).toNat - (b + 1)) (by omega) (b + 1) rfl (by omega)
                            rw [mo_cl_s, if_pos ⟨by omega, by omega⟩] at h9
                            exact h9
                  exact hloop97 _ 0 rfl (by omega)
            have hn9 : n = (M 0 0 7).toNat := by omega
            subst hn9
            exact hloop90 _ 0 rfl (by omega)
          · skip
            have e3 : (mo_e (fd_u3 (fd_u3 M 0 0 0 (0)) 0 0 4 (1)) n) 3 0 n = M 3 0 n := mo_e_f _ n n (Nat.le_refl _)
            have e3b := hok.sta (show n < 60 by omega)
            refine fd_aload_n C dM_close_40 rfl ?_
            refine fd_get C (k := 0) (i := 0) (j := 8) (v := .ref (ad 3 0)) (mo_m (by decide)) rfl rfl (by decide) wsM fw3_45 rfl dM_close_41 ?_
            refine fd_iload_n C dM_close_44 rfl ?_
            refine fd_aload_n C dM_close_45 rfl ?_
            refine fd_get C (k := 0) (i := 0) (j := 8) (v := .ref (ad 3 0)) (mo_m (by decide)) rfl rfl (by decide) wsM fw3_45 rfl dM_close_46 ?_
            refine fd_iload_n C dM_close_49 rfl ?_
            refine fd_iald C (k := 3) (i := 0) (x := n) (v := (mo_e (fd_u3 (fd_u3 M 0 0 0 (0)) 0 0 4 (1)) n) 3 0 n) (mo_m (by decide)) (fun _ => rfl) (mo_tI cI) rfl (by omega) (by decide) rfl dM_close_50 ?_
            refine fd_iconst C dM_close_51 ?_
            refine fd_icmp_ne C (tgt := 59) dM_close_52 rfl ⟨by omega, by omega⟩ ⟨by omega, by omega⟩ (fun h52t => ?_) (fun h52f => ?_)
            · skip
              refine fd_aload_n C dM_close_59 rfl ?_
              refine fd_get C (k := 0) (i := 0) (j := 8) (v := .ref (ad 3 0)) (mo_m (by decide)) rfl rfl (by decide) wsM fw3_45 rfl dM_close_60 ?_
              refine fd_iload_n C dM_close_63 rfl ?_
              refine fd_iald C (k := 3) (i := 0) (x := n) (v := (mo_e (fd_u3 (fd_u3 M 0 0 0 (0)) 0 0 4 (1)) n) 3 0 n) (mo_m (by decide)) (fun _ => rfl) (mo_tI cI) rfl (by omega) (by decide) rfl dM_close_64 ?_
              refine fd_iconst C dM_close_65 ?_
              refine fd_icmp_ne C (tgt := 73) dM_close_66 rfl ⟨by omega, by omega⟩ ⟨by omega, by omega⟩ (fun h66t => ?_) (fun h66f => ?_)
              · skip
                refine fd_aload_n C dM_close_73 rfl ?_
                refine fd_get C (k := 0) (i := 0) (j := 8) (v := .ref (ad 3 0)) (mo_m (by decide)) rfl rfl (by decide) wsM fw3_45 rfl dM_close_74 ?_
                refine fd_iload_n C dM_close_77 rfl ?_
                refine fd_iald C (k := 3) (i := 0) (x := n) (v := (mo_e (fd_u3 (fd_u3 M 0 0 0 (0)) 0 0 4 (1)) n) 3 0 n) (mo_m (by decide)) (fun _ => rfl) (mo_tI cI) rfl (by omega) (by decide) rfl dM_close_78 ?_
                refine fd_iast C (k := 3) (i := 0) (x := n) (v := ((mo_e (fd_u3 (fd_u3 M 0 0 0 (0)) 0 0 4 (1)) n) 3 0 n)) (mo_m (by decide)) (fun _ => rfl) (mo_tI cI) rfl (by omega) (by decide) dM_close_79 ?_
                refine fd_iinc C dM_close_80 rfl (by decide) ?_
                refine fd_goto C (tgt := 32) dM_close_83 rfl ?_
                have h9 := ih32 ((M 0 0 7).toNat - (n + 1)) (by omega) (n + 1) rfl (by omega)
                rw [mo_e_s, if_neg (by omega), if_neg (by omega)] at h9
                exact h9
              · skip
                refine fd_iconst C dM_close_69 ?_
                refine fd_goto C (tgt := 79) dM_close_70 rfl ?_
                refine fd_iast C (k := 3) (i := 0) (x := n) (v := 4) (mo_m (by decide)) (fun _ => rfl) (mo_tI cI) rfl (by omega) (by decide) dM_close_79 ?_
                refine fd_iinc C dM_close_80 rfl (by decide) ?_
                refine fd_goto C (tgt := 32) dM_close_83 rfl ?_
                have h9 := ih32 ((M 0 0 7).toNat - (n + 1)) (by omega) (n + 1) rfl (by omega)
                rw [mo_e_s, if_neg (by omega), if_pos (by omega)] at h9
                exact h9
            · skip
              refine fd_iconst C dM_close_55 ?_
              refine fd_goto C (tgt := 79) dM_close_56 rfl ?_
              refine fd_iast C (k := 3) (i := 0) (x := n) (v := 5) (mo_m (by decide)) (fun _ => rfl) (mo_tI cI) rfl (by omega) (by decide) dM_close_79 ?_
              refine fd_iinc C dM_close_80 rfl (by decide) ?_
              refine fd_goto C (tgt := 32) dM_close_83 rfl ?_
              have h9 := ih32 ((M 0 0 7).toNat - (n + 1)) (by omega) (n + 1) rfl (by omega)
              rw [mo_e_s, if_pos (by omega)] at h9
              exact h9
      exact hloop32 _ 0 rfl (by omega)
    · skip
      exfalso; omega
  · skip
    exfalso; omega
set_option maxRecDepth 20000 in
theorem mM_of_B (l : Launch) (D : va_G) (cI : ClassId) (ad : Nat → Nat → Nat) (M : fd_Mem) (n x : Int) (hn : -2147483648 ≤ n ∧ n < 2147483648) (hok : mo_ok M) (hb : n < 0 ∨ M 0 0 7 ≤ n) : mo_Mi l D cI ad yM_of wM_of ({ frames := 1, cells := 0, slots := 0, locals := 21 }) [.ref (ad 0 0), .int (fd_I (n)), .int (fd_I (x))] M (0) ((fd_u3 M 0 0 0 1)) := by
  refine fd_enterI (by decide) rfl mo_nd (by simp [Value.category]) (Nat.le_of_ble_eq_true rfl) ?_
  intro A p e s m args below meth c C hr hlk hE
  have C : fd_C p m c cM_of 3 s args fd_T "FareDeskModel" D fd_cl (mo_tys cI) mo_wl A := C
  refine fd_pad 0 ?_
  refine fd_aload_n C dM_of_0 rfl ?_
  refine fd_aload_n C dM_of_1 rfl ?_
  refine fd_iload_n C dM_of_2 rfl ?_
  refine fd_callVi C hE [.int (fd_I (n))] (k := 0) (i := 0) (mM_noBooking_1 l D cI ad M n hn hok.made hb) (cwV 1 C.1.2.2.2.2 (gM_noBooking fw3_141) rfl rfl rfl ⟨rfl, by decide, by decide, by decide +kernel⟩ ⟨by decide, by decide⟩) (mo_m (by decide)) rfl rfl rfl (Nat.le_of_ble_eq_true rfl) dM_of_3 ⟨by decide, by decide⟩ ?_
  refine fd_if_ne C (tgt := 19) dM_of_6 rfl ⟨by omega, by omega⟩ (fun h6t => ?_) (fun h6f => ?_)
  rotate_left
  · exfalso; omega
  refine fd_iconst C dM_of_19 ?_
  refine fd_goto C (tgt := 24) dM_of_20 rfl ?_
  refine fd_put C (k := 0) (i := 0) (j := 0) (z := 1) (ty := .int) tyM (mo_m (by decide)) rfl rfl rfl (by decide) wsM tyM_ok nmM fw3_37 rfl (by decide +kernel) rfl rfl (Nat.le_of_ble_eq_true rfl) dM_of_24 ?_
  refine fd_aload_n C dM_of_27 rfl ?_
  refine fd_get C (k := 0) (i := 0) (j := 0) (v := .int (fd_I (1))) (mo_m (by decide)) rfl rfl (by decide) wsM fw3_37 (congrArg (fun z => some (Value.int (fd_I z))) (fd_u3_same M 0 0 0 (1))) dM_of_28 ?_
  refine fd_if_eq C (tgt := 36) dM_of_31 rfl ⟨by omega, by omega⟩ (fun h31t => ?_) (fun h31f => ?_)
  · exfalso; omega
  refine fd_iconst C dM_of_34 ?_
  exact fd_iret C hr hlk (by first | rfl | omega | (split <;> omega) | (simp; omega)) rfl dM_of_35
set_option maxRecDepth 20000 in
theorem mM_of_1 (l : Launch) (D : va_G) (cI : ClassId) (ad : Nat → Nat → Nat) (M : fd_Mem) (n : Nat) (hn : (n : Int) < M 0 0 7) (hok : mo_ok M) (x : Int) (hx : -2147483648 ≤ x ∧ x < 2147483648) (hb : x < 0 ∨ 6 < x) : mo_Mi l D cI ad yM_of wM_of ({ frames := 1, cells := 0, slots := 0, locals := 21 }) [.ref (ad 0 0), .int (fd_I ((n : Nat) : Int)), .int (fd_I (x))] M (0) ((fd_u3 M 0 0 0 1)) := by
  have hm := hok.made
  have hn6 : n < 60 := by omega
  have e3 := hok.sta hn6
  have e4 := hok.far hn6
  have e5 := hok.pla hn6
  have e6 := hok.sea hn6
  have e8 := hok.pai hn6
  refine fd_enterI (by decide) rfl mo_nd (by simp [Value.category]) (Nat.le_of_ble_eq_true rfl) ?_
  intro A p e s m args below meth c C hr hlk hE
  have C : fd_C p m c cM_of 3 s args fd_T "FareDeskModel" D fd_cl (mo_tys cI) mo_wl A := C
  refine fd_pad 0 ?_
  refine fd_aload_n C dM_of_0 rfl ?_
  refine fd_aload_n C dM_of_1 rfl ?_
  refine fd_iload_n C dM_of_2 rfl ?_
  refine fd_callVi C hE [.int (fd_I ((n : Nat) : Int))] (k := 0) (i := 0) (mM_noBooking_0 l D cI ad M n hok.made hn) (cwV 1 C.1.2.2.2.2 (gM_noBooking fw3_141) rfl rfl rfl ⟨rfl, by decide, by decide, by decide +kernel⟩ ⟨by decide, by decide⟩) (mo_m (by decide)) rfl rfl rfl (Nat.le_of_ble_eq_true rfl) dM_of_3 ⟨by decide, by decide⟩ ?_
  refine fd_if_ne C (tgt := 19) dM_of_6 rfl ⟨by omega, by omega⟩ (fun h6t => ?_) (fun h6f => ?_)
  · exfalso; omega
  refine fd_iload_n C dM_of_9 rfl ?_
  refine fd_if_lt C (tgt := 19) dM_of_10 rfl ⟨by omega, by omega⟩ (fun h10t => ?_) (fun h10f => ?_)
  · skip
    refine fd_iconst C dM_of_19 ?_
    refine fd_goto C (tgt := 24) dM_of_20 rfl ?_
    refine fd_put C (k := 0) (i := 0) (j := 0) (z := 1) (ty := .int) tyM (mo_m (by decide)) rfl rfl rfl (by decide) wsM tyM_ok nmM fw3_37 rfl (by decide +kernel) rfl rfl (Nat.le_of_ble_eq_true rfl) dM_of_24 ?_
    refine fd_aload_n C dM_of_27 rfl ?_
    refine fd_get C (k := 0) (i := 0) (j := 0) (v := .int (fd_I (1))) (mo_m (by decide)) rfl rfl (by decide) wsM fw3_37 (congrArg (fun z => some (Value.int (fd_I z))) (fd_u3_same M 0 0 0 (1))) dM_of_28 ?_
    refine fd_if_eq C (tgt := 36) dM_of_31 rfl ⟨by omega, by omega⟩ (fun h31t => ?_) (fun h31f => ?_)
    · exfalso; omega
    refine fd_iconst C dM_of_34 ?_
    exact fd_iret C hr hlk (by first | rfl | omega | (split <;> omega) | (simp; omega)) rfl dM_of_35
  · skip
    refine fd_iload_n C dM_of_13 rfl ?_
    refine fd_bipush C dM_of_14 (by decide) ?_
    refine fd_icmp_le C (tgt := 23) dM_of_16 rfl ⟨by omega, by omega⟩ ⟨by omega, by omega⟩ (fun h16t => ?_) (fun h16f => ?_)
    · skip
      exfalso; omega
    · skip
      refine fd_iconst C dM_of_19 ?_
      refine fd_goto C (tgt := 24) dM_of_20 rfl ?_
      refine fd_put C (k := 0) (i := 0) (j := 0) (z := 1) (ty := .int) tyM (mo_m (by decide)) rfl rfl rfl (by decide) wsM tyM_ok nmM fw3_37 rfl (by decide +kernel) rfl rfl (Nat.le_of_ble_eq_true rfl) dM_of_24 ?_
      refine fd_aload_n C dM_of_27 rfl ?_
      refine fd_get C (k := 0) (i := 0) (j := 0) (v := .int (fd_I (1))) (mo_m (by decide)) rfl rfl (by decide) wsM fw3_37 (congrArg (fun z => some (Value.int (fd_I z))) (fd_u3_same M 0 0 0 (1))) dM_of_28 ?_
      refine fd_if_eq C (tgt := 36) dM_of_31 rfl ⟨by omega, by omega⟩ (fun h31t => ?_) (fun h31f => ?_)
      · exfalso; omega
      refine fd_iconst C dM_of_34 ?_
      exact fd_iret C hr hlk (by first | rfl | omega | (split <;> omega) | (simp; omega)) rfl dM_of_35
set_option maxRecDepth 20000 in
theorem mM_of (l : Launch) (D : va_G) (cI : ClassId) (ad : Nat → Nat → Nat) (M : fd_Mem) (n : Nat) (hn : (n : Int) < M 0 0 7) (hok : mo_ok M) (x : Int) (hx : 0 ≤ x ∧ x ≤ 6) : mo_Mi l D cI ad yM_of wM_of ({ frames := 1, cells := 0, slots := 0, locals := 21 }) [.ref (ad 0 0), .int (fd_I ((n : Nat) : Int)), .int (fd_I (x))] M (mo_of M n x) ((fd_u3 M 0 0 0 0)) := by
  have hm := hok.made
  have hn6 : n < 60 := by omega
  have e3 := hok.sta hn6
  have e4 := hok.far hn6
  have e5 := hok.pla hn6
  have e6 := hok.sea hn6
  have e8 := hok.pai hn6
  refine fd_enterI (by decide) rfl mo_nd (by simp [Value.category]) (Nat.le_of_ble_eq_true rfl) ?_
  intro A p e s m args below meth c C hr hlk hE
  have C : fd_C p m c cM_of 3 s args fd_T "FareDeskModel" D fd_cl (mo_tys cI) mo_wl A := C
  refine fd_pad 0 ?_
  refine fd_aload_n C dM_of_0 rfl ?_
  refine fd_aload_n C dM_of_1 rfl ?_
  refine fd_iload_n C dM_of_2 rfl ?_
  refine fd_callVi C hE [.int (fd_I ((n : Nat) : Int))] (k := 0) (i := 0) (mM_noBooking_0 l D cI ad M n hok.made hn) (cwV 1 C.1.2.2.2.2 (gM_noBooking fw3_141) rfl rfl rfl ⟨rfl, by decide, by decide, by decide +kernel⟩ ⟨by decide, by decide⟩) (mo_m (by decide)) rfl rfl rfl (Nat.le_of_ble_eq_true rfl) dM_of_3 ⟨by decide, by decide⟩ ?_
  refine fd_if_ne C (tgt := 19) dM_of_6 rfl ⟨by omega, by omega⟩ (fun h6t => ?_) (fun h6f => ?_)
  · exfalso; omega
  refine fd_iload_n C dM_of_9 rfl ?_
  refine fd_if_lt C (tgt := 19) dM_of_10 rfl ⟨by omega, by omega⟩ (fun h10t => ?_) (fun h10f => ?_)
  · skip
    exfalso; omega
  · skip
    refine fd_iload_n C dM_of_13 rfl ?_
    refine fd_bipush C dM_of_14 (by decide) ?_
    refine fd_icmp_le C (tgt := 23) dM_of_16 rfl ⟨by omega, by omega⟩ ⟨by omega, by omega⟩ (fun h16t => ?_) (fun h16f => ?_)
    · skip
      refine fd_iconst C dM_of_23 ?_
      refine fd_put C (k := 0) (i := 0) (j := 0) (z := 0) (ty := .int) tyM (mo_m (by decide)) rfl rfl rfl (by decide) wsM tyM_ok nmM fw3_37 rfl (by decide +kernel) rfl rfl (Nat.le_of_ble_eq_true rfl) dM_of_24 ?_
      refine fd_aload_n C dM_of_27 rfl ?_
      refine fd_get C (k := 0) (i := 0) (j := 0) (v := .int (fd_I (0))) (mo_m (by decide)) rfl rfl (by decide) wsM fw3_37 (congrArg (fun z => some (Value.int (fd_I z))) (fd_u3_same M 0 0 0 (0))) dM_of_28 ?_
      refine fd_if_eq C (tgt := 36) dM_of_31 rfl ⟨by omega, by omega⟩ (fun h31t => ?_) (fun h31f => ?_)
      rotate_left
      · exfalso; omega
      refine fd_iload_n C dM_of_36 rfl ?_
      rcases (show (x) < 0 ∨ 5 < (x) ∨ (x) = 0 ∨ (x) = 1 ∨ (x) = 2 ∨ (x) = 3 ∨ (x) = 4 ∨ (x) = 5 by omega) with hsw | hsw | hsw | hsw | hsw | hsw | hsw | hsw
      · refine fd_tswO C (tgt := 132) dM_of_37 ⟨by omega, by omega⟩ (Or.inl hsw) rfl ?_
        refine fd_aload_n C dM_of_132 rfl ?_
        refine fd_get C (k := 0) (i := 0) (j := 14) (v := .ref (ad 9 0)) (mo_m (by decide)) rfl rfl (by decide) wsM fw3_51 rfl dM_of_133 ?_
        refine fd_iload_n C dM_of_136 rfl ?_
        refine fd_iald C (k := 9) (i := 0) (x := n) (v := M 9 0 n) (mo_m (by decide)) (fun _ => rfl) (mo_tI cI) rfl (by omega) (by decide) rfl dM_of_137 ?_
        refine fd_if_le C (tgt := 153) dM_of_138 rfl ⟨by omega, by omega⟩ (fun h138t => ?_) (fun h138f => ?_)
        · skip
          refine fd_iconst C dM_of_153 ?_
          exact fd_iret C hr hlk (by first | (exfalso; omega) | (unfold mo_of; repeat (first | rw [if_pos (by omega)] | rw [if_neg (by omega)]))) rfl dM_of_154
        · skip
          refine fd_aload_n C dM_of_141 rfl ?_
          refine fd_get C (k := 0) (i := 0) (j := 15) (v := .ref (ad 10 0)) (mo_m (by decide)) rfl rfl (by decide) wsM fw3_52 rfl dM_of_142 ?_
          refine fd_bipush C dM_of_145 (by decide) ?_
          refine fd_iload_n C dM_of_147 rfl ?_
          refine fd_imul C dM_of_148 ?_
          refine fd_iald C (k := 10) (i := 0) (x := (6 * (((n : Nat) : Int))).toNat) (v := M 10 0 ((6 * (((n : Nat) : Int))).toNat)) (mo_m (by decide)) (fun _ => rfl) (mo_tI cI) (Int.toNat_of_nonneg (by omega)).symm (by omega) (by decide) rfl dM_of_149 ?_
          refine fd_goto C (tgt := 154) dM_of_150 rfl ?_
          exact fd_iret C hr hlk (by first | (exfalso; omega) | (unfold mo_of; repeat (first | rw [if_pos (by omega)] | rw [if_neg (by omega)]))) rfl dM_of_154
      · refine fd_tswO C (tgt := 132) dM_of_37 ⟨by omega, by omega⟩ (Or.inr hsw) rfl ?_
        refine fd_aload_n C dM_of_132 rfl ?_
        refine fd_get C (k := 0) (i := 0) (j := 14) (v := .ref (ad 9 0)) (mo_m (by decide)) rfl rfl (by decide) wsM fw3_51 rfl dM_of_133 ?_
        refine fd_iload_n C dM_of_136 rfl ?_
        refine fd_iald C (k := 9) (i := 0) (x := n) (v := M 9 0 n) (mo_m (by decide)) (fun _ => rfl) (mo_tI cI) rfl (by omega) (by decide) rfl dM_of_137 ?_
        refine fd_if_le C (tgt := 153) dM_of_138 rfl ⟨by omega, by omega⟩ (fun h138t => ?_) (fun h138f => ?_)
        · skip
          refine fd_iconst C dM_of_153 ?_
          exact fd_iret C hr hlk (by first | (exfalso; omega) | (unfold mo_of; repeat (first | rw [if_pos (by omega)] | rw [if_neg (by omega)]))) rfl dM_of_154
        · skip
          refine fd_aload_n C dM_of_141 rfl ?_
          refine fd_get C (k := 0) (i := 0) (j := 15) (v := .ref (ad 10 0)) (mo_m (by decide)) rfl rfl (by decide) wsM fw3_52 rfl dM_of_142 ?_
          refine fd_bipush C dM_of_145 (by decide) ?_
          refine fd_iload_n C dM_of_147 rfl ?_
          refine fd_imul C dM_of_148 ?_
          refine fd_iald C (k := 10) (i := 0) (x := (6 * (((n : Nat) : Int))).toNat) (v := M 10 0 ((6 * (((n : Nat) : Int))).toNat)) (mo_m (by decide)) (fun _ => rfl) (mo_tI cI) (Int.toNat_of_nonneg (by omega)).symm (by omega) (by decide) rfl dM_of_149 ?_
          refine fd_goto C (tgt := 154) dM_of_150 rfl ?_
          exact fd_iret C hr hlk (by first | (exfalso; omega) | (unfold mo_of; repeat (first | rw [if_pos (by omega)] | rw [if_neg (by omega)]))) rfl dM_of_154
      · refine fd_tswI C (tgt := 76) dM_of_37 ⟨by omega, by omega⟩ (by omega) (by omega) (by rw [hsw]; rfl) rfl ?_
        refine fd_aload_n C dM_of_76 rfl ?_
        refine fd_get C (k := 0) (i := 0) (j := 8) (v := .ref (ad 3 0)) (mo_m (by decide)) rfl rfl (by decide) wsM fw3_45 rfl dM_of_77 ?_
        refine fd_iload_n C dM_of_80 rfl ?_
        refine fd_iald C (k := 3) (i := 0) (x := n) (v := M 3 0 n) (mo_m (by decide)) (fun _ => rfl) (mo_tI cI) rfl (by omega) (by decide) rfl dM_of_81 ?_
        exact fd_iret C hr hlk (by first | (exfalso; omega) | (unfold mo_of; repeat (first | rw [if_pos (by omega)] | rw [if_neg (by omega)]))) rfl dM_of_82
      · refine fd_tswI C (tgt := 83) dM_of_37 ⟨by omega, by omega⟩ (by omega) (by omega) (by rw [hsw]; rfl) rfl ?_
        refine fd_aload_n C dM_of_83 rfl ?_
        refine fd_get C (k := 0) (i := 0) (j := 9) (v := .ref (ad 4 0)) (mo_m (by decide)) rfl rfl (by decide) wsM fw3_46 rfl dM_of_84 ?_
        refine fd_iload_n C dM_of_87 rfl ?_
        refine fd_iald C (k := 4) (i := 0) (x := n) (v := M 4 0 n) (mo_m (by decide)) (fun _ => rfl) (mo_tI cI) rfl (by omega) (by decide) rfl dM_of_88 ?_
        exact fd_iret C hr hlk (by first | (exfalso; omega) | (unfold mo_of; repeat (first | rw [if_pos (by omega)] | rw [if_neg (by omega)]))) rfl dM_of_89
      · refine fd_tswI C (tgt := 90) dM_of_37 ⟨by omega, by omega⟩ (by omega) (by omega) (by rw [hsw]; rfl) rfl ?_
        refine fd_aload_n C dM_of_90 rfl ?_
        refine fd_get C (k := 0) (i := 0) (j := 10) (v := .ref (ad 5 0)) (mo_m (by decide)) rfl rfl (by decide) wsM fw3_47 rfl dM_of_91 ?_
        refine fd_iload_n C dM_of_94 rfl ?_
        refine fd_iald C (k := 5) (i := 0) (x := n) (v := M 5 0 n) (mo_m (by decide)) (fun _ => rfl) (mo_tI cI) rfl (by omega) (by decide) rfl dM_of_95 ?_
        exact fd_iret C hr hlk (by first | (exfalso; omega) | (unfold mo_of; repeat (first | rw [if_pos (by omega)] | rw [if_neg (by omega)]))) rfl dM_of_96
      · refine fd_tswI C (tgt := 97) dM_of_37 ⟨by omega, by omega⟩ (by omega) (by omega) (by rw [hsw]; rfl) rfl ?_
        refine fd_aload_n C dM_of_97 rfl ?_
        refine fd_get C (k := 0) (i := 0) (j := 14) (v := .ref (ad 9 0)) (mo_m (by decide)) rfl rfl (by decide) wsM fw3_51 rfl dM_of_98 ?_
        refine fd_iload_n C dM_of_101 rfl ?_
        refine fd_iald C (k := 9) (i := 0) (x := n) (v := M 9 0 n) (mo_m (by decide)) (fun _ => rfl) (mo_tI cI) rfl (by omega) (by decide) rfl dM_of_102 ?_
        exact fd_iret C hr hlk (by first | (exfalso; omega) | (unfold mo_of; repeat (first | rw [if_pos (by omega)] | rw [if_neg (by omega)]))) rfl dM_of_103
      · refine fd_tswI C (tgt := 104) dM_of_37 ⟨by omega, by omega⟩ (by omega) (by omega) (by rw [hsw]; rfl) rfl ?_
        refine fd_aload_n C dM_of_104 rfl ?_
        refine fd_get C (k := 0) (i := 0) (j := 13) (v := .ref (ad 8 0)) (mo_m (by decide)) rfl rfl (by decide) wsM fw3_50 rfl dM_of_105 ?_
        refine fd_iload_n C dM_of_108 rfl ?_
        refine fd_iald C (k := 8) (i := 0) (x := n) (v := M 8 0 n) (mo_m (by decide)) (fun _ => rfl) (mo_tI cI) rfl (by omega) (by decide) rfl dM_of_109 ?_
        exact fd_iret C hr hlk (by first | (exfalso; omega) | (unfold mo_of; repeat (first | rw [if_pos (by omega)] | rw [if_neg (by omega)]))) rfl dM_of_110
      · refine fd_tswI C (tgt := 111) dM_of_37 ⟨by omega, by omega⟩ (by omega) (by omega) (by rw [hsw]; rfl) rfl ?_
        refine fd_aload_n C dM_of_111 rfl ?_
        refine fd_get C (k := 0) (i := 0) (j := 8) (v := .ref (ad 3 0)) (mo_m (by decide)) rfl rfl (by decide) wsM fw3_45 rfl dM_of_112 ?_
        refine fd_iload_n C dM_of_115 rfl ?_
        refine fd_iald C (k := 3) (i := 0) (x := n) (v := M 3 0 n) (mo_m (by decide)) (fun _ => rfl) (mo_tI cI) rfl (by omega) (by decide) rfl dM_of_116 ?_
        refine fd_iconst C dM_of_117 ?_
        refine fd_icmp_ne C (tgt := 130) dM_of_118 rfl ⟨by omega, by omega⟩ ⟨by omega, by omega⟩ (fun h118t => ?_) (fun h118f => ?_)
        · skip
          refine fd_iconst C dM_of_130 ?_
          exact fd_iret C hr hlk (by first | (exfalso; omega) | (unfold mo_of; repeat (first | rw [if_pos (by omega)] | rw [if_neg (by omega)]))) rfl dM_of_131
        · skip
          refine fd_aload_n C dM_of_121 rfl ?_
          refine fd_get C (k := 0) (i := 0) (j := 12) (v := .ref (ad 7 0)) (mo_m (by decide)) rfl rfl (by decide) wsM fw3_49 rfl dM_of_122 ?_
          refine fd_iload_n C dM_of_125 rfl ?_
          refine fd_iald C (k := 7) (i := 0) (x := n) (v := M 7 0 n) (mo_m (by decide)) (fun _ => rfl) (mo_tI cI) rfl (by omega) (by decide) rfl dM_of_126 ?_
          refine fd_goto C (tgt := 131) dM_of_127 rfl ?_
          exact fd_iret C hr hlk (by first | (exfalso; omega) | (unfold mo_of; repeat (first | rw [if_pos (by omega)] | rw [if_neg (by omega)]))) rfl dM_of_131
    · skip
      exfalso; omega
set_option maxRecDepth 20000 in
theorem mM_at (l : Launch) (D : va_G) (cI : ClassId) (ad : Nat → Nat → Nat) (M : fd_Mem) (x : Int) (hx : -2147483648 ≤ x ∧ x < 2147483648) (hm : 0 ≤ M 0 0 1 ∧ M 0 0 1 ≤ 60) : mo_Mi l D cI ad yM_at wM_at ({ frames := 0, cells := 0, slots := 0, locals := 0 }) [.ref (ad 0 0), .int (fd_I (x))] M (if 0 ≤ x ∧ x < M 0 0 1 then M 11 0 x.toNat - 1 else -1) ((fd_u3 M 0 0 0 0)) := by
  refine fd_enterI (by decide) rfl mo_nd (by simp [Value.category]) (Nat.le_of_ble_eq_true rfl) ?_
  intro A p e s m args below meth c C hr hlk hE
  have C : fd_C p m c cM_at 2 s args fd_T "FareDeskModel" D fd_cl (mo_tys cI) mo_wl A := C
  refine fd_pad 0 ?_
  refine fd_aload_n C dM_at_0 rfl ?_
  refine fd_iconst C dM_at_1 ?_
  refine fd_put C (k := 0) (i := 0) (j := 0) (z := 0) (ty := .int) tyM (mo_m (by decide)) rfl rfl rfl (by decide) wsM tyM_ok nmM fw3_37 rfl (by decide +kernel) rfl rfl (Nat.le_of_ble_eq_true rfl) dM_at_2 ?_
  refine fd_iload_n C dM_at_5 rfl ?_
  refine fd_if_lt C (tgt := 17) dM_at_6 rfl ⟨by omega, by omega⟩ (fun h6t => ?_) (fun h6f => ?_)
  · skip
    refine fd_iconst C dM_at_17 ?_
    refine fd_goto C (tgt := 29) dM_at_18 rfl ?_
    exact fd_iret C hr hlk (by first | rw [if_pos (by omega)] | rw [if_neg (by omega)]) rfl dM_at_29
  · skip
    refine fd_iload_n C dM_at_9 rfl ?_
    refine fd_aload_n C dM_at_10 rfl ?_
    refine fd_get C (k := 0) (i := 0) (j := 1) (v := .int (fd_I (M 0 0 1))) (mo_m (by decide)) rfl rfl (by decide) wsM fw3_38 rfl dM_at_11 ?_
    refine fd_icmp_lt C (tgt := 21) dM_at_14 rfl ⟨by omega, by omega⟩ ⟨by omega, by omega⟩ (fun h14t => ?_) (fun h14f => ?_)
    · skip
      refine fd_aload_n C dM_at_21 rfl ?_
      refine fd_get C (k := 0) (i := 0) (j := 16) (v := .ref (ad 11 0)) (mo_m (by decide)) rfl rfl (by decide) wsM fw3_53 rfl dM_at_22 ?_
      refine fd_iload_n C dM_at_25 rfl ?_
      refine fd_iald C (k := 11) (i := 0) (x := (x).toNat) (v := M 11 0 ((x).toNat)) (mo_m (by decide)) (fun _ => rfl) (mo_tI cI) (Int.toNat_of_nonneg (by omega)).symm (by omega) (by decide) rfl dM_at_26 ?_
      refine fd_iconst C dM_at_27 ?_
      refine fd_isub C dM_at_28 ?_
      exact fd_iret C hr hlk (by first | rw [if_pos (by omega)] | rw [if_neg (by omega)]) rfl dM_at_29
    · skip
      refine fd_iconst C dM_at_17 ?_
      refine fd_goto C (tgt := 29) dM_at_18 rfl ?_
      exact fd_iret C hr hlk (by first | rw [if_pos (by omega)] | rw [if_neg (by omega)]) rfl dM_at_29
set_option maxRecDepth 20000 in
theorem mM_count_1 (l : Launch) (D : va_G) (cI : ClassId) (ad : Nat → Nat → Nat) (M : fd_Mem) (x : Int) (hx : -2147483648 ≤ x ∧ x < 2147483648) (hb : x < 0 ∨ 6 < x) (hok : mo_ok M)  : mo_Mi l D cI ad yM_count wM_count ({ frames := 1, cells := 0, slots := 0, locals := 21 }) [.ref (ad 0 0), .int (fd_I (x))] M (0) ((fd_u3 M 0 0 0 1)) := by
  have hm := hok.made
  refine fd_enterI (by decide) rfl mo_nd (by simp [Value.category]) (Nat.le_of_ble_eq_true rfl) ?_
  intro A p e s m args below meth c C hr hlk hE
  have C : fd_C p m c cM_count 4 s args fd_T "FareDeskModel" D fd_cl (mo_tys cI) mo_wl A := C
  refine fd_pad 2 ?_
  refine fd_aload_n C dM_count_0 rfl ?_
  refine fd_iload_n C dM_count_1 rfl ?_
  refine fd_if_lt C (tgt := 11) dM_count_2 rfl ⟨by omega, by omega⟩ (fun h2t => ?_) (fun h2f => ?_)
  · skip
    refine fd_iconst C dM_count_11 ?_
    refine fd_goto C (tgt := 16) dM_count_12 rfl ?_
    refine fd_put C (k := 0) (i := 0) (j := 0) (z := 1) (ty := .int) tyM (mo_m (by decide)) rfl rfl rfl (by decide) wsM tyM_ok nmM fw3_37 rfl (by decide +kernel) rfl rfl (Nat.le_of_ble_eq_true rfl) dM_count_16 ?_
    refine fd_iconst C dM_count_19 ?_
    refine fd_istore_n C dM_count_20 (by decide) ?_
    refine fd_iconst C dM_count_21 ?_
    refine fd_istore_n C dM_count_22 (by decide) ?_
    have hloop23 : ∀ (dd23 : Nat) (n : Nat), dd23 = (M 0 0 7).toNat - n → ((n : Int) ≤ M 0 0 7) → fd_J p l e ({ frames := 1, cells := 0, slots := 0, locals := 21 }) s m args below meth c D fd_cl A ad (mo_en cI ad) mo_wl 4 0 0 (MQ below (fd_QI D fd_cl (mo_tys cI) ad (mo_en cI ad) mo_wl A (0) ((fd_u3 M 0 0 0 1))) args s 0 0 A) (fd_u3 M 0 0 0 (1)) 23 [some (.ref (ad 0 0)), some (.int (fd_I (x))), some (.int (fd_I (mo_ct M x n))), some (.int (fd_I ((n : Nat) : Int)))] [] := by
      intro dd23
      induction dd23 using Nat.strongRecOn with
      | ind dd23 ih23 =>
        intro n hdd23 hn
        refine fd_iload_n C dM_count_23 rfl ?_
        refine fd_aload_n C dM_count_24 rfl ?_
        refine fd_get C (k := 0) (i := 0) (j := 7) (v := .int (fd_I (M 0 0 7))) (mo_m (by decide)) rfl rfl (by decide) wsM fw3_44 rfl dM_count_25 ?_
        refine fd_icmp_ge C (tgt := 93) dM_count_28 rfl ⟨by omega, by omega⟩ ⟨by omega, by omega⟩ (fun h28t => ?_) (fun h28f => ?_)
        · skip
          refine fd_iload_n C dM_count_93 rfl ?_
          rcases (show (x) < 0 ∨ 6 < (x) ∨ (x) = 0 ∨ (x) = 1 ∨ (x) = 2 ∨ (x) = 3 ∨ (x) = 4 ∨ (x) = 5 ∨ (x) = 6 by omega) with hsw | hsw | hsw | hsw | hsw | hsw | hsw | hsw | hsw
          · refine fd_tswO C (tgt := 171) dM_count_94 ⟨by omega, by omega⟩ (Or.inl hsw) rfl ?_
            refine fd_iconst C dM_count_171 ?_
            exact fd_iret C hr hlk (by first | rfl | omega | (split <;> omega) | (simp; omega)) rfl dM_count_172
          · refine fd_tswO C (tgt := 171) dM_count_94 ⟨by omega, by omega⟩ (Or.inr hsw) rfl ?_
            refine fd_iconst C dM_count_171 ?_
            exact fd_iret C hr hlk (by first | rfl | omega | (split <;> omega) | (simp; omega)) rfl dM_count_172
          · refine fd_tswI C (tgt := 136) dM_count_94 ⟨by omega, by omega⟩ (by omega) (by omega) (by rw [hsw]; rfl) rfl ?_
            exfalso; omega
          · refine fd_tswI C (tgt := 141) dM_count_94 ⟨by omega, by omega⟩ (by omega) (by omega) (by rw [hsw]; rfl) rfl ?_
            exfalso; omega
          · refine fd_tswI C (tgt := 146) dM_count_94 ⟨by omega, by omega⟩ (by omega) (by omega) (by rw [hsw]; rfl) rfl ?_
            exfalso; omega
          · refine fd_tswI C (tgt := 146) dM_count_94 ⟨by omega, by omega⟩ (by omega) (by omega) (by rw [hsw]; rfl) rfl ?_
            exfalso; omega
          · refine fd_tswI C (tgt := 148) dM_count_94 ⟨by omega, by omega⟩ (by omega) (by omega) (by rw [hsw]; rfl) rfl ?_
            exfalso; omega
          · refine fd_tswI C (tgt := 153) dM_count_94 ⟨by omega, by omega⟩ (by omega) (by omega) (by rw [hsw]; rfl) rfl ?_
            exfalso; omega
          · refine fd_tswI C (tgt := 158) dM_count_94 ⟨by omega, by omega⟩ (by omega) (by omega) (by rw [hsw]; rfl) rfl ?_
            exfalso; omega
        · skip
          have e3 := hok.sta (show n < 60 by omega)
          refine fd_iload_n C dM_count_31 rfl ?_
          refine fd_iload_n C dM_count_32 rfl ?_
          refine fd_iconst C dM_count_33 ?_
          refine fd_icmp_ne C (tgt := 65) dM_count_34 rfl ⟨by omega, by omega⟩ ⟨by omega, by omega⟩ (fun h34t => ?_) (fun h34f => ?_)
          · skip
            refine fd_iload_n C dM_count_65 rfl ?_
            refine fd_iconst C dM_count_66 ?_
            refine fd_icmp_ne C (tgt := 84) dM_count_67 rfl ⟨by omega, by omega⟩ ⟨by omega, by omega⟩ (fun h67t => ?_) (fun h67f => ?_)
            · skip
              refine fd_iconst C dM_count_84 ?_
              refine fd_iadd C dM_count_85 ?_
              refine fd_istore_n C dM_count_86 (by decide) ?_
              refine fd_iinc C dM_count_87 rfl (by decide) ?_
              refine fd_goto C (tgt := 23) dM_count_90 rfl ?_
              have h9 := ih23 ((M 0 0 7).toNat - (n + 1)) (by omega) (n + 1) rfl (by omega)
              rw [mo_ct_s, if_neg (by omega), if_neg (by omega)] at h9
              exact h9
            · skip
              refine fd_aload_n C dM_count_70 rfl ?_
              refine fd_get C (k := 0) (i := 0) (j := 8) (v := .ref (ad 3 0)) (mo_m (by decide)) rfl rfl (by decide) wsM fw3_45 rfl dM_count_71 ?_
              refine fd_iload_n C dM_count_74 rfl ?_
              refine fd_iald C (k := 3) (i := 0) (x := n) (v := M 3 0 n) (mo_m (by decide)) (fun _ => rfl) (mo_tI cI) rfl (by omega) (by decide) rfl dM_count_75 ?_
              refine fd_iconst C dM_count_76 ?_
              refine fd_icmp_ne C (tgt := 84) dM_count_77 rfl ⟨by omega, by omega⟩ ⟨by omega, by omega⟩ (fun h77t => ?_) (fun h77f => ?_)
              · skip
                refine fd_iconst C dM_count_84 ?_
                refine fd_iadd C dM_count_85 ?_
                refine fd_istore_n C dM_count_86 (by decide) ?_
                refine fd_iinc C dM_count_87 rfl (by decide) ?_
                refine fd_goto C (tgt := 23) dM_count_90 rfl ?_
                have h9 := ih23 ((M 0 0 7).toNat - (n + 1)) (by omega) (n + 1) rfl (by omega)
                rw [mo_ct_s, if_neg (by omega), if_neg (by omega)] at h9
                exact h9
              · skip
                refine fd_iconst C dM_count_80 ?_
                refine fd_goto C (tgt := 85) dM_count_81 rfl ?_
                refine fd_iadd C dM_count_85 ?_
                refine fd_istore_n C dM_count_86 (by decide) ?_
                refine fd_iinc C dM_count_87 rfl (by decide) ?_
                refine fd_goto C (tgt := 23) dM_count_90 rfl ?_
                have h9 := ih23 ((M 0 0 7).toNat - (n + 1)) (by omega) (n + 1) rfl (by omega)
                rw [mo_ct_s, if_neg (by omega), if_pos (by omega)] at h9
                exact h9
          · skip
            refine fd_aload_n C dM_count_37 rfl ?_
            refine fd_iload_n C dM_count_38 rfl ?_
            by_cases hs39 : M 3 0 n = 1 ∨ M 3 0 n = 2
            · skip
              refine fd_callVi C hE [.int (fd_I ((n : Nat) : Int))] (k := 0) (i := 0) (mM_counts_1 l D cI ad (fd_u3 M 0 0 0 (1)) n (by omega) e3 hs39) (cwV 1 C.1.2.2.2.2 (gM_counts fw3_109) rfl rfl rfl ⟨rfl, by decide, by decide, by decide +kernel⟩ ⟨by decide, by decide⟩) (mo_m (by decide)) rfl rfl rfl (Nat.le_of_ble_eq_true rfl) dM_count_39 ⟨by decide, by decide⟩ ?_
              refine fd_if_ne C (tgt := 56) dM_count_42 rfl ⟨by omega, by omega⟩ (fun h42t => ?_) (fun h42f => ?_)
              rotate_left
              · exfalso; omega
              refine fd_aload_n C dM_count_56 rfl ?_
              refine fd_get C (k := 0) (i := 0) (j := 10) (v := .ref (ad 5 0)) (mo_m (by decide)) rfl rfl (by decide) wsM fw3_47 rfl dM_count_57 ?_
              refine fd_iload_n C dM_count_60 rfl ?_
              refine fd_iald C (k := 5) (i := 0) (x := n) (v := M 5 0 n) (mo_m (by decide)) (fun _ => rfl) (mo_tI cI) rfl (by omega) (by decide) rfl dM_count_61 ?_
              refine fd_goto C (tgt := 85) dM_count_62 rfl ?_
              refine fd_iadd C dM_count_85 ?_
              refine fd_istore_n C dM_count_86 (by decide) ?_
              refine fd_iinc C dM_count_87 rfl (by decide) ?_
              refine fd_goto C (tgt := 23) dM_count_90 rfl ?_
              have h9 := ih23 ((M 0 0 7).toNat - (n + 1)) (by omega) (n + 1) rfl (by omega)
              rw [mo_ct_s, if_pos (by omega)] at h9
              exact h9
            · skip
              refine fd_callVi C hE [.int (fd_I ((n : Nat) : Int))] (k := 0) (i := 0) (mM_counts_0 l D cI ad (fd_u3 M 0 0 0 (1)) n (by omega) e3 hs39) (cwV 1 C.1.2.2.2.2 (gM_counts fw3_109) rfl rfl rfl ⟨rfl, by decide, by decide, by decide +kernel⟩ ⟨by decide, by decide⟩) (mo_m (by decide)) rfl rfl rfl (Nat.le_of_ble_eq_true rfl) dM_count_39 ⟨by decide, by decide⟩ ?_
              refine fd_if_ne C (tgt := 56) dM_count_42 rfl ⟨by omega, by omega⟩ (fun h42t => ?_) (fun h42f => ?_)
              · exfalso; omega
              refine fd_aload_n C dM_count_45 rfl ?_
              refine fd_get C (k := 0) (i := 0) (j := 8) (v := .ref (ad 3 0)) (mo_m (by decide)) rfl rfl (by decide) wsM fw3_45 rfl dM_count_46 ?_
              refine fd_iload_n C dM_count_49 rfl ?_
              refine fd_iald C (k := 3) (i := 0) (x := n) (v := M 3 0 n) (mo_m (by decide)) (fun _ => rfl) (mo_tI cI) rfl (by omega) (by decide) rfl dM_count_50 ?_
              refine fd_bipush C dM_count_51 (by decide) ?_
              refine fd_icmp_ne C (tgt := 65) dM_count_53 rfl ⟨by omega, by omega⟩ ⟨by omega, by omega⟩ (fun h53t => ?_) (fun h53f => ?_)
              · skip
                refine fd_iload_n C dM_count_65 rfl ?_
                refine fd_iconst C dM_count_66 ?_
                refine fd_icmp_ne C (tgt := 84) dM_count_67 rfl ⟨by omega, by omega⟩ ⟨by omega, by omega⟩ (fun h67t => ?_) (fun h67f => ?_)
                · skip
                  refine fd_iconst C dM_count_84 ?_
                  refine fd_iadd C dM_count_85 ?_
                  refine fd_istore_n C dM_count_86 (by decide) ?_
                  refine fd_iinc C dM_count_87 rfl (by decide) ?_
                  refine fd_goto C (tgt := 23) dM_count_90 rfl ?_
                  have h9 := ih23 ((M 0 0 7).toNat - (n + 1)) (by omega) (n + 1) rfl (by omega)
                  rw [mo_ct_s, if_neg (by omega), if_neg (by omega)] at h9
                  exact h9
                · skip
                  refine fd_aload_n C dM_count_70 rfl ?_
                  refine fd_get C (k := 0) (i := 0) (j := 8) (v := .ref (ad 3 0)) (mo_m (by decide)) rfl rfl (by decide) wsM fw3_45 rfl dM_count_71 ?_
                  refine fd_iload_n C dM_count_74 rfl ?_
                  refine fd_iald C (k := 3) (i := 0) (x := n) (v := M 3 0 n) (mo_m (by decide)) (fun _ => rfl) (mo_tI cI) rfl (by omega) (by decide) rfl dM_count_75 ?_
                  refine fd_iconst C dM_count_76 ?_
                  refine fd_icmp_ne C (tgt := 84) dM_count_77 rfl ⟨by omega, by omega⟩ ⟨by omega, by omega⟩ (fun h77t => ?_) (fun h77f => ?_)
                  · skip
                    refine fd_iconst C dM_count_84 ?_
                    refine fd_iadd C dM_count_85 ?_
                    refine fd_istore_n C dM_count_86 (by decide) ?_
                    refine fd_iinc C dM_count_87 rfl (by decide) ?_
                    refine fd_goto C (tgt := 23) dM_count_90 rfl ?_
                    have h9 := ih23 ((M 0 0 7).toNat - (n + 1)) (by omega) (n + 1) rfl (by omega)
                    rw [mo_ct_s, if_neg (by omega), if_neg (by omega)] at h9
                    exact h9
                  · skip
                    refine fd_iconst C dM_count_80 ?_
                    refine fd_goto C (tgt := 85) dM_count_81 rfl ?_
                    refine fd_iadd C dM_count_85 ?_
                    refine fd_istore_n C dM_count_86 (by decide) ?_
                    refine fd_iinc C dM_count_87 rfl (by decide) ?_
                    refine fd_goto C (tgt := 23) dM_count_90 rfl ?_
                    have h9 := ih23 ((M 0 0 7).toNat - (n + 1)) (by omega) (n + 1) rfl (by omega)
                    rw [mo_ct_s, if_neg (by omega), if_pos (by omega)] at h9
                    exact h9
              · skip
                refine fd_aload_n C dM_count_56 rfl ?_
                refine fd_get C (k := 0) (i := 0) (j := 10) (v := .ref (ad 5 0)) (mo_m (by decide)) rfl rfl (by decide) wsM fw3_47 rfl dM_count_57 ?_
                refine fd_iload_n C dM_count_60 rfl ?_
                refine fd_iald C (k := 5) (i := 0) (x := n) (v := M 5 0 n) (mo_m (by decide)) (fun _ => rfl) (mo_tI cI) rfl (by omega) (by decide) rfl dM_count_61 ?_
                refine fd_goto C (tgt := 85) dM_count_62 rfl ?_
                refine fd_iadd C dM_count_85 ?_
                refine fd_istore_n C dM_count_86 (by decide) ?_
                refine fd_iinc C dM_count_87 rfl (by decide) ?_
                refine fd_goto C (tgt := 23) dM_count_90 rfl ?_
                have h9 := ih23 ((M 0 0 7).toNat - (n + 1)) (by omega) (n + 1) rfl (by omega)
                rw [mo_ct_s, if_pos (by omega)] at h9
                exact h9
    exact hloop23 _ 0 rfl (by omega)
  · skip
    refine fd_iload_n C dM_count_5 rfl ?_
    refine fd_bipush C dM_count_6 (by decide) ?_
    refine fd_icmp_le C (tgt := 15) dM_count_8 rfl ⟨by omega, by omega⟩ ⟨by omega, by omega⟩ (fun h8t => ?_) (fun h8f => ?_)
    · skip
      exfalso; omega
    · skip
      refine fd_iconst C dM_count_11 ?_
      refine fd_goto C (tgt := 16) dM_count_12 rfl ?_
      refine fd_put C (k := 0) (i := 0) (j := 0) (z := 1) (ty := .int) tyM (mo_m (by decide)) rfl rfl rfl (by decide) wsM tyM_ok nmM fw3_37 rfl (by decide +kernel) rfl rfl (Nat.le_of_ble_eq_true rfl) dM_count_16 ?_
      refine fd_iconst C dM_count_19 ?_
      refine fd_istore_n C dM_count_20 (by decide) ?_
      refine fd_iconst C dM_count_21 ?_
      refine fd_istore_n C dM_count_22 (by decide) ?_
      have hloop23 : ∀ (dd23 : Nat) (n : Nat), dd23 = (M 0 0 7).toNat - n → ((n : Int) ≤ M 0 0 7) → fd_J p l e ({ frames := 1, cells := 0, slots := 0, locals := 21 }) s m args below meth c D fd_cl A ad (mo_en cI ad) mo_wl 4 0 0 (MQ below (fd_QI D fd_cl (mo_tys cI) ad (mo_en cI ad) mo_wl A (0) ((fd_u3 M 0 0 0 1))) args s 0 0 A) (fd_u3 M 0 0 0 (1)) 23 [some (.ref (ad 0 0)), some (.int (fd_I (x))), some (.int (fd_I (mo_ct M x n))), some (.int (fd_I ((n : Nat) : Int)))] [] := by
        intro dd23
        induction dd23 using Nat.strongRecOn with
        | ind dd23 ih23 =>
          intro n hdd23 hn
          refine fd_iload_n C dM_count_23 rfl ?_
          refine fd_aload_n C dM_count_24 rfl ?_
          refine fd_get C (k := 0) (i := 0) (j := 7) (v := .int (fd_I (M 0 0 7))) (mo_m (by decide)) rfl rfl (by decide) wsM fw3_44 rfl dM_count_25 ?_
          refine fd_icmp_ge C (tgt := 93) dM_count_28 rfl ⟨by omega, by omega⟩ ⟨by omega, by omega⟩ (fun h28t => ?_) (fun h28f => ?_)
          · skip
            refine fd_iload_n C dM_count_93 rfl ?_
            rcases (show (x) < 0 ∨ 6 < (x) ∨ (x) = 0 ∨ (x) = 1 ∨ (x) = 2 ∨ (x) = 3 ∨ (x) = 4 ∨ (x) = 5 ∨ (x) = 6 by omega) with hsw | hsw | hsw | hsw | hsw | hsw | hsw | hsw | hsw
            · refine fd_tswO C (tgt := 171) dM_count_94 ⟨by omega, by omega⟩ (Or.inl hsw) rfl ?_
              refine fd_iconst C dM_count_171 ?_
              exact fd_iret C hr hlk (by first | rfl | omega | (split <;> omega) | (simp; omega)) rfl dM_count_172
            · refine fd_tswO C (tgt := 171) dM_count_94 ⟨by omega, by omega⟩ (Or.inr hsw) rfl ?_
              refine fd_iconst C dM_count_171 ?_
              exact fd_iret C hr hlk (by first | rfl | omega | (split <;> omega) | (simp; omega)) rfl dM_count_172
            · refine fd_tswI C (tgt := 136) dM_count_94 ⟨by omega, by omega⟩ (by omega) (by omega) (by rw [hsw]; rfl) rfl ?_
              exfalso; omega
            · refine fd_tswI C (tgt := 141) dM_count_94 ⟨by omega, by omega⟩ (by omega) (by omega) (by rw [hsw]; rfl) rfl ?_
              exfalso; omega
            · refine fd_tswI C (tgt := 146) dM_count_94 ⟨by omega, by omega⟩ (by omega) (by omega) (by rw [hsw]; rfl) rfl ?_
              exfalso; omega
            · refine fd_tswI C (tgt := 146) dM_count_94 ⟨by omega, by omega⟩ (by omega) (by omega) (by rw [hsw]; rfl) rfl ?_
              exfalso; omega
            · refine fd_tswI C (tgt := 148) dM_count_94 ⟨by omega, by omega⟩ (by omega) (by omega) (by rw [hsw]; rfl) rfl ?_
              exfalso; omega
            · refine fd_tswI C (tgt := 153) dM_count_94 ⟨by omega, by omega⟩ (by omega) (by omega) (by rw [hsw]; rfl) rfl ?_
              exfalso; omega
            · refine fd_tswI C (tgt := 158) dM_count_94 ⟨by omega, by omega⟩ (by omega) (by omega) (by rw [hsw]; rfl) rfl ?_
              exfalso; omega
          · skip
            have e3 := hok.sta (show n < 60 by omega)
            refine fd_iload_n C dM_count_31 rfl ?_
            refine fd_iload_n C dM_count_32 rfl ?_
            refine fd_iconst C dM_count_33 ?_
            refine fd_icmp_ne C (tgt := 65) dM_count_34 rfl ⟨by omega, by omega⟩ ⟨by omega, by omega⟩ (fun h34t => ?_) (fun h34f => ?_)
            · skip
              refine fd_iload_n C dM_count_65 rfl ?_
              refine fd_iconst C dM_count_66 ?_
              refine fd_icmp_ne C (tgt := 84) dM_count_67 rfl ⟨by omega, by omega⟩ ⟨by omega, by omega⟩ (fun h67t => ?_) (fun h67f => ?_)
              · skip
                refine fd_iconst C dM_count_84 ?_
                refine fd_iadd C dM_count_85 ?_
                refine fd_istore_n C dM_count_86 (by decide) ?_
                refine fd_iinc C dM_count_87 rfl (by decide) ?_
                refine fd_goto C (tgt := 23) dM_count_90 rfl ?_
                have h9 := ih23 ((M 0 0 7).toNat - (n + 1)) (by omega) (n + 1) rfl (by omega)
                rw [mo_ct_s, if_neg (by omega), if_neg (by omega)] at h9
                exact h9
              · skip
                refine fd_aload_n C dM_count_70 rfl ?_
                refine fd_get C (k := 0) (i := 0) (j := 8) (v := .ref (ad 3 0)) (mo_m (by decide)) rfl rfl (by decide) wsM fw3_45 rfl dM_count_71 ?_
                refine fd_iload_n C dM_count_74 rfl ?_
                refine fd_iald C (k := 3) (i := 0) (x := n) (v := M 3 0 n) (mo_m (by decide)) (fun _ => rfl) (mo_tI cI) rfl (by omega) (by decide) rfl dM_count_75 ?_
                refine fd_iconst C dM_count_76 ?_
                refine fd_icmp_ne C (tgt := 84) dM_count_77 rfl ⟨by omega, by omega⟩ ⟨by omega, by omega⟩ (fun h77t => ?_) (fun h77f => ?_)
                · skip
                  refine fd_iconst C dM_count_84 ?_
                  refine fd_iadd C dM_count_85 ?_
                  refine fd_istore_n C dM_count_86 (by decide) ?_
                  refine fd_iinc C dM_count_87 rfl (by decide) ?_
                  refine fd_goto C (tgt := 23) dM_count_90 rfl ?_
                  have h9 := ih23 ((M 0 0 7).toNat - (n + 1)) (by omega) (n + 1) rfl (by omega)
                  rw [mo_ct_s, if_neg (by omega), if_neg (by omega)] at h9
                  exact h9
                · skip
                  refine fd_iconst C dM_count_80 ?_
                  refine fd_goto C (tgt := 85) dM_count_81 rfl ?_
                  refine fd_iadd C dM_count_85 ?_
                  refine fd_istore_n C dM_count_86 (by decide) ?_
                  refine fd_iinc C dM_count_87 rfl (by decide) ?_
                  refine fd_goto C (tgt := 23) dM_count_90 rfl ?_
                  have h9 := ih23 ((M 0 0 7).toNat - (n + 1)) (by omega) (n + 1) rfl (by omega)
                  rw [mo_ct_s, if_neg (by omega), if_pos (by omega)] at h9
                  exact h9
            · skip
              refine fd_aload_n C dM_count_37 rfl ?_
              refine fd_iload_n C dM_count_38 rfl ?_
              by_cases hs39 : M 3 0 n = 1 ∨ M 3 0 n = 2
              · skip
                refine fd_callVi C hE [.int (fd_I ((n : Nat) : Int))] (k := 0) (i := 0) (mM_counts_1 l D cI ad (fd_u3 M 0 0 0 (1)) n (by omega) e3 hs39) (cwV 1 C.1.2.2.2.2 (gM_counts fw3_109) rfl rfl rfl ⟨rfl, by decide, by decide, by decide +kernel⟩ ⟨by decide, by decide⟩) (mo_m (by decide)) rfl rfl rfl (Nat.le_of_ble_eq_true rfl) dM_count_39 ⟨by decide, by decide⟩ ?_
                refine fd_if_ne C (tgt := 56) dM_count_42 rfl ⟨by omega, by omega⟩ (fun h42t => ?_) (fun h42f => ?_)
                rotate_left
                · exfalso; omega
                refine fd_aload_n C dM_count_56 rfl ?_
                refine fd_get C (k := 0) (i := 0) (j := 10) (v := .ref (ad 5 0)) (mo_m (by decide)) rfl rfl (by decide) wsM fw3_47 rfl dM_count_57 ?_
                refine fd_iload_n C dM_count_60 rfl ?_
                refine fd_iald C (k := 5) (i := 0) (x := n) (v := M 5 0 n) (mo_m (by decide)) (fun _ => rfl) (mo_tI cI) rfl (by omega) (by decide) rfl dM_count_61 ?_
                refine fd_goto C (tgt := 85) dM_count_62 rfl ?_
                refine fd_iadd C dM_count_85 ?_
                refine fd_istore_n C dM_count_86 (by decide) ?_
                refine fd_iinc C dM_count_87 rfl (by decide) ?_
                refine fd_goto C (tgt := 23) dM_count_90 rfl ?_
                have h9 := ih23 ((M 0 0 7).toNat - (n + 1)) (by omega) (n + 1) rfl (by omega)
                rw [mo_ct_s, if_pos (by omega)] at h9
                exact h9
              · skip
                refine fd_callVi C hE [.int (fd_I ((n : Nat) : Int))] (k := 0) (i := 0) (mM_counts_0 l D cI ad (fd_u3 M 0 0 0 (1)) n (by omega) e3 hs39) (cwV 1 C.1.2.2.2.2 (gM_counts fw3_109) rfl rfl rfl ⟨rfl, by decide, by decide, by decide +kernel⟩ ⟨by decide, by decide⟩) (mo_m (by decide)) rfl rfl rfl (Nat.le_of_ble_eq_true rfl) dM_count_39 ⟨by decide, by decide⟩ ?_
                refine fd_if_ne C (tgt := 56) dM_count_42 rfl ⟨by omega, by omega⟩ (fun h42t => ?_) (fun h42f => ?_)
                · exfalso; omega
                refine fd_aload_n C dM_count_45 rfl ?_
                refine fd_get C (k := 0) (i := 0) (j := 8) (v := .ref (ad 3 0)) (mo_m (by decide)) rfl rfl (by decide) wsM fw3_45 rfl dM_count_46 ?_
                refine fd_iload_n C dM_count_49 rfl ?_
                refine fd_iald C (k := 3) (i := 0) (x := n) (v := M 3 0 n) (mo_m (by decide)) (fun _ => rfl) (mo_tI cI) rfl (by omega) (by decide) rfl dM_count_50 ?_
                refine fd_bipush C dM_count_51 (by decide) ?_
                refine fd_icmp_ne C (tgt := 65) dM_count_53 rfl ⟨by omega, by omega⟩ ⟨by omega, by omega⟩ (fun h53t => ?_) (fun h53f => ?_)
                · skip
                  refine fd_iload_n C dM_count_65 rfl ?_
                  refine fd_iconst C dM_count_66 ?_
                  refine fd_icmp_ne C (tgt := 84) dM_count_67 rfl ⟨by omega, by omega⟩ ⟨by omega, by omega⟩ (fun h67t => ?_) (fun h67f => ?_)
                  · skip
                    refine fd_iconst C dM_count_84 ?_
                    refine fd_iadd C dM_count_85 ?_
                    refine fd_istore_n C dM_count_86 (by decide) ?_
                    refine fd_iinc C dM_count_87 rfl (by decide) ?_
                    refine fd_goto C (tgt := 23) dM_count_90 rfl ?_
                    have h9 := ih23 ((M 0 0 7).toNat - (n + 1)) (by omega) (n + 1) rfl (by omega)
                    rw [mo_ct_s, if_neg (by omega), if_neg (by omega)] at h9
                    exact h9
                  · skip
                    refine fd_aload_n C dM_count_70 rfl ?_
                    refine fd_get C (k := 0) (i := 0) (j := 8) (v := .ref (ad 3 0)) (mo_m (by decide)) rfl rfl (by decide) wsM fw3_45 rfl dM_count_71 ?_
                    refine fd_iload_n C dM_count_74 rfl ?_
                    refine fd_iald C (k := 3) (i := 0) (x := n) (v := M 3 0 n) (mo_m (by decide)) (fun _ => rfl) (mo_tI cI) rfl (by omega) (by decide) rfl dM_count_75 ?_
                    refine fd_iconst C dM_count_76 ?_
                    refine fd_icmp_ne C (tgt := 84) dM_count_77 rfl ⟨by omega, by omega⟩ ⟨by omega, by omega⟩ (fun h77t => ?_) (fun h77f => ?_)
                    · skip
                      refine fd_iconst C dM_count_84 ?_
                      refine fd_iadd C dM_count_85 ?_
                      refine fd_istore_n C dM_count_86 (by decide) ?_
                      refine fd_iinc C dM_count_87 rfl (by decide) ?_
                      refine fd_goto C (tgt := 23) dM_count_90 rfl ?_
                      have h9 := ih23 ((M 0 0 7).toNat - (n + 1)) (by omega) (n + 1) rfl (by omega)
                      rw [mo_ct_s, if_neg (by omega), if_neg (by omega)] at h9
                      exact h9
                    · skip
                      refine fd_iconst C dM_count_80 ?_
                      refine fd_goto C (tgt := 85) dM_count_81 rfl ?_
                      refine fd_iadd C dM_count_85 ?_
                      refine fd_istore_n C dM_count_86 (by decide) ?_
                      refine fd_iinc C dM_count_87 rfl (by decide) ?_
                      refine fd_goto C (tgt := 23) dM_count_90 rfl ?_
                      have h9 := ih23 ((M 0 0 7).toNat - (n + 1)) (by omega) (n + 1) rfl (by omega)
                      rw [mo_ct_s, if_neg (by omega), if_pos (by omega)] at h9
                      exact h9
                · skip
                  refine fd_aload_n C dM_count_56 rfl ?_
                  refine fd_get C (k := 0) (i := 0) (j := 10) (v := .ref (ad 5 0)) (mo_m (by decide)) rfl rfl (by decide) wsM fw3_47 rfl dM_count_57 ?_
                  refine fd_iload_n C dM_count_60 rfl ?_
                  refine fd_iald C (k := 5) (i := 0) (x := n) (v := M 5 0 n) (mo_m (by decide)) (fun _ => rfl) (mo_tI cI) rfl (by omega) (by decide) rfl dM_count_61 ?_
                  refine fd_goto C (tgt := 85) dM_count_62 rfl ?_
                  refine fd_iadd C dM_count_85 ?_
                  refine fd_istore_n C dM_count_86 (by decide) ?_
                  refine fd_iinc C dM_count_87 rfl (by decide) ?_
                  refine fd_goto C (tgt := 23) dM_count_90 rfl ?_
                  have h9 := ih23 ((M 0 0 7).toNat - (n + 1)) (by omega) (n + 1) rfl (by omega)
                  rw [mo_ct_s, if_pos (by omega)] at h9
                  exact h9
      exact hloop23 _ 0 rfl (by omega)
set_option maxRecDepth 20000 in
theorem mM_count (l : Launch) (D : va_G) (cI : ClassId) (ad : Nat → Nat → Nat) (M : fd_Mem) (x : Int) (hx : 0 ≤ x ∧ x ≤ 6) (hok : mo_ok M)  : mo_Mi l D cI ad yM_count wM_count ({ frames := 1, cells := 0, slots := 0, locals := 22 }) [.ref (ad 0 0), .int (fd_I (x))] M (mo_cnt M x) ((fd_u3 M 0 0 0 0)) := by
  have hm := hok.made
  have e4 := hok.shut
  refine fd_enterI (by decide) rfl mo_nd (by simp [Value.category]) (Nat.le_of_ble_eq_true rfl) ?_
  intro A p e s m args below meth c C hr hlk hE
  have C : fd_C p m c cM_count 4 s args fd_T "FareDeskModel" D fd_cl (mo_tys cI) mo_wl A := C
  refine fd_pad 2 ?_
  refine fd_aload_n C dM_count_0 rfl ?_
  refine fd_iload_n C dM_count_1 rfl ?_
  refine fd_if_lt C (tgt := 11) dM_count_2 rfl ⟨by omega, by omega⟩ (fun h2t => ?_) (fun h2f => ?_)
  · skip
    exfalso; omega
  · skip
    refine fd_iload_n C dM_count_5 rfl ?_
    refine fd_bipush C dM_count_6 (by decide) ?_
    refine fd_icmp_le C (tgt := 15) dM_count_8 rfl ⟨by omega, by omega⟩ ⟨by omega, by omega⟩ (fun h8t => ?_) (fun h8f => ?_)
    · skip
      refine fd_iconst C dM_count_15 ?_
      refine fd_put C (k := 0) (i := 0) (j := 0) (z := 0) (ty := .int) tyM (mo_m (by decide)) rfl rfl rfl (by decide) wsM tyM_ok nmM fw3_37 rfl (by decide +kernel) rfl rfl (Nat.le_of_ble_eq_true rfl) dM_count_16 ?_
      refine fd_iconst C dM_count_19 ?_
      refine fd_istore_n C dM_count_20 (by decide) ?_
      refine fd_iconst C dM_count_21 ?_
      refine fd_istore_n C dM_count_22 (by decide) ?_
      have hloop23 : ∀ (dd23 : Nat) (n : Nat), dd23 = (M 0 0 7).toNat - n → ((n : Int) ≤ M 0 0 7) → fd_J p l e ({ frames := 1, cells := 0, slots := 0, locals := 22 }) s m args below meth c D fd_cl A ad (mo_en cI ad) mo_wl 4 0 0 (MQ below (fd_QI D fd_cl (mo_tys cI) ad (mo_en cI ad) mo_wl A (mo_cnt M x) ((fd_u3 M 0 0 0 0))) args s 0 0 A) (fd_u3 M 0 0 0 (0)) 23 [some (.ref (ad 0 0)), some (.int (fd_I (x))), some (.int (fd_I (mo_ct M x n))), some (.int (fd_I ((n : Nat) : Int)))] [] := by
        intro dd23
        induction dd23 using Nat.strongRecOn with
        | ind dd23 ih23 =>
          intro n hdd23 hn
          refine fd_iload_n C dM_count_23 rfl ?_
          refine fd_aload_n C dM_count_24 rfl ?_
          refine fd_get C (k := 0) (i := 0) (j := 7) (v := .int (fd_I (M 0 0 7))) (mo_m (by decide)) rfl rfl (by decide) wsM fw3_44 rfl dM_count_25 ?_
          refine fd_icmp_ge C (tgt := 93) dM_count_28 rfl ⟨by omega, by omega⟩ ⟨by omega, by omega⟩ (fun h28t => ?_) (fun h28f => ?_)
          · skip
            refine fd_iload_n C dM_count_93 rfl ?_
            rcases (show (x) < 0 ∨ 6 < (x) ∨ (x) = 0 ∨ (x) = 1 ∨ (x) = 2 ∨ (x) = 3 ∨ (x) = 4 ∨ (x) = 5 ∨ (x) = 6 by omega) with hsw | hsw | hsw | hsw | hsw | hsw | hsw | hsw | hsw
            · refine fd_tswO C (tgt := 171) dM_count_94 ⟨by omega, by omega⟩ (Or.inl hsw) rfl ?_
              exfalso; omega
            · refine fd_tswO C (tgt := 171) dM_count_94 ⟨by omega, by omega⟩ (Or.inr hsw) rfl ?_
              exfalso; omega
            · refine fd_tswI C (tgt := 136) dM_count_94 ⟨by omega, by omega⟩ (by omega) (by omega) (by rw [hsw]; rfl) rfl ?_
              refine fd_aload_n C dM_count_136 rfl ?_
              refine fd_get C (k := 0) (i := 0) (j := 2) (v := .int (fd_I (M 0 0 2))) (mo_m (by decide)) rfl rfl (by decide) wsM fw3_39 rfl dM_count_137 ?_
              exact fd_iret C hr hlk (by first | (exfalso; omega) | (unfold mo_cnt; (repeat (first | rw [if_pos (by omega)] | rw [if_neg (by omega)])); all_goals first | rfl | rw [show n = (M 0 0 7).toNat by omega] | omega)) rfl dM_count_140
            · refine fd_tswI C (tgt := 141) dM_count_94 ⟨by omega, by omega⟩ (by omega) (by omega) (by rw [hsw]; rfl) rfl ?_
              refine fd_aload_n C dM_count_141 rfl ?_
              refine fd_get C (k := 0) (i := 0) (j := 7) (v := .int (fd_I (M 0 0 7))) (mo_m (by decide)) rfl rfl (by decide) wsM fw3_44 rfl dM_count_142 ?_
              exact fd_iret C hr hlk (by first | (exfalso; omega) | (unfold mo_cnt; (repeat (first | rw [if_pos (by omega)] | rw [if_neg (by omega)])); all_goals first | rfl | rw [show n = (M 0 0 7).toNat by omega] | omega)) rfl dM_count_145
            · refine fd_tswI C (tgt := 146) dM_count_94 ⟨by omega, by omega⟩ (by omega) (by omega) (by rw [hsw]; rfl) rfl ?_
              refine fd_iload_n C dM_count_146 rfl ?_
              exact fd_iret C hr hlk (by first | (exfalso; omega) | (unfold mo_cnt; (repeat (first | rw [if_pos (by omega)] | rw [if_neg (by omega)])); all_goals first | rfl | rw [show n = (M 0 0 7).toNat by omega] | omega)) rfl dM_count_147
            · refine fd_tswI C (tgt := 146) dM_count_94 ⟨by omega, by omega⟩ (by omega) (by omega) (by rw [hsw]; rfl) rfl ?_
              refine fd_iload_n C dM_count_146 rfl ?_
              exact fd_iret C hr hlk (by first | (exfalso; omega) | (unfold mo_cnt; (repeat (first | rw [if_pos (by omega)] | rw [if_neg (by omega)])); all_goals first | rfl | rw [show n = (M 0 0 7).toNat by omega] | omega)) rfl dM_count_147
            · refine fd_tswI C (tgt := 148) dM_count_94 ⟨by omega, by omega⟩ (by omega) (by omega) (by rw [hsw]; rfl) rfl ?_
              refine fd_aload_n C dM_count_148 rfl ?_
              refine fd_get C (k := 0) (i := 0) (j := 3) (v := .int (fd_I (M 0 0 3))) (mo_m (by decide)) rfl rfl (by decide) wsM fw3_40 rfl dM_count_149 ?_
              exact fd_iret C hr hlk (by first | (exfalso; omega) | (unfold mo_cnt; (repeat (first | rw [if_pos (by omega)] | rw [if_neg (by omega)])); all_goals first | rfl | rw [show n = (M 0 0 7).toNat by omega] | omega)) rfl dM_count_152
            · refine fd_tswI C (tgt := 153) dM_count_94 ⟨by omega, by omega⟩ (by omega) (by omega) (by rw [hsw]; rfl) rfl ?_
              refine fd_aload_n C dM_count_153 rfl ?_
              refine fd_callVi C hE [] (k := 0) (i := 0) (mM_freeSeats l D cI ad (fd_u3 M 0 0 0 (0)) hok.cnt (fun _ hx => hok.own hx)) (cwV 0 C.1.2.2.2.2 (gM_freeSeats fw3_181) rfl rfl rfl ⟨rfl, by decide, by decide, by decide +kernel⟩ ⟨by decide, by decide⟩) (mo_m (by decide)) rfl rfl rfl (Nat.le_of_ble_eq_true rfl) dM_count_154 ⟨by decide, by decide⟩ ?_
              exact fd_iret C hr hlk (by unfold mo_cnt; rw [mo_fr_thr]; (repeat (first | rw [if_pos (by omega)] | rw [if_neg (by omega)])); rfl) rfl dM_count_157
            · refine fd_tswI C (tgt := 158) dM_count_94 ⟨by omega, by omega⟩ (by omega) (by omega) (by rw [hsw]; rfl) rfl ?_
              refine fd_aload_n C dM_count_158 rfl ?_
              refine fd_get C (k := 0) (i := 0) (j := 4) (v := .int (fd_I (M 0 0 4))) (mo_m (by decide)) rfl rfl (by decide) wsM fw3_41 rfl dM_count_159 ?_
              refine fd_if_eq C (tgt := 169) dM_count_162 rfl ⟨by omega, by omega⟩ (fun h162t => ?_) (fun h162f => ?_)
              · skip
                refine fd_iconst C dM_count_169 ?_
                exact fd_iret C hr hlk (by first | (exfalso; omega) | (unfold mo_cnt; (repeat (first | rw [if_pos (by omega)] | rw [if_neg (by omega)])); all_goals first | rfl | rw [show n = (M 0 0 7).toNat by omega] | omega)) rfl dM_count_170
              · skip
                refine fd_iconst C dM_count_165 ?_
                refine fd_goto C (tgt := 170) dM_count_166 rfl ?_
                exact fd_iret C hr hlk (by first | (exfalso; omega) | (unfold mo_cnt; (repeat (first | rw [if_pos (by omega)] | rw [if_neg (by omega)])); all_goals first | rfl | rw [show n = (M 0 0 7).toNat by omega] | omega)) rfl dM_count_170
          · skip
            have e3 := hok.sta (show n < 60 by omega)
            refine fd_iload_n C dM_count_31 rfl ?_
            refine fd_iload_n C dM_count_32 rfl ?_
            refine fd_iconst C dM_count_33 ?_
            refine fd_icmp_ne C (tgt := 65) dM_count_34 rfl ⟨by omega, by omega⟩ ⟨by omega, by omega⟩ (fun h34t => ?_) (fun h34f => ?_)
            · skip
              refine fd_iload_n C dM_count_65 rfl ?_
              refine fd_iconst C dM_count_66 ?_
              refine fd_icmp_ne C (tgt := 84) dM_count_67 rfl ⟨by omega, by omega⟩ ⟨by omega, by omega⟩ (fun h67t => ?_) (fun h67f => ?_)
              · skip
                refine fd_iconst C dM_count_84 ?_
                refine fd_iadd C dM_count_85 ?_
                refine fd_istore_n C dM_count_86 (by decide) ?_
                refine fd_iinc C dM_count_87 rfl (by decide) ?_
                refine fd_goto C (tgt := 23) dM_count_90 rfl ?_
                have h9 := ih23 ((M 0 0 7).toNat - (n + 1)) (by omega) (n + 1) rfl (by omega)
                rw [mo_ct_s, if_neg (by omega), if_neg (by omega)] at h9
                exact h9
              · skip
                refine fd_aload_n C dM_count_70 rfl ?_
                refine fd_get C (k := 0) (i := 0) (j := 8) (v := .ref (ad 3 0)) (mo_m (by decide)) rfl rfl (by decide) wsM fw3_45 rfl dM_count_71 ?_
                refine fd_iload_n C dM_count_74 rfl ?_
                refine fd_iald C (k := 3) (i := 0) (x := n) (v := M 3 0 n) (mo_m (by decide)) (fun _ => rfl) (mo_tI cI) rfl (by omega) (by decide) rfl dM_count_75 ?_
                refine fd_iconst C dM_count_76 ?_
                refine fd_icmp_ne C (tgt := 84) dM_count_77 rfl ⟨by omega, by omega⟩ ⟨by omega, by omega⟩ (fun h77t => ?_) (fun h77f => ?_)
                · skip
                  refine fd_iconst C dM_count_84 ?_
                  refine fd_iadd C dM_count_85 ?_
                  refine fd_istore_n C dM_count_86 (by decide) ?_
                  refine fd_iinc C dM_count_87 rfl (by decide) ?_
                  refine fd_goto C (tgt := 23) dM_count_90 rfl ?_
                  have h9 := ih23 ((M 0 0 7).toNat - (n + 1)) (by omega) (n + 1) rfl (by omega)
                  rw [mo_ct_s, if_neg (by omega), if_neg (by omega)] at h9
                  exact h9
                · skip
                  refine fd_iconst C dM_count_80 ?_
                  refine fd_goto C (tgt := 85) dM_count_81 rfl ?_
                  refine fd_iadd C dM_count_85 ?_
                  refine fd_istore_n C dM_count_86 (by decide) ?_
                  refine fd_iinc C dM_count_87 rfl (by decide) ?_
                  refine fd_goto C (tgt := 23) dM_count_90 rfl ?_
                  have h9 := ih23 ((M 0 0 7).toNat - (n + 1)) (by omega) (n + 1) rfl (by omega)
                  rw [mo_ct_s, if_neg (by omega), if_pos (by omega)] at h9
                  exact h9
            · skip
              refine fd_aload_n C dM_count_37 rfl ?_
              refine fd_iload_n C dM_count_38 rfl ?_
              by_cases hs39 : M 3 0 n = 1 ∨ M 3 0 n = 2
              · skip
                refine fd_callVi C hE [.int (fd_I ((n : Nat) : Int))] (k := 0) (i := 0) (mM_counts_1 l D cI ad (fd_u3 M 0 0 0 (0)) n (by omega) e3 hs39) (cwV 1 C.1.2.2.2.2 (gM_counts fw3_109) rfl rfl rfl ⟨rfl, by decide, by decide, by decide +kernel⟩ ⟨by decide, by decide⟩) (mo_m (by decide)) rfl rfl rfl (Nat.le_of_ble_eq_true rfl) dM_count_39 ⟨by decide, by decide⟩ ?_
                refine fd_if_ne C (tgt := 56) dM_count_42 rfl ⟨by omega, by omega⟩ (fun h42t => ?_) (fun h42f => ?_)
                rotate_left
                · exfalso; omega
                refine fd_aload_n C dM_count_56 rfl ?_
                refine fd_get C (k := 0) (i := 0) (j := 10) (v := .ref (ad 5 0)) (mo_m (by decide)) rfl rfl (by decide) wsM fw3_47 rfl dM_count_57 ?_
                refine fd_iload_n C dM_count_60 rfl ?_
                refine fd_iald C (k := 5) (i := 0) (x := n) (v := M 5 0 n) (mo_m (by decide)) (fun _ => rfl) (mo_tI cI) rfl (by omega) (by decide) rfl dM_count_61 ?_
                refine fd_goto C (tgt := 85) dM_count_62 rfl ?_
                refine fd_iadd C dM_count_85 ?_
                refine fd_istore_n C dM_count_86 (by decide) ?_
                refine fd_iinc C dM_count_87 rfl (by decide) ?_
                refine fd_goto C (tgt := 23) dM_count_90 rfl ?_
                have h9 := ih23 ((M 0 0 7).toNat - (n + 1)) (by omega) (n + 1) rfl (by omega)
                rw [mo_ct_s, if_pos (by omega)] at h9
                exact h9
              · skip
                refine fd_callVi C hE [.int (fd_I ((n : Nat) : Int))] (k := 0) (i := 0) (mM_counts_0 l D cI ad (fd_u3 M 0 0 0 (0)) n (by omega) e3 hs39) (cwV 1 C.1.2.2.2.2 (gM_counts fw3_109) rfl rfl rfl ⟨rfl, by decide, by decide, by decide +kernel⟩ ⟨by decide, by decide⟩) (mo_m (by decide)) rfl rfl rfl (Nat.le_of_ble_eq_true rfl) dM_count_39 ⟨by decide, by decide⟩ ?_
                refine fd_if_ne C (tgt := 56) dM_count_42 rfl ⟨by omega, by omega⟩ (fun h42t => ?_) (fun h42f => ?_)
                · exfalso; omega
                refine fd_aload_n C dM_count_45 rfl ?_
                refine fd_get C (k := 0) (i := 0) (j := 8) (v := .ref (ad 3 0)) (mo_m (by decide)) rfl rfl (by decide) wsM fw3_45 rfl dM_count_46 ?_
                refine fd_iload_n C dM_count_49 rfl ?_
                refine fd_iald C (k := 3) (i := 0) (x := n) (v := M 3 0 n) (mo_m (by decide)) (fun _ => rfl) (mo_tI cI) rfl (by omega) (by decide) rfl dM_count_50 ?_
                refine fd_bipush C dM_count_51 (by decide) ?_
                refine fd_icmp_ne C (tgt := 65) dM_count_53 rfl ⟨by omega, by omega⟩ ⟨by omega, by omega⟩ (fun h53t => ?_) (fun h53f => ?_)
                · skip
                  refine fd_iload_n C dM_count_65 rfl ?_
                  refine fd_iconst C dM_count_66 ?_
                  refine fd_icmp_ne C (tgt := 84) dM_count_67 rfl ⟨by omega, by omega⟩ ⟨by omega, by omega⟩ (fun h67t => ?_) (fun h67f => ?_)
                  · skip
                    refine fd_iconst C dM_count_84 ?_
                    refine fd_iadd C dM_count_85 ?_
                    refine fd_istore_n C dM_count_86 (by decide) ?_
                    refine fd_iinc C dM_count_87 rfl (by decide) ?_
                    refine fd_goto C (tgt := 23) dM_count_90 rfl ?_
                    have h9 := ih23 ((M 0 0 7).toNat - (n + 1)) (by omega) (n + 1) rfl (by omega)
                    rw [mo_ct_s, if_neg (by omega), if_neg (by omega)] at h9
                    exact h9
                  · skip
                    refine fd_aload_n C dM_count_70 rfl ?_
                    refine fd_get C (k := 0) (i := 0) (j := 8) (v := .ref (ad 3 0)) (mo_m (by decide)) rfl rfl (by decide) wsM fw3_45 rfl dM_count_71 ?_
                    refine fd_iload_n C dM_count_74 rfl ?_
                    refine fd_iald C (k := 3) (i := 0) (x := n) (v := M 3 0 n) (mo_m (by decide)) (fun _ => rfl) (mo_tI cI) rfl (by omega) (by decide) rfl dM_count_75 ?_
                    refine fd_iconst C dM_count_76 ?_
                    refine fd_icmp_ne C (tgt := 84) dM_count_77 rfl ⟨by omega, by omega⟩ ⟨by omega, by omega⟩ (fun h77t => ?_) (fun h77f => ?_)
                    · skip
                      refine fd_iconst C dM_count_84 ?_
                      refine fd_iadd C dM_count_85 ?_
                      refine fd_istore_n C dM_count_86 (by decide) ?_
                      refine fd_iinc C dM_count_87 rfl (by decide) ?_
                      refine fd_goto C (tgt := 23) dM_count_90 rfl ?_
                      have h9 := ih23 ((M 0 0 7).toNat - (n + 1)) (by omega) (n + 1) rfl (by omega)
                      rw [mo_ct_s, if_neg (by omega), if_neg (by omega)] at h9
                      exact h9
                    · skip
                      refine fd_iconst C dM_count_80 ?_
                      refine fd_goto C (tgt := 85) dM_count_81 rfl ?_
                      refine fd_iadd C dM_count_85 ?_
                      refine fd_istore_n C dM_count_86 (by decide) ?_
                      refine fd_iinc C dM_count_87 rfl (by decide) ?_
                      refine fd_goto C (tgt := 23) dM_count_90 rfl ?_
                      have h9 := ih23 ((M 0 0 7).toNat - (n + 1)) (by omega) (n + 1) rfl (by omega)
                      rw [mo_ct_s, if_neg (by omega), if_pos (by omega)] at h9
                      exact h9
                · skip
                  refine fd_aload_n C dM_count_56 rfl ?_
                  refine fd_get C (k := 0) (i := 0) (j := 10) (v := .ref (ad 5 0)) (mo_m (by decide)) rfl rfl (by decide) wsM fw3_47 rfl dM_count_57 ?_
                  refine fd_iload_n C dM_count_60 rfl ?_
                  refine fd_iald C (k := 5) (i := 0) (x := n) (v := M 5 0 n) (mo_m (by decide)) (fun _ => rfl) (mo_tI cI) rfl (by omega) (by decide) rfl dM_count_61 ?_
                  refine fd_goto C (tgt := 85) dM_count_62 rfl ?_
                  refine fd_iadd C dM_count_85 ?_
                  refine fd_istore_n C dM_count_86 (by decide) ?_
                  refine fd_iinc C dM_count_87 rfl (by decide) ?_
                  refine fd_goto C (tgt := 23) dM_count_90 rfl ?_
                  have h9 := ih23 ((M 0 0 7).toNat - (n + 1)) (by omega) (n + 1) rfl (by omega)
                  rw [mo_ct_s, if_pos (by omega)] at h9
                  exact h9
      exact hloop23 _ 0 rfl (by omega)
    · skip
      exfalso; omega
