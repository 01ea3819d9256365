/-! the law's body up to its loop -/
section LB
variable {p : Program} {l : Launch} {e : Env} {R : Room} {s : State} {m : MethodId} {args : Array Value} {below : List Frame} {meth : Method} {c : Code} {cells slots : Nat} {Q : State → Prop}
variable {cc : ByteArray} {pc nL : Nat} {D : va_G} {A : Nat → Prop} {tys : List (ClassId × FieldType)}
variable {wl : List (Nat × Nat)} {ws : va_W} {lv : List (Option Value)} {st : List Value} {a : Nat}
theorem wj_cell (C : fd_C p m c cc nL s args fd_T "FareDeskLaw" D fd_cl tys wl A) {b n : Nat} {xs : Nat → Int32} (hX : va_X b n xs s s.heap) (hbl : b < s.heap.size) (hbA : ¬ A b) (hn : n ≤ 2049) (hR : 1 ≤ R.frames ∧ 21 ≤ R.locals) (hrest : (st.map fun v => v.category).sum ≤ 8) (d : decode cc pc = .ok (.invokestatic 66, 3)) (hf : cells + 0 ≤ R.cells ∧ slots + 0 ≤ R.slots) (kk : wJ p l e R s m args below meth c D fd_cl A nL cells slots Q ws (pc + 3) lv (.int (fd_I (wc_z n xs)) :: st)) : wJ p l e R s m args below meth c D fd_cl A nL cells slots Q ws pc lv (.int (fd_I 0) :: .ref b :: st) := by
  intro H locs ls hP hD hS hL
  have hF : ∀ x, H.size ≤ x → A x := fun x hx => C.2.2.2 x (Nat.le_trans hS.1 hx)
  refine va_calli (va_runS (As := [.ref b, .int (fd_I 0)]) (rest := st) C.1 (iL_cell l D b n H.size xs hn) (va_cwS 2 C.1.2.2.2.2 (fd_cwSc fw1_143 fw1_144 fw1_0 kL_cell) rfl rfl rfl ⟨by decide, by decide, by decide +kernel⟩ ⟨by have := hR.1; show 0 + 1 ≤ R.frames; omega, by have := hR.2; show 8 + (2 + 11) + 0 ≤ R.locals; omega⟩) ⟨?_, fun U hU hW => ?_⟩ rfl rfl hL.1 rfl (lv_room hrest) d hf) hS (fun x _ h => hF x h) hF (fun r u t H1 locs1 ht hvm hpost hB hz1 hk1 hS1 => ?_)
  · intro a U g mk q
    obtain ⟨q0, ⟨q1, q2, q3⟩, qK⟩ := q
    exact ⟨q0, ⟨q1, q2, q3⟩, va_K.moved (u := U) (U := U.calling g mk a) (Vm.Alike.refl U.vm) qK⟩
  · obtain ⟨scr, h1, h2, h3, h4, h5⟩ := hX
    refine ⟨rfl, ⟨by rw [hU], Nat.lt_of_lt_of_le hbl hS.1, scr, by rw [hU, hS.2.1 b hbl hbA]; exact h1, State.isArrayOf_alike hW.alike h2, h3, h4, h5⟩, va_K.moved hW.alike ⟨C.2.1.1, fun k q hq => by simp at hq⟩⟩
  · subst hpost
    refine kk H1 locs1 ls ?_ hD hS1 hL
    intro k x hk
    have hlt := (hP k x hk).lt
    exact (hP k x hk).kept (hk1 _ hlt (by show ¬ H.size ≤ x.1; omega))
theorem wj_newl {cJ : ClassId} (C : fd_C p m c cc nL s args fd_T "FareDeskLaw" D fd_cl tys wl A) (hJ : (cJ, FieldType.long) ∈ tys) (d : decode cc pc = .ok (.newarray .long, 2)) (hcs : cells + 1 ≤ R.cells ∧ slots + 1 ≤ R.slots) (kk : ∀ q : Nat, wJ p l e R s m args below meth c D fd_cl A nL (cells + 1) (slots + 1) Q (ws ++ [(q, .inl (cJ, 1, .inr (.inl (fun _ => 0))))]) (pc + 2) lv (.ref q :: st)) : wJ p l e R s m args below meth c D fd_cl A nL cells slots Q ws pc lv (.int (fd_I 1) :: st) := by
  intro H locs ls hP hD hS hL
  refine va_newa (atype := .long) (ty := .long) C.1.1 C.1.2.1 (C.1.2.2.2.2 _ (fd_t3 221 rfl rfl)) rfl C.2.1 hP hD hS C.2.2.2 (a0 := (1, .inr (.inl (fun _ => 0)))) (fun _ => rfl) (by decide) (by decide) (by decide) hcs.1 hcs.2 d (fun q cA H1 hK1 hP1 hD1 hS1 => ?_)
  obtain ⟨t0, ht0⟩ := List.getElem?_of_mem hJ
  have h1 := (C.2.1.2 t0 _ ht0).2
  have h2 := (hK1.2 tys.length (cA, .long) (by rw [List.getElem?_append_right (Nat.le_refl _), Nat.sub_self]; rfl)).2
  have h3 : cA = cJ := Option.some.inj (h2.symm.trans h1)
  subst h3
  exact kk q H1 locs ls hP1 hD1 hS1 hL
end LB
set_option maxRecDepth 40000 in
set_option maxHeartbeats 2000000 in
theorem la_begin {p : Program} {l : Launch} {e : Env} {s : State} {m : MethodId} {args : Array Value} {below : List Frame} {meth : Method} {c : Code} {D : va_G} {A : Nat → Prop} {Q : State → Prop} {cI cB cJ : ClassId} {b n : Nat} {xs : Nat → Int32} (C : fd_C p m c code 7 s args fd_T "FareDeskLaw" D fd_cl (la_tys cI cB cJ) [] A) (hE : fd_Ex A s s.heap) (hN3 : fd_N3 s) (hAO : va_AO "FareDesk$Booking" s) (hl : l.stackTraces = false) (hX : va_X b n xs s s.heap) (hbl : b < s.heap.size) (hbA : ¬ A b) (hn : n ≤ 2049)
    (fin : ∀ (ad : Nat → Nat → Nat) (L q : Nat) (M P : fd_Mem) (o : Int), q ≤ 512 → fd_J p l e room_1 s m args below meth c D fd_cl A ad (la_en cI cB cJ L ad) la_wl 7 (1000 + q) (10000 + 6 * q) Q (la_M M P o) 1028 [some (.ref b), some (.ref (ad 0 0)), some (.ref (la_ad ad 0 0)), some (.ref (ad 10 0)), some (.int (fd_I ((4 * q + 1 : Nat) : Int))), none, none] [.int (fd_I 1)]) :
    wJ p l e room_1 s m args below meth c D fd_cl A 7 0 0 Q [] 0 [some (.ref b), none, none, none, none, none, none] [] := by
  have hI : (cI, FieldType.int) ∈ la_tys cI cB cJ := List.mem_cons_self
  have hB : (cB, FieldType.object "FareDesk$Booking") ∈ la_tys cI cB cJ := List.mem_cons_of_mem _ List.mem_cons_self
  have hJ := la_tJ cI cB cJ
  obtain ⟨x, hx⟩ : ∃ x, x = wc_z n xs := ⟨_, rfl⟩
  have hxi : fd_in x := by
    rw [hx]
    unfold wc_z
    split
    · exact fd_in_self _
    · exact fd_in0
  obtain ⟨L, hL⟩ : ∃ L : Nat, (L : Int) = 6 * max 1 (min 10 x) := ⟨(6 * max 1 (min 10 x)).toNat, by omega⟩
  have hL2 : (L : Int) = 6 * (if x < 1 then 1 else if 10 < x then 10 else x) := by
    split
    · omega
    · split <;> omega
  have hL60 : L ≤ 60 := by omega
  have hL6 : L % 6 = 0 := by omega
  have hL0 : 0 < L := by omega
  refine wj_new C wsD tyD tyD_ok fw1_14 fw1_15 fw1_1 (ci := 0) (fs := [.null, .null, .null, .int 0, .int 0, .int 0, .int 0]) rfl (fun j hj => by rcases (show j = 0 ∨ j = 1 ∨ j = 2 ∨ j = 3 ∨ j = 4 ∨ j = 5 ∨ j = 6 by omega) with rfl | rfl | rfl | rfl | rfl | rfl | rfl <;> rfl) ⟨by decide, by decide⟩ dL_law_0 (fun h => ?_)
  refine wj_dup C dL_law_3 rfl ?_
  refine wj_aload_n C dL_law_4 rfl ?_
  refine wj_iconst C dL_law_5 ?_
  refine wj_cell C hX hbl hbA hn ⟨by decide, by decide⟩ (Nat.le_of_ble_eq_true rfl) dL_law_6 ⟨by decide, by decide⟩ ?_
  rw [← hx]
  refine wj_callI C (base := []) (X := fun U => va_AO "FareDesk$Booking" U) (fun _ _ hvm hh => va_AO.moved hvm hh) hAO [.int (fd_I x)] (iD_init l D cI cB hI hB h L x hxi hL) (cwI 1 C.1.2.2.2.2 (fd_cwIc kD_init) rfl rfl rfl (C.1.2.2.2.2 _ fw1_1) (C.1.2.2.2.2 _ fw1_16) (C.1.2.2.2.2 _ fw1_17) rfl ⟨by decide, by decide, by decide +kernel⟩ ⟨by decide, by decide⟩) rfl (Nat.le_of_ble_eq_true rfl) dL_law_9 ⟨by decide, by decide⟩ (fun w hw => ?_)
  obtain ⟨a1, h2, q3, q4, q5, h6, q7, f8, f9, rfl⟩ := hw
  refine wj_world (ws' := wi_desk cI cB L h a1 h2 q3 q4 q5 h6 q7 f8 f9 60) rfl ?_
  refine wj_astore_n C dL_law_12 (by decide) ?_
  refine wj_new C wsM tyM tyM_ok (fd_t3 31 rfl rfl) (fd_t3 32 rfl rfl) (by decide +kernel) (ci := 4) (fs := wi_m0) rfl (fun j hj => by rcases (show j = 0 ∨ j = 1 ∨ j = 2 ∨ j = 3 ∨ j = 4 ∨ j = 5 ∨ j = 6 ∨ j = 7 ∨ j = 8 ∨ j = 9 ∨ j = 10 ∨ j = 11 ∨ j = 12 ∨ j = 13 ∨ j = 14 ∨ j = 15 ∨ j = 16 by omega) with rfl | rfl | rfl | rfl | rfl | rfl | rfl | rfl | rfl | rfl | rfl | rfl | rfl | rfl | rfl | rfl | rfl <;> rfl) ⟨by decide, by decide⟩ dL_law_13 (fun hm => ?_)
  refine wj_dup C dL_law_16 rfl ?_
  refine wj_aload_n C dL_law_17 rfl ?_
  refine wj_iconst C dL_law_18 ?_
  refine wj_cell C hX hbl hbA hn ⟨by decide, by decide⟩ (Nat.le_of_ble_eq_true rfl) dL_law_19 ⟨by decide, by decide⟩ ?_
  rw [← hx]
  refine wj_callI C (X := fun _ => True) (fun _ _ _ h => h) trivial [.int (fd_I x)] (iM_init l D cI hI hm L x hxi hL2) (cwI 1 C.1.2.2.2.2 (fd_cwIc kM_init) rfl rfl rfl (C.1.2.2.2.2 _ (by decide +kernel)) (C.1.2.2.2.2 _ (fd_t3 33 rfl rfl)) (C.1.2.2.2.2 _ (fd_t3 34 rfl rfl)) rfl ⟨by decide, by decide, by decide +kernel⟩ ⟨by decide, by decide⟩) rfl (Nat.le_of_ble_eq_true rfl) dL_law_22 ⟨by decide, by decide⟩ (fun w hw => ?_)
  obtain ⟨q, rfl⟩ := hw
  refine wj_astore_n C dL_law_25 (by decide) ?_
  refine wj_iconst C dL_law_26 ?_
  refine wj_newl C hJ dL_law_27 ⟨by decide, by decide⟩ (fun qo => ?_)
  refine wj_astore_n C dL_law_29 (by decide) ?_
  refine wj_iconst C dL_law_30 ?_
  refine wj_istore C dL_law_31 (by decide) ?_
  refine wj_widen (k := 1000) (n := 10000) (by decide) (by decide) ?_
  have C2 : fd_C p m c code 7 s args fd_T "FareDeskLaw" D fd_cl (la_tys cI cB cJ) la_wl A := ⟨C.1, C.2.1, la_nd, C.2.2.2⟩
  have hloop := la_loop (ad := la_a h a1 h2 q3 q4 q5 h6 q7 f8 f9 hm q qo) (L := L) (Q := Q) (e := e) (below := below) (meth := meth) C2 hE hN3 hl hX hbl hbA hn hL60 hL6 (fun q M P o hq => fin _ L q M P o hq) 513 0 (ds_M0 L) (mo_M0 L) 0 rfl (by decide) (jr_first hL0 hL60) (by show (0 : Int) ≤ 100 * 0; decide)
  intro H locs ls hP hD hS hLs
  have hP2 : va_P D fd_cl (wi_desk cI cB L h a1 h2 q3 q4 q5 h6 q7 f8 f9 60 ++ (wi_model cI L hm q ++ ([(qo, .inl (cJ, 1, .inr (.inl (fun _ => 0))))] : va_W))) H := by
    rw [← List.append_assoc]
    exact hP
  have hD2 : va_D A (wi_desk cI cB L h a1 h2 q3 q4 q5 h6 q7 f8 f9 60 ++ (wi_model cI L hm q ++ ([(qo, .inl (cJ, 1, .inr (.inl (fun _ => 0))))] : va_W))) := by
    rw [← List.append_assoc]
    exact hD
  refine hloop H locs ls ?_ (la_conv_D (fun k i hki => ?_) hD2) hS hLs
  · intro j y hy
    obtain ⟨k, i, hk, rfl⟩ := fd_W_inv hy
    obtain ⟨e0, g1, g2⟩ := la_conv_at (D := D) (cI := cI) (cB := cB) (cJ := cJ) (L := L) (h := h) (a1 := a1) (h2 := h2) (q3 := q3) (q4 := q4) (q5 := q5) (h6 := h6) (q7 := q7) (hm := hm) (qo := qo) (f8 := f8) (f9 := f9) (q := q) (List.mem_of_getElem? hk)
    exact g2 H (hP2 _ _ g1)
  · obtain ⟨e0, g1, -⟩ := la_conv_at (D := D) (cI := cI) (cB := cB) (cJ := cJ) (L := L) (h := h) (a1 := a1) (h2 := h2) (q3 := q3) (q4 := q4) (q5 := q5) (h6 := h6) (q7 := q7) (hm := hm) (qo := qo) (f8 := f8) (f9 := f9) (q := q) hki
    exact ⟨e0, g1⟩
