/-! the array classes; cell(script, 0) -/
theorem la_Kt {D : va_G} {s : State} {args : Array Value} (hK : va_K D fd_cl [] s) (ht : ∀ w ∈ lw_tbl, w.before args s = true) : (∃ cI cB cJ : ClassId, va_K D fd_cl (la_tys cI cB cJ) s) ∧ va_AO "FareDesk$Booking" s := by
  have hO : (Cond.arrayOver (.object "FareDesk$Booking")).before args s = true := ht _ (by decide +kernel)
  refine ⟨?_, va_AO.of hO⟩
  obtain ⟨cI, kI, pI, i1, i2, i3⟩ := Cond.arrayClass_spec (ht (Cond.arrayClass .int) (by decide +kernel))
  obtain ⟨cJ, kJ, pJ, j1, j2, j3⟩ := Cond.arrayClass_spec (ht (Cond.arrayClass .long) (by decide +kernel))
  obtain ⟨pB, cB, kB, b1, -, b3, b4, b5⟩ := Cond.arrayOver_spec hO
  refine ⟨cI, cB, cJ, hK.1, fun k q hq => ?_⟩
  match k, hq with
  | 0, hq => cases hq; exact ⟨fun n z => ⟨fun k h => (by cases h), kI, i2, pI, i3⟩, i1⟩
  | 1, hq => cases hq; exact ⟨fun n z => ⟨fun k h => (by cases h), kB, b3, pB, b4⟩, kB, pB, b3, b4, b1, b5⟩
  | 2, hq => cases hq; exact ⟨fun n z => ⟨fun k h => (by cases h), kJ, j2, pJ, j3⟩, j1⟩
  | k + 3, hq => simp at hq
section WC
variable {p : Program} {l : Launch} {e : Env} {R : Room} {s : State} {m : MethodId} {args : Array Value} {below : List Frame} {meth : Method} {c : Code} {cells slots : Nat} {Q : State → Prop}
variable {cc : ByteArray} {pc nL : Nat} {own : String} {D : va_G} {cl : List vw_C} {A : Nat → Prop} {tys : List (ClassId × FieldType)}
variable {wl : List (Nat × Nat)} {ws : va_W} {lv : List (Option Value)} {st : List Value} {a : Nat}
theorem wj_sld (C : fd_C p m c cc nL s args fd_T own D cl tys wl A) {b n x : Nat} {xs : Nat → Int32} (hX : va_X b n xs s s.heap) (hbl : b < s.heap.size) (hbA : ¬ A b) {z : Int} (hz : z = (x : Int)) (hx : x < n) (hn : n < 2147483648) (d : decode cc pc = .ok (.iaload, 1)) (kk : wJ p l e R s m args below meth c D cl A nL cells slots Q ws (pc + 1) lv (.int (fd_I (xs x).toInt) :: st)) : wJ p l e R s m args below meth c D cl A nL cells slots Q ws pc lv (.int (fd_I z) :: .ref b :: st) := by
  subst hz
  intro H locs ls hP hD hS hL
  have hc : (fd_I (x : Int)).toNatClampNeg = x := by rw [fd_I_clamp (by omega) (by omega)]; rfl
  refine va_sld C.1.1 C.1.2.1 hX hbl hbA hS (fd_vpin (by omega) (by omega) hn) d ?_
  have h := kk H locs ls hP hD hS hL
  rw [fd_I_self] at h
  rw [hc]
  exact h
theorem wj_slen (C : fd_C p m c cc nL s args fd_T own D cl tys wl A) {b n : Nat} {xs : Nat → Int32} (hX : va_X b n xs s s.heap) (hbl : b < s.heap.size) (hbA : ¬ A b) (d : decode cc pc = .ok (.arraylength, 1)) (kk : wJ p l e R s m args below meth c D cl A nL cells slots Q ws (pc + 1) lv (.int (fd_I ((n : Nat) : Int)) :: st)) : wJ p l e R s m args below meth c D cl A nL cells slots Q ws pc lv (.ref b :: st) := by
  intro H locs ls hP hD hS hL
  refine va_slen C.1.1 C.1.2.1 hX hbl hbA hS d ?_
  have h := kk H locs ls hP hD hS hL
  rw [← fd_I_nat] at h
  exact h
theorem wj_iret (C : fd_C p m c cc nL s args fd_T own D cl tys wl A) (hr : meth.sig.returnType = some .int) (hlocks : meth.locks = false) {z z' : Int} (hz : z' = z) (d : decode cc pc = .ok (.ireturn, 1)) : wJ p l e R s m args below meth c D cl A nL cells slots (MQ below (va_Qi (fun r (_ : Unit) => r = fd_I z) (fun _ _ => True) A) args s cells slots A) ws pc lv [.int (fd_I z')] := by
  subst hz
  intro H locs ls hP hD hS hL
  exact W.iret C.1.1 C.1.2.1 hr (fun t ht hW => ⟨⟨fd_I z', (), rfl, rfl, trivial⟩, hS.F ht⟩) hS.2.2 d hlocks
end WC
def wc_P (b n : Nat) (xs : Nat → Int32) (sz : Nat) (U : State) : Prop := U.heap.size = sz ∧ b < sz ∧ va_X b n xs U U.heap
def wc_z (n : Nat) (xs : Nat → Int32) : Int := if 0 < n then (xs 0).toInt else 0
set_option maxRecDepth 20000 in
theorem iL_cell (l : Launch) (D : va_G) (b n sz : Nat) (xs : Nat → Int32) (hn : n ≤ 2049) : Met l yL_cell wL_cell { frames := 0, cells := 0, slots := 0, locals := 0 } (va_Pc [.ref b, .int (fd_I 0)] (fun U => wc_P b n xs sz U ∧ va_K D fd_cl [] U)) (va_Qi (fun r (_ : Unit) => r = fd_I (wc_z n xs)) (fun _ _ => True) (fun q => sz ≤ q)) 0 0 (fun q => sz ≤ q) := by
  refine Met.ofW (cc := cL_cell) (maxL := 2) (ret := some .int) (by decide) rfl ?_
  intro p e s m args below meth c s₁ B hml hv
  obtain ⟨hargs, ⟨hsz, hb, hX⟩, hK⟩ := hv
  have hts := atoms_spec (ws := wL_cell) B.pre
  have C : fd_C p m c cL_cell 2 s args fd_T "FareDeskLaw" D fd_cl [] [] (fun q => sz ≤ q) := ⟨⟨B.exec, B.bytes, hml, findClass_of_methodNamed B.named, fun w h => hts w (List.mem_cons_of_mem _ h)⟩, hK, List.nodup_nil, fun q hq => by omega⟩
  have hbl : b < s.heap.size := by omega
  have hbA : ¬ (fun q => sz ≤ q) b := by show ¬ sz ≤ b; omega
  have body : wJ p l e { frames := 0, cells := 0, slots := 0, locals := 0 } s m args below meth c D fd_cl (fun q => sz ≤ q) 2 0 0 (MQ below (va_Qi (fun r (_ : Unit) => r = fd_I (wc_z n xs)) (fun _ _ => True) (fun q => sz ≤ q)) args s 0 0 (fun q => sz ≤ q)) [] 0 [some (.ref b), some (.int (fd_I 0))] [] := by
    refine wj_iload_n C dL_cell_0 rfl ?_
    refine wj_aload_n C dL_cell_1 rfl ?_
    refine wj_slen C hX hbl hbA dL_cell_2 ?_
    refine wj_icmp_ge C (tgt := 12) dL_cell_3 rfl ⟨by omega, by omega⟩ ⟨by omega, by omega⟩ (fun h1 => ?_) (fun h1 => ?_)
    · refine wj_iconst C dL_cell_12 ?_
      exact wj_iret C B.returns B.notSynchronized (by unfold wc_z; rw [if_neg (by omega)]) dL_cell_13
    · refine wj_aload_n C dL_cell_6 rfl ?_
      refine wj_iload_n C dL_cell_7 rfl ?_
      refine wj_sld C hX hbl hbA (x := 0) rfl (by omega) (by omega) dL_cell_8 ?_
      refine wj_goto C (tgt := 13) dL_cell_9 rfl ?_
      exact wj_iret C B.returns B.notSynchronized (by unfold wc_z; rw [if_pos (by omega)]) dL_cell_13
  subst hargs
  rw [lg_entry_eq]
  exact body s.heap [] _ (fun k q hk => by simp at hk) ⟨fun i j x y hx => by simp at hx, fun k q hk => by simp at hk⟩ va_S.rf (fd_L_entry (av := [.ref b, .int (fd_I 0)]) (by simp [Value.category]) (Nat.le_of_ble_eq_true rfl))
