/-! calls of constructors; the small ones -/
theorem wj_P_right {D : va_G} {cl : List vw_C} {base w : va_W} {H : Heap} (h : va_P D cl (base ++ w) H) : va_P D cl w H := by
  intro k q hk
  exact h (base.length + k) q (by rw [List.getElem?_append_right (by omega), Nat.add_sub_cancel_left]; exact hk)
theorem wj_P_left {D : va_G} {cl : List vw_C} {base w : va_W} {H : Heap} (h : va_P D cl (base ++ w) H) : va_P D cl base H := by
  intro k q hk
  exact h k q (by rw [List.getElem?_append_left (List.getElem?_eq_some_iff.mp hk).1]; exact hk)
theorem wj_D_right {A : Nat → Prop} {base w : va_W} (h : va_D A (base ++ w)) : va_D A w := by
  have e : ∀ k, (base ++ w)[base.length + k]? = w[k]? := fun k => by rw [List.getElem?_append_right (by omega), Nat.add_sub_cancel_left]
  refine ⟨fun i j x y hx hy hxy => ?_, fun k q hk => h.2 (base.length + k) q (by rw [e]; exact hk)⟩
  have := h.1 (base.length + i) (base.length + j) x y (by rw [e]; exact hx) (by rw [e]; exact hy) hxy
  omega
theorem wj_D_left {A : Nat → Prop} {base w : va_W} (h : va_D A (base ++ w)) : va_D A base := by
  have e : ∀ k x, base[k]? = some x → (base ++ w)[k]? = some x := fun k x hk => by rw [List.getElem?_append_left (List.getElem?_eq_some_iff.mp hk).1]; exact hk
  exact ⟨fun i j x y hx hy hxy => h.1 i j x y (e i x hx) (e j y hy) hxy, fun k q hk => h.2 k q (e k q hk)⟩
/-- the base is not among the callee's cells -/
theorem wj_apart {A : Nat → Prop} {D : va_G} {cl : List vw_C} {base w0 : va_W} {H : Heap} (hP : va_P D cl (base ++ w0) H) (hD : va_D A (base ++ w0)) {k : Nat} {x : Nat × va_E} (hk : base[k]? = some x) : ¬ va_A w0 H.size x.1 := by
  have hl := (List.getElem?_eq_some_iff.mp hk).1
  have e1 : (base ++ w0)[k]? = some x := by rw [List.getElem?_append_left hl]; exact hk
  rintro (⟨j, e, hj⟩ | h)
  · have e2 : (base ++ w0)[base.length + j]? = some (x.1, e) := by rw [List.getElem?_append_right (by omega), Nat.add_sub_cancel_left]; exact hj
    have := hD.1 k (base.length + j) x (x.1, e) e1 e2 rfl
    omega
  · have := (hP k x e1).lt
    omega
theorem wj_D_join {A : Nat → Prop} {D : va_G} {cl : List vw_C} {base w0 w : va_W} {H : Heap} (hP : va_P D cl (base ++ w0) H) (hD : va_D A (base ++ w0)) (hF : ∀ x, va_A w0 H.size x → A x) (hw : va_D (va_A w0 H.size) w) : va_D A (base ++ w) := by
  have hb := wj_D_left hD
  refine ⟨fun i j x y hx hy hxy => ?_, fun k q hk => ?_⟩
  · by_cases hi : i < base.length
    · rw [List.getElem?_append_left hi] at hx
      by_cases hj : j < base.length
      · rw [List.getElem?_append_left hj] at hy
        exact hb.1 i j x y hx hy hxy
      · rw [List.getElem?_append_right (by omega)] at hy
        exact absurd (hxy ▸ hw.2 _ y hy) (wj_apart hP hD hx)
    · rw [List.getElem?_append_right (by omega)] at hx
      by_cases hj : j < base.length
      · rw [List.getElem?_append_left hj] at hy
        exact absurd (hxy ▸ hw.2 _ x hx) (wj_apart hP hD hy)
      · rw [List.getElem?_append_right (by omega)] at hy
        have := hw.1 _ _ x y hx hy hxy
        omega
  · by_cases hi : k < base.length
    · rw [List.getElem?_append_left hi] at hk
      exact hb.2 k q hk
    · rw [List.getElem?_append_right (by omega)] at hk
      exact hF _ (hw.2 _ q hk)
section WI
variable {p : Program} {l : Launch} {e : Env} {R : Room} {s : State} {m : MethodId} {args : Array Value} {below : List Frame} {meth : Method} {c : Code} {cells slots : Nat} {Q : State → Prop}
variable {cc : ByteArray} {pc nL : Nat} {own : String} {D : va_G} {cl : List vw_C} {A : Nat → Prop} {tys : List (ClassId × FieldType)}
variable {wl : List (Nat × Nat)} {base w0 : va_W} {lv : List (Option Value)} {st : List Value} {b : Nat}
theorem wj_callI (C : fd_C p m c cc nL s args fd_T own D cl tys wl A) {X : State → Prop} (hXk : wj_ok X) (hX : X s) {y : MethodName} {bytes : ByteArray} {maxL n index mc ms : Nat} {wsY : List Cond} {rm : Room} {good : va_W → Prop} (As : List Value) (hM : wj_M l y wsY rm D cl tys (.ref b :: As) w0 X good mc ms) (cw : CallB R s args own index y bytes maxL none wsY rm mc ms n ∧ y.name = "<init>" ∧ (Cond.instanceMethod y).before args s = true) (hn : As.length = n) (hrest : (st.map fun v => v.category).sum ≤ 8) (d : decode cc pc = .ok (.invokespecial index, 3)) (hf : cells + mc ≤ R.cells ∧ slots + ms ≤ R.slots) (kk : ∀ w, good w → wJ p l e R s m args below meth c D cl A nL (cells + mc) (slots + ms) Q (base ++ w) (pc + 3) lv st) : wJ p l e R s m args below meth c D cl A nL cells slots Q (base ++ w0) pc lv (As.reverse ++ .ref b :: st) := by
  intro H locs ls hP hD hS hL
  have hP0 := wj_P_right hP
  have hD0 := wj_D_right hD
  have hF : ∀ x, va_A w0 H.size x → A x := by
    intro x hx
    rcases hx with ⟨k', e', h'⟩ | h'
    · exact hD0.2 k' _ h'
    · exact C.2.2.2 x (Nat.le_trans hS.1 h')
  refine va_callv (va_runI (As := As) (rest := st) C.1 (hM H.size) cw ⟨wj_blind hXk, fun U hU hW => ⟨rfl, by rw [hU], by rw [hU]; exact hP0, va_K.moved hW.alike C.2.1, hD0.weaken (fun _ _ _ _ => trivial), hXk s U hW.alike hX⟩⟩ rfl hn hL.1 rfl (lv_room hrest) d hf) hS (fun x _ h => hF x h) hF (fun w t H1 locs1 ht hvm hpost hB hz1 hk1 hS1 => ?_)
  obtain ⟨hP1, hD1⟩ := hB
  rw [ht] at hP1
  refine kk w hpost H1 locs1 ls (va_P.app ?_ hP1) (wj_D_join hP hD hF hD1) hS1 hL
  intro k x hk
  exact (wj_P_left hP k x hk).kept (hk1 _ ((wj_P_left hP k x hk).lt) (wj_apart hP hD hk))
end WI
/-! Booking(i) -/
def wi_b0 : List Value := [.int 0, .null, .int 0, .int 0, .int 0, .int 0, .int 0, .int 0, .int 0]
def wi_b (i q : Nat) : List Value := [.int (fd_I (i : Int)), .ref q, .int 0, .int 0, .int 0, .int 0, .int 0, .int 0, .int 0]
set_option maxRecDepth 20000 in
theorem iB_init (l : Launch) (D : va_G) (cI : ClassId) {tys : List (ClassId × FieldType)} (hI : (cI, FieldType.int) ∈ tys) (h i : Nat) : wj_M l yB_init wB_init { frames := 1, cells := 1, slots := 6, locals := 20 } D fd_cl tys [.ref h, .int (fd_I (i : Int))] [(h, .inr (1, wi_b0))] (fun _ => True) (fun w => ∃ q, w = [(h, .inr (1, wi_b i q)), (q, .inl (cI, 6, .inl (fun _ => fd_I 0)))]) 1 6 := by
  refine wj_enter (by decide) rfl (by simp [Value.category]) (Nat.le_of_ble_eq_true rfl) ?_
  intro A p e s m args below meth c C hr hlk hin _
  have C : fd_C p m c cB_init 2 s args fd_T "FareDesk$Booking" D fd_cl tys [] A := C
  refine wj_aload_n C dB_init_0 rfl ?_
  refine wj_obj C fw1_73 ⟨by decide, by decide⟩ dB_init_1 ?_
  refine wj_aload_n C dB_init_4 rfl ?_
  refine wj_bipush C dB_init_5 (by decide) ?_
  refine wj_newi C hI (n := 6) rfl (by decide) dB_init_7 ⟨by decide, by decide⟩ (fun q => ?_)
  refine wj_putF C hin wsB tyB tyB_ok nmB 0 rfl rfl 1 (by decide) fw1_77 rfl rfl (ty := tyB 1) rfl rfl rfl (Nat.le_of_ble_eq_true rfl) dB_init_9 ?_
  refine wj_aload_n C dB_init_12 rfl ?_
  refine wj_iload_n C dB_init_13 rfl ?_
  refine wj_putF C hin wsB tyB tyB_ok nmB 0 rfl rfl 0 (by decide) fw1_74 rfl rfl (ty := tyB 0) rfl rfl rfl (Nat.le_of_ble_eq_true rfl) dB_init_14 ?_
  exact wj_vret C hr hlk ⟨q, rfl⟩ dB_init_17
