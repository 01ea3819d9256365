/-! rows of the law's own body -/
section LAR
variable {p : Program} {l : Launch} {e : Env} {R : Room} {s : State} {m : MethodId} {args : Array Value} {below : List Frame} {meth : Method} {c : Code} {cells slots : Nat} {Q : State → Prop}
variable {cc : ByteArray} {pc nL : Nat} {own : String} {Ts : List Cond} {D : va_G} {cl : List vw_C} {A : Nat → Prop} {tys tys1 : List (ClassId × FieldType)}
variable {φ : Nat → Nat} {ad ad1 : Nat → Nat → Nat} {en en1 : Nat → Nat → (Nat → Int) → va_E} {wl wl1 : List (Nat × Nat)} {M N M1 N1 P : fd_Mem} {o : Int} {lv : List (Option Value)} {st : List Value} {cI cB cJ : ClassId} {L : Nat}
theorem fd_widen {k n : Nat} (h1 : cells ≤ k) (h2 : slots ≤ n) (kk : fd_J p l e R s m args below meth c D cl A ad en wl nL k n Q M pc lv st) : fd_J p l e R s m args below meth c D cl A ad en wl nL cells slots Q M pc lv st := by
  intro H locs ls hP hD hS hL
  exact W.widen (k := k) (n := n) h1 h2 (kk H locs ls hP hD hS hL)
theorem la_sld (C : fd_C p m c cc nL s args Ts own D cl tys wl A) {b n x : Nat} {xs : Nat → Int32} (hX : va_X b n xs s s.heap) (hbl : b < s.heap.size) (hbA : ¬ A b) {z : Int} (hz : z = (x : Int)) (hx : x < n) (hn : n < 2147483648) (d : decode cc pc = .ok (.iaload, 1)) (kk : fd_J p l e R s m args below meth c D cl A ad en wl nL cells slots Q M (pc + 1) lv (.int (fd_I (xs x).toInt) :: st)) : fd_J p l e R s m args below meth c D cl A ad en wl nL cells slots Q M pc lv (.int (fd_I z) :: .ref b :: st) := by
  subst hz
  intro H locs ls hP hD hS hL
  have hc : (fd_I (x : Int)).toNatClampNeg = x := by rw [fd_I_clamp (by omega) (by omega)]; rfl
  refine va_sld C.1.1 C.1.2.1 hX hbl hbA hS (fd_vpin (by omega) (by omega) hn) d ?_
  have h := kk H locs ls hP hD hS hL
  rw [fd_I_self] at h
  rw [hc]
  exact h
theorem la_slen (C : fd_C p m c cc nL s args Ts own D cl tys wl A) {b n : Nat} {xs : Nat → Int32} (hX : va_X b n xs s s.heap) (hbl : b < s.heap.size) (hbA : ¬ A b) (d : decode cc pc = .ok (.arraylength, 1)) (kk : fd_J p l e R s m args below meth c D cl A ad en wl nL cells slots Q M (pc + 1) lv (.int (fd_I ((n : Nat) : Int)) :: st)) : fd_J p l e R s m args below meth c D cl A ad en wl nL cells slots Q M pc lv (.ref b :: st) := by
  intro H locs ls hP hD hS hL
  refine va_slen C.1.1 C.1.2.1 hX hbl hbA hS d ?_
  have h := kk H locs ls hP hD hS hL
  rw [← fd_I_nat] at h
  exact h
theorem la_iand (C : fd_C p m c cc nL s args Ts own D cl tys wl A) {a b : Int} (d : decode cc pc = .ok (.iand, 1)) (kk : ∀ w : Int, fd_in w → fd_J p l e R s m args below meth c D cl A ad en wl nL cells slots Q M (pc + 1) lv (.int (fd_I w) :: st)) : fd_J p l e R s m args below meth c D cl A ad en wl nL cells slots Q M pc lv (.int (fd_I b) :: .int (fd_I a) :: st) := by
  intro H locs ls hP hD hS hL
  refine lv_iand C.1.1 C.1.2.1 d ?_
  have h := kk (fd_I a &&& fd_I b).toInt (fd_in_self _) H locs ls hP hD hS hL
  rw [fd_I_self] at h
  exact h
theorem la_lald (C : fd_C p m c cc nL s args Ts own D cl tys wl A) (hm : (10, 0) ∈ wl) (ht : (cJ, FieldType.long) ∈ tys) (d : decode cc pc = .ok (.laload, 1)) (kk : fd_J p l e R s m args below meth c D cl A ad (la_en cI cB cJ L ad) wl nL cells slots Q (la_M M P o) (pc + 1) lv (.long (fd_I o).toInt64 :: st)) : fd_J p l e R s m args below meth c D cl A ad (la_en cI cB cJ L ad) wl nL cells slots Q (la_M M P o) pc lv (.int (fd_I 0) :: .ref (ad 10 0) :: st) := by
  intro H locs ls hP hD hS hL
  obtain ⟨q, hq⟩ := List.getElem?_of_mem hm
  obtain ⟨t0, ht0⟩ := List.getElem?_of_mem ht
  have h1 := fd_W_at (ad := ad) (en := la_en cI cB cJ L ad) (M := la_M M P o) hq
  have he : ∀ g, la_en cI cB cJ L ad 10 0 g = .inl (cJ, 1, .inr (.inl (fun j => (fd_I (g j)).toInt64))) := fun g => rfl
  rw [he] at h1
  have hc : (fd_I 0).toNatClampNeg = 0 := by decide
  refine va_lald C.1.1 C.1.2.1 C.2.1 hP q t0 h1 ht0 (fd_vpin (z := 0) (by omega) (by omega) (by omega)) d ?_
  rw [hc]
  exact kk H locs ls hP hD hS hL
theorem lv_lcmp0 {H : Heap} {locs : List Loc} {ls : Array Slot} {rest : List Value} (hexec : p.tables.exec = Jvm.exec) (hb : c.code = cc) {x : Int64} (hdg : decode cc pc = .ok (.lcmp, 1)) (k : W p l e R s m args below meth c H locs cells slots Q (F0 m (pc + 1) ls (.int 0 :: rest))) : W p l e R s m args below meth c H locs cells slots Q (F0 m pc ls (.long x :: .long x :: rest)) := by
  intro T hT X
  obtain ⟨t, a, b⟩ := k T hT X
  refine ⟨t, ?_, b⟩
  jvm_step X.here [X.here.top, hexec, hb, hdg]
  exact a
theorem la_lcmp (C : fd_C p m c cc nL s args Ts own D cl tys wl A) {x : Int64} (d : decode cc pc = .ok (.lcmp, 1)) (kk : fd_J p l e R s m args below meth c D cl A ad en wl nL cells slots Q M (pc + 1) lv (.int (fd_I 0) :: st)) : fd_J p l e R s m args below meth c D cl A ad en wl nL cells slots Q M pc lv (.long x :: .long x :: st) := by
  intro H locs ls hP hD hS hL
  exact lv_lcmp0 C.1.1 C.1.2.1 d (kk H locs ls hP hD hS hL)
/-- a static call of a helper -/
theorem la_callS (C : fd_C p m c cc nL s args Ts own D cl tys wl A) (hE : fd_Ex A s s.heap) (hN3 : fd_N3 s) (hs : fd_Sub φ ad ad1 en en1 wl wl1) (h1 : ∀ k i, (k, i) ∈ wl1 → M1 k i = M (φ k) i) (hb : fd_Back φ wl wl1 M N N1) (hK1 : va_K D cl tys1 s) {y : MethodName} {bytes : ByteArray} {maxL n index mc ms : Nat} {ret : Option FieldType} {ws : List Cond} {rm : Room} {hh : List (Nat × Nat × Nat × Nat)} (As : List Value) {z : Int} (hM : fd_H l y ws rm D cl tys1 ad1 en1 wl1 As M1 z N1 mc ms) (cw : vx_CSW R s args own index y bytes maxL ret hh ws rm mc ms n) (hn : As.length = n) (hrest : (st.map fun v => v.category).sum ≤ 8) (d : decode cc pc = .ok (.invokestatic index, 3)) (hf : cells + mc ≤ R.cells ∧ slots + ms ≤ R.slots) (kk : fd_J p l e R s m args below meth c D cl A ad en wl nL (cells + mc) (slots + ms) Q N (pc + 3) lv (.int (fd_I z) :: st)) : fd_J p l e R s m args below meth c D cl A ad en wl nL cells slots Q M pc lv (As.reverse ++ st) := by
  intro H locs ls hP hD hS hL
  obtain ⟨hP1, hF, hpre⟩ := fd_sub_go hs h1 C hE hK1 hP hD hS As
  refine va_calli (vx_runSW (As := As) (rest := st) C.1 (hM H.size) cw ⟨fd_blindH, fun U hU hW => ?_⟩ rfl hn hL.1 rfl (lv_room hrest) d hf) hS (fun x _ h => hF x h) hF (fun r u t H1 locs1 ht hvm hpost hB hz1 hk1 hS1 => ?_)
  · obtain ⟨g1, g2⟩ := hpre U hU hW
    exact ⟨g1, g2, hN3.moved hW.alike⟩
  obtain ⟨rfl, rfl⟩ := hpost
  obtain ⟨hP2, hK2⟩ := hB
  rw [ht] at hP2
  exact kk H1 locs1 ls (fd_sub_back hs hb.1 hb.2 hP hD hP2 hk1) (fd_D_any hD) hS1 hL
end LAR
theorem fd_cwS {own : String} {idx : Nat} {y : MethodName} {b : ByteArray} {n : Nat} {ret : Option FieldType} {hh : List (Nat × Nat × Nat × Nat)} (hl : Cond.methodLink own idx y ∈ fd_T) (hi : Cond.static y ∈ fd_T) (hn : Cond.initialized y.cls ∈ fd_T) (hc : Cond.codeWith y b n ret hh ∈ fd_T) : GoodIn fd_T (va_wsS own idx y (Cond.codeWith y b n ret hh :: fd_T)) := by
  refine fd_T_all (fun w hw => ?_)
  unfold va_wsS at hw
  rcases List.mem_append.mp hw with h | h
  · simp only [List.mem_cons, List.not_mem_nil, or_false] at h
    rcases h with rfl | rfl | rfl
    · exact hl
    · exact hi
    · exact hn
  · rcases List.mem_cons.mp h with rfl | h
    · exact hc
    · exact h
