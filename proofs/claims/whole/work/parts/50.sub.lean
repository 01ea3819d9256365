/-! a world within a world: calls whose contract speaks of a part of the cells -/
def fd_Sub (φ : Nat → Nat) (ad ad1 : Nat → Nat → Nat) (en en1 : Nat → Nat → (Nat → Int) → va_E) (wl wl1 : List (Nat × Nat)) : Prop := wl1.Nodup ∧ (∀ k k', φ k = φ k' → k = k') ∧ ∀ k i, (k, i) ∈ wl1 → (φ k, i) ∈ wl ∧ ad1 k i = ad (φ k) i ∧ ∀ g, en1 k i g = en (φ k) i g
section FDS
variable {φ : Nat → Nat} {ad ad1 : Nat → Nat → Nat} {en en1 : Nat → Nat → (Nat → Int) → va_E} {wl wl1 : List (Nat × Nat)} {M N M1 N1 : fd_Mem} {D : va_G} {cl : List vw_C} {A : Nat → Prop} {H H1 : Heap}
theorem fd_W_mem {k i : Nat} (h : (k, i) ∈ wl) : ∃ q : Nat, (fd_W ad en wl M)[q]? = some (ad k i, en k i (M k i)) := by
  obtain ⟨q, hq⟩ := List.getElem?_of_mem h
  exact ⟨q, fd_W_at hq⟩
theorem fd_sub_P (hs : fd_Sub φ ad ad1 en en1 wl wl1) (h1 : ∀ k i, (k, i) ∈ wl1 → M1 k i = M (φ k) i) (hP : va_P D cl (fd_W ad en wl M) H) : va_P D cl (fd_W ad1 en1 wl1 M1) H := by
  intro q x hx
  obtain ⟨k, i, hk, rfl⟩ := fd_W_inv hx
  have hm := List.mem_of_getElem? hk
  obtain ⟨g1, g2, g3⟩ := hs.2.2 k i hm
  obtain ⟨q2, hq2⟩ := fd_W_mem (ad := ad) (en := en) (M := M) g1
  rw [g2, g3, h1 k i hm]
  exact hP q2 _ hq2
theorem fd_sub_D (hs : fd_Sub φ ad ad1 en en1 wl wl1) (hD : va_D A (fd_W ad en wl M)) : va_D A (fd_W ad1 en1 wl1 M1) := by
  refine ⟨fun a b x y hx hy hxy => ?_, fun q x hx => ?_⟩
  · obtain ⟨k, i, hk, rfl⟩ := fd_W_inv hx
    obtain ⟨k', i', hk', rfl⟩ := fd_W_inv hy
    have hm := List.mem_of_getElem? hk
    have hm' := List.mem_of_getElem? hk'
    obtain ⟨g1, g2, -⟩ := hs.2.2 k i hm
    obtain ⟨g1', g2', -⟩ := hs.2.2 k' i' hm'
    obtain ⟨q2, hq2⟩ := List.getElem?_of_mem g1
    obtain ⟨q3, hq3⟩ := List.getElem?_of_mem g1'
    have h9 := hD.1 q2 q3 _ _ (fd_W_at hq2) (fd_W_at hq3) (by show ad (φ k) i = ad (φ k') i'; rw [← g2, ← g2']; exact hxy)
    subst h9
    rw [hq2] at hq3
    have h10 := Option.some.inj hq3
    have e1 : φ k = φ k' := congrArg Prod.fst h10
    have e2 : i = i' := congrArg Prod.snd h10
    have e3 := hs.2.1 k k' e1
    subst e3
    subst e2
    exact (List.getElem?_inj (List.getElem?_eq_some_iff.mp hk).1 hs.1).mp (hk.trans hk'.symm)
  · obtain ⟨k, i, hk, rfl⟩ := fd_W_inv hx
    have hm := List.mem_of_getElem? hk
    obtain ⟨g1, g2, -⟩ := hs.2.2 k i hm
    obtain ⟨q2, hq2⟩ := fd_W_mem (ad := ad) (en := en) (M := M) g1
    have h9 := hD.2 q2 _ hq2
    show A (ad1 k i)
    rw [g2]
    exact h9
theorem fd_sub_back (hs : fd_Sub φ ad ad1 en en1 wl wl1) (hn1 : ∀ k i, (k, i) ∈ wl1 → N (φ k) i = N1 k i) (hn : ∀ k i, (k, i) ∈ wl → (∀ k1, (k1, i) ∈ wl1 → φ k1 ≠ k) → N k i = M k i) (hP : va_P D cl (fd_W ad en wl M) H) (hD : va_D A (fd_W ad en wl M)) (hP1 : va_P D cl (fd_W ad1 en1 wl1 N1) H1) (hk : ∀ q : Nat, q < H.size → ¬ va_A (fd_W ad1 en1 wl1 M1) H.size q → H1[q]? = H[q]?) : va_P D cl (fd_W ad en wl N) H1 := by
  intro q x hx
  obtain ⟨k, i, hki, rfl⟩ := fd_W_inv hx
  by_cases hc : ∃ k1, (k1, i) ∈ wl1 ∧ φ k1 = k
  · obtain ⟨k1, hm, rfl⟩ := hc
    obtain ⟨g1, g2, g3⟩ := hs.2.2 k1 i hm
    obtain ⟨q2, hq2⟩ := fd_W_mem (ad := ad1) (en := en1) (M := N1) hm
    rw [← g2, ← g3, hn1 k1 i hm]
    exact hP1 q2 _ hq2
  · have hmw := List.mem_of_getElem? hki
    rw [hn k i hmw (fun k1 hm he => hc ⟨k1, hm, he⟩)]
    have h0 := hP q _ (fd_W_at (ad := ad) (en := en) (M := M) hki)
    refine h0.kept (hk _ h0.lt ?_)
    rintro (⟨q3, e3, h3⟩ | h3)
    · obtain ⟨k1, i1, hk1, he⟩ := fd_W_inv h3
      have hm1 := List.mem_of_getElem? hk1
      obtain ⟨g1, g2, g3⟩ := hs.2.2 k1 i1 hm1
      have ha : ad k i = ad (φ k1) i1 := by
        rw [← g2]
        exact congrArg Prod.fst he
      obtain ⟨q4, hq4⟩ := List.getElem?_of_mem g1
      have h9 := hD.1 q q4 _ _ (fd_W_at hki) (fd_W_at hq4) ha
      subst h9
      rw [hki] at hq4
      have h10 := Option.some.inj hq4
      have e1 : k = φ k1 := congrArg Prod.fst h10
      have e2 : i = i1 := congrArg Prod.snd h10
      subst e2
      exact hc ⟨k1, hm1, e1.symm⟩
    · have := h0.lt
      exact absurd h3 (by omega)
end FDS
section FDS2
variable {p : Program} {l : Launch} {e : Env} {R : Room} {s : State} {m : MethodId} {args : Array Value} {below : List Frame} {meth : Method} {c : Code} {cells slots : Nat} {Q : State → Prop}
variable {cc : ByteArray} {pc nL : Nat} {own : String} {Ts : List Cond} {D : va_G} {cl : List vw_C} {A : Nat → Prop} {tys tys1 : List (ClassId × FieldType)}
variable {φ : Nat → Nat} {ad ad1 : Nat → Nat → Nat} {en en1 : Nat → Nat → (Nat → Int) → va_E} {wl wl1 : List (Nat × Nat)} {M N M1 N1 : fd_Mem} {lv : List (Option Value)} {st : List Value}
theorem fd_sub_go (hs : fd_Sub φ ad ad1 en en1 wl wl1) (h1 : ∀ k i, (k, i) ∈ wl1 → M1 k i = M (φ k) i) (C : fd_C p m c cc nL s args Ts own D cl tys wl A) (hE : fd_Ex A s s.heap) (hK1 : va_K D cl tys1 s) {H : Heap} {locs : List Loc} (hP : va_P D cl (fd_W ad en wl M) H) (hD : va_D A (fd_W ad en wl M)) (hS : va_S A s.heap H locs) (av : List Value) : va_P D cl (fd_W ad1 en1 wl1 M1) H ∧ (∀ x, va_A (fd_W ad1 en1 wl1 M1) H.size x → A x) ∧ ∀ U : State, U.heap = H → s.WarmedH U.vm → va_Pc av (fd_Pre D cl tys1 ad1 en1 wl1 M1 H.size) av.toArray U := by
  have hP1 := fd_sub_P hs h1 hP
  have hD1 : va_D A (fd_W ad1 en1 wl1 M1) := fd_sub_D hs hD
  have hF : ∀ x, va_A (fd_W ad1 en1 wl1 M1) H.size x → A x := by
    intro x hx
    rcases hx with ⟨k', e', h'⟩ | h'
    · exact hD1.2 k' _ h'
    · exact C.2.2.2 x (Nat.le_trans hS.1 h')
  refine ⟨hP1, hF, fun U hU hW => ⟨rfl, by rw [hU], by rw [hU]; exact hP1, va_K.moved hW.alike hK1, hD1.weaken (fun _ _ _ _ => trivial), ?_⟩⟩
  rw [hU]
  exact ((hE.kept hS.2.1).narrow hF).warm hW
/-- the memory of the whole behind a call on the part -/
def fd_Back (φ : Nat → Nat) (wl wl1 : List (Nat × Nat)) (M N N1 : fd_Mem) : Prop := (∀ k i, (k, i) ∈ wl1 → N (φ k) i = N1 k i) ∧ ∀ k i, (k, i) ∈ wl → (∀ k1, (k1, i) ∈ wl1 → φ k1 ≠ k) → N k i = M k i
theorem fd_subVi (C : fd_C p m c cc nL s args Ts own D cl tys wl A) (hE : fd_Ex A s s.heap) (hs : fd_Sub φ ad ad1 en en1 wl wl1) (h1 : ∀ k i, (k, i) ∈ wl1 → M1 k i = M (φ k) i) (hb : fd_Back φ wl wl1 M N N1) (hK1 : va_K D cl tys1 s) {y : MethodName} {bytes : ByteArray} {maxL n index k i ci NN : Nat} {ret : Option FieldType} {ws : List Cond} {rm : Room} {Cn : String} {T : u_T} {fs : List Value} (As : List Value) {z : Int} (hM : fd_Mi l y ws rm D cl tys1 ad1 en1 wl1 (.ref (ad1 k i) :: As) M1 z N1) (cw : CallW R s args own Cn index y bytes maxL ret ws rm 0 0 n) (hm : (k, i) ∈ wl1) (he : en1 k i (M1 k i) = .inr (ci, fs)) (hc : cl[ci]? = some (Cn, T, NN)) (hn : As.length = n) (hrest : (st.map fun v => v.category).sum ≤ 8) (d : decode cc pc = .ok (.invokevirtual index, 3)) (hf : cells + 0 ≤ R.cells ∧ slots + 0 ≤ R.slots) (kk : fd_J p l e R s m args below meth c D cl A ad en wl nL cells slots Q N (pc + 3) lv (.int (fd_I z) :: st)) : fd_J p l e R s m args below meth c D cl A ad en wl nL cells slots Q M pc lv (As.reverse ++ .ref (ad1 k i) :: st) := by
  intro H locs ls hP hD hS hL
  obtain ⟨q, hq⟩ := List.getElem?_of_mem hm
  have h9 := fd_W_at (ad := ad1) (en := en1) (M := M1) hq
  rw [he] at h9
  obtain ⟨hP1, hF, hpre⟩ := fd_sub_go hs h1 C hE hK1 hP hD hS (.ref (ad1 k i) :: As)
  refine va_calli (va_runV (As := As) (rest := st) C.1 (hM H.size) cw ⟨fd_blind, va_recv hK1 hP1 hc h9, hpre⟩ rfl hn hL.1 rfl (lv_room hrest) d hf) hS (fun x _ h => hF x h) hF (fun r u t H1 locs1 ht hvm hpost hB hz1 hk1 hS1 => ?_)
  obtain ⟨rfl, rfl⟩ := hpost
  obtain ⟨hP2, hK2⟩ := hB
  rw [ht] at hP2
  exact kk H1 locs1 ls (fd_sub_back hs hb.1 hb.2 hP hD hP2 hk1) (fd_D_any hD) hS1 hL
theorem fd_subVv (C : fd_C p m c cc nL s args Ts own D cl tys wl A) (hE : fd_Ex A s s.heap) (hs : fd_Sub φ ad ad1 en en1 wl wl1) (h1 : ∀ k i, (k, i) ∈ wl1 → M1 k i = M (φ k) i) (hb : fd_Back φ wl wl1 M N N1) (hK1 : va_K D cl tys1 s) {y : MethodName} {bytes : ByteArray} {maxL n index k i ci NN : Nat} {ret : Option FieldType} {ws : List Cond} {rm : Room} {Cn : String} {T : u_T} {fs : List Value} (As : List Value) (hM : fd_Mv l y ws rm D cl tys1 ad1 en1 wl1 (.ref (ad1 k i) :: As) M1 N1) (cw : CallW R s args own Cn index y bytes maxL ret ws rm 0 0 n) (hm : (k, i) ∈ wl1) (he : en1 k i (M1 k i) = .inr (ci, fs)) (hc : cl[ci]? = some (Cn, T, NN)) (hn : As.length = n) (hrest : (st.map fun v => v.category).sum ≤ 8) (d : decode cc pc = .ok (.invokevirtual index, 3)) (hf : cells + 0 ≤ R.cells ∧ slots + 0 ≤ R.slots) (kk : fd_J p l e R s m args below meth c D cl A ad en wl nL cells slots Q N (pc + 3) lv st) : fd_J p l e R s m args below meth c D cl A ad en wl nL cells slots Q M pc lv (As.reverse ++ .ref (ad1 k i) :: st) := by
  intro H locs ls hP hD hS hL
  obtain ⟨q, hq⟩ := List.getElem?_of_mem hm
  have h9 := fd_W_at (ad := ad1) (en := en1) (M := M1) hq
  rw [he] at h9
  obtain ⟨hP1, hF, hpre⟩ := fd_sub_go hs h1 C hE hK1 hP hD hS (.ref (ad1 k i) :: As)
  refine va_callv (va_runV (As := As) (rest := st) C.1 (hM H.size) cw ⟨fd_blind, va_recv hK1 hP1 hc h9, hpre⟩ rfl hn hL.1 rfl (lv_room hrest) d hf) hS (fun x _ h => hF x h) hF (fun u t H1 locs1 ht hvm hpost hB hz1 hk1 hS1 => ?_)
  subst hpost
  obtain ⟨hP2, hK2⟩ := hB
  rw [ht] at hP2
  exact kk H1 locs1 ls (fd_sub_back hs hb.1 hb.2 hP hD hP2 hk1) (fd_D_any hD) hS1 hL
/-- a call that throws, caught here by the row x of the table -/
theorem fd_subVT (C : fd_C p m c cc nL s args Ts own D cl tys wl A) (hE : fd_Ex A s s.heap) (hs : fd_Sub φ ad ad1 en en1 wl wl1) (h1 : ∀ k i, (k, i) ∈ wl1 → M1 k i = M (φ k) i) (hK1 : va_K D cl tys1 s) {y : MethodName} {bytes : ByteArray} {maxL n index k i ci NN : Nat} {ret : Option FieldType} {ws : List Cond} {rm : Room} {Cn : String} {T : u_T} {fs : List Value} (As : List Value) {X name : String} (hM : fd_MT l y ws rm D cl tys1 ad1 en1 wl1 (.ref (ad1 k i) :: As) M1 X) (cw : CallW R s args own Cn index y bytes maxL ret ws rm 1 6 n) (hm : (k, i) ∈ wl1) (he : en1 k i (M1 k i) = .inr (ci, fs)) (hc : cl[ci]? = some (Cn, T, NN)) (hn : As.length = n) (hrest : (st.map fun v => v.category).sum ≤ 8) (d : decode cc pc = .ok (.invokevirtual index, 3)) (hf : cells + 1 ≤ R.cells ∧ slots + 6 ≤ R.slots)
    (pre : List ExceptionTableEntry) (x : ExceptionTableEntry) (suf : List ExceptionTableEntry) (hsplit : c.exceptionTable.toList = pre ++ x :: suf) (hpass : ∀ z ∈ pre, covers z pc = false ∨ (z.catchType ≠ 0 ∧ ∃ nm : String, (Cond.classLink own z.catchType nm).before args s = true ∧ va_Nc X nm s)) (hx : covers x pc = true) (h0 : x.catchType ≠ 0) (hlink : (Cond.classLink own x.catchType name).before args s = true) (hcast : (Cond.castable X name).before args s = true)
    (kk : ∀ q9 : Nat, fd_J p l e R s m args below meth c D cl A ad en wl nL (cells + 1) (slots + 6) Q M x.handlerPc lv [.ref q9]) : fd_J p l e R s m args below meth c D cl A ad en wl nL cells slots Q M pc lv (As.reverse ++ .ref (ad1 k i) :: st) := by
  intro H locs ls hP hD hS hL
  obtain ⟨q, hq⟩ := List.getElem?_of_mem hm
  have h9 := fd_W_at (ad := ad1) (en := en1) (M := M1) hq
  rw [he] at h9
  obtain ⟨hP1, hF, hpre⟩ := fd_sub_go hs h1 C hE hK1 hP hD hS (.ref (ad1 k i) :: As)
  refine vx_callv (vx_runV (As := As) (rest := st) C.1 (hM H.size) cw ⟨fd_blind, va_recv hK1 hP1 hc h9, hpre⟩ rfl hn hL.1 rfl (lv_room hrest) d hf) hS (fun x _ h => hF x h) hF (fun x _ h => hF x h) (fun E ce q9 u t H1 locs1 ht hvm hpx hB hz1 hk1 hS1 hce hcv hcl => ?_) (fun u t H1 locs1 ht hvm hpost hB hz1 hk1 hS1 => hpost.elim)
  subst hpx
  obtain ⟨rfl, hP2, hK2⟩ := hB
  rw [ht] at hP2
  refine vx_catch C.1.2.2.2.1 pre x suf hsplit hpass hx h0 hlink hcast hce hcv hcl ?_
  exact kk q9 H1 locs1 ls (fd_sub_back hs (fun k i hm => (h1 k i hm).symm) (fun k i _ _ => rfl) hP hD hP2 hk1) (fd_D_any hD) hS1 hL
end FDS2
