/-! FareDesk(x) -/
section WD
variable {p : Program} {l : Launch} {e : Env} {R : Room} {s : State} {m : MethodId} {args : Array Value} {below : List Frame} {meth : Method} {c : Code} {cells slots : Nat} {Q : State → Prop}
variable {cc : ByteArray} {pc nL : Nat} {own : String} {D : va_G} {cl : List vw_C} {A : Nat → Prop} {tys : List (ClassId × FieldType)}
variable {wl : List (Nat × Nat)} {ws : va_W} {lv : List (Option Value)} {st : List Value} {a : Nat}
theorem wj_newq {cB : ClassId} {Cn : String} (C : fd_C p m c cc nL s args fd_T own D cl tys wl A) (hB : (cB, FieldType.object Cn) ∈ tys) (hAO : va_AO Cn s) {index n : Nat} {z : Int} (hz : z = (n : Int)) (hn : n ≤ 1000) (hcl : Cond.classLink own index Cn ∈ fd_T) (d : decode cc pc = .ok (.anewarray index, 3)) (hcs : cells + 1 ≤ R.cells ∧ slots + n ≤ R.slots) (kk : ∀ q : Nat, wJ p l e R s m args below meth c D cl A nL (cells + 1) (slots + n) Q (ws ++ [(q, .inl (cB, n, .inr (.inr (.inr (.inr (fun _ => none))))))]) (pc + 3) lv (.ref q :: st)) : wJ p l e R s m args below meth c D cl A nL cells slots Q ws pc lv (.int (fd_I z) :: st) := by
  subst hz
  intro H locs ls hP hD hS hL
  have hc : (fd_I (n : Int)).toNatClampNeg = n := by rw [fd_I_clamp (by omega) (by omega)]; rfl
  have hneg : ¬ fd_I (n : Int) < 0 := by
    have h0 : (0 : Int32) = fd_I 0 := rfl
    rw [h0, fd_I_lt ⟨by omega, by omega⟩ fd_in0]
    omega
  refine va_newq C.1.1 C.1.2.1 C.1.2.2.2.1 (C.1.2.2.2.2 _ hcl) hAO C.2.1 hP hD hS C.2.2.2 hneg hc (by omega) hcs.1 hcs.2 d (fun q cA H1 hK1 hP1 hD1 hS1 => ?_)
  obtain ⟨t0, ht0⟩ := List.getElem?_of_mem hB
  obtain ⟨k1, c1, -, -, -, h1⟩ := (C.2.1.2 t0 _ ht0).2
  obtain ⟨k2, c2, -, -, -, h2⟩ := (hK1.2 tys.length (cA, .object Cn) (by rw [List.getElem?_append_right (Nat.le_refl _), Nat.sub_self]; rfl)).2
  have h3 : cA = cB := Option.some.inj (h2.symm.trans h1)
  subst h3
  exact kk q H1 locs ls hP1 hD1 hS1 hL
theorem wj_mmin (C : fd_C p m c cc nL s args fd_T own D cl tys wl A) {index : Nat} {x y : Int} (hlink : Cond.methodLink own index Lib.Math.min.name ∈ fd_T) (hstat : Cond.static Lib.Math.min.name ∈ fd_T) (hcode : Cond.code Lib.Math.min.name Lib.Math.min.code 2 (some .int) ∈ fd_T) (hR : 1 ≤ R.frames ∧ (st.map fun v => v.category).sum + 13 ≤ R.locals) (hcs : cells ≤ R.cells ∧ slots ≤ R.slots) (d : decode cc pc = .ok (.invokestatic index, 3)) (hx : fd_in x) (hy : fd_in y) (k : wJ p l e R s m args below meth c D cl A nL cells slots Q ws (pc + 3) lv (.int (fd_I (min x y)) :: st)) : wJ p l e R s m args below meth c D cl A nL cells slots Q ws pc lv (.int (fd_I y) :: .int (fd_I x) :: st) := by
  intro H locs ls hP hD hS hL
  refine va_mmin C.1.1 C.1.2.1 (C.1.2.2.1.trans hL.1.symm) C.1.2.2.2.1 (C.1.2.2.2.2 _ hlink) (C.1.2.2.2.2 _ hstat) (C.1.2.2.2.2 _ fw1_2) (C.1.2.2.2.2 _ hcode) hR.1 hR.2 hcs.1 hcs.2 d ?_
  have h := k H locs ls hP hD hS hL
  by_cases hlt : y < x
  · rw [if_pos ((fd_I_lt hy hx).mpr hlt)]
    rw [show min x y = y by omega] at h
    exact h
  · rw [if_neg (fun q => hlt ((fd_I_lt hy hx).mp q))]
    rw [show min x y = x by omega] at h
    exact h
theorem wj_mmax (C : fd_C p m c cc nL s args fd_T own D cl tys wl A) {index : Nat} {x y : Int} (hlink : Cond.methodLink own index Lib.Math.max.name ∈ fd_T) (hstat : Cond.static Lib.Math.max.name ∈ fd_T) (hcode : Cond.code Lib.Math.max.name Lib.Math.max.code 2 (some .int) ∈ fd_T) (hR : 1 ≤ R.frames ∧ (st.map fun v => v.category).sum + 13 ≤ R.locals) (hcs : cells ≤ R.cells ∧ slots ≤ R.slots) (d : decode cc pc = .ok (.invokestatic index, 3)) (hx : fd_in x) (hy : fd_in y) (k : wJ p l e R s m args below meth c D cl A nL cells slots Q ws (pc + 3) lv (.int (fd_I (max x y)) :: st)) : wJ p l e R s m args below meth c D cl A nL cells slots Q ws pc lv (.int (fd_I y) :: .int (fd_I x) :: st) := by
  intro H locs ls hP hD hS hL
  refine va_mmax C.1.1 C.1.2.1 (C.1.2.2.1.trans hL.1.symm) C.1.2.2.2.1 (C.1.2.2.2.2 _ hlink) (C.1.2.2.2.2 _ hstat) (C.1.2.2.2.2 _ fw1_2) (C.1.2.2.2.2 _ hcode) hR.1 hR.2 hcs.1 hcs.2 d ?_
  have h := k H locs ls hP hD hS hL
  by_cases hlt : x < y
  · rw [if_pos ((fd_I_lt hx hy).mpr hlt)]
    rw [show max x y = y by omega] at h
    exact h
  · rw [if_neg (fun q => hlt ((fd_I_lt hx hy).mp q))]
    rw [show max x y = x by omega] at h
    exact h
theorem wj_astq (C : fd_C p m c cc nL s args fd_T own D fd_cl tys wl A) {cB : ClassId} (hB : (cB, FieldType.object "FareDesk$Booking") ∈ tys) (q0 qk : Nat) {n x v : Nat} {f : Nat → Option Nat} {vs : List Value} {z : Int} (he : ws[q0]? = some (a, .inl (cB, n, .inr (.inr (.inr (.inr f)))))) (hv : ws[qk]? = some (v, .inr (1, vs))) (hz : z = (x : Int)) (hx : x < n) (hn : n ≤ 1000) (d : decode cc pc = .ok (.aastore, 1)) (kk : wJ p l e R s m args below meth c D fd_cl A nL cells slots Q (ws.set q0 (a, .inl (cB, n, .inr (.inr (.inr (.inr (va_up f x (some v)))))))) (pc + 1) lv st) : wJ p l e R s m args below meth c D fd_cl A nL cells slots Q ws pc lv (.ref v :: .int (fd_I z) :: .ref a :: st) := by
  subst hz
  intro H locs ls hP hD hS hL
  obtain ⟨t0, ht0⟩ := List.getElem?_of_mem hB
  have hc : (fd_I (x : Int)).toNatClampNeg = x := by rw [fd_I_clamp (by omega) (by omega)]; rfl
  refine va_astq C.1.1 C.1.2.1 C.2.1 hP hD hS q0 t0 qk 1 (r := (RB, TB, 9)) he ht0 hv rfl (fd_vpin (by omega) (by omega) (by omega)) d (fun H1 locs1 hP1 hD1 hS1 => ?_)
  rw [hc] at hP1 hD1
  exact kk H1 locs1 ls hP1 hD1 hS1 hL
end WD
def wi_pair (cI : ClassId) (f8 f9 : Nat → Nat) : Nat → va_W
  | 0 => []
  | n + 1 => wi_pair cI f8 f9 n ++ [(f8 n, .inr (1, wi_b n (f9 n))), (f9 n, .inl (cI, 6, .inl (fun _ => fd_I 0)))]
theorem wi_pair_congr (cI : ClassId) {f8 f9 g8 g9 : Nat → Nat} : ∀ n, (∀ i, i < n → f8 i = g8 i ∧ f9 i = g9 i) → wi_pair cI f8 f9 n = wi_pair cI g8 g9 n
  | 0, _ => rfl
  | n + 1, h => by
    have h1 := h n (by omega)
    unfold wi_pair
    rw [wi_pair_congr cI n (fun i hi => h i (by omega)), h1.1, h1.2]
def wi_arr (f8 : Nat → Nat) (n : Nat) : Nat → Option Nat := fun j => if j < n then some (f8 j) else none
def wi_desk (cI cB : ClassId) (L h a1 h2 q3 q4 q5 h6 q7 : Nat) (f8 f9 : Nat → Nat) (n : Nat) : va_W := (h, .inr (0, [.ref h2, .ref h6, .ref a1, .int 0, .int 0, .int 0, .int 0])) :: (a1, .inl (cB, 60, .inr (.inr (.inr (.inr (wi_arr f8 n)))))) :: (h2, .inr (2, [.ref q3, .ref q4, .ref q5])) :: (q3, .inl (cI, 4, .inl (fun j => fd_I (if j < 4 then (L : Int) else 0)))) :: (q4, .inl (cI, 4, .inl (fun j => fd_I (wi_pr j)))) :: (q5, .inl (cI, 4, .inl (fun _ => fd_I 0))) :: (h6, .inr (3, [.ref q7, .int (fd_I (L : Int))])) :: (q7, .inl (cI, L, .inl (fun j => fd_I (if j < L then -1 else 0)))) :: wi_pair cI f8 f9 n
theorem wi_len (cI : ClassId) (f8 f9 : Nat → Nat) : ∀ n, (wi_pair cI f8 f9 n).length = 2 * n
  | 0 => rfl
  | n + 1 => by
    unfold wi_pair
    rw [List.length_append, wi_len cI f8 f9 n]
    rfl
theorem wi_step (cI cB : ClassId) (L h a1 h2 q3 q4 q5 h6 q7 : Nat) (f8 f9 : Nat → Nat) (n q q2 : Nat) : wi_desk cI cB L h a1 h2 q3 q4 q5 h6 q7 (fun j => if j = n then q else f8 j) (fun j => if j = n then q2 else f9 j) (n + 1) = (wi_desk cI cB L h a1 h2 q3 q4 q5 h6 q7 f8 f9 n ++ ([(q, .inr (1, wi_b n q2)), (q2, .inl (cI, 6, .inl (fun _ => fd_I 0)))] : va_W)).set 1 (a1, .inl (cB, 60, .inr (.inr (.inr (.inr (va_up (wi_arr f8 n) n (some q))))))) := by
  have e1 : wi_arr (fun j => if j = n then q else f8 j) (n + 1) = va_up (wi_arr f8 n) n (some q) := by
    funext j
    unfold wi_arr va_up
    by_cases h : j = n
    · subst h
      simp
    · by_cases h2 : j < n
      · simp [h, h2]
        omega
      · simp [h, h2]
        omega
  have e2 : wi_pair cI (fun j => if j = n then q else f8 j) (fun j => if j = n then q2 else f9 j) (n + 1) = wi_pair cI f8 f9 n ++ ([(q, .inr (1, wi_b n q2)), (q2, .inl (cI, 6, .inl (fun _ => fd_I 0)))] : va_W) := by
    show wi_pair cI (fun j => if j = n then q else f8 j) (fun j => if j = n then q2 else f9 j) n ++ _ = _
    rw [wi_pair_congr cI (g8 := f8) (g9 := f9) n (fun i hi => ⟨if_neg (by omega), if_neg (by omega)⟩)]
    simp
  unfold wi_desk
  rw [e1, e2]
  rfl
