/-! the law's world: the desk (kinds 0 to 9), out (kind 10), the model (kinds 20 and on) -/
def la_ad (ad : Nat → Nat → Nat) (k i : Nat) : Nat := ad (k + 20) i
def la_en (cI cB cJ : ClassId) (L : Nat) (ad : Nat → Nat → Nat) (k i : Nat) (g : Nat → Int) : va_E := if k < 10 then ds_en cI cB L ad k i g else if k = 10 then .inl (cJ, 1, .inr (.inl (fun j => (fd_I (g j)).toInt64))) else mo_en cI (la_ad ad) (k - 20) i g
def lo_wl : List (Nat × Nat) := ds_wl ++ [(10, 0)]
def la_wl : List (Nat × Nat) := lo_wl ++ mo_wl.map (fun q => (q.1 + 20, q.2))
def la_M (M P : fd_Mem) (o : Int) : fd_Mem := fun k i j => if k < 10 then M k i j else if k = 10 then (if i = 0 ∧ j = 0 then o else 0) else P (k - 20) i j
abbrev la_tys (cI cB cJ : ClassId) : List (ClassId × FieldType) := [(cI, .int), (cB, .object "FareDesk$Booking"), (cJ, .long)]
theorem ds_wl_lt {k i : Nat} (h : (k, i) ∈ ds_wl) : k < 10 := by
  unfold ds_wl at h
  rcases List.mem_append.mp h with h | h
  · simp only [List.mem_cons, Prod.mk.injEq, List.not_mem_nil, or_false] at h
    omega
  · rcases List.mem_append.mp h with h | h
    · obtain ⟨j, -, hj⟩ := List.mem_map.mp h
      have := congrArg Prod.fst hj
      dsimp only at this
      omega
    · obtain ⟨j, -, hj⟩ := List.mem_map.mp h
      have := congrArg Prod.fst hj
      dsimp only at this
      omega
theorem mo_wl_lt {k i : Nat} (h : (k, i) ∈ mo_wl) : k < 12 ∧ i = 0 := by
  unfold mo_wl at h
  simp only [List.mem_cons, Prod.mk.injEq, List.not_mem_nil, or_false] at h
  omega
theorem lo_nd : lo_wl.Nodup := by decide +kernel
theorem la_nd : la_wl.Nodup := by decide +kernel
theorem lo_10 : (10, 0) ∈ lo_wl := List.mem_append_right _ List.mem_cons_self
theorem la_10 : (10, 0) ∈ la_wl := List.mem_append_left _ lo_10
theorem la_d (M P : fd_Mem) (o : Int) {k : Nat} (h : k < 10) (i : Nat) : la_M M P o k i = M k i := by
  funext j
  unfold la_M
  rw [if_pos h]
theorem la_m (M P : fd_Mem) (o : Int) (k i : Nat) : la_M M P o (k + 20) i = P k i := by
  funext j
  unfold la_M
  rw [if_neg (by omega), if_neg (by omega), Nat.add_sub_cancel]
theorem la_o (M P M' P' : fd_Mem) (o : Int) (i : Nat) : la_M M P o 10 i = la_M M' P' o 10 i := by
  funext j
  show (if i = 0 ∧ j = 0 then o else 0) = (if i = 0 ∧ j = 0 then o else 0)
  rfl
theorem la_subD (cI cB cJ : ClassId) (L : Nat) (ad : Nat → Nat → Nat) : fd_Sub (fun k => k) ad ad (la_en cI cB cJ L ad) (ds_en cI cB L ad) lo_wl ds_wl := by
  refine ⟨ds_nd, fun _ _ h => h, fun k i h => ⟨List.mem_append_left _ h, rfl, fun g => ?_⟩⟩
  unfold la_en
  rw [if_pos (ds_wl_lt h)]
theorem la_subDa (cI cB cJ : ClassId) (L : Nat) (ad : Nat → Nat → Nat) : fd_Sub (fun k => k) ad ad (la_en cI cB cJ L ad) (ds_en cI cB L ad) la_wl ds_wl := by
  refine ⟨ds_nd, fun _ _ h => h, fun k i h => ⟨List.mem_append_left _ (List.mem_append_left _ h), rfl, fun g => ?_⟩⟩
  unfold la_en
  rw [if_pos (ds_wl_lt h)]
theorem la_subO (cI cB cJ : ClassId) (L : Nat) (ad : Nat → Nat → Nat) : fd_Sub (fun k => k) ad ad (la_en cI cB cJ L ad) (la_en cI cB cJ L ad) la_wl lo_wl := ⟨lo_nd, fun _ _ h => h, fun _ _ h => ⟨List.mem_append_left _ h, rfl, fun _ => rfl⟩⟩
theorem la_subM (cI cB cJ : ClassId) (L : Nat) (ad : Nat → Nat → Nat) : fd_Sub (fun k => k + 20) ad (la_ad ad) (la_en cI cB cJ L ad) (mo_en cI (la_ad ad)) la_wl mo_wl := by
  refine ⟨mo_nd, fun a b h => by
    have h2 : a + 20 = b + 20 := h
    omega, fun k i h => ⟨List.mem_append_right _ (List.mem_map.mpr ⟨(k, i), h, rfl⟩), rfl, fun g => ?_⟩⟩
  show _ = la_en cI cB cJ L ad (k + 20) i g
  unfold la_en
  rw [if_neg (by omega), if_neg (by omega), Nat.add_sub_cancel]
theorem lo_wl_lt {k i : Nat} (h : (k, i) ∈ lo_wl) : k < 10 ∨ (k = 10 ∧ i = 0) := by
  rcases List.mem_append.mp h with h | h
  · exact Or.inl (ds_wl_lt h)
  · simp only [List.mem_cons, Prod.mk.injEq, List.not_mem_nil, or_false] at h
    exact Or.inr h
theorem la_wl_in {k i : Nat} (h : (k, i) ∈ la_wl) : (k, i) ∈ lo_wl ∨ ∃ k1, (k1, i) ∈ mo_wl ∧ k1 + 20 = k := by
  rcases List.mem_append.mp h with h | h
  · exact Or.inl h
  · obtain ⟨⟨a, b⟩, h1, h2⟩ := List.mem_map.mp h
    cases h2
    exact Or.inr ⟨a, h1, rfl⟩
theorem la_backD (M N P : fd_Mem) (o : Int) : fd_Back (fun k => k) lo_wl ds_wl (la_M M P o) (la_M N P o) N := by
  refine ⟨fun k i h => la_d N P o (ds_wl_lt h) i, fun k i h hn => ?_⟩
  rcases List.mem_append.mp h with h | h
  · exact absurd rfl (hn k h)
  · simp only [List.mem_cons, Prod.mk.injEq, List.not_mem_nil, or_false] at h
    rw [h.1]
    exact la_o N P M P o i
theorem la_backDa (M N P : fd_Mem) (o : Int) : fd_Back (fun k => k) la_wl ds_wl (la_M M P o) (la_M N P o) N := by
  refine ⟨fun k i h => la_d N P o (ds_wl_lt h) i, fun k i h hn => ?_⟩
  rcases la_wl_in h with h | ⟨k1, h, rfl⟩
  · exact (la_backD M N P o).2 k i h hn
  · rw [la_m, la_m]
theorem la_backO (M N P P2 : fd_Mem) (o o2 : Int) : fd_Back (fun k => k) la_wl lo_wl (la_M M P o) (la_M N P o2) (la_M N P2 o2) := by
  refine ⟨fun k i h => ?_, fun k i h hn => ?_⟩
  · rcases lo_wl_lt h with h1 | ⟨rfl, rfl⟩
    · rw [la_d _ _ _ h1, la_d _ _ _ h1]
    · exact la_o _ _ _ _ _ _
  · rcases la_wl_in h with h | ⟨k1, h, rfl⟩
    · exact absurd rfl (hn k h)
    · rw [la_m, la_m]
theorem la_backM (M P P2 : fd_Mem) (o : Int) : fd_Back (fun k => k + 20) la_wl mo_wl (la_M M P o) (la_M M P2 o) P2 := by
  refine ⟨fun k i h => la_m _ _ _ _ _, fun k i h hn => ?_⟩
  rcases la_wl_in h with h | ⟨k1, h9, rfl⟩
  · rcases lo_wl_lt h with h1 | ⟨rfl, rfl⟩
    · rw [la_d _ _ _ h1, la_d _ _ _ h1]
    · exact la_o _ _ _ _ _ _
  · exact absurd rfl (hn k1 h9)
theorem la_u3 (M P : fd_Mem) (o z : Int) : fd_u3 (la_M M P o) 10 0 0 z = la_M M P z := by
  funext k i j
  rw [fd_u3_at]
  unfold la_M
  by_cases h : k = 10
  · subst h
    by_cases h2 : i = 0 ∧ j = 0
    · rw [if_pos ⟨rfl, h2⟩, if_neg (by omega), if_pos rfl, if_pos h2]
    · rw [if_neg (fun q => h2 q.2), if_neg (by omega), if_pos rfl, if_neg h2, if_neg (by omega), if_pos rfl, if_neg h2]
  · rw [if_neg (fun q => h q.1)]
    by_cases h3 : k < 10
    · rw [if_pos h3, if_pos h3]
    · rw [if_neg h3, if_neg h3, if_neg h, if_neg h]
/-! rows for longs -/
section LAJ
variable {p : Program} {l : Launch} {e : Env} {R : Room} {s : State} {m : MethodId} {args : Array Value} {below : List Frame} {meth : Method} {c : Code} {cells slots : Nat} {Q : State → Prop}
variable {cc : ByteArray} {pc nL : Nat} {own : String} {Ts : List Cond} {D : va_G} {cl : List vw_C} {A : Nat → Prop} {tys : List (ClassId × FieldType)}
variable {ad : Nat → Nat → Nat} {wl : List (Nat × Nat)} {M P : fd_Mem} {o : Int} {lv : List (Option Value)} {st : List Value} {cI cB cJ : ClassId} {L : Nat} {en : Nat → Nat → (Nat → Int) → va_E} {X : fd_Mem}
theorem fd_i2l (C : fd_C p m c cc nL s args Ts own D cl tys wl A) {z : Int} (d : decode cc pc = .ok (.i2l, 1)) (k : fd_J p l e R s m args below meth c D cl A ad en wl nL cells slots Q X (pc + 1) lv (.long (fd_I z).toInt64 :: st)) : fd_J p l e R s m args below meth c D cl A ad en wl nL cells slots Q X pc lv (.int (fd_I z) :: st) := by
  intro H locs ls hP hD hS hL
  exact lv_i2l C.1.1 C.1.2.1 d rfl (k H locs ls hP hD hS hL)
theorem la_last (C : fd_C p m c cc nL s args Ts own D cl tys wl A) (hm : (10, 0) ∈ wl) (ht : (cJ, FieldType.long) ∈ tys) {z : Int} (d : decode cc pc = .ok (.lastore, 1)) (kk : fd_J p l e R s m args below meth c D cl A ad (la_en cI cB cJ L ad) wl nL cells slots Q (la_M M P z) (pc + 1) lv st) : fd_J p l e R s m args below meth c D cl A ad (la_en cI cB cJ L ad) wl nL cells slots Q (la_M M P o) pc lv (.long (fd_I z).toInt64 :: .int (fd_I 0) :: .ref (ad 10 0) :: st) := by
  intro H locs ls hP hD hS hL
  obtain ⟨q, hq⟩ := List.getElem?_of_mem hm
  obtain ⟨t0, ht0⟩ := List.getElem?_of_mem ht
  have h1 := fd_W_at (ad := ad) (en := la_en cI cB cJ L ad) (M := la_M M P o) hq
  have he : ∀ g, la_en cI cB cJ L ad 10 0 g = .inl (cJ, 1, .inr (.inl (fun j => (fd_I (g j)).toInt64))) := fun g => rfl
  rw [he] at h1
  have hc : (fd_I 0).toNatClampNeg = 0 := by decide
  refine va_last C.1.1 C.1.2.1 C.2.1 hP hD hS q t0 h1 ht0 (fd_vpin (z := 0) (by omega) (by omega) (by omega)) d (fun H1 locs1 hP1 hD1 hS1 => ?_)
  have h3 : (Sum.inl (cJ, 1, Sum.inr (Sum.inl (vp_updL (fun j => (fd_I (la_M M P o 10 0 j)).toInt64) (fd_I 0).toNatClampNeg (fd_I z).toInt64))) : va_E) = la_en cI cB cJ L ad 10 0 (fd_up (la_M M P o 10 0) 0 z) := by
    rw [he, hc]
    refine congrArg (fun f => (Sum.inl (cJ, 1, Sum.inr (Sum.inl f)) : va_E)) (funext fun y => ?_)
    unfold vp_updL fd_up
    by_cases hy : y = 0
    · simp [hy]
    · simp [hy]
  rw [h3, fd_W_set C.2.2.1 hq, la_u3] at hP1 hD1
  exact kk H1 locs1 ls hP1 hD1 hS1 hL
end LAJ
