/-! the desk's cells. Kinds: 0 the desk, 1 its array of bookings, 2 the fares, 3 limits, 4 prices, 5 shares, 6 the cabin, 7 holders, 8 a booking, 9 a booking's seats. Slots as the fields lie -/
def ds_en (cI cB : ClassId) (L : Nat) (ad : Nat → Nat → Nat) (k i : Nat) (g : Nat → Int) : va_E := match k with
  | 0 => .inr (0, [.ref (ad 2 0), .ref (ad 6 0), .ref (ad 1 0), .int (fd_I (g 3)), .int (fd_I (g 4)), .int (fd_I (g 5)), .int (fd_I (g 6))])
  | 1 => .inl (cB, 60, .inr (.inr (.inr (.inr (fun j => some (ad 8 j))))))
  | 2 => .inr (2, [.ref (ad 3 0), .ref (ad 4 0), .ref (ad 5 0)])
  | 3 => .inl (cI, 4, .inl (fun j => fd_I (g j)))
  | 4 => .inl (cI, 4, .inl (fun j => fd_I (g j)))
  | 5 => .inl (cI, 4, .inl (fun j => fd_I (g j)))
  | 6 => .inr (3, [.ref (ad 7 0), .int (fd_I (g 1))])
  | 7 => .inl (cI, L, .inl (fun j => fd_I (g j)))
  | 8 => .inr (1, [.int (fd_I (g 0)), .ref (ad 9 i), .int (fd_I (g 2)), .int (fd_I (g 3)), .int (fd_I (g 4)), .int (fd_I (g 5)), .int (fd_I (g 6)), .int (fd_I (g 7)), .int (fd_I (g 8))])
  | _ => .inl (cI, 6, .inl (fun j => fd_I (g j)))
def ds_wl : List (Nat × Nat) := [(0, 0), (1, 0), (2, 0), (3, 0), (4, 0), (5, 0), (6, 0), (7, 0)] ++ ((List.range 60).map (fun i => (8, i)) ++ (List.range 60).map (fun i => (9, i)))
theorem ds_nd : ds_wl.Nodup := by decide +kernel
theorem ds_m {k : Nat} (h : k < 8) : (k, 0) ∈ ds_wl := by
  refine List.mem_append_left _ ?_
  rcases (show k = 0 ∨ k = 1 ∨ k = 2 ∨ k = 3 ∨ k = 4 ∨ k = 5 ∨ k = 6 ∨ k = 7 by omega) with rfl | rfl | rfl | rfl | rfl | rfl | rfl | rfl <;> decide
theorem ds_m8 {i : Nat} (h : i < 60) : (8, i) ∈ ds_wl := List.mem_append_right _ (List.mem_append_left _ (List.mem_map.mpr ⟨i, List.mem_range.mpr h, rfl⟩))
theorem ds_m9 {i : Nat} (h : i < 60) : (9, i) ∈ ds_wl := List.mem_append_right _ (List.mem_append_right _ (List.mem_map.mpr ⟨i, List.mem_range.mpr h, rfl⟩))
abbrev ds_tys (cI cB : ClassId) : List (ClassId × FieldType) := [(cI, .int), (cB, .object "FareDesk$Booking")]
theorem ds_tI (cI cB : ClassId) : (cI, FieldType.int) ∈ ds_tys cI cB := List.mem_cons_self
theorem ds_tB (cI cB : ClassId) : (cB, FieldType.object "FareDesk$Booking") ∈ ds_tys cI cB := List.mem_cons_of_mem _ List.mem_cons_self
abbrev ds_Mi (l : Launch) (D : va_G) (cI cB : ClassId) (L : Nat) (ad : Nat → Nat → Nat) (y : MethodName) (ws : List Cond) (rm : Room) (av : List Value) (M : fd_Mem) (z : Int) (N : fd_Mem) : Prop := fd_Mi l y ws rm D fd_cl (ds_tys cI cB) ad (ds_en cI cB L ad) ds_wl av M z N
abbrev ds_Mv (l : Launch) (D : va_G) (cI cB : ClassId) (L : Nat) (ad : Nat → Nat → Nat) (y : MethodName) (ws : List Cond) (rm : Room) (av : List Value) (M : fd_Mem) (N : fd_Mem) : Prop := fd_Mv l y ws rm D fd_cl (ds_tys cI cB) ad (ds_en cI cB L ad) ds_wl av M N
abbrev ds_Mr (l : Launch) (D : va_G) (cI cB : ClassId) (L : Nat) (ad : Nat → Nat → Nat) (y : MethodName) (ws : List Cond) (rm : Room) (av : List Value) (M : fd_Mem) (a : Nat) (N : fd_Mem) : Prop := fd_Mr l y ws rm D fd_cl (ds_tys cI cB) ad (ds_en cI cB L ad) ds_wl av M a N
abbrev ds_MT (l : Launch) (D : va_G) (cI cB : ClassId) (L : Nat) (ad : Nat → Nat → Nat) (y : MethodName) (ws : List Cond) (rm : Room) (av : List Value) (M : fd_Mem) (X : String) : Prop := fd_MT l y ws rm D fd_cl (ds_tys cI cB) ad (ds_en cI cB L ad) ds_wl av M X
abbrev ds_J (p : Program) (l : Launch) (e : Env) (R : Room) (s : State) (m : MethodId) (args : Array Value) (below : List Frame) (meth : Method) (c : Code) (D : va_G) (A : Nat → Prop) (cI cB : ClassId) (L : Nat) (ad : Nat → Nat → Nat) (nL : Nat) (Q : State → Prop) (M : fd_Mem) (pc : Nat) (lv : List (Option Value)) (st : List Value) : Prop := fd_J p l e R s m args below meth c D fd_cl A ad (ds_en cI cB L ad) ds_wl nL 0 0 Q M pc lv st
/-! the exceptions of the desk -/
abbrev fd_names : List String := ["java/lang/RuntimeException", "java/lang/Exception"]
theorem fd_at_ok {ic : Nat} {X : String} (h : ∀ w ∈ vx_atS "FareDesk" ic X fd_names, w ∈ fd_T ∨ w ∈ fd_bad) {args : Array Value} {s : State} (hts : ∀ w ∈ fd_T, w.before args s = true) (hb : ∀ w ∈ fd_bad, va_Nw w s) : ∀ w ∈ vx_atS "FareDesk" ic X fd_names, w.before args s = true := by
  intro w hw
  rcases h w hw with h1 | h1
  · exact hts w h1
  · exact va_Nw.use (fd_bad_tab w h1) (hb w h1)
theorem fd_at_IAE : ∀ w ∈ vx_atS "FareDesk" 52 "java/lang/IllegalArgumentException" fd_names, w ∈ fd_T ∨ w ∈ fd_bad := by decide +kernel
theorem fd_at_ISE : ∀ w ∈ vx_atS "FareDesk" 105 "java/lang/IllegalStateException" fd_names, w ∈ fd_T ∨ w ∈ fd_bad := by decide +kernel
theorem fd_ot_IAE : ∀ w ∈ Cond.classLink "FareDesk" 48 "java/lang/IllegalArgumentException" :: Cond.initialized "java/lang/IllegalArgumentException" :: vx_atS "FareDesk" 52 "java/lang/IllegalArgumentException" fd_names, vx_ot w = true := by decide +kernel
theorem fd_ot_ISE : ∀ w ∈ Cond.classLink "FareDesk" 101 "java/lang/IllegalStateException" :: Cond.initialized "java/lang/IllegalStateException" :: vx_atS "FareDesk" 105 "java/lang/IllegalStateException" fd_names, vx_ot w = true := by decide +kernel
