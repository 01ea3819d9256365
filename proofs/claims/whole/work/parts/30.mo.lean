/-! the model's cells. Kinds: 0 the object [0 thrown, 1 seatCount, 2 now, 3 till, 4 closed, 7 bookings], 1 prices, 2 limits, 3 states, 4 fares, 5 places, 6 ticks, 7 ends, 8 paid, 9 seats, 10 given, 11 owner -/
def mo_en (cI : ClassId) (ad : Nat → Nat → Nat) (k _i : Nat) (g : Nat → Int) : va_E := match k with
  | 0 => .inr (4, [.int (fd_I (g 0)), .int (fd_I (g 1)), .int (fd_I (g 2)), .int (fd_I (g 3)), .int (fd_I (g 4)), .ref (ad 1 0), .ref (ad 2 0), .int (fd_I (g 7)), .ref (ad 3 0), .ref (ad 4 0), .ref (ad 5 0), .ref (ad 6 0), .ref (ad 7 0), .ref (ad 8 0), .ref (ad 9 0), .ref (ad 10 0), .ref (ad 11 0)])
  | 1 => .inl (cI, 4, .inl (fun j => fd_I (g j)))
  | 2 => .inl (cI, 4, .inl (fun j => fd_I (g j)))
  | 3 => .inl (cI, 60, .inl (fun j => fd_I (g j)))
  | 4 => .inl (cI, 60, .inl (fun j => fd_I (g j)))
  | 5 => .inl (cI, 60, .inl (fun j => fd_I (g j)))
  | 6 => .inl (cI, 60, .inl (fun j => fd_I (g j)))
  | 7 => .inl (cI, 60, .inl (fun j => fd_I (g j)))
  | 8 => .inl (cI, 60, .inl (fun j => fd_I (g j)))
  | 9 => .inl (cI, 60, .inl (fun j => fd_I (g j)))
  | 10 => .inl (cI, 360, .inl (fun j => fd_I (g j)))
  | _ => .inl (cI, 60, .inl (fun j => fd_I (g j)))
def mo_wl : List (Nat × Nat) := [(0, 0), (1, 0), (2, 0), (3, 0), (4, 0), (5, 0), (6, 0), (7, 0), (8, 0), (9, 0), (10, 0), (11, 0)]
theorem mo_nd : mo_wl.Nodup := by decide +kernel
theorem mo_m {k : Nat} (h : k < 12) : (k, 0) ∈ mo_wl := by
  rcases (show k = 0 ∨ k = 1 ∨ k = 2 ∨ k = 3 ∨ k = 4 ∨ k = 5 ∨ k = 6 ∨ k = 7 ∨ k = 8 ∨ k = 9 ∨ k = 10 ∨ k = 11 by omega) with rfl | rfl | rfl | rfl | rfl | rfl | rfl | rfl | rfl | rfl | rfl | rfl <;> decide
abbrev mo_tys (cI : ClassId) : List (ClassId × FieldType) := [(cI, .int)]
theorem mo_tI (cI : ClassId) : (cI, FieldType.int) ∈ mo_tys cI := List.mem_cons_self
abbrev mo_Mi (l : Launch) (D : va_G) (cI : ClassId) (ad : Nat → Nat → Nat) (y : MethodName) (ws : List Cond) (rm : Room) (av : List Value) (M : fd_Mem) (z : Int) (N : fd_Mem) : Prop := fd_Mi l y ws rm D fd_cl (mo_tys cI) ad (mo_en cI ad) mo_wl av M z N
abbrev mo_Mv (l : Launch) (D : va_G) (cI : ClassId) (ad : Nat → Nat → Nat) (y : MethodName) (ws : List Cond) (rm : Room) (av : List Value) (M : fd_Mem) (N : fd_Mem) : Prop := fd_Mv l y ws rm D fd_cl (mo_tys cI) ad (mo_en cI ad) mo_wl av M N
/-! the model as functions of its memory -/
def mo_ok (P : fd_Mem) : Prop := (0 ≤ P 0 0 1 ∧ P 0 0 1 ≤ 60) ∧ (0 ≤ P 0 0 2 ∧ P 0 0 2 ≤ 1000000) ∧ (0 ≤ P 0 0 4 ∧ P 0 0 4 ≤ 1) ∧ (0 ≤ P 0 0 7 ∧ P 0 0 7 ≤ 60) ∧ (∀ k, k < 4 → 0 ≤ P 1 0 k ∧ P 1 0 k ≤ 9999) ∧ (∀ k, k < 4 → 0 ≤ P 2 0 k ∧ P 2 0 k ≤ 99) ∧
  (∀ i, i < 60 → (0 ≤ P 3 0 i ∧ P 3 0 i ≤ 7) ∧ (0 ≤ P 4 0 i ∧ P 4 0 i ≤ 3) ∧ (0 ≤ P 5 0 i ∧ P 5 0 i ≤ 6) ∧ (0 ≤ P 6 0 i ∧ P 6 0 i ≤ 50) ∧ (0 ≤ P 7 0 i ∧ P 7 0 i ≤ 1000050) ∧ (0 ≤ P 8 0 i ∧ P 8 0 i ≤ 59994) ∧ (0 ≤ P 9 0 i ∧ P 9 0 i ≤ P 5 0 i) ∧ (0 ≤ P 11 0 i ∧ P 11 0 i ≤ 60)) ∧ ∀ x, x < 360 → 0 ≤ P 10 0 x ∧ P 10 0 x < 60
theorem mo_ok.cnt {P : fd_Mem} (h : mo_ok P) : 0 ≤ P 0 0 1 ∧ P 0 0 1 ≤ 60 := h.1
theorem mo_ok.now {P : fd_Mem} (h : mo_ok P) : 0 ≤ P 0 0 2 ∧ P 0 0 2 ≤ 1000000 := h.2.1
theorem mo_ok.shut {P : fd_Mem} (h : mo_ok P) : 0 ≤ P 0 0 4 ∧ P 0 0 4 ≤ 1 := h.2.2.1
theorem mo_ok.made {P : fd_Mem} (h : mo_ok P) : 0 ≤ P 0 0 7 ∧ P 0 0 7 ≤ 60 := h.2.2.2.1
theorem mo_ok.pri {P : fd_Mem} (h : mo_ok P) {k : Nat} (hk : k < 4) : 0 ≤ P 1 0 k ∧ P 1 0 k ≤ 9999 := h.2.2.2.2.1 k hk
theorem mo_ok.lim {P : fd_Mem} (h : mo_ok P) {k : Nat} (hk : k < 4) : 0 ≤ P 2 0 k ∧ P 2 0 k ≤ 99 := h.2.2.2.2.2.1 k hk
theorem mo_ok.sta {P : fd_Mem} (h : mo_ok P) {i : Nat} (hi : i < 60) : 0 ≤ P 3 0 i ∧ P 3 0 i ≤ 7 := (h.2.2.2.2.2.2.1 i hi).1
theorem mo_ok.far {P : fd_Mem} (h : mo_ok P) {i : Nat} (hi : i < 60) : 0 ≤ P 4 0 i ∧ P 4 0 i ≤ 3 := (h.2.2.2.2.2.2.1 i hi).2.1
theorem mo_ok.pla {P : fd_Mem} (h : mo_ok P) {i : Nat} (hi : i < 60) : 0 ≤ P 5 0 i ∧ P 5 0 i ≤ 6 := (h.2.2.2.2.2.2.1 i hi).2.2.1
theorem mo_ok.tik {P : fd_Mem} (h : mo_ok P) {i : Nat} (hi : i < 60) : 0 ≤ P 6 0 i ∧ P 6 0 i ≤ 50 := (h.2.2.2.2.2.2.1 i hi).2.2.2.1
theorem mo_ok.end9 {P : fd_Mem} (h : mo_ok P) {i : Nat} (hi : i < 60) : 0 ≤ P 7 0 i ∧ P 7 0 i ≤ 1000050 := (h.2.2.2.2.2.2.1 i hi).2.2.2.2.1
theorem mo_ok.pai {P : fd_Mem} (h : mo_ok P) {i : Nat} (hi : i < 60) : 0 ≤ P 8 0 i ∧ P 8 0 i ≤ 59994 := (h.2.2.2.2.2.2.1 i hi).2.2.2.2.2.1
theorem mo_ok.sea {P : fd_Mem} (h : mo_ok P) {i : Nat} (hi : i < 60) : 0 ≤ P 9 0 i ∧ P 9 0 i ≤ P 5 0 i := (h.2.2.2.2.2.2.1 i hi).2.2.2.2.2.2.1
theorem mo_ok.own {P : fd_Mem} (h : mo_ok P) {i : Nat} (hi : i < 60) : 0 ≤ P 11 0 i ∧ P 11 0 i ≤ 60 := (h.2.2.2.2.2.2.1 i hi).2.2.2.2.2.2.2
theorem mo_ok.giv {P : fd_Mem} (h : mo_ok P) {x : Nat} (hx : x < 360) : 0 ≤ P 10 0 x ∧ P 10 0 x < 60 := h.2.2.2.2.2.2.2 x hx
theorem mo_ok.thr {P : fd_Mem} (h : mo_ok P) (z : Int) : mo_ok (fd_u3 P 0 0 0 z) := by
  unfold mo_ok at h ⊢
  simpa [fd_u3_at] using h
/-- what fare k has left after the first n bookings, w left out -/
def mo_l (P : fd_Mem) (k : Nat) (w : Int) : Nat → Int
  | 0 => P 2 0 k
  | n + 1 => mo_l P k w n - (if (P 3 0 n = 1 ∨ P 3 0 n = 2 ∨ P 3 0 n = 6) ∧ (k : Int) ≤ P 4 0 n ∧ (n : Int) ≠ w then P 5 0 n else 0)
theorem mo_l_s (P : fd_Mem) (k : Nat) (w : Int) (n : Nat) : mo_l P k w (n + 1) = mo_l P k w n - (if (P 3 0 n = 1 ∨ P 3 0 n = 2 ∨ P 3 0 n = 6) ∧ (k : Int) ≤ P 4 0 n ∧ (n : Int) ≠ w then P 5 0 n else 0) := rfl
theorem mo_l_bd {P : fd_Mem} (h : mo_ok P) {k : Nat} (hk : k < 4) (w : Int) : ∀ n : Nat, n ≤ 60 → -6 * (n : Int) ≤ mo_l P k w n ∧ mo_l P k w n ≤ 99
  | 0, _ => by
    have h1 := h.lim hk
    show -6 * 0 ≤ P 2 0 k ∧ P 2 0 k ≤ 99
    omega
  | n + 1, hn => by
    have h1 := mo_l_bd h hk w n (by omega)
    have h2 := h.pla (show n < 60 by omega)
    rw [mo_l_s]
    split <;> omega
/-- the room of the fares below k -/
def mo_r (P : fd_Mem) (w : Int) : Nat → Int
  | 0 => 1000
  | k + 1 => if mo_l P k w (P 0 0 7).toNat < mo_r P w k then mo_l P k w (P 0 0 7).toNat else mo_r P w k
theorem mo_r_s (P : fd_Mem) (w : Int) (k : Nat) : mo_r P w (k + 1) = if mo_l P k w (P 0 0 7).toNat < mo_r P w k then mo_l P k w (P 0 0 7).toNat else mo_r P w k := rfl
theorem mo_r_bd {P : fd_Mem} (h : mo_ok P) (w : Int) : ∀ k : Nat, k ≤ 4 → -1000 ≤ mo_r P w k ∧ mo_r P w k ≤ 1000
  | 0, _ => by
    show -1000 ≤ (1000 : Int) ∧ (1000 : Int) ≤ 1000
    omega
  | k + 1, hk => by
    have h1 := mo_r_bd h w k (by omega)
    have h2 := mo_l_bd h (show k < 4 by omega) w (P 0 0 7).toNat (by have := h.made; omega)
    have h3 := h.made
    rw [mo_r_s]
    split <;> omega
def mo_hd (P : fd_Mem) (b : Nat) : fd_Mem := fd_u3 (fd_u3 P 3 0 b 1) 7 0 b (P 0 0 2 + P 6 0 b)
theorem mo_ok.hd {P : fd_Mem} (h : mo_ok P) {b : Nat} (hb : b < 60) : mo_ok (mo_hd P b) := by
  have h1 := h.now
  have h2 := h.tik hb
  obtain ⟨g1, g2, g3, g4, g5, g6, g7, g8⟩ := h
  unfold mo_ok mo_hd
  simp [fd_u3_at]
  refine ⟨g1, g2, g3, g4, g5, g6, fun i hi => ?_, g8⟩
  have h3 := g7 i hi
  refine ⟨?_, h3.2.1, h3.2.2.1, h3.2.2.2.1, ?_, h3.2.2.2.2.2.1, h3.2.2.2.2.2.2⟩
  · split <;> omega
  · split
    · omega
    · exact h3.2.2.2.2.1
/-- serving, with so much breath -/
def mo_sv : Nat → Nat → fd_Mem → Option fd_Mem
  | 0, _, _ => none
  | d + 1, b, P => if (b : Int) < P 0 0 7 then (if P 3 0 b = 3 ∧ P 5 0 b ≤ mo_r P (-1) ((P 4 0 b).toNat + 1) then mo_sv d 0 (mo_hd P b) else mo_sv d (b + 1) P) else some P
theorem mo_sv_s (d b : Nat) (P : fd_Mem) : mo_sv (d + 1) b P = if (b : Int) < P 0 0 7 then (if P 3 0 b = 3 ∧ P 5 0 b ≤ mo_r P (-1) ((P 4 0 b).toNat + 1) then mo_sv d 0 (mo_hd P b) else mo_sv d (b + 1) P) else some P := rfl
theorem mo_sv_pos {d b : Nat} {P N : fd_Mem} (h : mo_sv d b P = some N) : ∃ d8, d = d8 + 1 := by
  cases d with
  | zero => exact absurd h (by intro q; cases q)
  | succ d => exact ⟨d, rfl⟩
