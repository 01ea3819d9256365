/-! the desk as functions of its memory -/
def ds_shp (M : fd_Mem) (f : Nat) (k : Nat) : Int := fd_sum (fun j => if f ≤ j then M 5 0 j else 0) k
def ds_sh (M : fd_Mem) (f : Nat) : Int := ds_shp M f 4
theorem ds_shp_0 (M : fd_Mem) (f : Nat) : ds_shp M f f = 0 := fd_sum_0 f (fun j hj => if_neg (by omega))
theorem ds_shp_s (M : fd_Mem) {f k : Nat} (h : f ≤ k) : ds_shp M f (k + 1) = ds_shp M f k + M 5 0 k := by
  show fd_sum _ k + (if f ≤ k then M 5 0 k else 0) = _
  rw [if_pos h]
  rfl
def ds_rm (M : fd_Mem) : Nat → Int
  | 0 => M 3 0 0 - ds_sh M 0
  | k + 1 => min (ds_rm M k) (M 3 0 (k + 1) - ds_sh M (k + 1))
/-- limits and shares are small -/
def ds_b35 (M : fd_Mem) : Prop := ∀ k, k < 4 → (0 ≤ M 3 0 k ∧ M 3 0 k ≤ 99) ∧ (-1000 ≤ M 5 0 k ∧ M 5 0 k ≤ 1000)
theorem ds_sh_bd {M : fd_Mem} (h : ds_b35 M) (f : Nat) : -4000 ≤ ds_sh M f ∧ ds_sh M f ≤ 4000 := by
  have h0 := (h 0 (by omega)).2
  have h1 := (h 1 (by omega)).2
  have h2 := (h 2 (by omega)).2
  have h3 := (h 3 (by omega)).2
  show -4000 ≤ 0 + (if f ≤ 0 then M 5 0 0 else 0) + (if f ≤ 1 then M 5 0 1 else 0) + (if f ≤ 2 then M 5 0 2 else 0) + (if f ≤ 3 then M 5 0 3 else 0) ∧ 0 + (if f ≤ 0 then M 5 0 0 else 0) + (if f ≤ 1 then M 5 0 1 else 0) + (if f ≤ 2 then M 5 0 2 else 0) + (if f ≤ 3 then M 5 0 3 else 0) ≤ 4000
  split <;> split <;> split <;> split <;> omega
theorem ds_rm_bd {M : fd_Mem} (h : ds_b35 M) : ∀ k : Nat, k < 4 → -5000 ≤ ds_rm M k ∧ ds_rm M k ≤ 5000
  | 0, _ => by
    have h1 := ds_sh_bd h 0
    have h2 := (h 0 (by omega)).1
    show -5000 ≤ M 3 0 0 - ds_sh M 0 ∧ M 3 0 0 - ds_sh M 0 ≤ 5000
    omega
  | k + 1, hk => by
    have h1 := ds_sh_bd h (k + 1)
    have h2 := (h (k + 1) hk).1
    have h3 := ds_rm_bd h k (by omega)
    show -5000 ≤ min (ds_rm M k) (M 3 0 (k + 1) - ds_sh M (k + 1)) ∧ min (ds_rm M k) (M 3 0 (k + 1) - ds_sh M (k + 1)) ≤ 5000
    omega
def ds_give (M : fd_Mem) (i s : Nat) : fd_Mem := fd_u3 (fd_u3 (fd_u3 (fd_u3 M 7 0 s (M 8 i 0)) 9 i (M 8 i 2).toNat ((s : Nat) : Int)) 8 i 2 (M 8 i 2 + 1)) 6 0 1 (M 6 0 1 - 1)
def ds_miss (i : Nat) : Nat → Nat → fd_Mem → fd_Mem
  | 0, _, P => P
  | d + 1, s, P => if P 8 i 5 - P 8 i 2 ≤ 0 then P else ds_miss i d (s + 1) (if P 7 0 s = -1 then ds_give P i s else P)
/-- what giving seats asks of the booking i and of the cabin -/
def ds_gb (L : Nat) (P : fd_Mem) (i : Nat) : Prop := (0 ≤ P 8 i 2 ∧ P 8 i 2 ≤ P 8 i 5 ∧ P 8 i 5 ≤ 6) ∧ (0 ≤ P 8 i 0 ∧ P 8 i 0 < 60) ∧ ∀ s, s < L → -1 ≤ P 7 0 s ∧ P 7 0 s ≤ 60
theorem ds_gb_give {L : Nat} {P : fd_Mem} {i s : Nat} (h : ds_gb L P i) (hs : P 8 i 2 < P 8 i 5) : ds_gb L (ds_give P i s) i := by
  obtain ⟨h1, h2, h3⟩ := h
  unfold ds_gb ds_give
  refine ⟨?_, ?_, fun t ht => ?_⟩
  · simp [fd_u3_at]
    omega
  · simp [fd_u3_at]
    omega
  · have h4 := h3 t ht
    simp [fd_u3_at]
    split <;> omega
def ds_take1 (P : fd_Mem) (i : Nat) : fd_Mem := fd_u3 (fd_u3 (fd_u3 P 8 i 2 (P 8 i 2 - 1)) 7 0 (P 9 i (P 8 i 2 - 1).toNat).toNat (-1)) 6 0 1 (P 6 0 1 + 1)
def ds_take (i : Nat) : Nat → fd_Mem → fd_Mem
  | 0, P => P
  | d + 1, P => ds_take i d (ds_take1 P i)
def ds_tb (L : Nat) (P : fd_Mem) (i : Nat) : Prop := (0 ≤ P 8 i 2 ∧ P 8 i 2 ≤ 6) ∧ ∀ j, j < 6 → 0 ≤ P 9 i j ∧ P 9 i j < L
theorem ds_tb_take {L : Nat} {P : fd_Mem} {i : Nat} (h : ds_tb L P i) (h2 : 0 < P 8 i 2) : ds_tb L (ds_take1 P i) i := by
  obtain ⟨h1, h3⟩ := h
  unfold ds_tb ds_take1
  refine ⟨?_, fun j hj => ?_⟩
  · simp [fd_u3_at]
    omega
  · have h4 := h3 j hj
    simp [fd_u3_at]
    omega
def ds_af (M : fd_Mem) : Nat → Nat → Int
  | 0, _ => 1
  | d + 1, s => if M 7 0 s = -1 then ds_af M d (s + 1) else 0
theorem ds_af_01 (M : fd_Mem) : ∀ d s, ds_af M d s = 0 ∨ ds_af M d s = 1
  | 0, _ => Or.inr rfl
  | d + 1, s => by
    show (if M 7 0 s = -1 then ds_af M d (s + 1) else 0) = 0 ∨ (if M 7 0 s = -1 then ds_af M d (s + 1) else 0) = 1
    split
    · exact ds_af_01 M d (s + 1)
    · exact Or.inl rfl
/-- the first of d starts, from s on, where w seats are free; -1 if there is none -/
def ds_bi (M : fd_Mem) (w : Nat) : Nat → Nat → Int
  | 0, _ => -1
  | d + 1, s => if ds_af M w s = 1 then (s : Int) else ds_bi M w d (s + 1)
/-- .. in the first of d stretches of v seats, from s on -/
def ds_bo (M : fd_Mem) (w v : Nat) : Nat → Nat → Int
  | 0, _ => -1
  | d + 1, s => if ds_bi M w (v + 1 - w) s = -1 then ds_bo M w v d (s + v) else ds_bi M w (v + 1 - w) s
def ds_best (M : fd_Mem) (L w : Nat) : Int := if ds_bo M w 3 (L / 3) 0 = -1 then (if ds_bo M w 6 (L / 6) 0 = -1 then ds_bo M 1 3 (L / 3) 0 else ds_bo M w 6 (L / 6) 0) else ds_bo M w 3 (L / 3) 0
theorem ds_miss_s (i d s : Nat) (P : fd_Mem) : ds_miss i (d + 1) s P = if P 8 i 5 - P 8 i 2 ≤ 0 then P else ds_miss i d (s + 1) (if P 7 0 s = -1 then ds_give P i s else P) := rfl
theorem ds_af_s (M : fd_Mem) (d s : Nat) : ds_af M (d + 1) s = if M 7 0 s = -1 then ds_af M d (s + 1) else 0 := rfl
theorem ds_bi_s (M : fd_Mem) (w d s : Nat) : ds_bi M w (d + 1) s = if ds_af M w s = 1 then (s : Int) else ds_bi M w d (s + 1) := rfl
theorem ds_bo_s (M : fd_Mem) (w v d s : Nat) : ds_bo M w v (d + 1) s = if ds_bi M w (v + 1 - w) s = -1 then ds_bo M w v d (s + v) else ds_bi M w (v + 1 - w) s := rfl
theorem ds_bi_bd (M : fd_Mem) (w : Nat) : ∀ d s, ds_bi M w d s = -1 ∨ ((s : Int) ≤ ds_bi M w d s ∧ ds_bi M w d s < s + d)
  | 0, _ => Or.inl rfl
  | d + 1, s => by
    rw [ds_bi_s]
    split
    · right; omega
    · rcases ds_bi_bd M w d (s + 1) with h | h
      · exact Or.inl h
      · right; omega
theorem ds_bo_bd (M : fd_Mem) (w v : Nat) (hw : 0 < w) : ∀ d s, ds_bo M w v d s = -1 ∨ ((s : Int) ≤ ds_bo M w v d s ∧ ds_bo M w v d s < s + v * d)
  | 0, _ => Or.inl rfl
  | d + 1, s => by
    rw [ds_bo_s]
    have e : ((v * (d + 1) : Nat) : Int) = ((v * d : Nat) : Int) + v := by rw [Nat.mul_succ]; omega
    have e2 : ((v : Int) * ((d + 1 : Nat) : Int)) = ((v * (d + 1) : Nat) : Int) := by rw [Int.natCast_mul]
    have e3 : ((v : Int) * (d : Int)) = ((v * d : Nat) : Int) := by rw [Int.natCast_mul]
    split
    · rcases ds_bo_bd M w v hw d (s + v) with h | h
      · exact Or.inl h
      · right
        rw [e3] at h
        rw [e2]
        omega
    · rcases ds_bi_bd M w (v + 1 - w) s with h | h
      · exact Or.inl h
      · right
        rw [e2]
        omega
