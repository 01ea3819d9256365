/-! taking seats and what it leaves alone -/
theorem fd_u3_comm (M : fd_Mem) {k i j k' i' j' : Nat} (z w : Int) (h : ¬ (k = k' ∧ i = i' ∧ j = j')) : fd_u3 (fd_u3 M k i j z) k' i' j' w = fd_u3 (fd_u3 M k' i' j' w) k i j z := by
  funext a b c
  simp only [fd_u3_at]
  by_cases h1 : a = k' ∧ b = i' ∧ c = j'
  · rw [if_pos h1, if_neg (fun q => h (by omega)), if_pos h1]
  · rw [if_neg h1]
    by_cases h2 : a = k ∧ b = i ∧ c = j
    · rw [if_pos h2, if_pos h2]
    · rw [if_neg h2, if_neg h2, if_neg h1]
theorem ds_take1_com {M : fd_Mem} {i k a b : Nat} {z : Int} (h6 : k ≠ 6) (h7 : k ≠ 7) (h9 : k ≠ 9) (h8 : k = 8 → b ≠ 2) : ds_take1 (fd_u3 M k a b z) i = fd_u3 (ds_take1 M i) k a b z := by
  have e2 : (fd_u3 M k a b z) 8 i 2 = M 8 i 2 := by rw [fd_u3_at, if_neg (by omega)]
  have e9 : ∀ x, (fd_u3 M k a b z) 9 i x = M 9 i x := fun x => fd_u3_k (fun q => h9 q.symm)
  have e6 : (fd_u3 M k a b z) 6 0 1 = M 6 0 1 := fd_u3_k (fun q => h6 q.symm)
  unfold ds_take1
  rw [e2, e9, e6, fd_u3_comm M z _ (by omega), fd_u3_comm _ z _ (by omega), fd_u3_comm _ z _ (by omega)]
theorem ds_take_com {i k a b : Nat} {z : Int} (h6 : k ≠ 6) (h7 : k ≠ 7) (h9 : k ≠ 9) (h8 : k = 8 → b ≠ 2) : ∀ (d : Nat) (M : fd_Mem), ds_take i d (fd_u3 M k a b z) = fd_u3 (ds_take i d M) k a b z
  | 0, _ => rfl
  | d + 1, M => by
    show ds_take i d (ds_take1 (fd_u3 M k a b z) i) = fd_u3 (ds_take i d (ds_take1 M i)) k a b z
    rw [ds_take1_com h6 h7 h9 h8, ds_take_com h6 h7 h9 h8 d]
theorem mo_lv1_com {P : fd_Mem} {i k a b : Nat} {z : Int} (h9 : k ≠ 9) (h10 : k ≠ 10) (h11 : k ≠ 11) : mo_lv1 (fd_u3 P k a b z) i = fd_u3 (mo_lv1 P i) k a b z := by
  have e9 : (fd_u3 P k a b z) 9 0 i = P 9 0 i := fd_u3_k (fun q => h9 q.symm)
  have e10 : ∀ x, (fd_u3 P k a b z) 10 0 x = P 10 0 x := fun x => fd_u3_k (fun q => h10 q.symm)
  unfold mo_lv1
  rw [e9, e10, fd_u3_comm P z _ (by omega), fd_u3_comm _ z _ (by omega)]
theorem mo_lv_com {i k a b : Nat} {z : Int} (h9 : k ≠ 9) (h10 : k ≠ 10) (h11 : k ≠ 11) : ∀ (d : Nat) (P : fd_Mem), mo_lv i d (fd_u3 P k a b z) = fd_u3 (mo_lv i d P) k a b z
  | 0, _ => rfl
  | d + 1, P => by
    show mo_lv i d (mo_lv1 (fd_u3 P k a b z) i) = fd_u3 (mo_lv i d (mo_lv1 P i)) k a b z
    rw [mo_lv1_com h9 h10 h11, mo_lv_com h9 h10 h11 d]
theorem ds_take_k {i k : Nat} (h6 : k ≠ 6) (h7 : k ≠ 7) (h8 : k ≠ 8) (a b : Nat) : ∀ (d : Nat) (M : fd_Mem), (ds_take i d M) k a b = M k a b
  | 0, _ => rfl
  | d + 1, M => by
    show (ds_take i d (ds_take1 M i)) k a b = M k a b
    rw [ds_take_k h6 h7 h8 a b d]
    unfold ds_take1
    rw [fd_u3_k h6, fd_u3_k h7, fd_u3_k h8]
theorem ds_take_8 {i : Nat} (a b : Nat) (hb : b ≠ 2) : ∀ (d : Nat) (M : fd_Mem), (ds_take i d M) 8 a b = M 8 a b
  | 0, _ => rfl
  | d + 1, M => by
    show (ds_take i d (ds_take1 M i)) 8 a b = M 8 a b
    rw [ds_take_8 a b hb d]
    unfold ds_take1
    rw [fd_u3_k (by decide), fd_u3_k (by decide), fd_u3_j hb]
theorem ds_up_eq (M : fd_Mem) (i : Nat) (z : Int) : ds_up M i z = fd_u3 (ds_less (ds_take i (M 8 i 2).toNat M) i) 8 i 3 z := by
  unfold ds_up ds_less
  rw [ds_take_8 i 3 (by decide), ds_take_8 i 4 (by decide), ds_take_8 i 5 (by decide)]
  by_cases h : M 8 i 3 = 1 ∨ M 8 i 3 = 2
  · rw [if_pos h, if_pos h, ds_take_com (by decide) (by decide) (by decide) (fun q => absurd q (by decide)), ds_take_k (by decide) (by decide) (by decide)]
  · rw [if_neg h, if_neg h]
theorem jr_up {L : Nat} {M P : fd_Mem} (h : jr L M P) (hL : L ≤ 60) {i : Nat} (hi : i < 60) (hm : (i : Int) < M 0 0 3) (hs : M 8 i 3 = 1 ∨ M 8 i 3 = 2 ∨ M 8 i 3 = 3) {z : Int} (hz : z = 4 ∨ z = 5 ∨ z = 7) : jr L (ds_up M i z) (fd_u3 (mo_lv i (M 8 i 2).toNat P) 3 0 i z) := by
  have hb := h.2.1 i hi
  unfold jr_B jr_b at hb
  have h1 := jr_take hL hi (M 8 i 2).toNat h (by omega)
  rw [ds_up_eq]
  refine jr_end h1.1 hi ?_ ?_ ?_ hz
  · rw [ds_take_k (by decide) (by decide) (by decide)]
    exact hm
  · rw [ds_take_8 i 3 (by decide)]
    exact hs
  · rw [h1.2]
    omega
/-! the room -/
theorem fd_sum_if (c : Prop) [Decidable c] (g : Nat → Int) (n : Nat) : (if c then fd_sum g n else 0) = fd_sum (fun i => if c then g i else 0) n := by
  by_cases h : c
  · rw [if_pos h]
    exact fd_sum_ext n (fun j _ => (if_pos h).symm)
  · rw [if_neg h]
    exact (fd_sum_0 n (fun j _ => if_neg h)).symm
theorem fd_sum_more {g : Nat → Int} {n : Nat} : ∀ m : Nat, n ≤ m → (∀ j, n ≤ j → j < m → g j = 0) → fd_sum g m = fd_sum g n
  | 0, h, _ => by rw [show n = 0 by omega]
  | m + 1, h, e => by
    by_cases hq : n = m + 1
    · rw [hq]
    · show fd_sum g m + g m = fd_sum g n
      rw [fd_sum_more m (by omega) (fun j h1 h2 => e j h1 (by omega)), e m (by omega) (by omega)]
      omega
theorem mo_l_eq (P : fd_Mem) (k : Nat) (w : Int) : ∀ n : Nat, mo_l P k w n = P 2 0 k - fd_sum (fun i => if (P 3 0 i = 1 ∨ P 3 0 i = 2 ∨ P 3 0 i = 6) ∧ (k : Int) ≤ P 4 0 i ∧ (i : Int) ≠ w then P 5 0 i else 0) n
  | 0 => by
    show P 2 0 k = P 2 0 k - 0
    omega
  | n + 1 => by
    rw [mo_l_s, mo_l_eq P k w n]
    exact Int.sub_sub _ _ _
/-- weights g by fares make up the shares -/
theorem jr_sh {M : fd_Mem} {far g : Nat → Int} (hf : ∀ i, i < 60 → 0 ≤ far i ∧ far i ≤ 3) (hS : ∀ k, k < 4 → M 5 0 k = fd_sum (fun i => if far i = (k : Int) then g i else 0) 60) {k : Nat} (hk : k < 4) : ds_sh M k = fd_sum (fun i => if (k : Int) ≤ far i then g i else 0) 60 := by
  show 0 + (if k ≤ 0 then M 5 0 0 else 0) + (if k ≤ 1 then M 5 0 1 else 0) + (if k ≤ 2 then M 5 0 2 else 0) + (if k ≤ 3 then M 5 0 3 else 0) = _
  rw [hS 0 (by omega), hS 1 (by omega), hS 2 (by omega), hS 3 (by omega), fd_sum_if, fd_sum_if, fd_sum_if, fd_sum_if, Int.zero_add, ← fd_sum_add, ← fd_sum_add, ← fd_sum_add]
  refine fd_sum_ext 60 (fun j hj => ?_)
  have h1 := hf j hj
  rcases (show far j = 0 ∨ far j = 1 ∨ far j = 2 ∨ far j = 3 by omega) with h2 | h2 | h2 | h2 <;> rw [h2] <;> rcases (show k = 0 ∨ k = 1 ∨ k = 2 ∨ k = 3 by omega) with rfl | rfl | rfl | rfl <;> simp
theorem jr_room {L : Nat} {M N P : fd_Mem} (h : jr L M P) {w : Int} (h3 : ∀ k, N 3 0 k = M 3 0 k) (h5 : ∀ k, k < 4 → N 5 0 k = fd_sum (fun i => if M 8 i 4 = (k : Int) then (if (M 8 i 3 = 1 ∨ M 8 i 3 = 2 ∨ M 8 i 3 = 6) ∧ (i : Int) ≠ w then M 8 i 5 else 0) else 0) 60) : ∀ {f : Nat}, f < 4 → mo_r P w (f + 1) = ds_rm N f := by
  have hA := h.1
  have hl : ∀ k, k < 4 → mo_l P k w (P 0 0 7).toNat = N 3 0 k - ds_sh N k := by
    intro k hk
    rw [mo_l_eq, jr_sh (M := N) (far := fun i => M 8 i 4) (fun i hi => by have := h.2.1 i hi; unfold jr_B jr_b at this; omega) h5 hk, h3]
    have h1 := hA.2.2 k hk
    have h2 : fd_sum (fun i => if (P 3 0 i = 1 ∨ P 3 0 i = 2 ∨ P 3 0 i = 6) ∧ (k : Int) ≤ P 4 0 i ∧ (i : Int) ≠ w then P 5 0 i else 0) (P 0 0 7).toNat = fd_sum (fun i => if (k : Int) ≤ M 8 i 4 then (if (M 8 i 3 = 1 ∨ M 8 i 3 = 2 ∨ M 8 i 3 = 6) ∧ (i : Int) ≠ w then M 8 i 5 else 0) else 0) 60 := by
      have a1 := hA.1
      have a2 := hA.2.1
      rw [fd_sum_more (g := fun i => if (k : Int) ≤ M 8 i 4 then (if (M 8 i 3 = 1 ∨ M 8 i 3 = 2 ∨ M 8 i 3 = 6) ∧ (i : Int) ≠ w then M 8 i 5 else 0) else 0) (n := (P 0 0 7).toNat) 60 (by omega) (fun j h1 _ => by
        have h9 := h.2.2.1 j (by omega)
        simp [h9])]
      refine fd_sum_ext _ (fun j hj => ?_)
      have hb := h.2.1 j (by omega)
      unfold jr_B jr_b at hb
      rw [show P 3 0 j = M 8 j 3 by omega, show P 4 0 j = M 8 j 4 by omega, show P 5 0 j = M 8 j 5 by omega]
      by_cases c1 : (k : Int) ≤ M 8 j 4
      · simp [c1]
      · simp [c1]
    rw [h2]
    omega
  intro f
  induction f with
  | zero =>
    intro hf
    rw [mo_r_s, hl 0 hf]
    show (if N 3 0 0 - ds_sh N 0 < 1000 then N 3 0 0 - ds_sh N 0 else 1000) = N 3 0 0 - ds_sh N 0
    have h1 := hA.2.2 0 (by omega)
    have h2 : 0 ≤ ds_sh N 0 := by
      rw [jr_sh (M := N) (far := fun i => M 8 i 4) (fun i hi => by have := h.2.1 i hi; unfold jr_B jr_b at this; omega) h5 (by omega)]
      refine fd_sum_nonneg 60 (fun j hj => ?_)
      have hb := h.2.1 j hj
      unfold jr_B jr_b at hb
      show 0 ≤ if ((0 : Nat) : Int) ≤ M 8 j 4 then (if (M 8 j 3 = 1 ∨ M 8 j 3 = 2 ∨ M 8 j 3 = 6) ∧ (j : Int) ≠ w then M 8 j 5 else 0) else 0
      split
      · split <;> omega
      · omega
    rw [h3, if_pos (by omega)]
  | succ f ih =>
    intro hf
    rw [mo_r_s, hl (f + 1) hf, ih (by omega)]
    show (if N 3 0 (f + 1) - ds_sh N (f + 1) < ds_rm N f then N 3 0 (f + 1) - ds_sh N (f + 1) else ds_rm N f) = min (ds_rm N f) (N 3 0 (f + 1) - ds_sh N (f + 1))
    split <;> omega
theorem jr.rm {L : Nat} {M P : fd_Mem} (h : jr L M P) {f : Nat} (hf : f < 4) : mo_r P (-1) (f + 1) = ds_rm M f := by
  refine jr_room h (fun _ => rfl) (fun k hk => ?_) hf
  rw [h.2.2.2.1 k hk]
  refine fd_sum_ext 60 (fun j _ => ?_)
  unfold jr_w
  have hj : (j : Int) ≠ -1 := by omega
  by_cases c1 : M 8 j 4 = (k : Int)
  · simp [c1, hj]
  · simp [c1]
/-- without booking n -/
theorem jr.rmw {L : Nat} {M P : fd_Mem} (h : jr L M P) {n : Nat} (hn : n < 60) (hs : M 8 n 3 = 1 ∨ M 8 n 3 = 2) {f : Nat} (hf : f < 4) : mo_r P (n : Int) (f + 1) = ds_rm (fd_u3 M 5 0 (M 8 n 4).toNat (M 5 0 (M 8 n 4).toNat - M 8 n 5)) f := by
  have hb := h.2.1 n hn
  unfold jr_B jr_b at hb
  refine jr_room h (fun _ => fd_u3_k (by decide)) (fun k hk => ?_) hf
  have h1 : fd_sum (fun i => if M 8 i 4 = (k : Int) then (if (M 8 i 3 = 1 ∨ M 8 i 3 = 2 ∨ M 8 i 3 = 6) ∧ (i : Int) ≠ (n : Int) then M 8 i 5 else 0) else 0) 60 = fd_sum (jr_w M k) 60 + ((if M 8 n 4 = (k : Int) then (if (M 8 n 3 = 1 ∨ M 8 n 3 = 2 ∨ M 8 n 3 = 6) ∧ (n : Int) ≠ (n : Int) then M 8 n 5 else 0) else 0) - jr_w M k n) := by
    refine fd_sum_one 60 hn (fun j hj hne => ?_)
    unfold jr_w
    have hj2 : (j : Int) ≠ (n : Int) := by omega
    by_cases c1 : M 8 j 4 = (k : Int)
    · simp [c1, hj2]
    · simp [c1]
  rw [h1, ← h.2.2.2.1 k hk]
  unfold jr_w
  by_cases hq : k = (M 8 n 4).toNat
  · subst hq
    rw [fd_u3_same]
    simp
    rw [if_pos (by omega)]
    omega
  · rw [fd_u3_j hq]
    simp
    rw [if_neg (by omega)]
    omega
