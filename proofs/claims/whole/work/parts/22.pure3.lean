theorem ds_mul_bd {a n : Int} (ha : 0 ≤ a ∧ a ≤ 59994) (hn : 0 ≤ n ∧ n ≤ 6) : 0 ≤ a * n ∧ a * n ≤ 1000000 := by
  rcases (show n = 0 ∨ n = 1 ∨ n = 2 ∨ n = 3 ∨ n = 4 ∨ n = 5 ∨ n = 6 by omega) with rfl | rfl | rfl | rfl | rfl | rfl | rfl <;> omega
theorem ds_pf_bd {M : fd_Mem} {i : Nat} {n : Int} (h : 0 ≤ M 8 i 6 * n ∧ M 8 i 6 * n ≤ 1000000) : 0 ≤ ds_pf M i n ∧ ds_pf M i n ≤ 1000000 := by
  unfold ds_pf
  split
  · have h1 : 0 ≤ M 8 i 6 * n / M 8 i 5 := Int.ediv_nonneg h.1 (by omega)
    have h2 : M 8 i 6 * n / M 8 i 5 ≤ M 8 i 6 * n := Int.ediv_le_self _ h.1
    omega
  · omega
theorem ds_miss_85 (i j : Nat) (hj : j ≠ 2) (k : Nat) : ∀ (d s : Nat) (P : fd_Mem), (ds_miss i d s P) 8 k j = P 8 k j
  | 0, _, _ => rfl
  | d + 1, s, P => by
    rw [ds_miss_s]
    split
    · rfl
    · rw [ds_miss_85 i j hj k d]
      split
      · simp [ds_give, fd_u3_at, hj]
      · rfl
