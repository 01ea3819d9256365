/-! finite sums of ints -/
def fd_sum (g : Nat → Int) : Nat → Int
  | 0 => 0
  | n + 1 => fd_sum g n + g n
theorem fd_sum_ext {g h : Nat → Int} : ∀ n : Nat, (∀ j, j < n → g j = h j) → fd_sum g n = fd_sum h n
  | 0, _ => rfl
  | n + 1, e => by
    show fd_sum g n + g n = fd_sum h n + h n
    rw [fd_sum_ext n (fun j hj => e j (by omega)), e n (by omega)]
theorem fd_sum_0 {g : Nat → Int} : ∀ n : Nat, (∀ j, j < n → g j = 0) → fd_sum g n = 0
  | 0, _ => rfl
  | n + 1, e => by
    show fd_sum g n + g n = 0
    rw [fd_sum_0 n (fun j hj => e j (by omega)), e n (by omega)]
    omega
theorem fd_sum_nonneg {g : Nat → Int} : ∀ n : Nat, (∀ j, j < n → 0 ≤ g j) → 0 ≤ fd_sum g n
  | 0, _ => by show (0 : Int) ≤ 0; omega
  | n + 1, e => by
    show 0 ≤ fd_sum g n + g n
    have h1 := fd_sum_nonneg n (fun j hj => e j (by omega))
    have h2 := e n (by omega)
    omega
theorem fd_sum_le {g h : Nat → Int} : ∀ n : Nat, (∀ j, j < n → g j ≤ h j) → fd_sum g n ≤ fd_sum h n
  | 0, _ => by show (0 : Int) ≤ 0; omega
  | n + 1, e => by
    show fd_sum g n + g n ≤ fd_sum h n + h n
    have h1 := fd_sum_le n (fun j hj => e j (by omega))
    have h2 := e n (by omega)
    omega
theorem fd_sum_const (c : Int) : ∀ n : Nat, fd_sum (fun _ => c) n = c * n
  | 0 => by show (0 : Int) = c * 0; rw [Int.mul_zero]
  | n + 1 => by
    show fd_sum (fun _ => c) n + c = c * ((n + 1 : Nat) : Int)
    rw [fd_sum_const c n, Int.natCast_add, Int.mul_add]
    omega
theorem fd_sum_bd {g : Nat → Int} {c : Int} {n : Nat} (e : ∀ j, j < n → g j ≤ c) : fd_sum g n ≤ c * n := by
  rw [← fd_sum_const c n]
  exact fd_sum_le n e
theorem fd_sum_add (g h : Nat → Int) : ∀ n : Nat, fd_sum (fun j => g j + h j) n = fd_sum g n + fd_sum h n
  | 0 => rfl
  | n + 1 => by
    show fd_sum (fun j => g j + h j) n + (g n + h n) = fd_sum g n + g n + (fd_sum h n + h n)
    rw [fd_sum_add g h n]
    omega
/-- one summand changed -/
theorem fd_sum_one {g h : Nat → Int} {i : Nat} : ∀ n : Nat, i < n → (∀ j, j < n → j ≠ i → g j = h j) → fd_sum g n = fd_sum h n + (g i - h i)
  | 0, hi, _ => by omega
  | n + 1, hi, e => by
    show fd_sum g n + g n = fd_sum h n + h n + (g i - h i)
    by_cases hin : i = n
    · subst hin
      rw [fd_sum_ext i (fun j hj => e j (by omega) (by omega))]
      omega
    · rw [fd_sum_one n (by omega) (fun j hj => e j (by omega)), e n (by omega) (fun q => hin q.symm)]
      omega
