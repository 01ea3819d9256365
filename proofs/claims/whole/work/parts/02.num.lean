/-! ints of the machine as mathematical ints: fd_I z is the machine's int of z; sums, differences and products go over without a premise, comparisons where both lie in the machine's range -/
def fd_I (z : Int) : Int32 := Int32.ofInt z
def fd_in (z : Int) : Prop := -2147483648 ≤ z ∧ z < 2147483648
theorem fd_I_add (a b : Int) : fd_I a + fd_I b = fd_I (a + b) := (Int32.ofInt_add a b).symm
theorem fd_I_sub (a b : Int) : fd_I a - fd_I b = fd_I (a - b) := (Int32.ofInt_sub a b).symm
theorem fd_I_mul (a b : Int) : fd_I a * fd_I b = fd_I (a * b) := (Int32.ofInt_mul a b).symm
theorem fd_I_toInt {z : Int} (h : fd_in z) : (fd_I z).toInt = z := by
  obtain ⟨h1, h2⟩ := h
  exact Int32.toInt_ofInt_of_le (by omega) (by omega)
theorem fd_I_lt {a b : Int} (ha : fd_in a) (hb : fd_in b) : fd_I a < fd_I b ↔ a < b := by
  rw [Int32.lt_iff_toInt_lt, fd_I_toInt ha, fd_I_toInt hb]
theorem fd_I_le {a b : Int} (ha : fd_in a) (hb : fd_in b) : fd_I a ≤ fd_I b ↔ a ≤ b := by
  rw [Int32.le_iff_toInt_le, fd_I_toInt ha, fd_I_toInt hb]
theorem fd_I_eq {a b : Int} (ha : fd_in a) (hb : fd_in b) : fd_I a = fd_I b ↔ a = b := by
  rw [← Int32.toInt_inj, fd_I_toInt ha, fd_I_toInt hb]
theorem fd_I_self (x : Int32) : fd_I x.toInt = x := Int32.ofInt_toInt x
theorem fd_in_self (x : Int32) : fd_in x.toInt := by
  have h1 := x.le_toInt
  have h2 := x.toInt_lt
  exact ⟨by omega, by omega⟩
theorem fd_in0 : fd_in 0 := ⟨by omega, by omega⟩
theorem fd_I_nat (n : Nat) : nI n = fd_I (n : Int) := Int32.ofInt_eq_ofNat.symm
theorem fd_I_clamp {z : Int} (h0 : 0 ≤ z) (h1 : z < 2147483648) : (fd_I z).toNatClampNeg = z.toNat := by
  rw [← Int32.toNat_toInt, fd_I_toInt ⟨by omega, h1⟩]
theorem fd_I_div {a b : Int} (ha : fd_in a) (hb : fd_in b) (h0 : 0 ≤ a) (h1 : 0 < b) : fd_I a / fd_I b = fd_I (a / b) := by
  have hq : fd_in (a / b) := by
    have e1 : 0 ≤ a / b := Int.ediv_nonneg h0 (by omega)
    have e2 : a / b ≤ a := Int.ediv_le_self b h0
    obtain ⟨_, h3⟩ := ha
    exact ⟨by omega, by omega⟩
  have hne : fd_I b ≠ -1 := by
    intro h
    have h2 := congrArg Int32.toInt h
    rw [fd_I_toInt hb] at h2
    have h3 : (-1 : Int32).toInt = -1 := by decide
    omega
  rw [← Int32.toInt_inj, Int32.toInt_div_of_ne_right _ _ hne, fd_I_toInt ha, fd_I_toInt hb, fd_I_toInt hq]
  exact Int.tdiv_eq_ediv_of_nonneg h0
theorem fd_vpin {z : Int} {n : Nat} (h0 : 0 ≤ z) (h1 : z < n) (hn : n < 2147483648) : vp_in (fd_I z) n := by
  have hz : fd_in z := ⟨by omega, by omega⟩
  intro h
  rcases h with h | h
  · have h2 : fd_I z < fd_I 0 := h
    rw [fd_I_lt hz fd_in0] at h2
    omega
  · rw [fd_I_clamp h0 (by omega)] at h
    omega
theorem fd_ne0 {z : Int} (hz : fd_in z) (h : z ≠ 0) : ¬ fd_I z = 0 := by
  intro h2
  exact h ((fd_I_eq hz fd_in0).mp h2)
/-! the memory of a kind of cells: kind, number among its kind, slot -/
abbrev fd_Mem : Type := Nat → Nat → Nat → Int
def fd_up (g : Nat → Int) (j : Nat) (z : Int) : Nat → Int := fun x => if x = j then z else g x
def fd_u3 (M : fd_Mem) (k i j : Nat) (z : Int) : fd_Mem := fun k' i' j' => if (k' = k ∧ j' = j) ∧ i' = i then z else M k' i' j'
theorem fd_u3_at (M : fd_Mem) (k i j k' i' j' : Nat) (z : Int) : fd_u3 M k i j z k' i' j' = if k' = k ∧ i' = i ∧ j' = j then z else M k' i' j' := by
  unfold fd_u3
  by_cases h : (k' = k ∧ j' = j) ∧ i' = i
  · rw [if_pos h, if_pos ⟨h.1.1, h.2, h.1.2⟩]
  · rw [if_neg h, if_neg (fun q => h ⟨⟨q.1, q.2.2⟩, q.2.1⟩)]
theorem fd_u3_up (M : fd_Mem) (k i j : Nat) (z : Int) : fd_u3 M k i j z k i = fd_up (M k i) j z := by
  funext x
  rw [fd_u3_at]
  unfold fd_up
  by_cases h : x = j
  · rw [if_pos h, if_pos ⟨rfl, rfl, h⟩]
  · rw [if_neg h, if_neg (fun q => h q.2.2)]
theorem fd_u3_off {M : fd_Mem} {k i j k' i' : Nat} {z : Int} (h : ¬ (k' = k ∧ i' = i)) : fd_u3 M k i j z k' i' = M k' i' := by
  funext x
  rw [fd_u3_at, if_neg (fun q => h ⟨q.1, q.2.1⟩)]
theorem fd_u3_same (M : fd_Mem) (k i j : Nat) (z : Int) : fd_u3 M k i j z k i j = z := by
  rw [fd_u3_at, if_pos ⟨rfl, rfl, rfl⟩]
theorem fd_u3_k {M : fd_Mem} {k i j k' i' j' : Nat} {z : Int} (h : k' ≠ k) : fd_u3 M k i j z k' i' j' = M k' i' j' := by
  rw [fd_u3_at, if_neg (fun q => h q.1)]
theorem fd_u3_i {M : fd_Mem} {k i j k' i' j' : Nat} {z : Int} (h : i' ≠ i) : fd_u3 M k i j z k' i' j' = M k' i' j' := by
  rw [fd_u3_at, if_neg (fun q => h q.2.1)]
theorem fd_u3_j {M : fd_Mem} {k i j k' i' j' : Nat} {z : Int} (h : j' ≠ j) : fd_u3 M k i j z k' i' j' = M k' i' j' := by
  rw [fd_u3_at, if_neg (fun q => h q.2.2)]
theorem fd_u3_u (M : fd_Mem) (k i j : Nat) (z w : Int) : fd_u3 (fd_u3 M k i j z) k i j w = fd_u3 M k i j w := by
  funext k' i' j'
  simp only [fd_u3_at]
  by_cases h : k' = k ∧ i' = i ∧ j' = j
  · rw [if_pos h, if_pos h]
  · rw [if_neg h, if_neg h, if_neg h]
theorem fd_u3_self (M : fd_Mem) (k i j : Nat) : fd_u3 M k i j (M k i j) = M := by
  funext k' i' j'
  rw [fd_u3_at]
  by_cases h : k' = k ∧ i' = i ∧ j' = j
  · obtain ⟨rfl, rfl, rfl⟩ := h
    rw [if_pos ⟨rfl, rfl, rfl⟩]
  · rw [if_neg h]
