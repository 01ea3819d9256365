/-! the desk's memory beside the model's -/
/-- a booking's own cells, the desk's beside the model's: T the time, i which -/
def jr_b (T i num sea sta far pla pai tik exp q3 q4 q5 q6 q7 q8 q9 : Int) : Prop := num = i ∧ (0 ≤ sta ∧ sta ≤ 7) ∧ (0 ≤ far ∧ far ≤ 3) ∧ (0 ≤ sea ∧ sea ≤ pla ∧ pla ≤ 6) ∧ (0 ≤ pai ∧ pai ≤ 59994) ∧ (0 ≤ tik ∧ tik ≤ 50) ∧ (0 ≤ exp ∧ exp ≤ T + 50) ∧ (0 ≤ q7 ∧ q7 ≤ T + 50) ∧ (sta = 0 ∨ 1 ≤ pla) ∧ (sta = 2 ∨ sta = 6 ∨ sea = 0) ∧ (pai = 0 ∨ ¬ (sta = 0 ∨ sta = 1 ∨ sta = 3)) ∧ q3 = sta ∧ q4 = far ∧ q5 = pla ∧ q6 = tik ∧ q8 = pai ∧ q9 = sea ∧ (sta = 1 → q7 = exp)
def jr_B (M P : fd_Mem) (i : Nat) : Prop := jr_b (M 0 0 4) (i : Int) (M 8 i 0) (M 8 i 2) (M 8 i 3) (M 8 i 4) (M 8 i 5) (M 8 i 6) (M 8 i 7) (M 8 i 8) (P 3 0 i) (P 4 0 i) (P 5 0 i) (P 6 0 i) (P 7 0 i) (P 8 0 i) (P 9 0 i)
def jr_A (L : Nat) (M P : fd_Mem) : Prop := ((0 ≤ M 0 0 3 ∧ M 0 0 3 ≤ 60) ∧ 0 ≤ M 0 0 4 ∧ (0 ≤ M 0 0 6 ∧ M 0 0 6 ≤ 1)) ∧ (P 0 0 1 = L ∧ P 0 0 2 = M 0 0 4 ∧ P 0 0 3 = M 0 0 5 ∧ P 0 0 4 = M 0 0 6 ∧ P 0 0 7 = M 0 0 3) ∧ ∀ k, k < 4 → (0 ≤ M 3 0 k ∧ M 3 0 k ≤ 99) ∧ (0 ≤ M 4 0 k ∧ M 4 0 k ≤ 9999) ∧ P 1 0 k = M 4 0 k ∧ P 2 0 k = M 3 0 k
/-- what booking i weighs in fare k -/
def jr_w (M : fd_Mem) (k i : Nat) : Int := if (M 8 i 3 = 1 ∨ M 8 i 3 = 2 ∨ M 8 i 3 = 6) ∧ M 8 i 4 = (k : Int) then M 8 i 5 else 0
def jr_C (M : fd_Mem) : Prop := ∀ k, k < 4 → M 5 0 k = fd_sum (jr_w M k) 60
def jr_f (M : fd_Mem) (sq : Nat) : Int := if M 7 0 sq = -1 then 1 else 0
def jr_D (L : Nat) (M P : fd_Mem) : Prop := (∀ sq, sq < L → P 11 0 sq = M 7 0 sq + 1 ∧ -1 ≤ M 7 0 sq ∧ M 7 0 sq < 60) ∧ (∀ sq, sq < 60 → 0 ≤ P 11 0 sq ∧ P 11 0 sq ≤ 60) ∧ M 6 0 1 = fd_sum (jr_f M) L ∧ (∀ i, i < 60 → ∀ j, j < 6 → 0 ≤ M 9 i j ∧ M 9 i j < L) ∧ (∀ x, x < 360 → 0 ≤ P 10 0 x ∧ P 10 0 x < 60) ∧ (∀ i, i < 60 → ∀ j : Nat, (j : Int) < M 8 i 2 → P 10 0 (6 * i + j) = M 9 i j ∧ M 7 0 (M 9 i j).toNat = (i : Int)) ∧ ∀ i, i < 60 → ∀ a b : Nat, a < b → (b : Int) < M 8 i 2 → M 9 i a ≠ M 9 i b
def jr (L : Nat) (M P : fd_Mem) : Prop := jr_A L M P ∧ (∀ i, i < 60 → jr_B M P i) ∧ (∀ i : Nat, M 0 0 3 ≤ (i : Int) → M 8 i 3 = 0) ∧ jr_C M ∧ jr_D L M P
theorem jr_w_bd {L : Nat} {M P : fd_Mem} (h : jr L M P) (k : Nat) {i : Nat} (hi : i < 60) : 0 ≤ jr_w M k i ∧ jr_w M k i ≤ 6 := by
  have h1 := h.2.1 i hi
  unfold jr_B jr_b at h1
  unfold jr_w
  split <;> omega
theorem jr_sh_bd {L : Nat} {M P : fd_Mem} (h : jr L M P) {k : Nat} (hk : k < 4) : 0 ≤ M 5 0 k ∧ M 5 0 k ≤ 360 := by
  rw [h.2.2.2.1 k hk]
  refine ⟨fd_sum_nonneg 60 (fun j hj => (jr_w_bd h k hj).1), ?_⟩
  exact Int.le_trans (fd_sum_bd (c := 6) (fun j hj => (jr_w_bd h k hj).2)) (by decide)
theorem jr_free_bd {L : Nat} {M P : fd_Mem} (h : jr L M P) : 0 ≤ M 6 0 1 ∧ M 6 0 1 ≤ L := by
  rw [h.2.2.2.2.2.2.1]
  refine ⟨fd_sum_nonneg L (fun j hj => by unfold jr_f; split <;> omega), ?_⟩
  have h1 : fd_sum (jr_f M) L ≤ 1 * (L : Int) := fd_sum_bd (c := 1) (fun j hj => by unfold jr_f; split <;> omega)
  omega
/-- the bounds that the desk's calls ask -/
theorem jr.dok {L : Nat} {M P : fd_Mem} (h : jr L M P) (hL : L ≤ 60) (hT : M 0 0 4 ≤ 1000000) : ds_ok L M := by
  have h5 := jr_free_bd h
  have h6 := h.2.2.2.2
  refine ⟨h.1.1.1, ⟨h.1.1.2.1, hT⟩, h.1.1.2.2, fun k hk => ⟨(h.1.2.2 k hk).1, ?_⟩, fun k hk => (h.1.2.2 k hk).2.1, ⟨h5.1, by omega⟩, fun sq hq => ?_, fun i hi => ?_⟩
  · have h7 := jr_sh_bd h hk
    omega
  · have h7 := h6.1 sq hq
    omega
  · have h1 := h.2.1 i hi
    unfold jr_B jr_b at h1
    refine ⟨?_, ?_, ?_, ?_, ?_, ?_, ?_, h6.2.2.2.1 i hi⟩ <;> omega
theorem jr.mok {L : Nat} {M P : fd_Mem} (h : jr L M P) (hL : L ≤ 60) (hT : M 0 0 4 ≤ 1000000) : mo_ok P := by
  obtain ⟨⟨a1, a2, a3⟩, hB, hF, hC, d1, d2, d3, d4, d5, d6, d7⟩ := h
  refine ⟨by omega, by omega, by omega, by omega, fun k hk => ?_, fun k hk => ?_, fun i hi => ?_, d5⟩
  · have h7 := a3 k hk
    omega
  · have h7 := a3 k hk
    omega
  · have h1 := hB i hi
    have h2 := d2 i hi
    unfold jr_B jr_b at h1
    refine ⟨?_, ?_, ?_, ?_, ?_, ?_, ?_, h2⟩ <;> omega
theorem jr.thr {L : Nat} {M P : fd_Mem} (h : jr L M P) (z : Int) : jr L M (fd_u3 P 0 0 0 z) := by
  unfold jr jr_A jr_B jr_D at h ⊢
  simpa [fd_u3_at] using h
/-! small steps -/
theorem jr_lim {L : Nat} {M P : fd_Mem} (h : jr L M P) {f : Nat} {x : Int} (hx : 0 ≤ x ∧ x ≤ 99) : jr L (fd_u3 M 3 0 f x) (fd_u3 P 2 0 f x) := by
  obtain ⟨⟨a1, a2, a3⟩, hB, hF, hC, hD⟩ := h
  refine ⟨⟨?_, ?_, fun k hk => ?_⟩, ?_, ?_, ?_, ?_⟩
  · simpa [fd_u3_at] using a1
  · simpa [fd_u3_at] using a2
  · have h7 := a3 k hk
    by_cases hq : k = f
    · subst hq
      simp [fd_u3_at]
      omega
    · simp [fd_u3_at, hq]
      omega
  · unfold jr_B at hB ⊢
    simpa [fd_u3_at] using hB
  · simpa [fd_u3_at] using hF
  · unfold jr_C at hC ⊢
    have e : ∀ k, jr_w (fd_u3 M 3 0 f x) k = jr_w M k := fun k => by funext i; simp [jr_w, fd_u3_at]
    simpa [fd_u3_at, e] using hC
  · have e : jr_f (fd_u3 M 3 0 f x) = jr_f M := by funext i; simp [jr_f, fd_u3_at]
    unfold jr_D at hD ⊢
    simpa [fd_u3_at, e] using hD
theorem jr_pri {L : Nat} {M P : fd_Mem} (h : jr L M P) {f : Nat} {x : Int} (hx : 0 ≤ x ∧ x ≤ 9999) : jr L (fd_u3 M 4 0 f x) (fd_u3 P 1 0 f x) := by
  obtain ⟨⟨a1, a2, a3⟩, hB, hF, hC, hD⟩ := h
  refine ⟨⟨?_, ?_, fun k hk => ?_⟩, ?_, ?_, ?_, ?_⟩
  · simpa [fd_u3_at] using a1
  · simpa [fd_u3_at] using a2
  · have h7 := a3 k hk
    by_cases hq : k = f
    · subst hq
      simp [fd_u3_at]
      omega
    · simp [fd_u3_at, hq]
      omega
  · unfold jr_B at hB ⊢
    simpa [fd_u3_at] using hB
  · simpa [fd_u3_at] using hF
  · unfold jr_C at hC ⊢
    have e : ∀ k, jr_w (fd_u3 M 4 0 f x) k = jr_w M k := fun k => by funext i; simp [jr_w, fd_u3_at]
    simpa [fd_u3_at, e] using hC
  · have e : jr_f (fd_u3 M 4 0 f x) = jr_f M := by funext i; simp [jr_f, fd_u3_at]
    unfold jr_D at hD ⊢
    simpa [fd_u3_at, e] using hD
/-- the shares when booking i alone is changed -/
theorem jr_C_one {M N : fd_Mem} {i : Nat} (hi : i < 60) (hC : jr_C M) (h8 : ∀ j, j < 60 → j ≠ i → N 8 j 3 = M 8 j 3 ∧ N 8 j 4 = M 8 j 4 ∧ N 8 j 5 = M 8 j 5) (h5 : ∀ k, k < 4 → N 5 0 k = M 5 0 k + (jr_w N k i - jr_w M k i)) : jr_C N := by
  intro k hk
  rw [h5 k hk, hC k hk]
  refine (fd_sum_one 60 hi (fun j hj hne => ?_)).symm
  have h9 := h8 j hj hne
  unfold jr_w
  rw [h9.1, h9.2.1, h9.2.2]
theorem jr_hold {L : Nat} {M P : fd_Mem} (h : jr L M P) {i : Nat} (hi : i < 60) (hm : (i : Int) < M 0 0 3) (hs : M 8 i 3 = 0 ∨ M 8 i 3 = 3) (hp : 1 ≤ M 8 i 5) : jr L (ds_hold M i) (mo_hd P i) := by
  obtain ⟨hA, hB, hF, hC, hD⟩ := h
  have hb := hB i hi
  have a2 := hA.2.1
  have a1 := hA.1
  unfold jr_B jr_b at hb
  refine ⟨?_, fun i' hi' => ?_, fun i' hi' => ?_, ?_, ?_⟩
  · unfold jr_A at hA ⊢
    simpa [ds_hold, mo_hd, fd_u3_at] using hA
  · have hb' := hB i' hi'
    by_cases hq : i' = i
    · subst hq
      unfold jr_B jr_b
      simp [ds_hold, mo_hd, fd_u3_at]
      omega
    · unfold jr_B at hb' ⊢
      simpa [ds_hold, mo_hd, fd_u3_at, hq] using hb'
  · have hn : i' ≠ i := by
      have : M 0 0 3 ≤ (i' : Int) := by simpa [ds_hold, fd_u3_at] using hi'
      omega
    have h9 := hF i' (by simpa [ds_hold, fd_u3_at] using hi')
    simpa [ds_hold, fd_u3_at, hn] using h9
  · refine jr_C_one hi hC (fun j hj hne => ?_) (fun k hk => ?_)
    · simp [ds_hold, fd_u3_at, hne]
    · by_cases hq : k = (M 8 i 4).toNat
      · subst hq
        simp [ds_hold, jr_w, fd_u3_at]
        rw [if_pos (by omega), if_neg (by omega)]
        omega
      · simp [ds_hold, jr_w, fd_u3_at, hq]
        rw [if_neg (by omega), if_neg (by omega)]
        omega
  · have e : jr_f (ds_hold M i) = jr_f M := by funext j; simp [jr_f, ds_hold, fd_u3_at]
    unfold jr_D at hD ⊢
    rw [e]
    simpa [ds_hold, mo_hd, fd_u3_at] using hD
