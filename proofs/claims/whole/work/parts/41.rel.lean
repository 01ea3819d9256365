/-! small steps: seats -/
theorem jr_take1 {L : Nat} {M P : fd_Mem} (h : jr L M P) (hL : L ≤ 60) {i : Nat} (hi : i < 60) (hs : 0 < M 8 i 2) : jr L (ds_take1 M i) (mo_lv1 P i) := by
  obtain ⟨hA, hB, hF, hC, d1, d2, d3, d4, d5, d6, d7⟩ := h
  have hb := hB i hi
  unfold jr_B jr_b at hb
  obtain ⟨j, hj⟩ : ∃ j : Nat, M 8 i 2 = (j : Int) + 1 := ⟨(M 8 i 2 - 1).toNat, by omega⟩
  have hj6 : j < 6 := by omega
  have h9 := d6 i hi j (by omega)
  have h4 := d4 i hi j hj6
  obtain ⟨t, ht⟩ : ∃ t : Nat, M 9 i j = (t : Int) := ⟨(M 9 i j).toNat, by omega⟩
  have htL : t < L := by omega
  have e1 : (M 9 i (M 8 i 2 - 1).toNat).toNat = t := by rw [show (M 8 i 2 - 1).toNat = j by omega, ht]; omega
  have e2 : (P 10 0 (6 * (i : Int) + (P 9 0 i - 1)).toNat).toNat = t := by rw [show (6 * (i : Int) + (P 9 0 i - 1)).toNat = 6 * i + j by omega, h9.1, ht]; omega
  have h7t : M 7 0 t = (i : Int) := by
    have := h9.2
    rw [ht] at this
    simpa using this
  unfold ds_take1 mo_lv1
  rw [e1, e2]
  refine ⟨?_, fun i' hi' => ?_, ?_, ?_, fun sq hq => ?_, fun sq hq => ?_, ?_, ?_, ?_, fun i' hi' j' hj' => ?_, fun i' hi' a b hab hb' => ?_⟩
  · unfold jr_A at hA ⊢
    simpa [fd_u3_at] using hA
  · have hb' := hB i' hi'
    by_cases hq : i' = i
    · subst hq
      unfold jr_B jr_b
      simp [fd_u3_at]
      omega
    · unfold jr_B at hb' ⊢
      simpa [fd_u3_at, hq] using hb'
  · simpa [fd_u3_at] using hF
  · have e : ∀ k, jr_w (fd_u3 (fd_u3 (fd_u3 M 8 i 2 (M 8 i 2 - 1)) 7 0 t (-1)) 6 0 1 (M 6 0 1 + 1)) k = jr_w M k := fun k => by funext i'; simp [jr_w, fd_u3_at]
    unfold jr_C at hC ⊢
    simpa [fd_u3_at, e] using hC
  · have h1 := d1 sq hq
    by_cases hq2 : sq = t
    · subst hq2
      simp [fd_u3_at]
    · simpa [fd_u3_at, hq2] using h1
  · have h1 := d2 sq hq
    by_cases hq2 : sq = t
    · subst hq2
      simp [fd_u3_at]
    · simpa [fd_u3_at, hq2] using h1
  · have e : fd_sum (jr_f (fd_u3 (fd_u3 (fd_u3 M 8 i 2 (M 8 i 2 - 1)) 7 0 t (-1)) 6 0 1 (M 6 0 1 + 1))) L = fd_sum (jr_f M) L + (jr_f (fd_u3 (fd_u3 (fd_u3 M 8 i 2 (M 8 i 2 - 1)) 7 0 t (-1)) 6 0 1 (M 6 0 1 + 1)) t - jr_f M t) := fd_sum_one L htL (fun q hq hne => by simp [jr_f, fd_u3_at, hne])
    rw [e, ← d3]
    simp [jr_f, fd_u3_at]
    rw [if_neg (by omega)]
    omega
  · simpa [fd_u3_at] using d4
  · simpa [fd_u3_at] using d5
  · by_cases hq : i' = i
    · subst hq
      have hj2 : (j' : Int) < (j : Int) := by
        simp [fd_u3_at] at hj'
        omega
      have h1 := d6 i' hi' j' (by omega)
      have hne : (M 9 i' j').toNat ≠ t := by
        intro hc
        have h5 := d7 i' hi' j' j (by omega) (by omega)
        have h6 := d4 i' hi' j' (by omega)
        omega
      simp [fd_u3_at, hne]
      exact h1
    · have hj2 : (j' : Int) < M 8 i' 2 := by simpa [fd_u3_at, hq] using hj'
      have h1 := d6 i' hi' j' hj2
      have hne : (M 9 i' j').toNat ≠ t := by
        intro hc
        have h5 := h1.2
        rw [hc, h7t] at h5
        omega
      simp [fd_u3_at, hne]
      exact h1
  · by_cases hq : i' = i
    · subst hq
      have hj2 : (b : Int) < (j : Int) := by
        simp [fd_u3_at] at hb'
        omega
      have h1 := d7 i' hi' a b hab (by omega)
      simpa [fd_u3_at] using h1
    · have hj2 : (b : Int) < M 8 i' 2 := by simpa [fd_u3_at, hq] using hb'
      have h1 := d7 i' hi' a b hab hj2
      simpa [fd_u3_at] using h1
theorem jr_take {L : Nat} (hL : L ≤ 60) {i : Nat} (hi : i < 60) : ∀ (d : Nat) {M P : fd_Mem}, jr L M P → (d : Int) ≤ M 8 i 2 → jr L (ds_take i d M) (mo_lv i d P) ∧ (ds_take i d M) 8 i 2 = M 8 i 2 - d
  | 0, M, P, h, _ => ⟨h, by show M 8 i 2 = M 8 i 2 - 0; omega⟩
  | d + 1, M, P, h, hd => by
    have h1 := jr_take1 h hL hi (by omega)
    have e : (ds_take1 M i) 8 i 2 = M 8 i 2 - 1 := by simp [ds_take1, fd_u3_at]
    have h2 := jr_take hL hi d h1 (by rw [e]; omega)
    refine ⟨h2.1, ?_⟩
    have h3 := h2.2
    rw [e] at h3
    show (ds_take i d (ds_take1 M i)) 8 i 2 = M 8 i 2 - ((d + 1 : Nat) : Int)
    omega
theorem jr_give {L : Nat} {M P : fd_Mem} (h : jr L M P) (hL : L ≤ 60) {i t : Nat} (hi : i < 60) (htL : t < L) (hst : M 8 i 3 = 2) (hs : M 8 i 2 < M 8 i 5) (hfr : M 7 0 t = -1) : jr L (ds_give M i t) (mo_gv P i t) := by
  obtain ⟨hA, hB, hF, hC, d1, d2, d3, d4, d5, d6, d7⟩ := h
  have hb := hB i hi
  unfold jr_B jr_b at hb
  obtain ⟨j, hj⟩ : ∃ j : Nat, M 8 i 2 = (j : Int) := ⟨(M 8 i 2).toNat, by omega⟩
  have hj6 : j < 6 := by omega
  have e1 : (M 8 i 2).toNat = j := by omega
  have e2 : (6 * (i : Int) + P 9 0 i).toNat = 6 * i + j := by omega
  have e0 : M 8 i 0 = (i : Int) := hb.1
  unfold ds_give mo_gv
  rw [e1, e2, e0]
  refine ⟨?_, fun i' hi' => ?_, ?_, ?_, fun sq hq => ?_, fun sq hq => ?_, ?_, fun i' hi' j' hj' => ?_, fun x hx => ?_, fun i' hi' j' hj' => ?_, fun i' hi' a b hab hb' => ?_⟩
  · unfold jr_A at hA ⊢
    simpa [fd_u3_at] using hA
  · have hb' := hB i' hi'
    by_cases hq : i' = i
    · subst hq
      unfold jr_B jr_b
      simp [fd_u3_at]
      omega
    · unfold jr_B at hb' ⊢
      simpa [fd_u3_at, hq] using hb'
  · simpa [fd_u3_at] using hF
  · have e : ∀ k, jr_w (fd_u3 (fd_u3 (fd_u3 (fd_u3 M 7 0 t (i : Int)) 9 i j ((t : Nat) : Int)) 8 i 2 (M 8 i 2 + 1)) 6 0 1 (M 6 0 1 - 1)) k = jr_w M k := fun k => by funext i'; simp [jr_w, fd_u3_at]
    unfold jr_C at hC ⊢
    simpa [fd_u3_at, e] using hC
  · have h1 := d1 sq hq
    by_cases hq2 : sq = t
    · subst hq2
      simp [fd_u3_at]
      omega
    · simpa [fd_u3_at, hq2] using h1
  · have h1 := d2 sq hq
    by_cases hq2 : sq = t
    · subst hq2
      simp [fd_u3_at]
      omega
    · simpa [fd_u3_at, hq2] using h1
  · have e : fd_sum (jr_f (fd_u3 (fd_u3 (fd_u3 (fd_u3 M 7 0 t (i : Int)) 9 i j ((t : Nat) : Int)) 8 i 2 (M 8 i 2 + 1)) 6 0 1 (M 6 0 1 - 1))) L = fd_sum (jr_f M) L + (jr_f (fd_u3 (fd_u3 (fd_u3 (fd_u3 M 7 0 t (i : Int)) 9 i j ((t : Nat) : Int)) 8 i 2 (M 8 i 2 + 1)) 6 0 1 (M 6 0 1 - 1)) t - jr_f M t) := fd_sum_one L htL (fun q hq hne => by simp [jr_f, fd_u3_at, hne])
    rw [e, ← d3]
    simp [jr_f, fd_u3_at, hfr]
    omega
  · have h1 := d4 i' hi' j' hj'
    by_cases hq : i' = i ∧ j' = j
    · obtain ⟨rfl, rfl⟩ := hq
      simp [fd_u3_at]
      omega
    · simp [fd_u3_at, hq]
      exact h1
  · have h1 := d5 x hx
    by_cases hq : x = 6 * i + j
    · subst hq
      simp [fd_u3_at]
      omega
    · simpa [fd_u3_at, hq] using h1
  · by_cases hq : i' = i
    · subst hq
      by_cases hq2 : j' = j
      · subst hq2
        simp [fd_u3_at]
      · have hj2 : (j' : Int) < (j : Int) := by
          simp [fd_u3_at] at hj'
          omega
        have h1 := d6 i' hi' j' (by omega)
        have hne : (M 9 i' j').toNat ≠ t := by
          intro hc
          have h5 := h1.2
          rw [hc, hfr] at h5
          omega
        have hne2 : ¬ (6 * i' + j' = 6 * i' + j) := by omega
        simp [fd_u3_at, hne, hq2]
        exact h1
    · have hj2 : (j' : Int) < M 8 i' 2 := by simpa [fd_u3_at, hq] using hj'
      have h1 := d6 i' hi' j' hj2
      have hb2 := hB i' hi'
      unfold jr_B jr_b at hb2
      have hne : (M 9 i' j').toNat ≠ t := by
        intro hc
        have h5 := h1.2
        rw [hc, hfr] at h5
        omega
      have hne2 : ¬ (6 * i' + j' = 6 * i + j) := by omega
      simp [fd_u3_at, hne, hq, hne2]
      exact h1
  · by_cases hq : i' = i
    · subst hq
      have hj2 : (b : Int) ≤ (j : Int) := by
        simp [fd_u3_at] at hb'
        omega
      have hab2 : a ≠ j := by omega
      by_cases hq2 : b = j
      · subst hq2
        have h1 := d6 i' hi' a (by omega)
        have h2 := d4 i' hi' a (by omega)
        simp [fd_u3_at, hab2]
        intro hc
        have h5 := h1.2
        rw [hc] at h5
        simp [hfr] at h5
      · have h1 := d7 i' hi' a b hab (by omega)
        simpa [fd_u3_at, hq2, hab2] using h1
    · have hj2 : (b : Int) < M 8 i' 2 := by simpa [fd_u3_at, hq] using hb'
      have h1 := d7 i' hi' a b hab hj2
      simpa [fd_u3_at, hq] using h1
