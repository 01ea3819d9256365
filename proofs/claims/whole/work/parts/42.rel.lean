/-! small steps: bookings -/
/-- a step that touches booking i alone (and scalars), its seats not: what is left to show -/
theorem jr_D_same {L : Nat} {M P N Q : fd_Mem} (h : jr_D L M P) (h7 : ∀ sq, N 7 0 sq = M 7 0 sq) (h6 : N 6 0 1 = M 6 0 1) (h9 : ∀ i j, N 9 i j = M 9 i j) (h2 : ∀ i, N 8 i 2 = M 8 i 2) (q10 : ∀ x, Q 10 0 x = P 10 0 x) (q11 : ∀ x, Q 11 0 x = P 11 0 x) : jr_D L N Q := by
  have e : jr_f N = jr_f M := by funext j; unfold jr_f; rw [h7]
  unfold jr_D at h ⊢
  rw [e]
  simp only [h7, h6, h9, h2, q10, q11]
  exact h
theorem jr_pay {L : Nat} {M P : fd_Mem} (h : jr L M P) {i : Nat} (hi : i < 60) (hs : M 8 i 3 = 2) {n : Int} (hn : 0 ≤ n ∧ n ≤ M 8 i 5) : jr L (ds_pay M i n) (mo_gbk P i n) ∧ mo_bk P i n = ds_back M i n := by
  obtain ⟨hA, hB, hF, hC, hD⟩ := h
  have hb := hB i hi
  unfold jr_B jr_b at hb
  have e0 : mo_bx P i n = ds_pf M i n := by
    unfold mo_bx ds_pf
    rw [if_pos (by omega), show P 8 0 i = M 8 i 6 by omega, show P 5 0 i = M 8 i 5 by omega]
  have e1 : mo_bk P i n = ds_back M i n := by
    unfold mo_bk ds_back ds_pb
    rw [e0, show P 4 0 i = M 8 i 4 by omega]
    generalize ds_pf M i n = x
    by_cases g0 : M 8 i 4 = 0
    · rw [if_pos g0, if_pos g0]
    · rw [if_neg g0, if_neg g0]
      by_cases g1 : M 8 i 4 = 1
      · rw [if_pos g1, if_pos g1]
        omega
      · rw [if_neg g1, if_neg g1]
        by_cases g2 : M 8 i 4 = 2
        · rw [if_pos g2, if_pos g2]
          omega
        · rw [if_neg g2, if_neg g2]
  have hpf : 0 ≤ ds_pf M i n ∧ ds_pf M i n ≤ M 8 i 6 := by
    unfold ds_pf
    rw [if_pos (by omega)]
    have h0 : 0 ≤ M 8 i 6 * n := Int.mul_nonneg (by omega) hn.1
    refine ⟨Int.ediv_nonneg h0 (by omega), ?_⟩
    have h1 : M 8 i 6 * n ≤ M 8 i 6 * M 8 i 5 := Int.mul_le_mul_of_nonneg_left hn.2 (by omega)
    have h2 : M 8 i 6 * n / M 8 i 5 ≤ M 8 i 6 * M 8 i 5 / M 8 i 5 := Int.ediv_le_ediv (by omega) h1
    rw [Int.mul_ediv_cancel _ (by omega)] at h2
    exact h2
  refine ⟨?_, e1⟩
  unfold mo_gbk ds_pay
  rw [e0, e1]
  have a2 := hA.2.1
  refine ⟨?_, fun i' hi' => ?_, ?_, ?_, ?_⟩
  · unfold jr_A at hA ⊢
    simp [fd_u3_at]
    exact ⟨hA.1, ⟨a2.1, a2.2.1, by omega, a2.2.2.2⟩, hA.2.2⟩
  · have hb' := hB i' hi'
    by_cases hq : i' = i
    · subst hq
      unfold jr_B jr_b
      simp [fd_u3_at]
      omega
    · unfold jr_B at hb' ⊢
      simpa [fd_u3_at, hq] using hb'
  · simpa [fd_u3_at] using hF
  · have e : ∀ k, jr_w (fd_u3 (fd_u3 M 8 i 6 (M 8 i 6 - ds_pf M i n)) 0 0 5 (M 0 0 5 - ds_back M i n)) k = jr_w M k := fun k => by funext i'; simp [jr_w, fd_u3_at]
    unfold jr_C at hC ⊢
    simpa [fd_u3_at, e] using hC
  · refine jr_D_same hD ?_ ?_ ?_ ?_ ?_ ?_ <;> intros <;> simp [fd_u3_at]
/-- a booking without seats comes to its end: 4, 5 or 7 -/
theorem jr_end {L : Nat} {M P : fd_Mem} (h : jr L M P) {i : Nat} (hi : i < 60) (hm : (i : Int) < M 0 0 3) (hs : M 8 i 3 = 1 ∨ M 8 i 3 = 2 ∨ M 8 i 3 = 3) (h0 : M 8 i 2 = 0) {z : Int} (hz : z = 4 ∨ z = 5 ∨ z = 7) : jr L (fd_u3 (ds_less M i) 8 i 3 z) (fd_u3 P 3 0 i z) := by
  obtain ⟨hA, hB, hF, hC, hD⟩ := h
  have hb := hB i hi
  unfold jr_B jr_b at hb
  have k8 : ∀ a b, (fd_u3 (ds_less M i) 8 i 3 z) 8 a b = if a = i ∧ b = 3 then z else M 8 a b := fun a b => by
    rw [fd_u3_at, ds_less_8]
    simp
  have k0 : ∀ a b, (fd_u3 (ds_less M i) 8 i 3 z) 0 a b = M 0 a b := fun a b => by rw [fd_u3_k (by decide), ds_less_0]
  have kk : ∀ {k}, k ≠ 5 → k ≠ 8 → ∀ a b, (fd_u3 (ds_less M i) 8 i 3 z) k a b = M k a b := fun hk5 hk8 a b => by
    rw [fd_u3_k hk8]
    unfold ds_less
    split
    · rw [fd_u3_k hk5]
    · rfl
  refine ⟨?_, fun i' hi' => ?_, fun i' hi' => ?_, ?_, ?_⟩
  · unfold jr_A at hA ⊢
    simp only [k0, kk (show (3 : Nat) ≠ 5 by decide) (by decide), kk (show (4 : Nat) ≠ 5 by decide) (by decide)]
    simpa [fd_u3_at] using hA
  · have hb' := hB i' hi'
    unfold jr_B at hb' ⊢
    simp only [k0, k8]
    by_cases hq : i' = i
    · subst hq
      unfold jr_b at hb' ⊢
      simp [fd_u3_at]
      omega
    · simpa [fd_u3_at, hq] using hb'
  · rw [k0] at hi'
    rw [k8, if_neg (by omega)]
    exact hF i' hi'
  · refine jr_C_one hi hC (fun j hj hne => ?_) (fun k hk => ?_)
    · simp only [k8]
      simp [hne]
    · unfold jr_w
      simp only [k8]
      rw [fd_u3_k (by decide)]
      unfold ds_less
      by_cases h12 : M 8 i 3 = 1 ∨ M 8 i 3 = 2
      · rw [if_pos h12]
        by_cases hq : k = (M 8 i 4).toNat
        · subst hq
          simp [fd_u3_at]
          rw [if_neg (by omega), if_pos (by omega)]
          omega
        · simp [fd_u3_at, hq]
          rw [if_neg (by omega), if_neg (by omega)]
          omega
      · rw [if_neg h12]
        simp
        rw [if_neg (by omega), if_neg (by omega)]
        omega
  · refine jr_D_same hD (fun sq => kk (by decide) (by decide) 0 sq) (kk (by decide) (by decide) 0 1) (fun a b => kk (by decide) (by decide) a b) (fun a => ?_) ?_ ?_
    · rw [k8, if_neg (by omega)]
    · intro x
      simp [fd_u3_at]
    · intro x
      simp [fd_u3_at]
/-- fewer places -/
theorem jr_less {L : Nat} {M P : fd_Mem} (h : jr L M P) {i : Nat} (hi : i < 60) (hs : M 8 i 3 = 1 ∨ M 8 i 3 = 2 ∨ M 8 i 3 = 3) {k : Int} (hk : 1 ≤ k ∧ k < M 8 i 5) (hse : M 8 i 2 ≤ M 8 i 5 - k) : jr L (ds_shs (ds_shl M i k) i k) (fd_u3 P 5 0 i (P 5 0 i - k)) := by
  obtain ⟨hA, hB, hF, hC, hD⟩ := h
  have hb := hB i hi
  unfold jr_B jr_b at hb
  have l8 : ∀ a b, (ds_shl M i k) 8 a b = M 8 a b := fun a b => by
    unfold ds_shl
    split
    · rw [fd_u3_k (by decide)]
    · rfl
  have k8 : ∀ a b, (ds_shs (ds_shl M i k) i k) 8 a b = if a = i ∧ b = 5 then M 8 i 5 - k else M 8 a b := fun a b => by
    unfold ds_shs
    rw [fd_u3_at, l8, l8]
    simp
  have kk : ∀ {q}, q ≠ 5 → q ≠ 8 → ∀ a b, (ds_shs (ds_shl M i k) i k) q a b = M q a b := fun hk5 hk8 a b => by
    unfold ds_shs
    rw [fd_u3_k hk8]
    unfold ds_shl
    split
    · rw [fd_u3_k hk5]
    · rfl
  have k0 : ∀ a b, (ds_shs (ds_shl M i k) i k) 0 a b = M 0 a b := kk (by decide) (by decide)
  refine ⟨?_, fun i' hi' => ?_, fun i' hi' => ?_, ?_, ?_⟩
  · unfold jr_A at hA ⊢
    simp only [k0, kk (show (3 : Nat) ≠ 5 by decide) (by decide), kk (show (4 : Nat) ≠ 5 by decide) (by decide)]
    simpa [fd_u3_at] using hA
  · have hb' := hB i' hi'
    unfold jr_B at hb' ⊢
    simp only [k0, k8]
    by_cases hq : i' = i
    · subst hq
      unfold jr_b at hb' ⊢
      simp [fd_u3_at]
      omega
    · simpa [fd_u3_at, hq] using hb'
  · rw [k0] at hi'
    rw [k8, if_neg (by omega)]
    exact hF i' hi'
  · refine jr_C_one hi hC (fun j hj hne => ?_) (fun f hf => ?_)
    · simp only [k8]
      simp [hne]
    · unfold jr_w
      simp only [k8]
      unfold ds_shs
      rw [fd_u3_k (by decide)]
      unfold ds_shl
      by_cases h12 : M 8 i 3 = 1 ∨ M 8 i 3 = 2
      · rw [if_pos h12]
        by_cases hq : f = (M 8 i 4).toNat
        · subst hq
          simp [fd_u3_at]
          rw [if_pos (by omega), if_pos (by omega)]
          omega
        · simp [fd_u3_at, hq]
          rw [if_neg (by omega), if_neg (by omega)]
          omega
      · rw [if_neg h12]
        simp
        rw [if_neg (by omega), if_neg (by omega)]
        omega
  · refine jr_D_same hD (fun sq => kk (by decide) (by decide) 0 sq) (kk (by decide) (by decide) 0 1) (fun a b => kk (by decide) (by decide) a b) (fun a => ?_) ?_ ?_
    · rw [k8, if_neg (by omega)]
    · intro x
      simp [fd_u3_at]
    · intro x
      simp [fd_u3_at]
theorem jr_chg {L : Nat} {M P : fd_Mem} (h : jr L M P) {i : Nat} (hi : i < 60) (hs : M 8 i 3 = 1 ∨ M 8 i 3 = 2) {f : Nat} (hf : f < 4) : jr L (ds_chg M i f) (fd_u3 P 4 0 i (f : Int)) := by
  obtain ⟨hA, hB, hF, hC, hD⟩ := h
  have hb := hB i hi
  unfold jr_B jr_b at hb
  refine ⟨?_, fun i' hi' => ?_, ?_, ?_, ?_⟩
  · unfold jr_A at hA ⊢
    simpa [ds_chg, fd_u3_at] using hA
  · have hb' := hB i' hi'
    by_cases hq : i' = i
    · subst hq
      unfold jr_B jr_b
      simp [ds_chg, fd_u3_at]
      omega
    · unfold jr_B at hb' ⊢
      simpa [ds_chg, fd_u3_at, hq] using hb'
  · simpa [ds_chg, fd_u3_at] using hF
  · refine jr_C_one hi hC (fun j hj hne => ?_) (fun k hk => ?_)
    · simp [ds_chg, fd_u3_at, hne]
    · by_cases hq : k = (M 8 i 4).toNat
      · subst hq
        by_cases hq2 : (M 8 i 4).toNat = f
        · simp [ds_chg, jr_w, fd_u3_at, hq2]
          rw [if_pos (by omega), if_pos (by omega)]
          omega
        · have hq3 : ¬ (f = (M 8 i 4).toNat) := fun q => hq2 q.symm
          simp [ds_chg, jr_w, fd_u3_at, hq2]
          rw [if_neg (by omega), if_pos (by omega)]
          omega
      · by_cases hq2 : k = f
        · subst hq2
          simp [ds_chg, jr_w, fd_u3_at, hq]
          rw [if_pos (by omega), if_neg (by omega)]
          omega
        · simp [ds_chg, jr_w, fd_u3_at, hq, hq2]
          rw [if_neg (by omega), if_neg (by omega)]
          omega
  · refine jr_D_same hD ?_ ?_ ?_ ?_ ?_ ?_ <;> intros <;> simp [ds_chg, fd_u3_at]
theorem jr_cfm {L : Nat} {M P : fd_Mem} (h : jr L M P) {i : Nat} (hi : i < 60) (hm : (i : Int) < M 0 0 3) (hs : M 8 i 3 = 1) : jr L (ds_cfm M i) (mo_cf P i) ∧ P 5 0 i * P 1 0 (P 4 0 i).toNat = M 8 i 5 * M 4 0 (M 8 i 4).toNat := by
  obtain ⟨hA, hB, hF, hC, hD⟩ := h
  have hb := hB i hi
  unfold jr_B jr_b at hb
  have a3 := hA.2.2 (M 8 i 4).toNat (by omega)
  have e : P 5 0 i * P 1 0 (P 4 0 i).toNat = M 8 i 5 * M 4 0 (M 8 i 4).toNat := by
    rw [show P 5 0 i = M 8 i 5 by omega, show P 4 0 i = M 8 i 4 by omega, show P 1 0 (M 8 i 4).toNat = M 4 0 (M 8 i 4).toNat by omega]
  refine ⟨?_, e⟩
  unfold ds_cfm mo_cf
  rw [e]
  have hx : 0 ≤ M 8 i 5 * M 4 0 (M 8 i 4).toNat ∧ M 8 i 5 * M 4 0 (M 8 i 4).toNat ≤ 59994 := by
    have h1 := a3.2.1
    refine ⟨Int.mul_nonneg (by omega) (by omega), ?_⟩
    have h2 : M 8 i 5 * M 4 0 (M 8 i 4).toNat ≤ 6 * M 4 0 (M 8 i 4).toNat := Int.mul_le_mul_of_nonneg_right (by omega) (by omega)
    omega
  generalize M 8 i 5 * M 4 0 (M 8 i 4).toNat = x at hx
  have a2 := hA.2.1
  refine ⟨?_, fun i' hi' => ?_, fun i' hi' => ?_, ?_, ?_⟩
  · unfold jr_A at hA ⊢
    simp [fd_u3_at]
    exact ⟨hA.1, ⟨a2.1, a2.2.1, by omega, a2.2.2.2⟩, hA.2.2⟩
  · have hb' := hB i' hi'
    by_cases hq : i' = i
    · subst hq
      unfold jr_B jr_b
      simp [fd_u3_at]
      omega
    · unfold jr_B at hb' ⊢
      simpa [fd_u3_at, hq] using hb'
  · have h1 : M 0 0 3 ≤ (i' : Int) := by simpa [fd_u3_at] using hi'
    have hn : i' ≠ i := by omega
    simpa [fd_u3_at, hn] using hF i' h1
  · refine jr_C_one hi hC (fun j hj hne => ?_) (fun k hk => ?_)
    · simp [fd_u3_at, hne]
    · simp [jr_w, fd_u3_at, hs]
  · refine jr_D_same hD ?_ ?_ ?_ ?_ ?_ ?_ <;> intros <;> simp [fd_u3_at]
/-- a new booking, in no state yet -/
theorem jr_new {L : Nat} {M P : fd_Mem} (h : jr L M P) (hm : M 0 0 3 < 60) {f pl tk : Int} (hf : 0 ≤ f ∧ f < 4) (hp : 1 ≤ pl ∧ pl ≤ 6) (ht : 1 ≤ tk ∧ tk ≤ 50) : jr L (ds_new M f pl tk) (mo_mk P 0 f pl tk) := by
  obtain ⟨hA, hB, hF, hC, hD⟩ := h
  have a1 := hA.1
  have a2 := hA.2.1
  obtain ⟨i, hi⟩ : ∃ i : Nat, M 0 0 3 = (i : Int) := ⟨(M 0 0 3).toNat, by omega⟩
  have e1 : (M 0 0 3).toNat = i := by omega
  have e2 : (P 0 0 7).toNat = i := by omega
  have hi6 : i < 60 := by omega
  have hb := hB i hi6
  have hf0 := hF i (by omega)
  unfold jr_B jr_b at hb
  unfold ds_new mo_mk
  rw [e1, e2]
  refine ⟨?_, fun i' hi' => ?_, fun i' hi' => ?_, ?_, ?_⟩
  · unfold jr_A at hA ⊢
    simp [fd_u3_at]
    exact ⟨⟨by omega, hA.1.2⟩, ⟨a2.1, a2.2.1, a2.2.2.1, a2.2.2.2.1, by omega⟩, hA.2.2⟩
  · have hb' := hB i' hi'
    by_cases hq : i' = i
    · subst hq
      unfold jr_B jr_b
      simp [fd_u3_at]
      omega
    · unfold jr_B at hb' ⊢
      simpa [fd_u3_at, hq] using hb'
  · have h1 : M 0 0 3 + 1 ≤ (i' : Int) := by simpa [fd_u3_at] using hi'
    have hn : i' ≠ i := by omega
    simpa [fd_u3_at, hn] using hF i' (by omega)
  · refine jr_C_one hi6 hC (fun j hj hne => ?_) (fun k hk => ?_)
    · simp [fd_u3_at, hne]
    · simp [jr_w, fd_u3_at, hf0]
  · refine jr_D_same hD ?_ ?_ ?_ ?_ ?_ ?_ <;> intros <;> simp [fd_u3_at]
/-- states that weigh alike -/
theorem jr_sta {L : Nat} {M P : fd_Mem} (h : jr L M P) {i : Nat} (hi : i < 60) (hm : (i : Int) < M 0 0 3) {z : Int} (hz : (M 8 i 3 = 0 ∧ z = 3 ∧ 1 ≤ M 8 i 5) ∨ (M 8 i 3 = 2 ∧ z = 6)) : jr L (fd_u3 M 8 i 3 z) (fd_u3 P 3 0 i z) := by
  obtain ⟨hA, hB, hF, hC, hD⟩ := h
  have hb := hB i hi
  unfold jr_B jr_b at hb
  refine ⟨?_, fun i' hi' => ?_, fun i' hi' => ?_, ?_, ?_⟩
  · unfold jr_A at hA ⊢
    simpa [fd_u3_at] using hA
  · have hb' := hB i' hi'
    by_cases hq : i' = i
    · subst hq
      unfold jr_B jr_b
      simp [fd_u3_at]
      omega
    · unfold jr_B at hb' ⊢
      simpa [fd_u3_at, hq] using hb'
  · have h1 : M 0 0 3 ≤ (i' : Int) := by simpa [fd_u3_at] using hi'
    have hn : i' ≠ i := by omega
    simpa [fd_u3_at, hn] using hF i' h1
  · refine jr_C_one hi hC (fun j hj hne => ?_) (fun k hk => ?_)
    · simp [fd_u3_at, hne]
    · simp [jr_w, fd_u3_at]
      rcases hz with q | q
      · rw [q.1, q.2.1]
        simp
      · rw [q.1, q.2]
        simp
  · refine jr_D_same hD ?_ ?_ ?_ ?_ ?_ ?_ <;> intros <;> simp [fd_u3_at]
/-- what was paid is kept: it leaves the till -/
theorem jr_forf {L : Nat} {M P : fd_Mem} (h : jr L M P) {i : Nat} (hi : i < 60) : jr L (fd_u3 (fd_u3 M 0 0 5 (M 0 0 5 - M 8 i 6)) 8 i 6 0) (fd_u3 (fd_u3 P 0 0 3 (P 0 0 3 - P 8 0 i)) 8 0 i 0) := by
  obtain ⟨hA, hB, hF, hC, hD⟩ := h
  have hb := hB i hi
  unfold jr_B jr_b at hb
  have a2 := hA.2.1
  refine ⟨?_, fun i' hi' => ?_, ?_, ?_, ?_⟩
  · unfold jr_A at hA ⊢
    simp [fd_u3_at]
    exact ⟨hA.1, ⟨a2.1, a2.2.1, by omega, a2.2.2.2⟩, hA.2.2⟩
  · have hb' := hB i' hi'
    by_cases hq : i' = i
    · subst hq
      unfold jr_B jr_b
      simp [fd_u3_at]
      omega
    · unfold jr_B at hb' ⊢
      simpa [fd_u3_at, hq] using hb'
  · simpa [fd_u3_at] using hF
  · have e : ∀ k, jr_w (fd_u3 (fd_u3 M 0 0 5 (M 0 0 5 - M 8 i 6)) 8 i 6 0) k = jr_w M k := fun k => by funext i'; simp [jr_w, fd_u3_at]
    unfold jr_C at hC ⊢
    simpa [fd_u3_at, e] using hC
  · refine jr_D_same hD ?_ ?_ ?_ ?_ ?_ ?_ <;> intros <;> simp [fd_u3_at]
theorem jr_tick1 {L : Nat} {M P : fd_Mem} (h : jr L M P) : jr L (ds_t1 M) (mo_q P) := by
  obtain ⟨hA, hB, hF, hC, hD⟩ := h
  have a2 := hA.2.1
  have a1 := hA.1
  unfold ds_t1 mo_q
  refine ⟨?_, fun i' hi' => ?_, ?_, ?_, ?_⟩
  · unfold jr_A at hA ⊢
    simp [fd_u3_at]
    exact ⟨⟨hA.1.1, by omega, hA.1.2.2⟩, ⟨a2.1, by omega, a2.2.2⟩, hA.2.2⟩
  · have hb' := hB i' hi'
    unfold jr_B jr_b at hb' ⊢
    simp [fd_u3_at]
    omega
  · simpa [fd_u3_at] using hF
  · have e : ∀ k, jr_w (fd_u3 M 0 0 4 (M 0 0 4 + 1)) k = jr_w M k := fun k => by funext i'; simp [jr_w, fd_u3_at]
    unfold jr_C at hC ⊢
    simpa [fd_u3_at, e] using hC
  · refine jr_D_same hD ?_ ?_ ?_ ?_ ?_ ?_ <;> intros <;> simp [fd_u3_at]
theorem jr_shut {L : Nat} {M P : fd_Mem} (h : jr L M P) : jr L (ds_c0 M) (fd_u3 P 0 0 4 1) := by
  obtain ⟨hA, hB, hF, hC, hD⟩ := h
  have a2 := hA.2.1
  have a1 := hA.1
  unfold ds_c0
  refine ⟨?_, fun i' hi' => ?_, ?_, ?_, ?_⟩
  · unfold jr_A at hA ⊢
    simp [fd_u3_at]
    exact ⟨⟨hA.1.1, hA.1.2.1⟩, ⟨a2.1, a2.2.1, a2.2.2.1, a2.2.2.2.2⟩, hA.2.2⟩
  · have hb' := hB i' hi'
    unfold jr_B at hb' ⊢
    simpa [fd_u3_at] using hb'
  · simpa [fd_u3_at] using hF
  · have e : ∀ k, jr_w (fd_u3 M 0 0 6 1) k = jr_w M k := fun k => by funext i'; simp [jr_w, fd_u3_at]
    unfold jr_C at hC ⊢
    simpa [fd_u3_at, e] using hC
  · refine jr_D_same hD ?_ ?_ ?_ ?_ ?_ ?_ <;> intros <;> simp [fd_u3_at]
