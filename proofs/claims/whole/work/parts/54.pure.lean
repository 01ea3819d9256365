/-! what the calls still want of the two memories -/
theorem mo_mk_at (P : fd_Mem) {i : Nat} (hi : P 0 0 7 = (i : Int)) (z f pl tk : Int) : mo_mk P z f pl tk = fd_u3 (mo_mk P 0 f pl tk) 3 0 i z := by
  have e : (P 0 0 7).toNat = i := by omega
  unfold mo_mk
  rw [e]
  funext k a b
  simp only [fd_u3_at]
  by_cases c3 : k = 3 ∧ a = 0 ∧ b = i
  · obtain ⟨rfl, rfl, rfl⟩ := c3
    simp
  · simp only [if_neg c3]
theorem mo_hd_mk (P : fd_Mem) {i : Nat} (hi : P 0 0 7 = (i : Int)) (f pl tk : Int) : mo_hd (mo_mk P 0 f pl tk) i = mo_mk P 1 f pl tk := by
  have e : (P 0 0 7).toNat = i := by omega
  rw [mo_mk_at P hi 1]
  unfold mo_hd
  have e2 : (mo_mk P 0 f pl tk) 0 0 2 + (mo_mk P 0 f pl tk) 6 0 i = (fd_u3 (mo_mk P 0 f pl tk) 3 0 i 1) 7 0 i := by
    unfold mo_mk
    rw [e]
    simp [fd_u3_at]
  rw [e2, fd_u3_self]
theorem ds_pay_0 {M : fd_Mem} {n : Nat} (h : M 8 n 6 = 0) (k : Int) : ds_pay M n k = M ∧ ds_back M n k = 0 := by
  have e : ds_pf M n k = 0 := by
    unfold ds_pf
    rw [h, Int.zero_mul, Int.zero_ediv]
    split <;> rfl
  have e2 : ds_back M n k = 0 := by
    unfold ds_back ds_pb
    rw [e]
    split
    · rfl
    · split
      · rfl
      · split <;> rfl
  refine ⟨?_, e2⟩
  unfold ds_pay
  rw [e, e2, show M 8 n 6 - 0 = M 8 n 6 by omega, show M 0 0 5 - 0 = M 0 0 5 by omega, fd_u3_self, fd_u3_self]
theorem ds_shr_com (Y : fd_Mem) (n : Nat) (k : Int) (d : Nat) : ds_take n d (ds_shs (ds_shl Y n k) n k) = ds_shs (ds_shl (ds_take n d Y) n k) n k := by
  unfold ds_shs
  rw [ds_take_com (by decide) (by decide) (by decide) (fun _ => by decide)]
  have e : ds_take n d (ds_shl Y n k) = ds_shl (ds_take n d Y) n k := by
    unfold ds_shl
    rw [ds_take_8 n 3 (by decide), ds_take_8 n 4 (by decide)]
    by_cases h : Y 8 n 3 = 1 ∨ Y 8 n 3 = 2
    · rw [if_pos h, if_pos h, ds_take_com (by decide) (by decide) (by decide) (fun q => absurd q (by decide)), ds_take_k (by decide) (by decide) (by decide)]
    · rw [if_neg h, if_neg h]
  rw [e]
  have e2 : (ds_shl (ds_take n d Y) n k) 8 n 5 = (ds_shl Y n k) 8 n 5 := by rw [← e, ds_take_8 n 5 (by decide)]
  rw [e2]
/-- shrinking, both sides; Y and Z: the memories behind the payment -/
theorem jr_shr {L : Nat} {Y Z : fd_Mem} (h : jr L Y Z) (hL : L ≤ 60) {n : Nat} (hn : n < 60) (hs : Y 8 n 3 = 1 ∨ Y 8 n 3 = 2 ∨ Y 8 n 3 = 3) {k : Int} (hk : 1 ≤ k ∧ k < Y 8 n 5) : jr L (ds_take n (Y 8 n 2 - (Y 8 n 5 - k)).toNat (ds_shs (ds_shl Y n k) n k)) (mo_lv n (Z 9 0 n - (Z 5 0 n - k)).toNat (fd_u3 Z 5 0 n (Z 5 0 n - k))) := by
  have hb := h.2.1 n hn
  unfold jr_B jr_b at hb
  rw [ds_shr_com, mo_lv_com (by decide) (by decide) (by decide), show Z 9 0 n - (Z 5 0 n - k) = Y 8 n 2 - (Y 8 n 5 - k) by omega]
  have h1 := jr_take hL hn (Y 8 n 2 - (Y 8 n 5 - k)).toNat h (by omega)
  have h2 := jr_less h1.1 hn (by rw [ds_take_8 n 3 (by decide)]; exact hs) (k := k) (by rw [ds_take_8 n 5 (by decide)]; exact hk) (by rw [h1.2, ds_take_8 n 5 (by decide)]; omega)
  rw [mo_lv_k (by decide) (by decide)] at h2
  exact h2
theorem jr_of {L : Nat} {M P : fd_Mem} (h : jr L M P) {n : Nat} (hn : n < 60) (w : Int) : mo_of P n w = ds_of M n w := by
  have hb := h.2.1 n hn
  unfold jr_B jr_b at hb
  unfold mo_of ds_of
  have e6 : (if 0 < P 9 0 n then P 10 0 (6 * (n : Int)).toNat else -1) = (if 0 < M 8 n 2 then M 9 n 0 else -1) := by
    by_cases hc : 0 < M 8 n 2
    · have h1 := h.2.2.2.2.2.2.2.2.2.1 n hn 0 (by omega)
      rw [if_pos hc, if_pos (by omega), show (6 * (n : Int)).toNat = 6 * n + 0 by omega]
      exact h1.1
    · rw [if_neg hc, if_neg (by omega)]
  have e5 : (if P 3 0 n = 1 then P 7 0 n else -1) = (if M 8 n 3 = 1 then M 8 n 8 else -1) := by
    by_cases hc : M 8 n 3 = 1
    · rw [if_pos hc, if_pos (by omega)]
      omega
    · rw [if_neg hc, if_neg (by omega)]
  rw [e5, e6, show P 3 0 n = M 8 n 3 by omega, show P 4 0 n = M 8 n 4 by omega, show P 5 0 n = M 8 n 5 by omega, show P 9 0 n = M 8 n 2 by omega, show P 8 0 n = M 8 n 6 by omega]
theorem jr_cnt {L : Nat} {M P : fd_Mem} (h : jr L M P) (w : Int) : mo_cnt P w = ds_cnt M w := by
  have a1 := h.1.1
  have a2 := h.1.2.1
  have e2 : mo_ct P 2 (P 0 0 7).toNat = ds_sh M 0 := by
    rw [jr_sh (M := M) (far := fun i => M 8 i 4) (g := fun i => if M 8 i 3 = 1 ∨ M 8 i 3 = 2 ∨ M 8 i 3 = 6 then M 8 i 5 else 0) (fun i hi => by have := h.2.1 i hi; unfold jr_B jr_b at this; omega) (fun k hk => by
      rw [h.2.2.2.1 k hk]
      refine fd_sum_ext 60 (fun j _ => ?_)
      unfold jr_w
      by_cases c1 : M 8 j 4 = (k : Int)
      · simp [c1]
      · simp [c1]) (by omega)]
    have h1 : ∀ n : Nat, n ≤ 60 → mo_ct P 2 n = fd_sum (fun i => if ((0 : Nat) : Int) ≤ M 8 i 4 then (if M 8 i 3 = 1 ∨ M 8 i 3 = 2 ∨ M 8 i 3 = 6 then M 8 i 5 else 0) else 0) n := by
      intro n
      induction n with
      | zero => intro _; rfl
      | succ n ih =>
        intro hn
        have hb := h.2.1 n (by omega)
        unfold jr_B jr_b at hb
        rw [mo_ct_s, ih (by omega)]
        show _ = fd_sum _ n + (if ((0 : Nat) : Int) ≤ M 8 n 4 then (if M 8 n 3 = 1 ∨ M 8 n 3 = 2 ∨ M 8 n 3 = 6 then M 8 n 5 else 0) else 0)
        rw [if_pos (show ((0 : Nat) : Int) ≤ M 8 n 4 by omega), show P 3 0 n = M 8 n 3 by omega, show P 5 0 n = M 8 n 5 by omega]
        simp
    rw [h1 _ (by omega)]
    refine (fd_sum_more (n := (P 0 0 7).toNat) 60 (by omega) (fun j h1 _ => ?_)).symm
    have h9 := h.2.2.1 j (by omega)
    simp [h9]
  have e3 : mo_ct P 3 (P 0 0 7).toNat = ds_wt M (M 0 0 3).toNat := by
    rw [a2.2.2.2.2]
    have h1 : ∀ n : Nat, n ≤ 60 → mo_ct P 3 n = ds_wt M n := by
      intro n
      induction n with
      | zero => intro _; rfl
      | succ n ih =>
        intro hn
        have hb := h.2.1 n (by omega)
        unfold jr_B jr_b at hb
        rw [mo_ct_s, ds_wt_s, ih (by omega), show P 3 0 n = M 8 n 3 by omega]
        by_cases hc : M 8 n 3 = 3
        · simp [hc]
        · simp [hc]
    exact h1 _ (by omega)
  unfold mo_cnt ds_cnt
  have hf := h.fr
  by_cases w0 : w = 0
  · rw [if_pos w0, if_pos w0]
    omega
  · rw [if_neg w0, if_neg w0]
    by_cases w1 : w = 1
    · rw [if_pos w1, if_pos w1]
      omega
    · rw [if_neg w1, if_neg w1]
      by_cases w2 : w = 2
      · subst w2
        rw [if_pos (by omega), if_pos rfl]
        exact e2
      · rw [if_neg w2]
        by_cases w3 : w = 3
        · subst w3
          rw [if_pos (by omega), if_pos rfl]
          exact e3
        · rw [if_neg (by omega), if_neg w3]
          by_cases w4 : w = 4
          · rw [if_pos w4, if_pos w4]
            omega
          · rw [if_neg w4, if_neg w4]
            by_cases w5 : w = 5
            · rw [if_pos w5, if_pos w5]
              exact hf
            · rw [if_neg w5, if_neg w5]
              split <;> omega
