/-! seats side by side -/
theorem jr_fa {L : Nat} {M P : fd_Mem} (h : jr L M P) : ∀ (w a : Nat), a + w ≤ L → mo_fa P w a = ds_af M w a
  | 0, _, _ => rfl
  | w + 1, a, ha => by
    have h1 := h.2.2.2.2.1 a (by omega)
    rw [mo_fa_s, ds_af_s, jr_fa h w (a + 1) (by omega)]
    by_cases hq : M 7 0 a = -1
    · rw [if_pos hq, if_pos (by omega)]
    · rw [if_neg hq, if_neg (by omega)]
theorem jr_blk {L : Nat} {M P : fd_Mem} (h : jr L M P) {v w b e : Nat} (hv : v = 3 ∨ v = 6) (hw : 1 ≤ w) (hb : v * b + v ≤ L) : ∀ r : Nat, r ≤ v → mo_fd P v w (r + e) (v * b + (v - r)) = if ds_bi M w (r + 1 - w) (v * b + (v - r)) = -1 then mo_fd P v w e (v * b + v) else ds_bi M w (r + 1 - w) (v * b + (v - r))
  | 0, _ => by
    rw [show 0 + 1 - w = 0 by omega, Nat.zero_add, Nat.sub_zero]
    exact (if_pos rfl).symm
  | r + 1, hr => by
    have ih := jr_blk h hv hw hb (e := e) r (by omega)
    have h1 := h.1.2.1.1
    have ea : v * b + (v - (r + 1)) + 1 = v * b + (v - r) := by omega
    rw [show r + 1 + e = (r + e) + 1 by omega, mo_fd_s, ea, ih]
    by_cases hc : w ≤ r + 1
    · have h2 : mo_ir P v w (v * b + (v - (r + 1))) = ds_af M w (v * b + (v - (r + 1))) := by
        unfold mo_ir
        rw [if_pos ?_, jr_fa h _ _ (by omega)]
        rw [h1]
        rcases hv with rfl | rfl
        · omega
        · omega
      rw [h2, show r + 1 + 1 - w = (r + 1 - w) + 1 by omega, ds_bi_s, ea]
      by_cases h3 : ds_af M w (v * b + (v - (r + 1))) = 1
      · rw [if_pos h3, if_pos h3, if_neg (by omega)]
      · rw [if_neg h3, if_neg h3]
    · have h2 : mo_ir P v w (v * b + (v - (r + 1))) = 0 := by
        unfold mo_ir
        rw [if_neg ?_]
        rcases hv with rfl | rfl
        · omega
        · omega
      rw [h2, if_neg (by decide), show r + 1 + 1 - w = 0 by omega, show r + 1 - w = 0 by omega]
      rfl
theorem jr_bo {L : Nat} {M P : fd_Mem} (h : jr L M P) {v w : Nat} (hv : v = 3 ∨ v = 6) (hw : 1 ≤ w) : ∀ d b : Nat, v * (b + d) ≤ L → mo_fd P v w (v * d) (v * b) = ds_bo M w v d (v * b)
  | 0, b, _ => by
    rw [Nat.mul_zero]
    rfl
  | d + 1, b, hb => by
    have h0 : v * b + v ≤ L := by
      have : v * b + v = v * (b + 1) := (Nat.mul_succ v b).symm
      have h9 : v * (b + 1) ≤ v * (b + (d + 1)) := Nat.mul_le_mul_left v (by omega)
      omega
    have h1 := jr_blk h hv hw (b := b) (e := v * d) h0 v (Nat.le_refl _)
    rw [Nat.sub_self, Nat.add_zero, show v + v * d = v * (d + 1) by rw [Nat.mul_succ]; omega] at h1
    rw [h1, ds_bo_s, show v * b + v = v * (b + 1) from (Nat.mul_succ v b).symm, jr_bo h hv hw d (b + 1) (by rw [show b + 1 + d = b + (d + 1) by omega]; exact hb)]
theorem jr_fd {L : Nat} {M P : fd_Mem} (h : jr L M P) {v w : Nat} (hv : v = 3 ∨ v = 6) (hw : 1 ≤ w) (h6 : L % 6 = 0) : mo_fd P v w (P 0 0 1).toNat 0 = ds_bo M w v (L / v) 0 := by
  have h1 := h.1.2.1.1
  have h2 : v * (L / v) = L := by rcases hv with rfl | rfl <;> omega
  have h3 := jr_bo h hv hw (L / v) 0 (by rw [Nat.zero_add, h2]; exact Nat.le_refl _)
  rw [Nat.mul_zero, h2] at h3
  rw [h1, Int.toNat_natCast]
  exact h3
theorem mo_fd_none (P : fd_Mem) (v w : Nat) : ∀ d s : Nat, mo_fd P v w d s = -1 → ∀ a, s ≤ a → a < s + d → mo_ir P v w a ≠ 1
  | 0, s, _, a, h1, h2 => by omega
  | d + 1, s, h, a, h1, h2 => by
    rw [mo_fd_s] at h
    by_cases hc : mo_ir P v w s = 1
    · rw [if_pos hc] at h
      omega
    · rw [if_neg hc] at h
      by_cases hq : a = s
      · rw [hq]; exact hc
      · exact mo_fd_none P v w d (s + 1) h a (by omega) (by omega)
theorem mo_fd_least (P : fd_Mem) (v w : Nat) : ∀ d s : Nat, mo_fd P v w d s ≠ -1 → ∀ a, s ≤ a → (a : Int) < mo_fd P v w d s → mo_ir P v w a ≠ 1
  | 0, s, h, a, h1, h2 => absurd rfl h
  | d + 1, s, h, a, h1, h2 => by
    rw [mo_fd_s] at h h2
    by_cases hc : mo_ir P v w s = 1
    · rw [if_pos hc] at h2
      omega
    · rw [if_neg hc] at h h2
      by_cases hq : a = s
      · rw [hq]; exact hc
      · exact mo_fd_least P v w d (s + 1) h a (by omega) h2
theorem mo_ir_1 {L : Nat} {M P : fd_Mem} (h : jr L M P) {a : Nat} (ha : a < L) : mo_ir P 3 1 a = if M 7 0 a = -1 then 1 else 0 := by
  have h1 := h.1.2.1.1
  unfold mo_ir
  rw [if_pos ⟨by rw [h1]; omega, by omega⟩, jr_fa h 1 a (by omega)]
  rfl
/-- places that are not free are passed over -/
theorem mo_gf_skip {L : Nat} {M P : fd_Mem} (h : jr L M P) {i : Nat} {k : Int} : ∀ (r s d : Nat), s + r + d = L → (∀ a, s ≤ a → a < s + r → M 7 0 a ≠ -1) → 0 < k → mo_gf i (r + d) s k P = mo_gf i d (s + r) k P
  | 0, s, d, _, _, _ => by rw [Nat.zero_add, Nat.add_zero]
  | r + 1, s, d, e, hn, hk => by
    have h1 := h.2.2.2.2.1 s (by omega)
    have h2 := hn s (Nat.le_refl _) (by omega)
    rw [show r + 1 + d = (r + d) + 1 by omega, mo_gf_s, if_neg (by omega), if_neg (by omega), show s + (r + 1) = (s + 1) + r by omega]
    exact mo_gf_skip h r (s + 1) d (by omega) (fun a h1 h2 => hn a (by omega) (by omega)) hk
theorem mo_gf_run {i : Nat} : ∀ (w s d : Nat) {P : fd_Mem}, w ≤ d → (∀ a, s ≤ a → a < s + w → P 11 0 a = 0) → mo_gf i d s (w : Int) P = mo_gr i w s P
  | 0, s, d, P, _, _ => by
    cases d with
    | zero => rfl
    | succ d => rw [mo_gf_s, if_pos (by omega)]; rfl
  | w + 1, s, d, P, hd, hf => by
    obtain ⟨d', rfl⟩ : ∃ d', d = d' + 1 := ⟨d - 1, by omega⟩
    rw [mo_gf_s, if_neg (by omega), if_pos (hf s (Nat.le_refl _) (by omega)), mo_gr_s, show ((w + 1 : Nat) : Int) - 1 = (w : Int) by omega]
    refine mo_gf_run w (s + 1) d' (by omega) (fun a h1 h2 => ?_)
    have h3 := hf a (by omega) (by omega)
    have hne : a ≠ s := by omega
    simpa [mo_gv, fd_u3_at, hne] using h3
theorem ds_miss_9 (i : Nat) : ∀ (d s : Nat) (P : fd_Mem), 0 ≤ P 8 i 2 → P 8 i 2 ≤ (ds_miss i d s P) 8 i 2 ∧ ∀ j : Nat, (j : Int) < P 8 i 2 → (ds_miss i d s P) 9 i j = P 9 i j
  | 0, _, P, _ => ⟨Int.le_refl _, fun _ _ => rfl⟩
  | d + 1, s, P, h0 => by
    rw [ds_miss_s]
    split
    · exact ⟨Int.le_refl _, fun _ _ => rfl⟩
    · split
      · have e2 : (ds_give P i s) 8 i 2 = P 8 i 2 + 1 := by simp [ds_give, fd_u3_at]
        have h1 := ds_miss_9 i d (s + 1) (ds_give P i s) (by rw [e2]; omega)
        rw [e2] at h1
        refine ⟨by omega, fun j hj => ?_⟩
        rw [h1.2 j (by omega)]
        have hne : ¬ (j = (P 8 i 2).toNat) := by omega
        simp [ds_give, fd_u3_at, hne]
      · exact ds_miss_9 i d (s + 1) P h0
theorem ds_af_free {M : fd_Mem} : ∀ (w a : Nat), ds_af M w a = 1 → ∀ t, a ≤ t → t < a + w → M 7 0 t = -1
  | 0, a, _, t, h1, h2 => by omega
  | w + 1, a, h, t, h1, h2 => by
    rw [ds_af_s] at h
    by_cases hq : M 7 0 a = -1
    · rw [if_pos hq] at h
      by_cases hq2 : t = a
      · rw [hq2]; exact hq
      · exact ds_af_free w (a + 1) h t (by omega) (by omega)
    · rw [if_neg hq] at h
      omega
theorem fd_sum_some {g : Nat → Int} : ∀ n : Nat, 0 < fd_sum g n → ∃ j, j < n ∧ 0 < g j
  | 0, h => absurd h (by show ¬ (0 : Int) < 0; omega)
  | n + 1, h => by
    by_cases hq : 0 < g n
    · exact ⟨n, by omega, hq⟩
    · have h1 : 0 < fd_sum g n := by
        have : fd_sum g (n + 1) = fd_sum g n + g n := rfl
        omega
      obtain ⟨j, h2, h3⟩ := fd_sum_some n h1
      exact ⟨j, by omega, h3⟩
/-- together: the same seats -/
theorem jr_tog {L : Nat} {M P : fd_Mem} (h : jr L M P) (hL : L ≤ 60) (h6 : L % 6 = 0) {n : Nat} (hn : n < 60) (hs : M 8 n 3 = 2 ∧ M 8 n 2 < M 8 n 5) (hf : M 8 n 5 - M 8 n 2 ≤ M 6 0 1) : (0 ≤ ds_best M L (M 8 n 5 - M 8 n 2).toNat ∧ ds_best M L (M 8 n 5 - M 8 n 2).toNat < L) ∧ jr L (ds_tog L M n) (mo_tg P n) ∧ (mo_tg P n) 10 0 (6 * (n : Int) + P 9 0 n).toNat = ds_best M L (M 8 n 5 - M 8 n 2).toNat ∧ (∀ j, (ds_tog L M n) 0 0 j = M 0 0 j) ∧ (mo_tg P n) 0 0 0 = P 0 0 0 := by
  have hb := h.2.1 n hn
  unfold jr_B jr_b at hb
  have h1 := h.1.2.1.1
  obtain ⟨w, hw⟩ : ∃ w : Nat, M 8 n 5 - M 8 n 2 = (w : Int) := ⟨(M 8 n 5 - M 8 n 2).toNat, by omega⟩
  have hw1 : 1 ≤ w := by omega
  have f3 := jr_fd h (v := 3) (w := w) (Or.inl rfl) hw1 h6
  have f6 := jr_fd h (v := 6) (w := w) (Or.inr rfl) hw1 h6
  have f1 := jr_fd h (v := 3) (w := 1) (Or.inl rfl) (by omega) h6
  have hLn : (P 0 0 1).toNat = L := by rw [h1, Int.toNat_natCast]
  -- the start, and the model's memory by it
  have key : ∃ t : Nat, ds_best M L w = (t : Int) ∧ t < L ∧ M 7 0 t = -1 ∧ mo_tg P n = mo_gf n (L - t) t (w : Int) P := by
    have ew : (P 5 0 n - P 9 0 n).toNat = w := by omega
    have ew2 : P 5 0 n - P 9 0 n = (w : Int) := by omega
    have hrun : ∀ (v t : Nat), mo_ir P v w t = 1 → mo_st P w = (t : Int) → t < L ∧ M 7 0 t = -1 ∧ mo_tg P n = mo_gf n (L - t) t (w : Int) P := by
      intro v t ht hst
      have h2 := mo_ir_lt ht
      have h3 : mo_fa P w t = 1 := by
        unfold mo_ir at ht
        split at ht
        · exact ht
        · exact absurd ht (by decide)
      rw [jr_fa h w t (by omega)] at h3
      have h4 := ds_af_free w t h3
      refine ⟨by omega, h4 t (Nat.le_refl _) (by omega), ?_⟩
      unfold mo_tg
      rw [ew, ew2, hst, if_neg (by omega), Int.toNat_natCast]
      refine (mo_gf_run w t (L - t) (by omega) (fun a g1 g2 => ?_)).symm
      have g3 := h.2.2.2.2.1 a (by omega)
      have g4 := h4 a g1 g2
      omega
    by_cases c3 : ds_bo M w 3 (L / 3) 0 = -1
    · by_cases c6 : ds_bo M w 6 (L / 6) 0 = -1
      · have hst : mo_st P w < 0 := by
          unfold mo_st
          rw [f3, f6, c3, c6]
          decide
        have hbst : ds_best M L w = ds_bo M 1 3 (L / 3) 0 := by
          unfold ds_best
          rw [if_pos c3, if_pos c6]
        have hfree := h.2.2.2.2.2.2.1
        obtain ⟨j, j1, j2⟩ := fd_sum_some L (show 0 < fd_sum (jr_f M) L by omega)
        have j3 : M 7 0 j = -1 := by
          unfold jr_f at j2
          split at j2
          · assumption
          · omega
        have hne : mo_fd P 3 1 (P 0 0 1).toNat 0 ≠ -1 := by
          intro hq
          have h5 := mo_fd_none P 3 1 _ _ hq j (by omega) (by omega)
          rw [mo_ir_1 h j1, if_pos j3] at h5
          exact h5 rfl
        rcases mo_fd_bd P 3 1 (P 0 0 1).toNat 0 with hq | hq
        · exact absurd hq hne
        · obtain ⟨t, ht⟩ : ∃ t : Nat, mo_fd P 3 1 (P 0 0 1).toNat 0 = (t : Int) := ⟨(mo_fd P 3 1 (P 0 0 1).toNat 0).toNat, by omega⟩
          have htL : t < L := by omega
          have hfr : M 7 0 t = -1 := by
            have h5 := hq.2
            rw [ht, Int.toNat_natCast, mo_ir_1 h htL] at h5
            split at h5
            · assumption
            · exact absurd h5 (by decide)
          refine ⟨t, by rw [hbst, ← f1, ht], htL, hfr, ?_⟩
          unfold mo_tg
          rw [ew, ew2, if_pos hst, hLn]
          have h7 := mo_gf_skip h (i := n) (k := (w : Int)) t 0 (L - t) (by omega) (fun a g1 g2 => by
            have g3 := mo_fd_least P 3 1 _ _ hne a g1 (by omega)
            rw [mo_ir_1 h (by omega)] at g3
            intro g4
            rw [if_pos g4] at g3
            exact g3 rfl) (by omega)
          rw [show t + (L - t) = L by omega, Nat.zero_add] at h7
          exact h7
      · rcases mo_fd_bd P 6 w (P 0 0 1).toNat 0 with hq | hq
        · rw [f6] at hq
          exact absurd hq c6
        · obtain ⟨t, ht⟩ : ∃ t : Nat, mo_fd P 6 w (P 0 0 1).toNat 0 = (t : Int) := ⟨(mo_fd P 6 w (P 0 0 1).toNat 0).toNat, by omega⟩
          have h5 := hq.2
          rw [ht, Int.toNat_natCast] at h5
          have hst : mo_st P w = (t : Int) := by
            unfold mo_st
            rw [f3, c3, if_pos (by decide), ht]
          refine ⟨t, ?_, hrun 6 t h5 hst⟩
          unfold ds_best
          rw [if_pos c3, if_neg c6, ← f6, ht]
    · rcases mo_fd_bd P 3 w (P 0 0 1).toNat 0 with hq | hq
      · rw [f3] at hq
        exact absurd hq c3
      · obtain ⟨t, ht⟩ : ∃ t : Nat, mo_fd P 3 w (P 0 0 1).toNat 0 = (t : Int) := ⟨(mo_fd P 3 w (P 0 0 1).toNat 0).toNat, by omega⟩
        have h5 := hq.2
        rw [ht, Int.toNat_natCast] at h5
        have hst : mo_st P w = (t : Int) := by
          unfold mo_st
          rw [ht, if_neg (by omega)]
        refine ⟨t, ?_, hrun 3 t h5 hst⟩
        unfold ds_best
        rw [if_neg c3, ← f3, ht]
  obtain ⟨t, k1, k2, k3, k4⟩ := key
  have ew3 : (M 8 n 5 - M 8 n 2).toNat = w := by omega
  have et : ds_tog L M n = ds_miss n (L - t) t M := by
    unfold ds_tog
    rw [ew3, k1, Int.toNat_natCast]
  have hj := jr_miss hL hn (L - t) t h (by omega) hs.1
  rw [ew3, k1, k4, et]
  rw [hw] at hj
  refine ⟨by omega, hj, ?_, fun j => ds_miss_k (by decide) (by decide) (by decide) (by decide) 0 j _ _ _, mo_gf_0 0 _ _ _ _⟩
  obtain ⟨d, hd⟩ : ∃ d, L - t = d + 1 := ⟨L - t - 1, by omega⟩
  have e2 : (ds_give M n t) 8 n 2 = M 8 n 2 + 1 := by simp [ds_give, fd_u3_at]
  have e9 : ds_miss n (L - t) t M = ds_miss n d (t + 1) (ds_give M n t) := by rw [hd, ds_miss_s, if_neg (by omega), if_pos k3]
  have h8 := ds_miss_9 n d (t + 1) (ds_give M n t) (by omega)
  have h9 := hj.2.2.2.2.2.2.2.2.2.1 n hn (M 8 n 2).toNat (by rw [e9]; omega)
  rw [show (6 * (n : Int) + P 9 0 n).toNat = 6 * n + (M 8 n 2).toNat by omega, h9.1, e9, h8.2 (M 8 n 2).toNat (by omega)]
  simp [ds_give, fd_u3_at]
