/-! boarding -/
theorem jr.fr {L : Nat} {M P : fd_Mem} (h : jr L M P) : mo_fr P (P 0 0 1).toNat = M 6 0 1 := by
  have h1 := h.1.2.1.1
  have h2 : ∀ n, n ≤ L → mo_fr P n = fd_sum (jr_f M) n := by
    intro n
    induction n with
    | zero => intro _; rfl
    | succ n ih =>
      intro hn
      have h3 := h.2.2.2.2.1 n (by omega)
      rw [mo_fr_s, ih (by omega)]
      show _ = fd_sum (jr_f M) n + jr_f M n
      unfold jr_f
      by_cases hq : M 7 0 n = -1
      · rw [if_pos hq, if_pos (by omega)]
      · rw [if_neg hq, if_neg (by omega)]
  rw [h1, Int.toNat_natCast, h2 L (Nat.le_refl _), h.2.2.2.2.2.2.1]
theorem ds_give_k {M : fd_Mem} {i sq k : Nat} (h6 : k ≠ 6) (h7 : k ≠ 7) (h8 : k ≠ 8) (h9 : k ≠ 9) (a b : Nat) : (ds_give M i sq) k a b = M k a b := by
  unfold ds_give
  rw [fd_u3_k h6, fd_u3_k h8, fd_u3_k h9, fd_u3_k h7]
theorem ds_miss_k {i k : Nat} (h6 : k ≠ 6) (h7 : k ≠ 7) (h8 : k ≠ 8) (h9 : k ≠ 9) (a b : Nat) : ∀ (d s : Nat) (P : fd_Mem), (ds_miss i d s P) k a b = P k a b
  | 0, _, _ => rfl
  | d + 1, s, P => by
    rw [ds_miss_s]
    split
    · rfl
    · rw [ds_miss_k h6 h7 h8 h9 a b d]
      split
      · rw [ds_give_k h6 h7 h8 h9]
      · rfl
theorem mo_gf_0 {i : Nat} (j : Nat) : ∀ (d s : Nat) (k : Int) (P : fd_Mem), (mo_gf i d s k P) 0 0 j = P 0 0 j
  | 0, _, _, _ => rfl
  | d + 1, s, k, P => by
    rw [mo_gf_s]
    split
    · rfl
    · split
      · rw [mo_gf_0 j d]
        simp [mo_gv, fd_u3_at]
      · rw [mo_gf_0 j d]
theorem jr_miss {L : Nat} (hL : L ≤ 60) {i : Nat} (hi : i < 60) : ∀ (d s : Nat) {M P : fd_Mem}, jr L M P → s + d ≤ L → M 8 i 3 = 2 → jr L (ds_miss i d s M) (mo_gf i d s (M 8 i 5 - M 8 i 2) P)
  | 0, _, _, _, h, _, _ => h
  | d + 1, s, M, P, h, hs, h2 => by
    have hb := h.2.1 i hi
    unfold jr_B jr_b at hb
    have h7 := h.2.2.2.2.1 s (by omega)
    rw [ds_miss_s, mo_gf_s]
    by_cases hc : M 8 i 5 - M 8 i 2 ≤ 0
    · rw [if_pos hc, if_pos hc]
      exact h
    · rw [if_neg hc, if_neg hc]
      by_cases hf : M 7 0 s = -1
      · rw [if_pos hf, if_pos (by omega)]
        have h3 := jr_give h hL hi (show s < L by omega) h2 (by omega) hf
        have e5 : (ds_give M i s) 8 i 5 = M 8 i 5 := by simp [ds_give, fd_u3_at]
        have e2 : (ds_give M i s) 8 i 2 = M 8 i 2 + 1 := by simp [ds_give, fd_u3_at]
        have e3 : (ds_give M i s) 8 i 3 = M 8 i 3 := by simp [ds_give, fd_u3_at]
        have h4 := jr_miss hL hi d (s + 1) h3 (by omega) (by rw [e3]; exact h2)
        rw [e5, e2, show M 8 i 5 - (M 8 i 2 + 1) = M 8 i 5 - M 8 i 2 - 1 by omega] at h4
        exact h4
      · rw [if_neg hf, if_neg (by omega)]
        exact jr_miss hL hi d (s + 1) h (by omega) h2
theorem mo_lv_k {i k : Nat} (h9 : k ≠ 9) (h11 : k ≠ 11) (a b : Nat) : ∀ (d : Nat) (P : fd_Mem), (mo_lv i d P) k a b = P k a b
  | 0, _ => rfl
  | d + 1, P => by
    show (mo_lv i d (mo_lv1 P i)) k a b = P k a b
    rw [mo_lv_k h9 h11 a b d]
    unfold mo_lv1
    rw [fd_u3_k h11, fd_u3_k h9]
theorem jr_brd {L : Nat} {M P : fd_Mem} (h : jr L M P) (hL : L ≤ 60) {i : Nat} (hi : i < 60) (hm : (i : Int) < M 0 0 3) (hs : M 8 i 3 = 2) : jr L (ds_brd L M i).1 (mo_bd P i).1 ∧ (mo_bd P i).2 = (ds_brd L M i).2 ∧ (∀ j, j ≠ 5 → (ds_brd L M i).1 0 0 j = M 0 0 j) ∧ (mo_bd P i).1 0 0 0 = P 0 0 0 := by
  have hb := h.2.1 i hi
  unfold jr_B jr_b at hb
  have h1 := h.1.2.1.1
  have hf := h.fr
  unfold ds_brd mo_bd
  by_cases hc : M 6 0 1 < M 8 i 5 - M 8 i 2
  · rw [if_pos hc, if_pos (by omega)]
    refine ⟨?_, rfl, fun j hj => ?_, ?_⟩
    · have h2 := jr_forf h hi
      have h3 := jr_up h2 hL hi (by simpa [fd_u3_at] using hm) (by simp [fd_u3_at]; omega) (z := 7) (by omega)
      have e2 : (fd_u3 (fd_u3 M 0 0 5 (M 0 0 5 - M 8 i 6)) 8 i 6 0) 8 i 2 = M 8 i 2 := by simp [fd_u3_at]
      rw [e2, mo_lv_com (by decide) (by decide) (by decide), mo_lv_com (by decide) (by decide) (by decide), fd_u3_comm _ 0 7 (by omega), fd_u3_comm _ _ 7 (by omega)] at h3
      show jr L (ds_left M i) (fd_u3 (fd_u3 (fd_u3 (mo_lv i (P 9 0 i - 0).toNat P) 3 0 i 7) 0 0 3 ((mo_lv i (P 9 0 i - 0).toNat P) 0 0 3 - (mo_lv i (P 9 0 i - 0).toNat P) 8 0 i)) 8 0 i 0)
      rw [mo_lv_k (by decide) (by decide), mo_lv_k (by decide) (by decide), show (P 9 0 i - 0).toNat = (M 8 i 2).toNat by omega]
      exact h3
    · show (ds_left M i) 0 0 j = M 0 0 j
      unfold ds_left
      rw [ds_up_0, fd_u3_k (by decide), fd_u3_j hj]
    · show (fd_u3 (fd_u3 (fd_u3 (mo_lv i (P 9 0 i - 0).toNat P) 3 0 i 7) 0 0 3 ((mo_lv i (P 9 0 i - 0).toNat P) 0 0 3 - (mo_lv i (P 9 0 i - 0).toNat P) 8 0 i)) 8 0 i 0) 0 0 0 = P 0 0 0
      rw [fd_u3_k (by decide), fd_u3_j (by decide), fd_u3_k (by decide), mo_lv_k (by decide) (by decide)]
  · rw [if_neg hc, if_neg (by omega)]
    have h2 := jr_miss hL hi L 0 h (by omega) hs
    have e : mo_gf i (P 0 0 1).toNat 0 (P 5 0 i - P 9 0 i) P = mo_gf i L 0 (M 8 i 5 - M 8 i 2) P := by
      rw [h1, Int.toNat_natCast, show P 5 0 i - P 9 0 i = M 8 i 5 - M 8 i 2 by omega]
    have e3 : (ds_miss i L 0 M) 8 i 3 = 2 := by rw [ds_miss_85 i 3 (by decide)]; exact hs
    have e5 : (ds_miss i L 0 M) 8 i 5 = M 8 i 5 := ds_miss_85 i 5 (by decide) i L 0 M
    refine ⟨?_, ?_, fun j hj => ?_, ?_⟩
    · show jr L (fd_u3 (ds_miss i L 0 M) 8 i 3 6) (fd_u3 (mo_gf i (P 0 0 1).toNat 0 (P 5 0 i - P 9 0 i) P) 3 0 i 6)
      rw [e]
      exact jr_sta h2 hi (by rw [ds_miss_k (by decide) (by decide) (by decide) (by decide)]; exact hm) (Or.inr ⟨e3, rfl⟩)
    · show (mo_gf i (P 0 0 1).toNat 0 (P 5 0 i - P 9 0 i) P) 5 0 i = M 8 i 5
      rw [e]
      have hb2 := h2.2.1 i hi
      unfold jr_B jr_b at hb2
      omega
    · show (fd_u3 (ds_miss i L 0 M) 8 i 3 6) 0 0 j = M 0 0 j
      rw [fd_u3_k (by decide), ds_miss_k (by decide) (by decide) (by decide) (by decide)]
    · show (fd_u3 (mo_gf i (P 0 0 1).toNat 0 (P 5 0 i - P 9 0 i) P) 3 0 i 6) 0 0 0 = P 0 0 0
      rw [fd_u3_k (by decide), mo_gf_0]
theorem jr_bf {L : Nat} {M P : fd_Mem} (h : jr L M P) (hL : L ≤ 60) (f c : Int) : ∀ n : Nat, (n : Int) ≤ M 0 0 3 → jr L (ds_bf L M f n).1 (mo_cl (P, c) f n).1 ∧ (mo_cl (P, c) f n).2 = c + (ds_bf L M f n).2 ∧ (∀ j, j ≠ 5 → (ds_bf L M f n).1 0 0 j = M 0 0 j) ∧ (mo_cl (P, c) f n).1 0 0 0 = P 0 0 0
  | 0, _ => ⟨h, by show c = c + 0; omega, fun _ _ => rfl, rfl⟩
  | n + 1, hn => by
    obtain ⟨g1, g2, g3, g4⟩ := jr_bf h hL f c n (by omega)
    have h1 := h.1.1
    have k3 := g3 3 (by decide)
    have hb := g1.2.1 n (by omega)
    unfold jr_B jr_b at hb
    rw [ds_bf_s, mo_cl_s]
    by_cases hc : (ds_bf L M f n).1 8 n 3 = 2 ∧ (ds_bf L M f n).1 8 n 4 = f
    · rw [if_pos hc, if_pos (by omega)]
      obtain ⟨q1, q2, q3, q4⟩ := jr_brd g1 hL (i := n) (by omega) (by omega) hc.1
      refine ⟨q1, ?_, fun j hj => ?_, ?_⟩
      · show (mo_cl (P, c) f n).2 + (mo_bd (mo_cl (P, c) f n).1 n).2 = c + ((ds_bf L M f n).2 + (ds_brd L (ds_bf L M f n).1 n).2)
        rw [q2, g2]
        omega
      · show (ds_brd L (ds_bf L M f n).1 n).1 0 0 j = M 0 0 j
        rw [q3 j hj, g3 j hj]
      · show (mo_bd (mo_cl (P, c) f n).1 n).1 0 0 0 = P 0 0 0
        rw [q4, g4]
    · rw [if_neg hc, if_neg (by omega)]
      exact ⟨g1, g2, g3, g4⟩
theorem jr_bf_all {L : Nat} {M P : fd_Mem} (h : jr L M P) (hL : L ≤ 60) (f : Int) : ∀ n : Nat, ∃ Q, jr L (ds_bf L M f n).1 Q ∧ ∀ j, j ≠ 5 → (ds_bf L M f n).1 0 0 j = M 0 0 j
  | 0 => ⟨P, h, fun _ _ => rfl⟩
  | n + 1 => by
    by_cases hn : ((n + 1 : Nat) : Int) ≤ M 0 0 3
    · have h1 := jr_bf h hL f 0 (n + 1) hn
      exact ⟨_, h1.1, h1.2.2.1⟩
    · obtain ⟨Q, h1, h2⟩ := jr_bf_all h hL f n
      have h3 := h2 3 (by decide)
      have h4 := h1.2.2.1 n (by omega)
      rw [ds_bf_s, if_neg (by omega)]
      exact ⟨Q, h1, h2⟩
theorem jr.bok {L : Nat} {M P : fd_Mem} (h : jr L M P) (hL : L ≤ 60) (hT : M 0 0 4 ≤ 1000000) (f : Int) : ds_bok L M f := by
  refine ⟨h.1.1.1, fun n hn => ?_, fun n i hi => ?_, fun n => ?_⟩
  · obtain ⟨Q, h1, h2⟩ := jr_bf_all h hL f n
    exact h1.dok hL (by rw [h2 4 (by decide)]; exact hT)
  · obtain ⟨Q, h1, h2⟩ := jr_bf_all h hL f n
    refine (jr_forf h1 hi).dok hL ?_
    rw [fd_u3_k (by decide), fd_u3_j (by decide), h2 4 (by decide)]
    exact hT
  · obtain ⟨Q, h1, h2⟩ := jr_bf_all h hL f n
    exact h2 3 (by decide)
theorem jr_en {L : Nat} {M P : fd_Mem} (h : jr L M P) : ∀ n : Nat, (n : Int) ≤ M 0 0 3 → jr L (ds_end M n) (mo_e P n)
  | 0, _ => h
  | n + 1, hn => by
    have g1 := jr_en h n (by omega)
    have h1 := h.1.1
    have h3 := ds_end_0 M 3 n
    have hb := g1.2.1 n (by omega)
    unfold jr_B jr_b at hb
    rw [ds_end_s, mo_e_s]
    by_cases c1 : (ds_end M n) 8 n 3 = 1
    · rw [if_pos c1, if_pos (by omega), ds_up_0seat (by omega)]
      exact jr_end g1 (by omega) (by omega) (by omega) (by omega) (by omega)
    · rw [if_neg c1, if_neg (show ¬ (mo_e P n) 3 0 n = 1 by omega)]
      by_cases c3 : (ds_end M n) 8 n 3 = 3
      · rw [if_pos c3, if_pos (by omega), ds_up_0seat (by omega)]
        exact jr_end g1 (by omega) (by omega) (by omega) (by omega) (by omega)
      · rw [if_neg c3, if_neg (by omega), fd_u3_self]
        exact g1
theorem jr_cb {L : Nat} {M P : fd_Mem} (h : jr L M P) (hL : L ≤ 60) : ∀ f : Nat, jr L (ds_cb L M f).1 (mo_ca P f).1 ∧ (mo_ca P f).2 = (ds_cb L M f).2 ∧ (∀ j, j ≠ 5 → j ≠ 6 → (ds_cb L M f).1 0 0 j = M 0 0 j) ∧ (mo_ca P f).1 0 0 0 = 0
  | 0 => by
    have h1 := h.1.1
    have h2 := h.1.2.1
    have h3 := jr_shut (h.thr 0)
    have e3 : (ds_c0 M) 0 0 3 = M 0 0 3 := by simp [ds_c0, fd_u3_at]
    have h4 := jr_en h3 (M 0 0 3).toNat (by rw [e3]; omega)
    refine ⟨?_, rfl, fun j hj hj6 => ?_, ?_⟩
    · show jr L (ds_end (ds_c0 M) (M 0 0 3).toNat) (mo_e (fd_u3 (fd_u3 P 0 0 0 0) 0 0 4 1) (P 0 0 7).toNat)
      rw [h2.2.2.2.2]
      exact h4
    · show (ds_end (ds_c0 M) (M 0 0 3).toNat) 0 0 j = M 0 0 j
      rw [ds_end_0]
      unfold ds_c0
      rw [fd_u3_j hj6]
    · show (mo_e (fd_u3 (fd_u3 P 0 0 0 0) 0 0 4 1) (P 0 0 7).toNat) 0 0 0 = 0
      rw [mo_e_k _ (by decide), fd_u3_j (by decide), fd_u3_same]
  | f + 1 => by
    obtain ⟨g1, g2, g3, g4⟩ := jr_cb h hL f
    have h1 := h.1.1
    have h2 := h.1.2.1
    have k3 := g3 3 (by decide) (by decide)
    obtain ⟨q1, q2, q3, q4⟩ := jr_bf g1 hL (f : Int) (mo_ca P f).2 (M 0 0 3).toNat (by omega)
    rw [ds_cb_s, mo_ca_s, k3, h2.2.2.2.2]
    refine ⟨q1, ?_, fun j hj hj6 => ?_, ?_⟩
    · rw [show mo_cl (mo_ca P f) (f : Int) (M 0 0 3).toNat = mo_cl ((mo_ca P f).1, (mo_ca P f).2) (f : Int) (M 0 0 3).toNat from rfl, q2, g2]
    · show (ds_bf L (ds_cb L M f).1 (f : Int) (M 0 0 3).toNat).1 0 0 j = M 0 0 j
      rw [q3 j hj, g3 j hj hj6]
    · rw [show mo_cl (mo_ca P f) (f : Int) (M 0 0 3).toNat = mo_cl ((mo_ca P f).1, (mo_ca P f).2) (f : Int) (M 0 0 3).toNat from rfl, q4, g4]
