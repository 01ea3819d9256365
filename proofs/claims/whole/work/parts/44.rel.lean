/-! serving -/
def jr_s (M : fd_Mem) (n : Nat) : Prop := M 8 n 3 = 3 ∧ M 8 n 5 ≤ ds_rm M (M 8 n 4).toNat
theorem jr_s_iff {L : Nat} {M P : fd_Mem} (h : jr L M P) {n : Nat} (hn : n < 60) : (P 3 0 n = 3 ∧ P 5 0 n ≤ mo_r P (-1) ((P 4 0 n).toNat + 1)) ↔ jr_s M n := by
  have hb := h.2.1 n hn
  unfold jr_B jr_b at hb
  rw [show P 3 0 n = M 8 n 3 by omega, show P 4 0 n = M 8 n 4 by omega, show P 5 0 n = M 8 n 5 by omega, h.rm (show (M 8 n 4).toNat < 4 by omega)]
  exact Iff.rfl
theorem ds_sh_mono {M N : fd_Mem} (h : ∀ k, k < 4 → M 5 0 k ≤ N 5 0 k) (f : Nat) : ds_sh M f ≤ ds_sh N f := by
  refine fd_sum_le 4 (fun j hj => ?_)
  have h1 := h j hj
  show (if f ≤ j then M 5 0 j else 0) ≤ (if f ≤ j then N 5 0 j else 0)
  split <;> omega
theorem ds_rm_mono {M N : fd_Mem} (h3 : ∀ k, N 3 0 k = M 3 0 k) (h : ∀ k, k < 4 → M 5 0 k ≤ N 5 0 k) : ∀ f : Nat, ds_rm N f ≤ ds_rm M f
  | 0 => by
    have h1 := ds_sh_mono h 0
    have h2 := h3 0
    show N 3 0 0 - ds_sh N 0 ≤ M 3 0 0 - ds_sh M 0
    omega
  | f + 1 => by
    have h1 := ds_sh_mono h (f + 1)
    have h2 := h3 (f + 1)
    have h4 := ds_rm_mono h3 h f
    show min (ds_rm N f) (N 3 0 (f + 1) - ds_sh N (f + 1)) ≤ min (ds_rm M f) (M 3 0 (f + 1) - ds_sh M (f + 1))
    omega
theorem mo_sv_skip {L : Nat} {M P : fd_Mem} (h : jr L M P) {d b : Nat} (hb : (b : Int) ≤ M 0 0 3) : ∀ (r a : Nat), a + r = b → (∀ n, a ≤ n → n < b → ¬ jr_s M n) → mo_sv (d + r) a P = mo_sv d b P
  | 0, a, e, _ => by rw [show a = b by omega, Nat.add_zero]
  | r + 1, a, e, hn => by
    have h1 := h.1.1
    have h2 := h.1.2.1
    rw [← Nat.add_assoc, mo_sv_s, if_pos (by omega), if_neg (fun q => hn a (Nat.le_refl _) (by omega) ((jr_s_iff h (by omega)).mp q))]
    exact mo_sv_skip h hb r (a + 1) (by omega) (fun n h1 h2 => hn n (by omega) h2)
theorem jr_sv {L : Nat} {M : fd_Mem} : ∀ (r n : Nat) {P : fd_Mem}, ((n + r : Nat) : Int) = M 0 0 3 → jr L (ds_srv M n) P → (∀ n', n' < n → ¬ jr_s (ds_srv M n) n') → ∃ d Q, mo_sv d n P = some Q ∧ jr L (ds_srv M (n + r)) Q ∧ Q 0 0 0 = P 0 0 0
  | 0, n, P, e, h, _ => by
    have h2 := h.1.2.1
    have h3 := ds_srv_0 M 3 n
    refine ⟨1, P, ?_, h, rfl⟩
    rw [mo_sv_s, if_neg (by omega)]
  | r + 1, n, P, e, h, hn => by
    have h1 := h.1.1
    have h2 := h.1.2.1
    have h3 := ds_srv_0 M 3 n
    have hn6 : n < 60 := by omega
    have hb := h.2.1 n hn6
    unfold jr_B jr_b at hb
    by_cases hc : jr_s (ds_srv M n) n
    · have e1 : ds_srv M (n + 1) = ds_hold (ds_srv M n) n := by rw [ds_srv_s]; exact if_pos hc
      have h4 : jr L (ds_srv M (n + 1)) (mo_hd P n) := by
        rw [e1]
        exact jr_hold h hn6 (by omega) (Or.inr hc.1) (by have := hc.1; omega)
      have hk : ∀ n', n' < n + 1 → ¬ jr_s (ds_srv M (n + 1)) n' := by
        intro n' hn' hq
        rw [e1] at hq
        by_cases hq2 : n' = n
        · subst hq2
          have h5 := hq.1
          simp [ds_hold, fd_u3_at] at h5
        · refine hn n' (by omega) ?_
          have h5 := hq.1
          have h6 := hq.2
          have h7 := ds_rm_mono (M := ds_srv M n) (N := ds_hold (ds_srv M n) n) (fun k => by simp [ds_hold, fd_u3_at]) (fun k hk => by
            by_cases hq3 : k = ((ds_srv M n) 8 n 4).toNat
            · subst hq3
              simp [ds_hold, fd_u3_at]
              omega
            · simp [ds_hold, fd_u3_at, hq3]) ((ds_srv M n) 8 n' 4).toNat
          simp [ds_hold, fd_u3_at, hq2] at h5
          have h8 : (ds_hold (ds_srv M n) n) 8 n' 5 = (ds_srv M n) 8 n' 5 := by simp [ds_hold, fd_u3_at]
          have h9 : (ds_hold (ds_srv M n) n) 8 n' 4 = (ds_srv M n) 8 n' 4 := by simp [ds_hold, fd_u3_at]
          rw [h8, h9] at h6
          exact ⟨h5, Int.le_trans h6 h7⟩
      obtain ⟨d, Q, g1, g2, g3⟩ := jr_sv r (n + 1) (P := mo_hd P n) (by omega) h4 hk
      refine ⟨d + (n + 1) + 1, Q, ?_, ?_, ?_⟩
      · rw [mo_sv_s, if_pos (by omega), if_pos ((jr_s_iff h hn6).mpr hc), mo_sv_skip h4 (b := n + 1) (by have := ds_srv_0 M 3 (n + 1); omega) (n + 1) 0 (by omega) (fun n' _ h2 => hk n' h2)]
        exact g1
      · rw [show n + (r + 1) = n + 1 + r by omega]
        exact g2
      · rw [g3]
        simp [mo_hd, fd_u3_at]
    · have e1 : ds_srv M (n + 1) = ds_srv M n := by rw [ds_srv_s]; exact if_neg hc
      have h4 : jr L (ds_srv M (n + 1)) P := by rw [e1]; exact h
      have hk : ∀ n', n' < n + 1 → ¬ jr_s (ds_srv M (n + 1)) n' := by
        intro n' hn'
        rw [e1]
        by_cases hq2 : n' = n
        · rw [hq2]; exact hc
        · exact hn n' (by omega)
      obtain ⟨d, Q, g1, g2, g3⟩ := jr_sv r (n + 1) (P := P) (by omega) h4 hk
      refine ⟨d + 1, Q, ?_, ?_, g3⟩
      · rw [mo_sv_s, if_pos (by omega), if_neg (fun q => hc ((jr_s_iff h hn6).mp q))]
        exact g1
      · rw [show n + (r + 1) = n + 1 + r by omega]
        exact g2
theorem jr_srv {L : Nat} {M P : fd_Mem} (h : jr L M P) : ∀ n : Nat, (n : Int) ≤ M 0 0 3 → ∃ Q, jr L (ds_srv M n) Q
  | 0, _ => ⟨P, h⟩
  | n + 1, hn => by
    obtain ⟨Q, hQ⟩ := jr_srv h n (by omega)
    have h1 := h.1.1
    have h3 := ds_srv_0 M 3 n
    have hb := hQ.2.1 n (by omega)
    unfold jr_B jr_b at hb
    rw [ds_srv_s]
    split
    · next hc => exact ⟨_, jr_hold hQ (by omega) (by omega) (Or.inr hc.1) (by have := hc.1; omega)⟩
    · exact ⟨Q, hQ⟩
theorem jr.sok {L : Nat} {M P : fd_Mem} (h : jr L M P) (hL : L ≤ 60) (hT : M 0 0 4 ≤ 1000000) : ds_sok L M := by
  refine ⟨h.1.1.1, fun n hn => ?_⟩
  obtain ⟨Q, hQ⟩ := jr_srv h n hn
  exact hQ.dok hL (by rw [ds_srv_0]; exact hT)
theorem jr_serve {L : Nat} {M P : fd_Mem} (h : jr L M P) : ∃ d Q, mo_sv d 0 P = some Q ∧ jr L (ds_serve M) Q ∧ Q 0 0 0 = P 0 0 0 := by
  have h1 := h.1.1
  obtain ⟨d, Q, g1, g2, g3⟩ := jr_sv (L := L) (M := M) (M 0 0 3).toNat 0 (P := P) (by omega) h (fun n' hn' => absurd hn' (by omega))
  rw [Nat.zero_add] at g2
  exact ⟨d, Q, g1, g2, g3⟩
/-! ticks -/
theorem ds_up_0seat {M : fd_Mem} {i : Nat} (h : M 8 i 2 = 0) (z : Int) : ds_up M i z = fd_u3 (ds_less M i) 8 i 3 z := by
  unfold ds_up
  rw [h]
  rfl
theorem jr_ex {L : Nat} {M P : fd_Mem} (h : jr L M P) : ∀ n : Nat, (n : Int) ≤ M 0 0 3 → jr L (ds_ex M n).1 (mo_xp P n).1 ∧ (mo_xp P n).2 = (ds_ex M n).2 ∧ (mo_xp P n).1 0 0 0 = P 0 0 0
  | 0, _ => ⟨h, rfl, rfl⟩
  | n + 1, hn => by
    obtain ⟨g1, g2, g3⟩ := jr_ex h n (by omega)
    have h1 := h.1.1
    have h3 := ds_ex_0 M 3 n
    have a2 := g1.1.2.1
    have hb := g1.2.1 n (by omega)
    unfold jr_B jr_b at hb
    rw [ds_ex_s, mo_xp_s]
    by_cases hc : (ds_ex M n).1 8 n 3 = 1 ∧ (ds_ex M n).1 8 n 8 ≤ (ds_ex M n).1 0 0 4
    · rw [if_pos hc, if_pos (by omega)]
      refine ⟨?_, rfl, ?_⟩
      · show jr L (ds_up (ds_ex M n).1 n 5) (fd_u3 (mo_xp P n).1 3 0 n 5)
        rw [ds_up_0seat (by omega)]
        exact jr_end g1 (by omega) (by omega) (Or.inl hc.1) (by omega) (by omega)
      · show (fd_u3 (mo_xp P n).1 3 0 n 5) 0 0 0 = P 0 0 0
        rw [fd_u3_k (by decide)]
        exact g3
    · rw [if_neg hc, if_neg (by omega)]
      exact ⟨g1, g2, g3⟩
theorem jr_tk1 {L : Nat} {M P : fd_Mem} (h : jr L M P) (hL : L ≤ 60) (hT : M 0 0 4 + 1 ≤ 1000000) (h0 : P 0 0 0 = 0) : ∃ Q, mo_stp P Q ∧ jr L (ds_tk1 M) Q ∧ Q 0 0 0 = 0 ∧ (ds_tk1 M) 0 0 4 = M 0 0 4 + 1 ∧ ds_tok L M := by
  have h1 := jr_tick1 h
  have e3 : (ds_t1 M) 0 0 3 = M 0 0 3 := by simp [ds_t1, fd_u3_at]
  have e4 : (ds_t1 M) 0 0 4 = M 0 0 4 + 1 := by simp [ds_t1, fd_u3_at]
  have a1 := h.1.1
  have a2 := h.1.2.1
  have q3 : (mo_q P) 0 0 0 = P 0 0 0 := by simp [mo_q, fd_u3_at]
  obtain ⟨g1, g2, g3⟩ := jr_ex h1 (M 0 0 3).toNat (by omega)
  have ex : mo_x P = mo_xp (mo_q P) (M 0 0 3).toNat := by unfold mo_x; rw [a2.2.2.2.2]
  have et : (ds_tx M).1 0 0 4 = M 0 0 4 + 1 := by
    show (ds_ex (ds_t1 M) (M 0 0 3).toNat).1 0 0 4 = _
    rw [ds_ex_0, e4]
  have g1' : jr L (ds_tx M).1 (mo_x P).1 := by rw [ex]; exact g1
  have g2' : (mo_x P).2 = (ds_tx M).2 := by rw [ex]; exact g2
  have g3' : (mo_x P).1 0 0 0 = 0 := by rw [ex, g3, q3, h0]
  have hok : ds_tok L M := by
    refine ⟨by omega, ⟨by rw [e3]; exact a1.1, fun n hn => ?_⟩, g1'.sok hL (by omega)⟩
    exact (jr_ex h1 n hn).1.dok hL (by rw [ds_ex_0]; omega)
  have mq : mo_ok (mo_q P) := h1.mok hL (by omega)
  rcases ds_ex_01 (ds_t1 M) (M 0 0 3).toNat with hz | hz
  · have hz' : (ds_tx M).2 = 0 := hz
    refine ⟨(mo_x P).1, ⟨mq, h0, Or.inl ⟨by rw [g2', hz'], rfl⟩⟩, ?_, g3', ?_, hok⟩
    · unfold ds_tk1
      rw [if_pos hz']
      exact g1'
    · unfold ds_tk1
      rw [if_pos hz']
      exact et
  · have hz' : (ds_tx M).2 = 1 := hz
    obtain ⟨d, Q, k1, k2, k3⟩ := jr_serve g1'
    refine ⟨Q, ⟨mq, h0, Or.inr ⟨by rw [g2', hz'], g1'.mok hL (by omega), d, k1⟩⟩, ?_, by rw [k3, g3'], ?_, hok⟩
    · unfold ds_tk1
      rw [if_neg (by omega)]
      exact k2
    · unfold ds_tk1
      rw [if_neg (by omega), ds_serve_0]
      exact et
/-- the ticks, one after another -/
theorem jr_tks {L : Nat} {M P : fd_Mem} (h : jr L M P) (hL : L ≤ 60) (h0 : P 0 0 0 = 0) : ∀ x : Nat, M 0 0 4 + x ≤ 1000000 → ∃ S : Nat → fd_Mem, S 0 = P ∧ (∀ k, k < x → mo_stp (S k) (S (k + 1))) ∧ jr L (ds_tk M x) (S x) ∧ S x 0 0 0 = 0 ∧ (ds_tk M x) 0 0 4 = M 0 0 4 + x ∧ ∀ k, k < x → ds_tok L (ds_tk M k)
  | 0, _ => ⟨fun _ => P, rfl, fun k hk => absurd hk (by omega), h, h0, by show M 0 0 4 = M 0 0 4 + 0; omega, fun k hk => absurd hk (by omega)⟩
  | x + 1, hT => by
    obtain ⟨S, s0, s1, s2, s3, s4, s5⟩ := jr_tks h hL h0 x (by omega)
    obtain ⟨Q, k1, k2, k3, k4, k5⟩ := jr_tk1 s2 hL (by omega) s3
    refine ⟨fun k => if k ≤ x then S k else Q, ?_, fun k hk => ?_, ?_, ?_, ?_, fun k hk => ?_⟩
    · show (if 0 ≤ x then S 0 else Q) = P
      rw [if_pos (by omega)]
      exact s0
    · show mo_stp (if k ≤ x then S k else Q) (if k + 1 ≤ x then S (k + 1) else Q)
      rw [if_pos (by omega)]
      by_cases hq : k + 1 ≤ x
      · rw [if_pos hq]
        exact s1 k (by omega)
      · rw [if_neg hq, show k = x by omega]
        exact k1
    · show jr L (ds_tk M (x + 1)) (if x + 1 ≤ x then S (x + 1) else Q)
      rw [if_neg (by omega), ds_tk_s]
      exact k2
    · show (if x + 1 ≤ x then S (x + 1) else Q) 0 0 0 = 0
      rw [if_neg (by omega)]
      exact k3
    · rw [ds_tk_s, k4, s4]
      omega
    · by_cases hq : k < x
      · exact s5 k hq
      · rw [show k = x by omega]
        exact k5
