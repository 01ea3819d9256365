section JC2
variable {l : Launch} {D : va_G} {cI cB cJ : ClassId} {L : Nat} {ad : Nat → Nat → Nat} {M P : fd_Mem} {o : Int}
theorem jc_cancel (h : jr L M P) (hL : L ≤ 60) (hT : M 0 0 4 + 100 ≤ 1000000) (hl : l.stackTraces = false) {a : Int} (ia : fd_in a) : jc_i l D cI cB cJ L ad M P o yL_cancel wL_cancel [.ref (ad 0 0), .int (fd_I a), .ref (ad 10 0)] yM_cancel wM_cancel [.ref (la_ad ad 0 0), .int (fd_I a)] := by
  have hok := h.dok hL (by omega)
  have mok := h.mok hL (by omega)
  have a1 := h.1.1
  have a2 := h.1.2.1
  by_cases ha : a < 0 ∨ M 0 0 3 ≤ a
  · exact ⟨1, 0, o, M, _, 1, 6, _, hL_cancel_I l D cI cB cJ L ad M P o a ⟨rfl, rfl, by decide, by decide⟩ (mD_cancel_TB l D cI cB L ad M a ia ha a1.1 hl), by omega, by omega, ⟨rfl, rfl, by decide, by decide⟩, mM_cancel_B l D cI (la_ad ad) P a ia mok (by omega), fd_u3_same _ _ _ _ _, fun q => absurd q (by decide), h.thr 1, by omega⟩
  · obtain ⟨n, rfl⟩ := jc_nat (a := a) (by omega)
    have hn6 : n < 60 := by omega
    have hb := h.2.1 n hn6
    unfold jr_B jr_b at hb
    by_cases hs : M 8 n 3 = 1 ∨ M 8 n 3 = 2 ∨ M 8 n 3 = 3
    · by_cases h2 : M 8 n 3 = 2
      · obtain ⟨p1, p2⟩ := jr_pay (h.thr 0) hn6 h2 (n := M 8 n 5) (by omega)
        have e3 : (ds_pay M n (M 8 n 5)) 8 n 3 = M 8 n 3 := by simp [ds_pay, fd_u3_at]
        have e2 : (ds_pay M n (M 8 n 5)) 8 n 2 = M 8 n 2 := by simp [ds_pay, fd_u3_at]
        have e03 : (ds_pay M n (M 8 n 5)) 0 0 3 = M 0 0 3 := by simp [ds_pay, fd_u3_at]
        have e04 : (ds_pay M n (M 8 n 5)) 0 0 4 = M 0 0 4 := by simp [ds_pay, fd_u3_at]
        have q1 := jr_up p1 hL hn6 (by omega) (by omega) (z := 4) (by omega)
        have e5 : P 5 0 n = M 8 n 5 := by omega
        have e9 : (mo_gbk (fd_u3 P 0 0 0 0) n (P 5 0 n)) 9 0 n = P 9 0 n := by simp [mo_gbk, fd_u3_at]
        have q2 : jr L (ds_can M n) (fd_u3 (mo_lv n ((mo_gbk (fd_u3 P 0 0 0 0) n (P 5 0 n)) 9 0 n - 0).toNat (mo_gbk (fd_u3 P 0 0 0 0) n (P 5 0 n))) 3 0 n 4) := by
          rw [e9, e5, show (P 9 0 n - 0).toNat = (M 8 n 2).toNat by omega]
          rw [e2] at q1
          exact q1
        have e4 : (ds_can M n) 0 0 4 = M 0 0 4 := by unfold ds_can; rw [ds_up_0, e04]
        obtain ⟨d, Q, g1, g2, g3⟩ := jr_serve q2
        refine ⟨0, _, _, _, Q, 0, 0, _, hL_cancel l D cI cB cJ L ad M P o n ⟨rfl, rfl, by decide, by decide⟩ (mD_cancel l D cI cB L ad M n (by omega) hok hs hL (p1.dok hL (by omega)) (q2.sok hL (by omega))), by omega, by omega, ⟨rfl, rfl, by decide, by decide⟩, mM_cancel_c l D cI (la_ad ad) P n (by omega) mok (by omega) (by omega) (q2.mok hL (by omega)) d Q g1, ?_, fun _ => ?_, g2, by rw [ds_serve_0, e4]; omega⟩
        · rw [g3, fd_u3_k (by decide), mo_lv_k (by decide) (by decide)]
          simp [mo_gbk, fd_u3_at]
        · rw [e5, p2]
      · have hp0 : M 8 n 6 = 0 := by omega
        obtain ⟨p1, p2⟩ := ds_pay_0 hp0 (M 8 n 5)
        have q1 := jr_up (h.thr 0) hL hn6 (by omega) hs (z := 4) (by omega)
        have q2 : jr L (ds_can M n) (fd_u3 (mo_lv n ((fd_u3 P 0 0 0 0) 9 0 n - 0).toNat (fd_u3 P 0 0 0 0)) 3 0 n 4) := by
          unfold ds_can
          rw [p1, fd_u3_k (by decide), show (P 9 0 n - 0).toNat = (M 8 n 2).toNat by omega]
          exact q1
        have e4 : (ds_can M n) 0 0 4 = M 0 0 4 := by unfold ds_can; rw [ds_up_0, p1]
        obtain ⟨d, Q, g1, g2, g3⟩ := jr_serve q2
        refine ⟨0, _, _, _, Q, 0, 0, _, hL_cancel l D cI cB cJ L ad M P o n ⟨rfl, rfl, by decide, by decide⟩ (mD_cancel l D cI cB L ad M n (by omega) hok hs hL (by rw [p1]; exact hok) (q2.sok hL (by omega))), by omega, by omega, ⟨rfl, rfl, by decide, by decide⟩, mM_cancel l D cI (la_ad ad) P n (by omega) mok (by omega) (q2.mok hL (by omega)) d Q g1, ?_, fun _ => p2, g2, by rw [ds_serve_0, e4]; omega⟩
        rw [g3, fd_u3_k (by decide), mo_lv_k (by decide) (by decide), fd_u3_same]
    · exact ⟨2, 0, o, M, _, 1, 6, _, hL_cancel_S l D cI cB cJ L ad M P o n ⟨rfl, rfl, by decide, by decide⟩ (mD_cancel_TS l D cI cB L ad M n (by omega) hok hs hl), by omega, by omega, ⟨rfl, rfl, by decide, by decide⟩, mM_cancel_2 l D cI (la_ad ad) P n (by omega) mok (by omega), fd_u3_same _ _ _ _ _, fun q => absurd q (by decide), h.thr 2, by omega⟩
theorem jc_shrink (h : jr L M P) (hL : L ≤ 60) (hT : M 0 0 4 + 100 ≤ 1000000) (hl : l.stackTraces = false) {a b : Int} (ia : fd_in a) (ib : fd_in b) : jc_i l D cI cB cJ L ad M P o yL_shrink wL_shrink [.ref (ad 0 0), .int (fd_I a), .int (fd_I b), .ref (ad 10 0)] yM_shrink wM_shrink [.ref (la_ad ad 0 0), .int (fd_I a), .int (fd_I b)] := by
  have hok := h.dok hL (by omega)
  have mok := h.mok hL (by omega)
  have a1 := h.1.1
  have a2 := h.1.2.1
  by_cases ha : a < 0 ∨ M 0 0 3 ≤ a
  · exact ⟨1, 0, o, M, _, 1, 6, _, hL_shrink_I l D cI cB cJ L ad M P o a b ⟨rfl, rfl, by decide, by decide⟩ (mD_shrink_TB l D cI cB L ad M a ia ha a1.1 b hl), by omega, by omega, ⟨rfl, rfl, by decide, by decide⟩, mM_shrink_B l D cI (la_ad ad) P a b ia mok (by omega), fd_u3_same _ _ _ _ _, fun q => absurd q (by decide), h.thr 1, by omega⟩
  · obtain ⟨n, rfl⟩ := jc_nat (a := a) (by omega)
    have hn6 : n < 60 := by omega
    have hb := h.2.1 n hn6
    unfold jr_B jr_b at hb
    by_cases hx : b < 1 ∨ M 8 n 5 ≤ b
    · exact ⟨1, 0, o, M, _, 1, 6, _, hL_shrink_I l D cI cB cJ L ad M P o n b ⟨rfl, rfl, by decide, by decide⟩ (mD_shrink_TI l D cI cB L ad M n (by omega) hok b ib hx hl), by omega, by omega, ⟨rfl, rfl, by decide, by decide⟩, mM_shrink_1 l D cI (la_ad ad) P n (by omega) mok b ib (by omega), fd_u3_same _ _ _ _ _, fun q => absurd q (by decide), h.thr 1, by omega⟩
    · by_cases hs : M 8 n 3 = 1 ∨ M 8 n 3 = 2 ∨ M 8 n 3 = 3
      · have e0 : ∀ Y : fd_Mem, (ds_take n (M 8 n 2 - (M 8 n 5 - b)).toNat (ds_shs (ds_shl Y n b) n b)) 0 0 4 = Y 0 0 4 := fun Y => by
          rw [ds_take_0]
          unfold ds_shs
          rw [fd_u3_k (by decide)]
          unfold ds_shl
          split
          · rw [fd_u3_k (by decide)]
          · rfl
        by_cases h2 : M 8 n 3 = 2
        · obtain ⟨p1, p2⟩ := jr_pay (h.thr 0) hn6 h2 (n := b) (by omega)
          have e3 : (ds_pay M n b) 8 n 3 = M 8 n 3 := by simp [ds_pay, fd_u3_at]
          have e2 : (ds_pay M n b) 8 n 2 = M 8 n 2 := by simp [ds_pay, fd_u3_at]
          have e5 : (ds_pay M n b) 8 n 5 = M 8 n 5 := by simp [ds_pay, fd_u3_at]
          have e04 : (ds_pay M n b) 0 0 4 = M 0 0 4 := by simp [ds_pay, fd_u3_at]
          have q1 := jr_shr p1 hL hn6 (by omega) (k := b) (by omega)
          rw [e2, e5] at q1
          have q2 : jr L (ds_shr M n b) (mo_lv n ((mo_gbk (fd_u3 P 0 0 0 0) n b) 9 0 n - ((mo_gbk (fd_u3 P 0 0 0 0) n b) 5 0 n - b)).toNat (fd_u3 (mo_gbk (fd_u3 P 0 0 0 0) n b) 5 0 n ((mo_gbk (fd_u3 P 0 0 0 0) n b) 5 0 n - b))) := q1
          have e4 : (ds_shr M n b) 0 0 4 = M 0 0 4 := by unfold ds_shr; rw [e0, e04]
          obtain ⟨d, Q, g1, g2, g3⟩ := jr_serve q2
          refine ⟨0, _, _, _, Q, 0, 0, _, hL_shrink l D cI cB cJ L ad M P o n b ⟨rfl, rfl, by decide, by decide⟩ (mD_shrink l D cI cB L ad M n (by omega) hok b (by omega) hs hL (q2.sok hL (by omega))), by omega, by omega, ⟨rfl, rfl, by decide, by decide⟩, mM_shrink_c l D cI (la_ad ad) P n (by omega) mok b (by omega) (by omega) (q2.mok hL (by omega)) d Q g1, ?_, fun _ => p2.symm, g2, by rw [ds_serve_0, e4]; omega⟩
          rw [g3, mo_lv_k (by decide) (by decide), fd_u3_k (by decide)]
          simp [mo_gbk, fd_u3_at]
        · have hp0 : M 8 n 6 = 0 := by omega
          obtain ⟨p1, p2⟩ := ds_pay_0 hp0 b
          have q1 := jr_shr (h.thr 0) hL hn6 hs (k := b) (by omega)
          have q2 : jr L (ds_shr M n b) (mo_lv n ((fd_u3 (fd_u3 P 0 0 0 0) 5 0 n (P 5 0 n - b)) 9 0 n - (P 5 0 n - b)).toNat (fd_u3 (fd_u3 P 0 0 0 0) 5 0 n (P 5 0 n - b))) := by
            unfold ds_shr
            rw [p1]
            exact q1
          have e4 : (ds_shr M n b) 0 0 4 = M 0 0 4 := by unfold ds_shr; rw [e0, p1]
          obtain ⟨d, Q, g1, g2, g3⟩ := jr_serve q2
          refine ⟨0, _, _, _, Q, 0, 0, _, hL_shrink l D cI cB cJ L ad M P o n b ⟨rfl, rfl, by decide, by decide⟩ (mD_shrink l D cI cB L ad M n (by omega) hok b (by omega) hs hL (q2.sok hL (by omega))), by omega, by omega, ⟨rfl, rfl, by decide, by decide⟩, mM_shrink l D cI (la_ad ad) P n (by omega) mok b (by omega) (by omega) (q2.mok hL (by omega)) d Q g1, ?_, fun _ => p2, g2, by rw [ds_serve_0, e4]; omega⟩
          rw [g3, mo_lv_k (by decide) (by decide), fd_u3_k (by decide), fd_u3_same]
      · exact ⟨2, 0, o, M, _, 1, 6, _, hL_shrink_S l D cI cB cJ L ad M P o n b ⟨rfl, rfl, by decide, by decide⟩ (mD_shrink_TS l D cI cB L ad M n (by omega) hok b (by omega) hs hl), by omega, by omega, ⟨rfl, rfl, by decide, by decide⟩, mM_shrink_2 l D cI (la_ad ad) P n (by omega) mok b (by omega) (by omega), fd_u3_same _ _ _ _ _, fun q => absurd q (by decide), h.thr 2, by omega⟩
theorem jc_change (h : jr L M P) (hL : L ≤ 60) (hT : M 0 0 4 + 100 ≤ 1000000) (hl : l.stackTraces = false) {a b : Int} (ia : fd_in a) (ib : fd_in b) : jc_v l D cI cB cJ L ad M P o yL_change wL_change [.ref (ad 0 0), .int (fd_I a), .int (fd_I b)] yM_change wM_change [.ref (la_ad ad 0 0), .int (fd_I a), .int (fd_I b)] := by
  have hok := h.dok hL (by omega)
  have mok := h.mok hL (by omega)
  have a1 := h.1.1
  have a2 := h.1.2.1
  by_cases ha : a < 0 ∨ M 0 0 3 ≤ a
  · exact ⟨1, M, _, 1, 6, _, hL_change_I l D cI cB cJ L ad M P o a b ⟨rfl, rfl, by decide, by decide⟩ (mD_change_TB l D cI cB L ad M a ia ha a1.1 b hl), by omega, by omega, ⟨rfl, rfl, by decide, by decide⟩, mM_change_B l D cI (la_ad ad) P a b ia mok (by omega), fd_u3_same _ _ _ _ _, h.thr 1, by omega⟩
  · obtain ⟨n, rfl⟩ := jc_nat (a := a) (by omega)
    have hn6 : n < 60 := by omega
    have hb := h.2.1 n hn6
    unfold jr_B jr_b at hb
    by_cases hf : b < 0 ∨ 4 ≤ b
    · exact ⟨1, M, _, 1, 6, _, hL_change_I l D cI cB cJ L ad M P o n b ⟨rfl, rfl, by decide, by decide⟩ (mD_change_TF l D cI cB L ad M n (by omega) hok b ib hf hl), by omega, by omega, ⟨rfl, rfl, by decide, by decide⟩, mM_change_F l D cI (la_ad ad) P n (by omega) mok b ib hf, fd_u3_same _ _ _ _ _, h.thr 1, by omega⟩
    · obtain ⟨f, rfl⟩ := jc_nat (a := b) (by omega)
      have hf4 : f < 4 := by omega
      have ef : ((f : Nat) : Int).toNat = f := by omega
      by_cases hs : M 8 n 3 = 1 ∨ M 8 n 3 = 2
      · have er := h.rmw hn6 hs hf4
        have b2 : ds_b35 (fd_u3 M 5 0 (M 8 n 4).toNat (M 5 0 (M 8 n 4).toNat - M 8 n 5)) := by
          intro k hk
          have h1 := h.1.2.2 k hk
          have h2 := jr_sh_bd h hk
          rw [fd_u3_k (by decide)]
          refine ⟨h1.1, ?_⟩
          by_cases hq : k = (M 8 n 4).toNat
          · subst hq
            rw [fd_u3_same]
            omega
          · rw [fd_u3_j hq]
            omega
        by_cases hr : M 8 n 5 ≤ ds_rm (fd_u3 M 5 0 (M 8 n 4).toNat (M 5 0 (M 8 n 4).toNat - M 8 n 5)) f
        · have q2 : jr L (ds_chg M n f) (fd_u3 (fd_u3 P 0 0 0 0) 4 0 n (f : Int)) := jr_chg (h.thr 0) hn6 hs hf4
          have e4 : (ds_chg M n f) 0 0 4 = M 0 0 4 := by simp [ds_chg, fd_u3_at]
          obtain ⟨d, Q, g1, g2, g3⟩ := jr_serve q2
          refine ⟨0, _, Q, 0, 0, _, hL_change l D cI cB cJ L ad M P o n f ⟨rfl, rfl, by decide, by decide⟩ (mD_change l D cI cB L ad M n (by omega) hok f hf4 hs b2 hr (q2.sok hL (by omega))), by omega, by omega, ⟨rfl, rfl, by decide, by decide⟩, mM_change l D cI (la_ad ad) P n (by omega) mok f (by omega) (by omega) (by rw [ef, er]; omega) (q2.mok hL (by omega)) d Q g1, ?_, g2, by rw [ds_serve_0, e4]; omega⟩
          rw [g3, fd_u3_k (by decide), fd_u3_same]
        · exact ⟨3, M, _, 1, 6, _, hL_change_U l D cI cB cJ L ad M P o n f ⟨rfl, rfl, by decide, by decide⟩ (mD_change_TU l D cI cB L ad M n (by omega) hok f hf4 hs b2 (by omega) hl), by omega, by omega, ⟨rfl, rfl, by decide, by decide⟩, mM_change_3 l D cI (la_ad ad) P n (by omega) mok f (by omega) (by omega) (by rw [ef, er]; omega), fd_u3_same _ _ _ _ _, h.thr 3, by omega⟩
      · exact ⟨2, M, _, 1, 6, _, hL_change_S l D cI cB cJ L ad M P o n f ⟨rfl, rfl, by decide, by decide⟩ (mD_change_TS l D cI cB L ad M n (by omega) hok f hf4 hs hl), by omega, by omega, ⟨rfl, rfl, by decide, by decide⟩, mM_change_2 l D cI (la_ad ad) P n (by omega) mok f (by omega) (by omega), fd_u3_same _ _ _ _ _, h.thr 2, by omega⟩
theorem jc_seat (h : jr L M P) (hL : L ≤ 60) (hT : M 0 0 4 + 100 ≤ 1000000) (hl : l.stackTraces = false) {a b : Int} (ia : fd_in a) (ib : fd_in b) : jc_i l D cI cB cJ L ad M P o yL_seat wL_seat [.ref (ad 0 0), .int (fd_I a), .int (fd_I b), .ref (ad 10 0)] yM_seat wM_seat [.ref (la_ad ad 0 0), .int (fd_I a), .int (fd_I b)] := by
  have hok := h.dok hL (by omega)
  have mok := h.mok hL (by omega)
  have a1 := h.1.1
  have a2 := h.1.2.1
  by_cases ha : a < 0 ∨ M 0 0 3 ≤ a
  · exact ⟨1, 0, o, M, _, 1, 6, _, hL_seat_I l D cI cB cJ L ad M P o a b ⟨rfl, rfl, by decide, by decide⟩ (mD_seat_TB l D cI cB L ad M a ia ha a1.1 b hl), by omega, by omega, ⟨rfl, rfl, by decide, by decide⟩, mM_seat_B l D cI (la_ad ad) P a b ia mok (by omega), fd_u3_same _ _ _ _ _, fun q => absurd q (by decide), h.thr 1, by omega⟩
  · obtain ⟨n, rfl⟩ := jc_nat (a := a) (by omega)
    have hn6 : n < 60 := by omega
    have hb := h.2.1 n hn6
    unfold jr_B jr_b at hb
    by_cases hx : b < 0 ∨ (L : Int) ≤ b
    · exact ⟨1, 0, o, M, _, 1, 6, _, hL_seat_I l D cI cB cJ L ad M P o n b ⟨rfl, rfl, by decide, by decide⟩ (mD_seat_TI l D cI cB L ad M n (by omega) hok hL b ib hx hl), by omega, by omega, ⟨rfl, rfl, by decide, by decide⟩, mM_seat_1 l D cI (la_ad ad) P n (by omega) mok b ib (by omega), fd_u3_same _ _ _ _ _, fun q => absurd q (by decide), h.thr 1, by omega⟩
    · obtain ⟨t, rfl⟩ := jc_nat (a := b) (by omega)
      have ht : t < L := by omega
      have h7 := h.2.2.2.2.1 t ht
      by_cases hs : M 8 n 3 = 2 ∧ M 8 n 2 < M 8 n 5
      · by_cases hf : M 7 0 t = -1
        · have q2 := jr_give (h.thr 0) hL hn6 ht hs.1 hs.2 hf
          have e4 : (ds_give M n t) 0 0 4 = M 0 0 4 := by simp [ds_give, fd_u3_at]
          refine ⟨0, _, _, _, _, 0, 0, _, hL_seat l D cI cB cJ L ad M P o n t ⟨rfl, rfl, by decide, by decide⟩ (mD_seat l D cI cB L ad M n (by omega) hok t ht hL hs hf), by omega, by omega, ⟨rfl, rfl, by decide, by decide⟩, mM_seat l D cI (la_ad ad) P n (by omega) mok t (by omega) (by omega) (by omega), ?_, fun _ => by omega, q2, by omega⟩
          simp [mo_gv, fd_u3_at]
        · exact ⟨3, 0, o, M, _, 1, 6, _, hL_seat_U l D cI cB cJ L ad M P o n t ⟨rfl, rfl, by decide, by decide⟩ (mD_seat_TU l D cI cB L ad M n (by omega) hok t ht hL hs hf hl), by omega, by omega, ⟨rfl, rfl, by decide, by decide⟩, mM_seat_3 l D cI (la_ad ad) P n (by omega) mok t (by omega) (by omega) (by omega), fd_u3_same _ _ _ _ _, fun q => absurd q (by decide), h.thr 3, by omega⟩
      · exact ⟨2, 0, o, M, _, 1, 6, _, hL_seat_S l D cI cB cJ L ad M P o n t ⟨rfl, rfl, by decide, by decide⟩ (mD_seat_TS l D cI cB L ad M n (by omega) hok t ht hL hs hl), by omega, by omega, ⟨rfl, rfl, by decide, by decide⟩, mM_seat_2 l D cI (la_ad ad) P n (by omega) mok t (by omega) (by omega), fd_u3_same _ _ _ _ _, fun q => absurd q (by decide), h.thr 2, by omega⟩
theorem jc_together (h : jr L M P) (hL : L ≤ 60) (h6 : L % 6 = 0) (hT : M 0 0 4 + 100 ≤ 1000000) (hl : l.stackTraces = false) {a : Int} (ia : fd_in a) : jc_i l D cI cB cJ L ad M P o yL_together wL_together [.ref (ad 0 0), .int (fd_I a), .ref (ad 10 0)] yM_together wM_together [.ref (la_ad ad 0 0), .int (fd_I a)] := by
  have hok := h.dok hL (by omega)
  have mok := h.mok hL (by omega)
  have a1 := h.1.1
  have a2 := h.1.2.1
  have hfr := h.fr
  by_cases ha : a < 0 ∨ M 0 0 3 ≤ a
  · exact ⟨1, 0, o, M, _, 1, 6, _, hL_together_I l D cI cB cJ L ad M P o a ⟨rfl, rfl, by decide, by decide⟩ (mD_together_TB l D cI cB L ad M a ia ha a1.1 hl), by omega, by omega, ⟨rfl, rfl, by decide, by decide⟩, mM_together_B l D cI (la_ad ad) P a ia mok (by omega), fd_u3_same _ _ _ _ _, fun q => absurd q (by decide), h.thr 1, by omega⟩
  · obtain ⟨n, rfl⟩ := jc_nat (a := a) (by omega)
    have hn6 : n < 60 := by omega
    have hb := h.2.1 n hn6
    unfold jr_B jr_b at hb
    by_cases hs : M 8 n 3 = 2 ∧ M 8 n 2 < M 8 n 5
    · by_cases hf : M 6 0 1 < M 8 n 5 - M 8 n 2
      · exact ⟨3, 0, o, M, _, 1, 6, _, hL_together_U l D cI cB cJ L ad M P o n ⟨rfl, rfl, by decide, by decide⟩ (mD_together_TU l D cI cB L ad M n (by omega) hok hs hf hl), by omega, by omega, ⟨rfl, rfl, by decide, by decide⟩, mM_together_3 l D cI (la_ad ad) P n (by omega) mok (by omega) (by omega), fd_u3_same _ _ _ _ _, fun q => absurd q (by decide), h.thr 3, by omega⟩
      · obtain ⟨q1, q2, q3, q4, q5⟩ := jr_tog (h.thr 0) hL h6 hn6 hs (by omega)
        have e4 := q4 4
        refine ⟨0, _, _, _, _, 0, 0, _, hL_together l D cI cB cJ L ad M P o n ⟨rfl, rfl, by decide, by decide⟩ (mD_together l D cI cB L ad M n (by omega) hok hL hs (by omega) q1), by omega, by omega, ⟨rfl, rfl, by decide, by decide⟩, mM_together l D cI (la_ad ad) P n (by omega) mok (by omega) (by omega), ?_, fun _ => q3.symm, q2, by omega⟩
        rw [q5, fd_u3_same]
    · exact ⟨2, 0, o, M, _, 1, 6, _, hL_together_S l D cI cB cJ L ad M P o n ⟨rfl, rfl, by decide, by decide⟩ (mD_together_TS l D cI cB L ad M n (by omega) hok hs hl), by omega, by omega, ⟨rfl, rfl, by decide, by decide⟩, mM_together_2 l D cI (la_ad ad) P n (by omega) mok (by omega), fd_u3_same _ _ _ _ _, fun q => absurd q (by decide), h.thr 2, by omega⟩
theorem jc_tick (h : jr L M P) (hL : L ≤ 60) (hT : M 0 0 4 + 100 ≤ 1000000) (hl : l.stackTraces = false) {a : Int} (ia : fd_in a) : jc_v l D cI cB cJ L ad M P o yL_tick wL_tick [.ref (ad 0 0), .int (fd_I a)] yM_tick wM_tick [.ref (la_ad ad 0 0), .int (fd_I a)] := by
  by_cases ha : a < 1 ∨ 100 < a
  · exact ⟨1, M, _, 1, 6, _, hL_tick_I l D cI cB cJ L ad M P o a ⟨rfl, rfl, by decide, by decide⟩ (mD_tick_TI l D cI cB L ad M a ia ha hl), by omega, by omega, ⟨rfl, rfl, by decide, by decide⟩, mM_tick_1 l D cI (la_ad ad) P a ia ha, fd_u3_same _ _ _ _ _, h.thr 1, by omega⟩
  · obtain ⟨x, rfl⟩ := jc_nat (a := a) (by omega)
    obtain ⟨S, s0, s1, s2, s3, s4, s5⟩ := jr_tks (h.thr 0) hL (fd_u3_same _ _ _ _ _) x (by omega)
    exact ⟨0, _, S x, 0, 0, _, hL_tick l D cI cB cJ L ad M P o x ⟨rfl, rfl, by decide, by decide⟩ (mD_tick l D cI cB L ad M x (by omega) hL s5), by omega, by omega, ⟨rfl, rfl, by decide, by decide⟩, mM_tick l D cI (la_ad ad) P x (by omega) S s0 s1, s3, s2, by omega⟩
theorem jc_close (h : jr L M P) (hL : L ≤ 60) (hT : M 0 0 4 + 100 ≤ 1000000) (hl : l.stackTraces = false) : jc_i l D cI cB cJ L ad M P o yL_close wL_close [.ref (ad 0 0), .ref (ad 10 0)] yM_close wM_close [.ref (la_ad ad 0 0)] := by
  have hok := h.dok hL (by omega)
  have mok := h.mok hL (by omega)
  have a1 := h.1.1
  have a2 := h.1.2.1
  by_cases hc : M 0 0 6 = 1
  · exact ⟨1, 0, o, M, _, 1, 6, _, hL_close_S l D cI cB cJ L ad M P o ⟨rfl, rfl, by decide, by decide⟩ (mD_close_TS l D cI cB L ad M hc hl), by omega, by omega, ⟨rfl, rfl, by decide, by decide⟩, mM_close_1 l D cI (la_ad ad) P (by omega), fd_u3_same _ _ _ _ _, fun q => absurd q (by decide), h.thr 1, by omega⟩
  · have h3 := jr_shut h
    have e3 : (ds_c0 M) 0 0 3 = M 0 0 3 := by simp [ds_c0, fd_u3_at]
    have e4 : (ds_c0 M) 0 0 4 = M 0 0 4 := by simp [ds_c0, fd_u3_at]
    obtain ⟨q1, q2, q3, q4⟩ := jr_cb h hL 4
    have t4 := q3 4 (by decide) (by decide)
    refine ⟨0, _, _, _, _, 0, 0, _, hL_close l D cI cB cJ L ad M P o ⟨rfl, rfl, by decide, by decide⟩ (mD_close l D cI cB L ad M hok (by omega) hL (fun n hn => (jr_en h3 n (by omega)).dok hL (by rw [ds_end_0]; omega)) (fun f _ => ?_)), by omega, by omega, ⟨rfl, rfl, by decide, by decide⟩, mM_close l D cI (la_ad ad) P (by omega) mok (fun f b hf hb => ?_), q4, fun _ => q2.symm, q1, by omega⟩
    · obtain ⟨r1, r2, r3, r4⟩ := jr_cb h hL f
      have t9 := r3 4 (by decide) (by decide)
      exact r1.bok hL (by omega) _
    · obtain ⟨r1, r2, r3, r4⟩ := jr_cb h hL f
      have t9 := r3 4 (by decide) (by decide)
      have t8 := r3 3 (by decide) (by decide)
      obtain ⟨u1, u2, u3, u4⟩ := jr_bf r1 hL (f : Int) (mo_ca P f).2 b (by omega)
      have u5 := u3 4 (by decide)
      have u6 := u3 3 (by decide)
      have u7 := u1.1.2.1.2.2.2.2
      exact ⟨u1.mok hL (by omega), by rw [show mo_cl (mo_ca P f) ((f : Nat) : Int) b = mo_cl ((mo_ca P f).1, (mo_ca P f).2) ((f : Nat) : Int) b from rfl]; omega⟩
theorem jc_of (h : jr L M P) (hL : L ≤ 60) (hT : M 0 0 4 + 100 ≤ 1000000) (hl : l.stackTraces = false) {a b : Int} (ia : fd_in a) (ib : fd_in b) : jc_i l D cI cB cJ L ad M P o yL_of wL_of [.ref (ad 0 0), .int (fd_I a), .int (fd_I b), .ref (ad 10 0)] yM_of wM_of [.ref (la_ad ad 0 0), .int (fd_I a), .int (fd_I b)] := by
  have hok := h.dok hL (by omega)
  have mok := h.mok hL (by omega)
  have a1 := h.1.1
  have a2 := h.1.2.1
  by_cases ha : a < 0 ∨ M 0 0 3 ≤ a
  · exact ⟨1, 0, o, M, _, 1, 6, _, hL_of_I l D cI cB cJ L ad M P o a b ⟨rfl, rfl, by decide, by decide⟩ (mD_of_TB l D cI cB L ad M a ia ha a1.1 b hl), by omega, by omega, ⟨rfl, rfl, by decide, by decide⟩, mM_of_B l D cI (la_ad ad) P a b ia mok (by omega), fd_u3_same _ _ _ _ _, fun q => absurd q (by decide), h.thr 1, by omega⟩
  · obtain ⟨n, rfl⟩ := jc_nat (a := a) (by omega)
    have hn6 : n < 60 := by omega
    by_cases hx : b < 0 ∨ 6 < b
    · exact ⟨1, 0, o, M, _, 1, 6, _, hL_of_I l D cI cB cJ L ad M P o n b ⟨rfl, rfl, by decide, by decide⟩ (mD_of_TI l D cI cB L ad M n (by omega) hok b ib hx hl), by omega, by omega, ⟨rfl, rfl, by decide, by decide⟩, mM_of_1 l D cI (la_ad ad) P n (by omega) mok b ib hx, fd_u3_same _ _ _ _ _, fun q => absurd q (by decide), h.thr 1, by omega⟩
    · exact ⟨0, _, _, M, _, 0, 0, _, hL_of l D cI cB cJ L ad M P o n b ⟨rfl, rfl, by decide, by decide⟩ (mD_of l D cI cB L ad M n (by omega) hok b (by omega) hL), by omega, by omega, ⟨rfl, rfl, by decide, by decide⟩, mM_of l D cI (la_ad ad) P n (by omega) mok b (by omega), fd_u3_same _ _ _ _ _, fun _ => (jr_of h hn6 b).symm, h.thr 0, by omega⟩
theorem jc_count (h : jr L M P) (hL : L ≤ 60) (hT : M 0 0 4 + 100 ≤ 1000000) (hl : l.stackTraces = false) {a : Int} (ia : fd_in a) : jc_i l D cI cB cJ L ad M P o yL_count wL_count [.ref (ad 0 0), .int (fd_I a), .ref (ad 10 0)] yM_count wM_count [.ref (la_ad ad 0 0), .int (fd_I a)] := by
  have hok := h.dok hL (by omega)
  have mok := h.mok hL (by omega)
  by_cases ha : a < 0 ∨ 6 < a
  · exact ⟨1, 0, o, M, _, 1, 6, _, hL_count_I l D cI cB cJ L ad M P o a ⟨rfl, rfl, by decide, by decide⟩ (mD_count_TI l D cI cB L ad M a ia ha hl), by omega, by omega, ⟨rfl, rfl, by decide, by decide⟩, mM_count_1 l D cI (la_ad ad) P a ia ha mok, fd_u3_same _ _ _ _ _, fun q => absurd q (by decide), h.thr 1, by omega⟩
  · exact ⟨0, _, _, M, _, 0, 0, _, hL_count l D cI cB cJ L ad M P o a ⟨rfl, rfl, by decide, by decide⟩ (mD_count l D cI cB L ad M hok a (by omega)), by omega, by omega, ⟨rfl, rfl, by decide, by decide⟩, mM_count l D cI (la_ad ad) P a (by omega) mok, fd_u3_same _ _ _ _ _, fun _ => (jr_cnt h a).symm, h.thr 0, by omega⟩
/-- at: the two answers -/
theorem jc_at (h : jr L M P) {x : Int} : (if 0 ≤ x ∧ x < P 0 0 1 then P 11 0 x.toNat - 1 else -1) = (if 0 ≤ x ∧ x < (L : Int) then M 7 0 x.toNat else -1) := by
  have a2 := h.1.2.1.1
  rw [a2]
  by_cases hc : 0 ≤ x ∧ x < (L : Int)
  · rw [if_pos hc, if_pos hc]
    have h1 := h.2.2.2.2.1 x.toNat (by omega)
    omega
  · rw [if_neg hc, if_neg hc]
end JC2
