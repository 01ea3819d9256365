/-! each call on both sides: the helper's answer k, the model's thrown the same, the memories beside each other again -/
def jc_R (rm : Room) : Prop := rm.cells = 0 ∧ rm.slots = 0 ∧ rm.frames ≤ 10 ∧ rm.locals ≤ 300
def jc_v (l : Launch) (D : va_G) (cI cB cJ : ClassId) (L : Nat) (ad : Nat → Nat → Nat) (M P : fd_Mem) (o : Int) (yH : MethodName) (wH : List Cond) (avH : List Value) (yM : MethodName) (wM : List Cond) (avM : List Value) : Prop :=
  ∃ (k : Int) (N Q : fd_Mem) (mc ms : Nat) (rm : Room), la_H l D cI cB cJ L ad yH wH avH (la_M M P o) k (la_M N P o) mc ms ∧ (mc ≤ 1 ∧ ms ≤ 6) ∧ (0 ≤ k ∧ k ≤ 3) ∧ jc_R rm ∧ mo_Mv l D cI (la_ad ad) yM wM rm avM P Q ∧ Q 0 0 0 = k ∧ jr L N Q ∧ N 0 0 4 ≤ M 0 0 4 + 100
def jc_i (l : Launch) (D : va_G) (cI cB cJ : ClassId) (L : Nat) (ad : Nat → Nat → Nat) (M P : fd_Mem) (o : Int) (yH : MethodName) (wH : List Cond) (avH : List Value) (yM : MethodName) (wM : List Cond) (avM : List Value) : Prop :=
  ∃ (k z o2 : Int) (N Q : fd_Mem) (mc ms : Nat) (rm : Room), la_H l D cI cB cJ L ad yH wH avH (la_M M P o) k (la_M N P o2) mc ms ∧ (mc ≤ 1 ∧ ms ≤ 6) ∧ (0 ≤ k ∧ k ≤ 3) ∧ jc_R rm ∧ mo_Mi l D cI (la_ad ad) yM wM rm avM P z Q ∧ Q 0 0 0 = k ∧ (k = 0 → o2 = z) ∧ jr L N Q ∧ N 0 0 4 ≤ M 0 0 4 + 100
theorem jc_nat {a : Int} (h : 0 ≤ a) : ∃ n : Nat, a = (n : Int) := ⟨a.toNat, by omega⟩
section JC
variable {l : Launch} {D : va_G} {cI cB cJ : ClassId} {L : Nat} {ad : Nat → Nat → Nat} {M P : fd_Mem} {o : Int}
theorem jc_limit (h : jr L M P) (hL : L ≤ 60) (hT : M 0 0 4 + 100 ≤ 1000000) (hl : l.stackTraces = false) {a b : Int} (ia : fd_in a) (ib : fd_in b) : jc_v l D cI cB cJ L ad M P o yL_limit wL_limit [.ref (ad 0 0), .int (fd_I a), .int (fd_I b)] yM_limit wM_limit [.ref (la_ad ad 0 0), .int (fd_I a), .int (fd_I b)] := by
  have hok := h.dok hL (by omega)
  have mok := h.mok hL (by omega)
  have a2 := h.1.2.1
  by_cases ha : a < 0 ∨ 4 ≤ a
  · exact ⟨1, M, _, 1, 6, _, hL_limit_I l D cI cB cJ L ad M P o a b ⟨rfl, rfl, by decide, by decide⟩ (mD_limit_TF l D cI cB L ad M a b ia ha hl), by omega, by omega, ⟨rfl, rfl, by decide, by decide⟩, mM_limit_F l D cI (la_ad ad) P a b ia ib ha, fd_u3_same _ _ _ _ _, h.thr 1, by omega⟩
  · obtain ⟨f, rfl⟩ := jc_nat (a := a) (by omega)
    have hf : f < 4 := by omega
    have e1 := (h.1.2.2 (f - 1) (by omega)).2.2.2
    have e2 : f = 3 ∨ P 2 0 (f + 1) = M 3 0 (f + 1) := by
      by_cases h3 : f = 3
      · exact Or.inl h3
      · exact Or.inr (h.1.2.2 (f + 1) (by omega)).2.2.2
    by_cases hg : 0 ≤ b ∧ b ≤ 99 ∧ (f = 0 ∨ b ≤ M 3 0 (f - 1)) ∧ (f = 3 ∨ M 3 0 (f + 1) ≤ b)
    · have hc := h.1.1.2.2
      by_cases hc1 : M 0 0 6 = 1
      · exact ⟨2, M, _, 1, 6, _, hL_limit_S l D cI cB cJ L ad M P o f b ⟨rfl, rfl, by decide, by decide⟩ (mD_limit_TS l D cI cB L ad M f hf b ib hok hg hc1 hl), by omega, by omega, ⟨rfl, rfl, by decide, by decide⟩, mM_limit_2 l D cI (la_ad ad) P f hf b ib mok (by omega) (by omega), fd_u3_same _ _ _ _ _, h.thr 2, by omega⟩
      · have h1 : jr L (fd_u3 M 3 0 f b) (fd_u3 (fd_u3 P 0 0 0 0) 2 0 f b) := jr_lim (h.thr 0) ⟨hg.1, hg.2.1⟩
        have e4 : (fd_u3 M 3 0 f b) 0 0 4 = M 0 0 4 := fd_u3_k (by decide)
        obtain ⟨d, Q, g1, g2, g3⟩ := jr_serve h1
        exact ⟨0, _, Q, 0, 0, _, hL_limit l D cI cB cJ L ad M P o f b ⟨rfl, rfl, by decide, by decide⟩ (mD_limit l D cI cB L ad M f hf b ib hok hg (by omega) (h1.sok hL (by omega))), by omega, by omega, ⟨rfl, rfl, by decide, by decide⟩, mM_limit l D cI (la_ad ad) P f hf b ib mok (by omega) (by omega) (h1.mok hL (by omega)) d Q g1, by rw [g3, fd_u3_k (by decide), fd_u3_same], g2, by rw [ds_serve_0, e4]; omega⟩
    · exact ⟨1, M, _, 1, 6, _, hL_limit_I l D cI cB cJ L ad M P o f b ⟨rfl, rfl, by decide, by decide⟩ (mD_limit_TI l D cI cB L ad M f hf b ib hok hg hl), by omega, by omega, ⟨rfl, rfl, by decide, by decide⟩, mM_limit_1 l D cI (la_ad ad) P f hf b ib mok (by omega), fd_u3_same _ _ _ _ _, h.thr 1, by omega⟩
theorem jc_price (h : jr L M P) (hl : l.stackTraces = false) {a b : Int} (ia : fd_in a) (ib : fd_in b) : jc_v l D cI cB cJ L ad M P o yL_price wL_price [.ref (ad 0 0), .int (fd_I a), .int (fd_I b)] yM_price wM_price [.ref (la_ad ad 0 0), .int (fd_I a), .int (fd_I b)] := by
  by_cases ha : a < 0 ∨ 4 ≤ a
  · exact ⟨1, M, _, 1, 6, _, hL_price_I l D cI cB cJ L ad M P o a b ⟨rfl, rfl, by decide, by decide⟩ (mD_price_TF l D cI cB L ad M a b ia ha hl), by omega, by omega, ⟨rfl, rfl, by decide, by decide⟩, mM_price_F l D cI (la_ad ad) P a b ia ib ha, fd_u3_same _ _ _ _ _, h.thr 1, by omega⟩
  · obtain ⟨f, rfl⟩ := jc_nat (a := a) (by omega)
    have hf : f < 4 := by omega
    by_cases hg : b < 0 ∨ 9999 < b
    · exact ⟨1, M, _, 1, 6, _, hL_price_I l D cI cB cJ L ad M P o f b ⟨rfl, rfl, by decide, by decide⟩ (mD_price_TI l D cI cB L ad M f hf b ib hg hl), by omega, by omega, ⟨rfl, rfl, by decide, by decide⟩, mM_price_1 l D cI (la_ad ad) P f hf b ib hg, fd_u3_same _ _ _ _ _, h.thr 1, by omega⟩
    · have h1 : jr L (fd_u3 M 4 0 f b) (fd_u3 (fd_u3 P 0 0 0 0) 1 0 f b) := jr_pri (h.thr 0) (by omega)
      have e4 : (fd_u3 M 4 0 f b) 0 0 4 = M 0 0 4 := fd_u3_k (by decide)
      exact ⟨0, _, _, 0, 0, _, hL_price l D cI cB cJ L ad M P o f b ⟨rfl, rfl, by decide, by decide⟩ (mD_price l D cI cB L ad M f hf b (by omega)), by omega, by omega, ⟨rfl, rfl, by decide, by decide⟩, mM_price l D cI (la_ad ad) P f hf b (by omega), by rw [fd_u3_k (by decide), fd_u3_same], h1, by omega⟩
theorem jc_room (h : jr L M P) (hL : L ≤ 60) (hT : M 0 0 4 + 100 ≤ 1000000) (hl : l.stackTraces = false) {a : Int} (ia : fd_in a) : jc_i l D cI cB cJ L ad M P o yL_room wL_room [.ref (ad 0 0), .int (fd_I a), .ref (ad 10 0)] yM_room wM_room [.ref (la_ad ad 0 0), .int (fd_I a)] := by
  have hok := h.dok hL (by omega)
  have mok := h.mok hL (by omega)
  by_cases ha : a < 0 ∨ 4 ≤ a
  · exact ⟨1, 0, o, M, _, 1, 6, _, hL_room_I l D cI cB cJ L ad M P o a ⟨rfl, rfl, by decide, by decide⟩ (mD_room_TF l D cI cB L ad M a ia ha hl), by omega, by omega, ⟨rfl, rfl, by decide, by decide⟩, mM_room_F l D cI (la_ad ad) P a ia ha, fd_u3_same _ _ _ _ _, fun q => absurd q (by decide), h.thr 1, by omega⟩
  · obtain ⟨f, rfl⟩ := jc_nat (a := a) (by omega)
    have hf : f < 4 := by omega
    exact ⟨0, _, ds_rm M f, M, _, 0, 0, _, hL_room l D cI cB cJ L ad M P o f ⟨rfl, rfl, by decide, by decide⟩ (mD_room l D cI cB L ad M f hf hok.b35), by omega, by omega, ⟨rfl, rfl, by decide, by decide⟩, mM_room l D cI (la_ad ad) P f hf mok, fd_u3_same _ _ _ _ _, fun _ => ((h.thr 0).rm hf).symm, h.thr 0, by omega⟩
theorem jc_hold (h : jr L M P) (hL : L ≤ 60) (hT : M 0 0 4 + 100 ≤ 1000000) (hl : l.stackTraces = false) {a b d : Int} (ia : fd_in a) (ib : fd_in b) (id : fd_in d) : jc_i l D cI cB cJ L ad M P o yL_hold wL_hold [.ref (ad 0 0), .int (fd_I a), .int (fd_I b), .int (fd_I d), .ref (ad 10 0)] yM_hold wM_hold [.ref (la_ad ad 0 0), .int (fd_I a), .int (fd_I b), .int (fd_I d)] := by
  have hok := h.dok hL (by omega)
  have mok := h.mok hL (by omega)
  have a1 := h.1.1
  have a2 := h.1.2.1
  by_cases hg : (0 ≤ a ∧ a < 4) ∧ (1 ≤ b ∧ b ≤ 6) ∧ (1 ≤ d ∧ d ≤ 50)
  · by_cases hb : M 0 0 6 = 1 ∨ 60 ≤ M 0 0 3
    · exact ⟨2, 0, o, M, _, 1, 6, _, hL_hold_S l D cI cB cJ L ad M P o a b d ⟨rfl, rfl, by decide, by decide⟩ (mD_hold_TS l D cI cB L ad M a b d hg.1 hg.2.1 hg.2.2 a1.2.2 hb a1.1 hl), by omega, by omega, ⟨rfl, rfl, by decide, by decide⟩, mM_hold_2 l D cI (la_ad ad) P a b d hg.1 hg.2.1 hg.2.2 (by omega) (by omega) (by omega), fd_u3_same _ _ _ _ _, fun q => absurd q (by decide), h.thr 2, by omega⟩
    · obtain ⟨f, rfl⟩ := jc_nat (a := a) (by omega)
      have hf : f < 4 := by omega
      have er := (h.thr 0).rm hf
      have ef : ((f : Nat) : Int).toNat = f := by omega
      by_cases hr : b ≤ ds_rm M f
      · obtain ⟨i, hi⟩ := jc_nat (a := M 0 0 3) (by omega)
        have hi6 : i < 60 := by omega
        have ei : (M 0 0 3).toNat = i := by omega
        have hnum : M 8 (M 0 0 3).toNat 0 = M 0 0 3 := by
          rw [ei, hi]
          exact (h.2.1 i hi6).1
        have hz := h.2.2.1 i (by omega)
        have h1 := jr_new (h.thr 0) (by omega) hg.1 hg.2.1 hg.2.2
        have e3 : (ds_new M (f : Int) b d) 0 0 3 = M 0 0 3 + 1 := by simp [ds_new, fd_u3_at]
        have h2 := jr_hold h1 hi6 (by omega) (Or.inl (by simp [ds_new, fd_u3_at]; exact hz)) (by simp [ds_new, fd_u3_at, ei]; omega)
        rw [mo_hd_mk (fd_u3 P 0 0 0 0) (i := i) (by rw [fd_u3_j (by decide)]; omega)] at h2
        have e4 : (ds_hld M (f : Int) b d) 0 0 4 = M 0 0 4 := by simp [ds_hld, ds_hold, ds_new, fd_u3_at]
        refine ⟨0, _, M 0 0 3, _, _, 0, 0, _, hL_hold l D cI cB cJ L ad M P o f b d ⟨rfl, rfl, by decide, by decide⟩ (mD_hold l D cI cB L ad M f hf b d hg.2.1 hg.2.2 (by omega) (by omega) hnum hok.b35 hr), by omega, by omega, ⟨rfl, rfl, by decide, by decide⟩, mM_hold l D cI (la_ad ad) P f b d hg.1 hg.2.1 hg.2.2 (by omega) (by omega) mok (by rw [ef]; exact er ▸ hr), ?_, fun _ => by omega, ?_, by omega⟩
        · simp [mo_mk, fd_u3_at]
        · unfold ds_hld
          rw [ei]
          exact h2
      · exact ⟨3, 0, o, M, _, 1, 6, _, hL_hold_U l D cI cB cJ L ad M P o f b d ⟨rfl, rfl, by decide, by decide⟩ (mD_hold_TU l D cI cB L ad M f hf b d hg.2.1 hg.2.2 (by omega) (by omega) hok.b35 (by omega) hl), by omega, by omega, ⟨rfl, rfl, by decide, by decide⟩, mM_hold_3 l D cI (la_ad ad) P f b d hg.1 hg.2.1 hg.2.2 (by omega) (by omega) mok (by rw [ef]; exact er ▸ (show ds_rm M f < b by omega)), fd_u3_same _ _ _ _ _, fun q => absurd q (by decide), h.thr 3, by omega⟩
  · exact ⟨1, 0, o, M, _, 1, 6, _, hL_hold_I l D cI cB cJ L ad M P o a b d ⟨rfl, rfl, by decide, by decide⟩ (mD_hold_TI l D cI cB L ad M a b d ia ib id hg hl), by omega, by omega, ⟨rfl, rfl, by decide, by decide⟩, mM_hold_1 l D cI (la_ad ad) P a b d ia ib id hg, fd_u3_same _ _ _ _ _, fun q => absurd q (by decide), h.thr 1, by omega⟩
theorem jc_join (h : jr L M P) (hL : L ≤ 60) (hT : M 0 0 4 + 100 ≤ 1000000) (hl : l.stackTraces = false) {a b d : Int} (ia : fd_in a) (ib : fd_in b) (id : fd_in d) : jc_i l D cI cB cJ L ad M P o yL_join wL_join [.ref (ad 0 0), .int (fd_I a), .int (fd_I b), .int (fd_I d), .ref (ad 10 0)] yM_join wM_join [.ref (la_ad ad 0 0), .int (fd_I a), .int (fd_I b), .int (fd_I d)] := by
  have a1 := h.1.1
  have a2 := h.1.2.1
  by_cases hg : (0 ≤ a ∧ a < 4) ∧ (1 ≤ b ∧ b ≤ 6) ∧ (1 ≤ d ∧ d ≤ 50)
  · by_cases hb : M 0 0 6 = 1 ∨ 60 ≤ M 0 0 3
    · exact ⟨2, 0, o, M, _, 1, 6, _, hL_join_S l D cI cB cJ L ad M P o a b d ⟨rfl, rfl, by decide, by decide⟩ (mD_join_TS l D cI cB L ad M a b d hg.1 hg.2.1 hg.2.2 a1.2.2 hb a1.1 hl), by omega, by omega, ⟨rfl, rfl, by decide, by decide⟩, mM_join_2 l D cI (la_ad ad) P a b d hg.1 hg.2.1 hg.2.2 (by omega) (by omega) (by omega), fd_u3_same _ _ _ _ _, fun q => absurd q (by decide), h.thr 2, by omega⟩
    · obtain ⟨f, rfl⟩ := jc_nat (a := a) (by omega)
      have hf : f < 4 := by omega
      obtain ⟨i, hi⟩ := jc_nat (a := M 0 0 3) (by omega)
      have hi6 : i < 60 := by omega
      have ei : (M 0 0 3).toNat = i := by omega
      have hnum : M 8 (M 0 0 3).toNat 0 = M 0 0 3 := by
        rw [ei, hi]
        exact (h.2.1 i hi6).1
      have hz := h.2.2.1 i (by omega)
      have h1 := jr_new (h.thr 0) (by omega) hg.1 hg.2.1 hg.2.2
      have e3 : (ds_new M (f : Int) b d) 0 0 3 = M 0 0 3 + 1 := by simp [ds_new, fd_u3_at]
      have h2 := jr_sta h1 hi6 (by omega) (z := 3) (Or.inl ⟨by simp [ds_new, fd_u3_at]; exact hz, rfl, by simp [ds_new, fd_u3_at, ei]; omega⟩)
      rw [← mo_mk_at (fd_u3 P 0 0 0 0) (i := i) (by rw [fd_u3_j (by decide)]; omega)] at h2
      have e9 : fd_u3 (ds_new M (f : Int) b d) 8 i 3 3 = ds_joi M (f : Int) b d := by unfold ds_joi; rw [ei]
      rw [e9] at h2
      have e4 : (ds_joi M (f : Int) b d) 0 0 4 = M 0 0 4 := by simp [ds_joi, ds_new, fd_u3_at]
      obtain ⟨dd, Q, g1, g2, g3⟩ := jr_serve h2
      refine ⟨0, _, M 0 0 3, _, Q, 0, 0, _, hL_join l D cI cB cJ L ad M P o f b d ⟨rfl, rfl, by decide, by decide⟩ (mD_join l D cI cB L ad M f hf b d hg.2.1 hg.2.2 (by omega) (by omega) hnum (h2.sok hL (by omega))), by omega, by omega, ⟨rfl, rfl, by decide, by decide⟩, mM_join l D cI (la_ad ad) P f b d hg.1 hg.2.1 hg.2.2 (by omega) (by omega) (h2.mok hL (by omega)) dd Q g1, ?_, fun _ => by omega, g2, by rw [ds_serve_0, e4]; omega⟩
      rw [g3]
      simp [mo_mk, fd_u3_at]
  · exact ⟨1, 0, o, M, _, 1, 6, _, hL_join_I l D cI cB cJ L ad M P o a b d ⟨rfl, rfl, by decide, by decide⟩ (mD_join_TI l D cI cB L ad M a b d ia ib id hg hl), by omega, by omega, ⟨rfl, rfl, by decide, by decide⟩, mM_join_1 l D cI (la_ad ad) P a b d ia ib id hg, fd_u3_same _ _ _ _ _, fun q => absurd q (by decide), h.thr 1, by omega⟩
theorem jc_confirm (h : jr L M P) (hL : L ≤ 60) (hT : M 0 0 4 + 100 ≤ 1000000) (hl : l.stackTraces = false) {a : Int} (ia : fd_in a) : jc_i l D cI cB cJ L ad M P o yL_confirm wL_confirm [.ref (ad 0 0), .int (fd_I a), .ref (ad 10 0)] yM_confirm wM_confirm [.ref (la_ad ad 0 0), .int (fd_I a)] := by
  have hok := h.dok hL (by omega)
  have mok := h.mok hL (by omega)
  have a1 := h.1.1
  have a2 := h.1.2.1
  by_cases ha : a < 0 ∨ M 0 0 3 ≤ a
  · exact ⟨1, 0, o, M, _, 1, 6, _, hL_confirm_I l D cI cB cJ L ad M P o a ⟨rfl, rfl, by decide, by decide⟩ (mD_confirm_TB l D cI cB L ad M a ia ha a1.1 hl), by omega, by omega, ⟨rfl, rfl, by decide, by decide⟩, mM_confirm_B l D cI (la_ad ad) P a ia mok (by omega), fd_u3_same _ _ _ _ _, fun q => absurd q (by decide), h.thr 1, by omega⟩
  · obtain ⟨n, rfl⟩ := jc_nat (a := a) (by omega)
    have hn6 : n < 60 := by omega
    have hb := h.2.1 n hn6
    unfold jr_B jr_b at hb
    by_cases hs : M 8 n 3 = 1
    · have h1 := jr_cfm (h.thr 0) hn6 (by omega) hs
      have e4 : (ds_cfm M n) 0 0 4 = M 0 0 4 := by simp [ds_cfm, fd_u3_at]
      refine ⟨0, _, _, _, _, 0, 0, _, hL_confirm l D cI cB cJ L ad M P o n ⟨rfl, rfl, by decide, by decide⟩ (mD_confirm l D cI cB L ad M n (by omega) hok hs), by omega, by omega, ⟨rfl, rfl, by decide, by decide⟩, mM_confirm l D cI (la_ad ad) P n (by omega) mok (by omega), ?_, fun _ => h1.2.symm, h1.1, by omega⟩
      simp [mo_cf, fd_u3_at]
    · exact ⟨2, 0, o, M, _, 1, 6, _, hL_confirm_S l D cI cB cJ L ad M P o n ⟨rfl, rfl, by decide, by decide⟩ (mD_confirm_TS l D cI cB L ad M n (by omega) hok hs hl), by omega, by omega, ⟨rfl, rfl, by decide, by decide⟩, mM_confirm_2 l D cI (la_ad ad) P n (by omega) mok (by omega), fd_u3_same _ _ _ _ _, fun q => absurd q (by decide), h.thr 2, by omega⟩
end JC
