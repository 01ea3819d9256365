/-! the first memories -/
def ds_M0 (L : Nat) : fd_Mem := fun k i j => if k = 3 then (if j < 4 then (L : Int) else 0) else if k = 4 then wi_pr j else if k = 6 then (if j = 1 then (L : Int) else 0) else if k = 7 then (if j < L then -1 else 0) else if k = 8 then (if j = 0 then (i : Int) else 0) else 0
def mo_M0 (L : Nat) : fd_Mem := fun k _ j => if k = 0 then (if j = 1 then (L : Int) else 0) else if k = 1 then wi_mp 4 j else if k = 2 then (if j < 4 then (L : Int) else 0) else 0
theorem jr_first {L : Nat} (h0 : 0 < L) (hL : L ≤ 60) : jr L (ds_M0 L) (mo_M0 L) := by
  refine ⟨⟨⟨⟨show (0 : Int) ≤ 0 by decide, show (0 : Int) ≤ 60 by decide⟩, show (0 : Int) ≤ 0 by decide, show (0 : Int) ≤ 0 by decide, show (0 : Int) ≤ 1 by decide⟩, ⟨rfl, rfl, rfl, rfl, rfl⟩, fun k hk => ?_⟩, fun i hi => ?_, fun i _ => rfl, fun k hk => ?_, fun sq hq => ?_, fun sq _ => ⟨by show (0 : Int) ≤ 0; decide, by show (0 : Int) ≤ 60; decide⟩, ?_, fun i hi j hj => ⟨by show (0 : Int) ≤ 0; decide, by show (0 : Int) < (L : Int); omega⟩, fun x _ => ⟨by show (0 : Int) ≤ 0; decide, by show (0 : Int) < 60; decide⟩, fun i hi j hj => absurd (show (j : Int) < 0 from hj) (by omega), fun i hi a b _ hb => absurd (show (b : Int) < 0 from hb) (by omega)⟩
  · have e3 : ds_M0 L 3 0 k = (L : Int) := by
      show (if k < 4 then (L : Int) else 0) = L
      rw [if_pos hk]
    have e2 : mo_M0 L 2 0 k = (L : Int) := by
      show (if k < 4 then (L : Int) else 0) = L
      rw [if_pos hk]
    rw [e3, e2]
    refine ⟨⟨by omega, by omega⟩, ?_, ?_, rfl⟩
    · show 0 ≤ wi_pr k ∧ wi_pr k ≤ 9999
      rcases (show k = 0 ∨ k = 1 ∨ k = 2 ∨ k = 3 by omega) with rfl | rfl | rfl | rfl <;> decide
    · show wi_mp 4 k = wi_pr k
      rcases (show k = 0 ∨ k = 1 ∨ k = 2 ∨ k = 3 by omega) with rfl | rfl | rfl | rfl <;> decide
  · show jr_b 0 (i : Int) (i : Int) 0 0 0 0 0 0 0 0 0 0 0 0 0 0
    unfold jr_b
    omega
  · show (0 : Int) = _
    exact (fd_sum_0 60 (fun j _ => if_neg (by
      intro q
      have q1 := q.1
      have e : ds_M0 L 8 j 3 = 0 := rfl
      omega))).symm
  · have e7 : ds_M0 L 7 0 sq = -1 := by
      show (if sq < L then (-1 : Int) else 0) = -1
      rw [if_pos hq]
    rw [e7]
    exact ⟨rfl, by decide, by decide⟩
  · show (L : Int) = _
    have e : fd_sum (jr_f (ds_M0 L)) L = fd_sum (fun _ => 1) L := fd_sum_ext L (fun j hj => if_pos (by
      show (if j < L then (-1 : Int) else 0) = -1
      rw [if_pos hj]))
    rw [e, fd_sum_const]
    omega
