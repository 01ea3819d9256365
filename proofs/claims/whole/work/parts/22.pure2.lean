/-! the desk as functions of its memory: bookings -/
def ds_ok (L : Nat) (M : fd_Mem) : Prop := (0 ≤ M 0 0 3 ∧ M 0 0 3 ≤ 60) ∧ (0 ≤ M 0 0 4 ∧ M 0 0 4 ≤ 1000000) ∧ (0 ≤ M 0 0 6 ∧ M 0 0 6 ≤ 1) ∧ ds_b35 M ∧ (∀ k, k < 4 → 0 ≤ M 4 0 k ∧ M 4 0 k ≤ 9999) ∧ (0 ≤ M 6 0 1 ∧ M 6 0 1 ≤ 60) ∧ (∀ sq, sq < L → -1 ≤ M 7 0 sq ∧ M 7 0 sq ≤ 60) ∧
  ∀ i, i < 60 → (0 ≤ M 8 i 0 ∧ M 8 i 0 < 60) ∧ (0 ≤ M 8 i 2 ∧ M 8 i 2 ≤ M 8 i 5 ∧ M 8 i 5 ≤ 6) ∧ (0 ≤ M 8 i 3 ∧ M 8 i 3 ≤ 7) ∧ (0 ≤ M 8 i 4 ∧ M 8 i 4 ≤ 3) ∧ (0 ≤ M 8 i 6 ∧ M 8 i 6 ≤ 59994) ∧ (0 ≤ M 8 i 7 ∧ M 8 i 7 ≤ 50) ∧ (0 ≤ M 8 i 8 ∧ M 8 i 8 ≤ 1000050) ∧ ∀ j, j < 6 → 0 ≤ M 9 i j ∧ M 9 i j < L
theorem ds_ok.made {L : Nat} {M : fd_Mem} (h : ds_ok L M) : 0 ≤ M 0 0 3 ∧ M 0 0 3 ≤ 60 := h.1
theorem ds_ok.time {L : Nat} {M : fd_Mem} (h : ds_ok L M) : 0 ≤ M 0 0 4 ∧ M 0 0 4 ≤ 1000000 := h.2.1
theorem ds_ok.shut {L : Nat} {M : fd_Mem} (h : ds_ok L M) : 0 ≤ M 0 0 6 ∧ M 0 0 6 ≤ 1 := h.2.2.1
theorem ds_ok.b35 {L : Nat} {M : fd_Mem} (h : ds_ok L M) : ds_b35 M := h.2.2.2.1
theorem ds_ok.pri {L : Nat} {M : fd_Mem} (h : ds_ok L M) {k : Nat} (hk : k < 4) : 0 ≤ M 4 0 k ∧ M 4 0 k ≤ 9999 := h.2.2.2.2.1 k hk
theorem ds_ok.lim {L : Nat} {M : fd_Mem} (h : ds_ok L M) {k : Nat} (hk : k < 4) : 0 ≤ M 3 0 k ∧ M 3 0 k ≤ 99 := (h.2.2.2.1 k hk).1
theorem ds_ok.free {L : Nat} {M : fd_Mem} (h : ds_ok L M) : 0 ≤ M 6 0 1 ∧ M 6 0 1 ≤ 60 := h.2.2.2.2.2.1
theorem ds_ok.hol {L : Nat} {M : fd_Mem} (h : ds_ok L M) : ∀ sq, sq < L → -1 ≤ M 7 0 sq ∧ M 7 0 sq ≤ 60 := h.2.2.2.2.2.2.1
theorem ds_ok.num {L : Nat} {M : fd_Mem} (h : ds_ok L M) {i : Nat} (hi : i < 60) : 0 ≤ M 8 i 0 ∧ M 8 i 0 < 60 := (h.2.2.2.2.2.2.2 i hi).1
theorem ds_ok.sea {L : Nat} {M : fd_Mem} (h : ds_ok L M) {i : Nat} (hi : i < 60) : 0 ≤ M 8 i 2 ∧ M 8 i 2 ≤ M 8 i 5 ∧ M 8 i 5 ≤ 6 := (h.2.2.2.2.2.2.2 i hi).2.1
theorem ds_ok.sta {L : Nat} {M : fd_Mem} (h : ds_ok L M) {i : Nat} (hi : i < 60) : 0 ≤ M 8 i 3 ∧ M 8 i 3 ≤ 7 := (h.2.2.2.2.2.2.2 i hi).2.2.1
theorem ds_ok.far {L : Nat} {M : fd_Mem} (h : ds_ok L M) {i : Nat} (hi : i < 60) : 0 ≤ M 8 i 4 ∧ M 8 i 4 ≤ 3 := (h.2.2.2.2.2.2.2 i hi).2.2.2.1
theorem ds_ok.pai {L : Nat} {M : fd_Mem} (h : ds_ok L M) {i : Nat} (hi : i < 60) : 0 ≤ M 8 i 6 ∧ M 8 i 6 ≤ 59994 := (h.2.2.2.2.2.2.2 i hi).2.2.2.2.1
theorem ds_ok.tik {L : Nat} {M : fd_Mem} (h : ds_ok L M) {i : Nat} (hi : i < 60) : 0 ≤ M 8 i 7 ∧ M 8 i 7 ≤ 50 := (h.2.2.2.2.2.2.2 i hi).2.2.2.2.2.1
theorem ds_ok.exp {L : Nat} {M : fd_Mem} (h : ds_ok L M) {i : Nat} (hi : i < 60) : 0 ≤ M 8 i 8 ∧ M 8 i 8 ≤ 1000050 := (h.2.2.2.2.2.2.2 i hi).2.2.2.2.2.2.1
theorem ds_ok.sts {L : Nat} {M : fd_Mem} (h : ds_ok L M) {i : Nat} (hi : i < 60) : ∀ j, j < 6 → 0 ≤ M 9 i j ∧ M 9 i j < L := (h.2.2.2.2.2.2.2 i hi).2.2.2.2.2.2.2
theorem ds_ok.gb {L : Nat} {M : fd_Mem} (h : ds_ok L M) {i : Nat} (hi : i < 60) : ds_gb L M i := ⟨h.sea hi, h.num hi, h.hol⟩
theorem ds_ok.tb {L : Nat} {M : fd_Mem} (h : ds_ok L M) {i : Nat} (hi : i < 60) : ds_tb L M i := ⟨by have := h.sea hi; omega, h.sts hi⟩
def ds_hold (M : fd_Mem) (i : Nat) : fd_Mem := fd_u3 (fd_u3 (fd_u3 M 8 i 3 1) 8 i 8 (M 0 0 4 + M 8 i 7)) 5 0 (M 8 i 4).toNat (M 5 0 (M 8 i 4).toNat + M 8 i 5)
def ds_srv (M : fd_Mem) : Nat → fd_Mem
  | 0 => M
  | n + 1 => if (ds_srv M n) 8 n 3 = 3 ∧ (ds_srv M n) 8 n 5 ≤ ds_rm (ds_srv M n) ((ds_srv M n) 8 n 4).toNat then ds_hold (ds_srv M n) n else ds_srv M n
theorem ds_srv_s (M : fd_Mem) (n : Nat) : ds_srv M (n + 1) = if (ds_srv M n) 8 n 3 = 3 ∧ (ds_srv M n) 8 n 5 ≤ ds_rm (ds_srv M n) ((ds_srv M n) 8 n 4).toNat then ds_hold (ds_srv M n) n else ds_srv M n := rfl
theorem ds_srv_0 (M : fd_Mem) (j : Nat) : ∀ n, (ds_srv M n) 0 0 j = M 0 0 j
  | 0 => rfl
  | n + 1 => by
    rw [ds_srv_s]
    split
    · have h := ds_srv_0 M j n
      simp [ds_hold, fd_u3_at]
      exact h
    · exact ds_srv_0 M j n
def ds_serve (M : fd_Mem) : fd_Mem := ds_srv M (M 0 0 3).toNat
def ds_new (M : fd_Mem) (f p t : Int) : fd_Mem := fd_u3 (fd_u3 (fd_u3 (fd_u3 M 0 0 3 (M 0 0 3 + 1)) 8 (M 0 0 3).toNat 4 f) 8 (M 0 0 3).toNat 5 p) 8 (M 0 0 3).toNat 7 t
def ds_pf (M : fd_Mem) (i : Nat) (n : Int) : Int := if 0 < M 8 i 5 then M 8 i 6 * n / M 8 i 5 else 0
def ds_pb (f x : Int) : Int := if f = 0 then x else if f = 1 then x * 3 / 4 else if f = 2 then x * 2 / 4 else 0
def ds_back (M : fd_Mem) (i : Nat) (n : Int) : Int := ds_pb (M 8 i 4) (ds_pf M i n)
def ds_pay (M : fd_Mem) (i : Nat) (n : Int) : fd_Mem := fd_u3 (fd_u3 M 8 i 6 (M 8 i 6 - ds_pf M i n)) 0 0 5 (M 0 0 5 - ds_back M i n)
/-- the share that a booking gives back -/
def ds_less (M : fd_Mem) (i : Nat) : fd_Mem := if M 8 i 3 = 1 ∨ M 8 i 3 = 2 then fd_u3 M 5 0 (M 8 i 4).toNat (M 5 0 (M 8 i 4).toNat - M 8 i 5) else M
def ds_up (M : fd_Mem) (i : Nat) (st : Int) : fd_Mem := fd_u3 (ds_take i (M 8 i 2).toNat (ds_less M i)) 8 i 3 st
theorem ds_less_8 (M : fd_Mem) (i k j : Nat) : (ds_less M i) 8 k j = M 8 k j := by
  unfold ds_less
  split
  · simp [fd_u3_at]
  · rfl
theorem ds_less_9 (M : fd_Mem) (i k j : Nat) : (ds_less M i) 9 k j = M 9 k j := by
  unfold ds_less
  split
  · simp [fd_u3_at]
  · rfl
theorem ds_less_0 (M : fd_Mem) (i k j : Nat) : (ds_less M i) 0 k j = M 0 k j := by
  unfold ds_less
  split
  · simp [fd_u3_at]
  · rfl
theorem ds_take_0 (i j : Nat) : ∀ (d : Nat) (P : fd_Mem), (ds_take i d P) 0 0 j = P 0 0 j
  | 0, _ => rfl
  | d + 1, P => by
    show (ds_take i d (ds_take1 P i)) 0 0 j = P 0 0 j
    rw [ds_take_0 i j d]
    simp [ds_take1, fd_u3_at]
theorem ds_up_0 (M : fd_Mem) (i : Nat) (st : Int) (j : Nat) : (ds_up M i st) 0 0 j = M 0 0 j := by
  unfold ds_up
  rw [fd_u3_k (by omega), ds_take_0, ds_less_0]
def ds_ex (M : fd_Mem) : Nat → fd_Mem × Int
  | 0 => (M, 0)
  | n + 1 => if (ds_ex M n).1 8 n 3 = 1 ∧ (ds_ex M n).1 8 n 8 ≤ (ds_ex M n).1 0 0 4 then (ds_up (ds_ex M n).1 n 5, 1) else ds_ex M n
theorem ds_ex_s (M : fd_Mem) (n : Nat) : ds_ex M (n + 1) = if (ds_ex M n).1 8 n 3 = 1 ∧ (ds_ex M n).1 8 n 8 ≤ (ds_ex M n).1 0 0 4 then (ds_up (ds_ex M n).1 n 5, 1) else ds_ex M n := rfl
theorem ds_ex_0 (M : fd_Mem) (j : Nat) : ∀ n, (ds_ex M n).1 0 0 j = M 0 0 j
  | 0 => rfl
  | n + 1 => by
    rw [ds_ex_s]
    split
    · show (ds_up (ds_ex M n).1 n 5) 0 0 j = M 0 0 j
      rw [ds_up_0]
      exact ds_ex_0 M j n
    · exact ds_ex_0 M j n
theorem ds_ex_01 (M : fd_Mem) : ∀ n, (ds_ex M n).2 = 0 ∨ (ds_ex M n).2 = 1
  | 0 => Or.inl rfl
  | n + 1 => by
    rw [ds_ex_s]
    split
    · exact Or.inr rfl
    · exact ds_ex_01 M n
def ds_end (M : fd_Mem) : Nat → fd_Mem
  | 0 => M
  | n + 1 => if (ds_end M n) 8 n 3 = 1 then ds_up (ds_end M n) n 5 else if (ds_end M n) 8 n 3 = 3 then ds_up (ds_end M n) n 4 else ds_end M n
theorem ds_end_s (M : fd_Mem) (n : Nat) : ds_end M (n + 1) = if (ds_end M n) 8 n 3 = 1 then ds_up (ds_end M n) n 5 else if (ds_end M n) 8 n 3 = 3 then ds_up (ds_end M n) n 4 else ds_end M n := rfl
theorem ds_end_0 (M : fd_Mem) (j : Nat) : ∀ n, (ds_end M n) 0 0 j = M 0 0 j
  | 0 => rfl
  | n + 1 => by
    rw [ds_end_s]
    split
    · rw [ds_up_0]; exact ds_end_0 M j n
    · split
      · rw [ds_up_0]; exact ds_end_0 M j n
      · exact ds_end_0 M j n
def ds_left (M : fd_Mem) (i : Nat) : fd_Mem := ds_up (fd_u3 (fd_u3 M 0 0 5 (M 0 0 5 - M 8 i 6)) 8 i 6 0) i 7
def ds_brd (L : Nat) (M : fd_Mem) (i : Nat) : fd_Mem × Int := if M 6 0 1 < M 8 i 5 - M 8 i 2 then (ds_left M i, 0) else (fd_u3 (ds_miss i L 0 M) 8 i 3 6, M 8 i 5)
def ds_bf (L : Nat) (M : fd_Mem) (f : Int) : Nat → fd_Mem × Int
  | 0 => (M, 0)
  | n + 1 => if (ds_bf L M f n).1 8 n 3 = 2 ∧ (ds_bf L M f n).1 8 n 4 = f then ((ds_brd L (ds_bf L M f n).1 n).1, (ds_bf L M f n).2 + (ds_brd L (ds_bf L M f n).1 n).2) else ds_bf L M f n
theorem ds_bf_s (L : Nat) (M : fd_Mem) (f : Int) (n : Nat) : ds_bf L M f (n + 1) = if (ds_bf L M f n).1 8 n 3 = 2 ∧ (ds_bf L M f n).1 8 n 4 = f then ((ds_brd L (ds_bf L M f n).1 n).1, (ds_bf L M f n).2 + (ds_brd L (ds_bf L M f n).1 n).2) else ds_bf L M f n := rfl
def ds_wt (M : fd_Mem) : Nat → Int
  | 0 => 0
  | n + 1 => if M 8 n 3 = 3 then ds_wt M n + 1 else ds_wt M n
theorem ds_wt_s (M : fd_Mem) (n : Nat) : ds_wt M (n + 1) = if M 8 n 3 = 3 then ds_wt M n + 1 else ds_wt M n := rfl
