/-! the desk's calls as functions of its memory -/
def ds_sok (L : Nat) (M : fd_Mem) : Prop := (0 ≤ M 0 0 3 ∧ M 0 0 3 ≤ 60) ∧ ∀ n : Nat, (n : Int) ≤ M 0 0 3 → ds_ok L (ds_srv M n)
def ds_xok (L : Nat) (M : fd_Mem) : Prop := (0 ≤ M 0 0 3 ∧ M 0 0 3 ≤ 60) ∧ ∀ n : Nat, (n : Int) ≤ M 0 0 3 → ds_ok L (ds_ex M n).1
theorem ds_srv_80 (M : fd_Mem) (k : Nat) : ∀ n, (ds_srv M n) 8 k 0 = M 8 k 0
  | 0 => rfl
  | n + 1 => by
    rw [ds_srv_s]
    split
    · have h := ds_srv_80 M k n
      simp [ds_hold, fd_u3_at]
      exact h
    · exact ds_srv_80 M k n
theorem ds_serve_80 (M : fd_Mem) (k : Nat) : (ds_serve M) 8 k 0 = M 8 k 0 := ds_srv_80 M k _
theorem ds_serve_0 (M : fd_Mem) (j : Nat) : (ds_serve M) 0 0 j = M 0 0 j := ds_srv_0 M j _
def ds_hld (M : fd_Mem) (f pl tk : Int) : fd_Mem := ds_hold (ds_new M f pl tk) (M 0 0 3).toNat
def ds_joi (M : fd_Mem) (f pl tk : Int) : fd_Mem := fd_u3 (ds_new M f pl tk) 8 (M 0 0 3).toNat 3 3
def ds_cfm (M : fd_Mem) (n : Nat) : fd_Mem := fd_u3 (fd_u3 (fd_u3 M 8 n 3 2) 8 n 6 (M 8 n 5 * M 4 0 (M 8 n 4).toNat)) 0 0 5 (M 0 0 5 + M 8 n 5 * M 4 0 (M 8 n 4).toNat)
def ds_can (M : fd_Mem) (n : Nat) : fd_Mem := ds_up (ds_pay M n (M 8 n 5)) n 4
def ds_shl (P : fd_Mem) (n : Nat) (k : Int) : fd_Mem := if P 8 n 3 = 1 ∨ P 8 n 3 = 2 then fd_u3 P 5 0 (P 8 n 4).toNat (P 5 0 (P 8 n 4).toNat - k) else P
def ds_shs (P : fd_Mem) (n : Nat) (k : Int) : fd_Mem := fd_u3 P 8 n 5 (P 8 n 5 - k)
def ds_shr (M : fd_Mem) (n : Nat) (k : Int) : fd_Mem := ds_take n (M 8 n 2 - (M 8 n 5 - k)).toNat (ds_shs (ds_shl (ds_pay M n k) n k) n k)
def ds_chg (M : fd_Mem) (n f : Nat) : fd_Mem := fd_u3 (fd_u3 (fd_u3 M 5 0 (M 8 n 4).toNat (M 5 0 (M 8 n 4).toNat - M 8 n 5)) 5 0 f ((fd_u3 M 5 0 (M 8 n 4).toNat (M 5 0 (M 8 n 4).toNat - M 8 n 5)) 5 0 f + M 8 n 5)) 8 n 4 ((f : Nat) : Int)
def ds_tog (L : Nat) (M : fd_Mem) (n : Nat) : fd_Mem := ds_miss n (L - (ds_best M L (M 8 n 5 - M 8 n 2).toNat).toNat) (ds_best M L (M 8 n 5 - M 8 n 2).toNat).toNat M
def ds_t1 (M : fd_Mem) : fd_Mem := fd_u3 M 0 0 4 (M 0 0 4 + 1)
def ds_tx (M : fd_Mem) : fd_Mem × Int := ds_ex (ds_t1 M) (M 0 0 3).toNat
def ds_tk1 (M : fd_Mem) : fd_Mem := if (ds_tx M).2 = 0 then (ds_tx M).1 else ds_serve (ds_tx M).1
def ds_tk (M : fd_Mem) : Nat → fd_Mem
  | 0 => M
  | k + 1 => ds_tk1 (ds_tk M k)
theorem ds_tk_s (M : fd_Mem) (k : Nat) : ds_tk M (k + 1) = ds_tk1 (ds_tk M k) := rfl
/-- one tick is safe -/
def ds_tok (L : Nat) (M : fd_Mem) : Prop := (0 ≤ M 0 0 4 ∧ M 0 0 4 ≤ 1000000) ∧ ds_xok L (ds_t1 M) ∧ ds_sok L (ds_tx M).1
def ds_c0 (M : fd_Mem) : fd_Mem := fd_u3 M 0 0 6 1
def ds_ce (M : fd_Mem) : fd_Mem := ds_end (ds_c0 M) (M 0 0 3).toNat
def ds_cb (L : Nat) (M : fd_Mem) : Nat → fd_Mem × Int
  | 0 => (ds_ce M, 0)
  | f + 1 => ((ds_bf L (ds_cb L M f).1 (f : Int) ((ds_cb L M f).1 0 0 3).toNat).1, (ds_cb L M f).2 + (ds_bf L (ds_cb L M f).1 (f : Int) ((ds_cb L M f).1 0 0 3).toNat).2)
theorem ds_cb_s (L : Nat) (M : fd_Mem) (f : Nat) : ds_cb L M (f + 1) = ((ds_bf L (ds_cb L M f).1 (f : Int) ((ds_cb L M f).1 0 0 3).toNat).1, (ds_cb L M f).2 + (ds_bf L (ds_cb L M f).1 (f : Int) ((ds_cb L M f).1 0 0 3).toNat).2) := rfl
/-- boarding by one fare is safe -/
def ds_bok (L : Nat) (M : fd_Mem) (f : Int) : Prop := (0 ≤ M 0 0 3 ∧ M 0 0 3 ≤ 60) ∧ (∀ n : Nat, (n : Int) ≤ M 0 0 3 → ds_ok L (ds_bf L M f n).1) ∧ (∀ (n i : Nat), i < 60 → ds_ok L (fd_u3 (fd_u3 (ds_bf L M f n).1 0 0 5 ((ds_bf L M f n).1 0 0 5 - (ds_bf L M f n).1 8 i 6)) 8 i 6 0)) ∧ ∀ n, (ds_bf L M f n).1 0 0 3 = M 0 0 3
def ds_of (M : fd_Mem) (n : Nat) (w : Int) : Int := if w = 0 then M 8 n 3 else if w = 1 then M 8 n 4 else if w = 2 then M 8 n 5 else if w = 3 then M 8 n 2 else if w = 4 then M 8 n 6 else if w = 5 then (if M 8 n 3 = 1 then M 8 n 8 else -1) else (if 0 < M 8 n 2 then M 9 n 0 else -1)
def ds_cnt (M : fd_Mem) (w : Int) : Int := if w = 0 then M 0 0 4 else if w = 1 then M 0 0 3 else if w = 2 then ds_sh M 0 else if w = 3 then ds_wt M (M 0 0 3).toNat else if w = 4 then M 0 0 5 else if w = 5 then M 6 0 1 else (if M 0 0 6 = 0 then 0 else 1)
