def mo_mk (P : fd_Mem) (st9 f pl tk : Int) : fd_Mem := fd_u3 (fd_u3 (fd_u3 (fd_u3 (fd_u3 (fd_u3 P 3 0 (P 0 0 7).toNat st9) 4 0 (P 0 0 7).toNat f) 5 0 (P 0 0 7).toNat pl) 6 0 (P 0 0 7).toNat tk) 7 0 (P 0 0 7).toNat (P 0 0 2 + tk)) 0 0 7 (P 0 0 7 + 1)
def mo_cf (P : fd_Mem) (n : Nat) : fd_Mem := fd_u3 (fd_u3 (fd_u3 P 3 0 n 2) 8 0 n (P 5 0 n * P 1 0 (P 4 0 n).toNat)) 0 0 3 (P 0 0 3 + P 5 0 n * P 1 0 (P 4 0 n).toNat)
def mo_bx (P : fd_Mem) (i : Nat) (n : Int) : Int := P 8 0 i * n / P 5 0 i
def mo_bk (P : fd_Mem) (i : Nat) (n : Int) : Int := if P 4 0 i = 0 then mo_bx P i n else if P 4 0 i = 1 then 3 * mo_bx P i n / 4 else if P 4 0 i = 2 then mo_bx P i n / 2 else 0
def mo_gbk (P : fd_Mem) (i : Nat) (n : Int) : fd_Mem := fd_u3 (fd_u3 P 8 0 i (P 8 0 i - mo_bx P i n)) 0 0 3 (P 0 0 3 - mo_bk P i n)
theorem mo_bx_bd {a b n : Int} (hb : 1 ≤ b) (h : 0 ≤ a * n ∧ a * n ≤ 1000000) : 0 ≤ a * n / b ∧ a * n / b ≤ 1000000 := by
  refine ⟨Int.ediv_nonneg h.1 (by omega), ?_⟩
  exact Int.le_trans (Int.ediv_le_self _ h.1) h.2
/-- what leaving seats asks -/
def mo_tb (P : fd_Mem) (i : Nat) : Prop := (0 ≤ P 9 0 i ∧ P 9 0 i ≤ 6) ∧ ∀ x, x < 360 → 0 ≤ P 10 0 x ∧ P 10 0 x < 60
theorem mo_ok.tb {P : fd_Mem} (h : mo_ok P) {i : Nat} (hi : i < 60) : mo_tb P i := ⟨by have := h.sea hi; have := h.pla hi; omega, fun _ hx => h.giv hx⟩
def mo_lv1 (P : fd_Mem) (i : Nat) : fd_Mem := fd_u3 (fd_u3 P 9 0 i (P 9 0 i - 1)) 11 0 (P 10 0 (6 * (i : Int) + (P 9 0 i - 1)).toNat).toNat 0
def mo_lv (i : Nat) : Nat → fd_Mem → fd_Mem
  | 0, P => P
  | d + 1, P => mo_lv i d (mo_lv1 P i)
theorem mo_tb_lv {P : fd_Mem} {i : Nat} (h : mo_tb P i) (h2 : 0 < P 9 0 i) : mo_tb (mo_lv1 P i) i := by
  obtain ⟨h1, h3⟩ := h
  unfold mo_tb mo_lv1
  refine ⟨?_, fun j hj => ?_⟩
  · simp [fd_u3_at]
    omega
  · have h4 := h3 j hj
    simp [fd_u3_at]
    omega
theorem mo_tb_of {P Q : fd_Mem} {i : Nat} (h : mo_tb P i) (h9 : Q 9 0 i = P 9 0 i) (h10 : ∀ x, Q 10 0 x = P 10 0 x) : mo_tb Q i := by
  unfold mo_tb at h ⊢
  rw [h9]
  exact ⟨h.1, fun x hx => by rw [h10]; exact h.2 x hx⟩
def mo_gv (P : fd_Mem) (i sq : Nat) : fd_Mem := fd_u3 (fd_u3 (fd_u3 P 10 0 (6 * (i : Int) + P 9 0 i).toNat (sq : Int)) 9 0 i (P 9 0 i + 1)) 11 0 sq ((i : Int) + 1)
def mo_fr (P : fd_Mem) : Nat → Int
  | 0 => 0
  | n + 1 => mo_fr P n + (if P 11 0 n = 0 then 1 else 0)
theorem mo_fr_s (P : fd_Mem) (n : Nat) : mo_fr P (n + 1) = mo_fr P n + (if P 11 0 n = 0 then 1 else 0) := rfl
theorem mo_fr_bd (P : fd_Mem) : ∀ n : Nat, 0 ≤ mo_fr P n ∧ mo_fr P n ≤ n
  | 0 => by
    show (0 : Int) ≤ 0 ∧ (0 : Int) ≤ 0
    omega
  | n + 1 => by
    have h := mo_fr_bd P n
    rw [mo_fr_s]
    split <;> omega
def mo_fa (P : fd_Mem) : Nat → Nat → Int
  | 0, _ => 1
  | d + 1, sq => if P 11 0 sq = 0 then mo_fa P d (sq + 1) else 0
theorem mo_fa_s (P : fd_Mem) (d sq : Nat) : mo_fa P (d + 1) sq = if P 11 0 sq = 0 then mo_fa P d (sq + 1) else 0 := rfl
theorem mo_fa_01 (P : fd_Mem) : ∀ d sq, mo_fa P d sq = 0 ∨ mo_fa P d sq = 1
  | 0, _ => Or.inr rfl
  | d + 1, sq => by
    rw [mo_fa_s]
    split
    · exact mo_fa_01 P d (sq + 1)
    · exact Or.inl rfl
def mo_ir (P : fd_Mem) (v w a : Nat) : Int := if ((a + w : Nat) : Int) - 1 < P 0 0 1 ∧ (a : Int) / v = (((a + w : Nat) : Int) - 1) / v then mo_fa P w a else 0
theorem mo_ir_01 (P : fd_Mem) (v w a : Nat) : mo_ir P v w a = 0 ∨ mo_ir P v w a = 1 := by
  unfold mo_ir
  split
  · exact mo_fa_01 P w a
  · exact Or.inl rfl
def mo_fd (P : fd_Mem) (v w : Nat) : Nat → Nat → Int
  | 0, _ => -1
  | d + 1, sq => if mo_ir P v w sq = 1 then (sq : Int) else mo_fd P v w d (sq + 1)
theorem mo_fd_s (P : fd_Mem) (v w d sq : Nat) : mo_fd P v w (d + 1) sq = if mo_ir P v w sq = 1 then (sq : Int) else mo_fd P v w d (sq + 1) := rfl
theorem mo_fd_bd (P : fd_Mem) (v w : Nat) : ∀ d sq, mo_fd P v w d sq = -1 ∨ (((sq : Int) ≤ mo_fd P v w d sq ∧ mo_fd P v w d sq < sq + d) ∧ mo_ir P v w (mo_fd P v w d sq).toNat = 1)
  | 0, _ => Or.inl rfl
  | d + 1, sq => by
    rw [mo_fd_s]
    split
    · next h => exact Or.inr ⟨by omega, by rw [Int.toNat_natCast]; exact h⟩
    · rcases mo_fd_bd P v w d (sq + 1) with h | h
      · exact Or.inl h
      · exact Or.inr ⟨by omega, h.2⟩
def mo_gf (i : Nat) : Nat → Nat → Int → fd_Mem → fd_Mem
  | 0, _, _, P => P
  | d + 1, sq, k, P => if k ≤ 0 then P else if P 11 0 sq = 0 then mo_gf i d (sq + 1) (k - 1) (mo_gv P i sq) else mo_gf i d (sq + 1) k P
theorem mo_gf_s (i d sq : Nat) (k : Int) (P : fd_Mem) : mo_gf i (d + 1) sq k P = if k ≤ 0 then P else if P 11 0 sq = 0 then mo_gf i d (sq + 1) (k - 1) (mo_gv P i sq) else mo_gf i d (sq + 1) k P := rfl
/-- what giving k seats asks -/
def mo_gb (B : Int) (P : fd_Mem) (i : Nat) (k : Int) : Prop := P 0 0 1 = B ∧ (0 ≤ k ∧ 0 ≤ P 9 0 i ∧ P 9 0 i + k ≤ 6) ∧ ∀ sq, sq < 60 → 0 ≤ P 11 0 sq ∧ P 11 0 sq ≤ 60
theorem mo_gb_gv {B : Int} {P : fd_Mem} {i sq : Nat} {k : Int} (h : mo_gb B P i k) (hk : 0 < k) (hi : i < 60) : mo_gb B (mo_gv P i sq) i (k - 1) := by
  obtain ⟨h1, h2, h3⟩ := h
  unfold mo_gb mo_gv
  refine ⟨?_, ?_, fun t ht => ?_⟩
  · simp [fd_u3_at]
    omega
  · simp [fd_u3_at]
    omega
  · have h4 := h3 t ht
    simp [fd_u3_at]
    split <;> omega
theorem mo_ok.gb {P : fd_Mem} (h : mo_ok P) {i : Nat} (hi : i < 60) : mo_gb (P 0 0 1) P i (P 5 0 i - P 9 0 i) := ⟨rfl, by have := h.sea hi; have := h.pla hi; omega, fun _ hx => h.own hx⟩
def mo_gr (i : Nat) : Nat → Nat → fd_Mem → fd_Mem
  | 0, _, P => P
  | d + 1, sq, P => mo_gr i d (sq + 1) (mo_gv P i sq)
theorem mo_gr_s (i d sq : Nat) (P : fd_Mem) : mo_gr i (d + 1) sq P = mo_gr i d (sq + 1) (mo_gv P i sq) := rfl
def mo_st (P : fd_Mem) (w : Nat) : Int := if mo_fd P 3 w (P 0 0 1).toNat 0 < 0 then mo_fd P 6 w (P 0 0 1).toNat 0 else mo_fd P 3 w (P 0 0 1).toNat 0
def mo_tg (P : fd_Mem) (n : Nat) : fd_Mem := if mo_st P (P 5 0 n - P 9 0 n).toNat < 0 then mo_gf n (P 0 0 1).toNat 0 (P 5 0 n - P 9 0 n) P else mo_gr n (P 5 0 n - P 9 0 n).toNat (mo_st P (P 5 0 n - P 9 0 n).toNat).toNat P
def mo_bd (P : fd_Mem) (i : Nat) : fd_Mem × Int := if mo_fr P (P 0 0 1).toNat < P 5 0 i - P 9 0 i then (fd_u3 (fd_u3 (fd_u3 (mo_lv i (P 9 0 i - 0).toNat P) 3 0 i 7) 0 0 3 ((mo_lv i (P 9 0 i - 0).toNat P) 0 0 3 - (mo_lv i (P 9 0 i - 0).toNat P) 8 0 i)) 8 0 i 0, 0) else (fd_u3 (mo_gf i (P 0 0 1).toNat 0 (P 5 0 i - P 9 0 i) P) 3 0 i 6, (mo_gf i (P 0 0 1).toNat 0 (P 5 0 i - P 9 0 i) P) 5 0 i)
def mo_e (P : fd_Mem) : Nat → fd_Mem
  | 0 => P
  | n + 1 => fd_u3 (mo_e P n) 3 0 n (if (mo_e P n) 3 0 n = 1 then 5 else if (mo_e P n) 3 0 n = 3 then 4 else (mo_e P n) 3 0 n)
theorem mo_e_s (P : fd_Mem) (n : Nat) : mo_e P (n + 1) = fd_u3 (mo_e P n) 3 0 n (if (mo_e P n) 3 0 n = 1 then 5 else if (mo_e P n) 3 0 n = 3 then 4 else (mo_e P n) 3 0 n) := rfl
theorem mo_e_k (P : fd_Mem) {k : Nat} (hk : k ≠ 3) (i j : Nat) : ∀ n, (mo_e P n) k i j = P k i j
  | 0 => rfl
  | n + 1 => by
    rw [mo_e_s, fd_u3_k hk]
    exact mo_e_k P hk i j n
theorem mo_e_f (P : fd_Mem) (j : Nat) : ∀ n, n ≤ j → (mo_e P n) 3 0 j = P 3 0 j
  | 0, _ => rfl
  | n + 1, h => by
    rw [mo_e_s, fd_u3_j (by omega)]
    exact mo_e_f P j n (by omega)
def mo_cl (X : fd_Mem × Int) (f : Int) : Nat → fd_Mem × Int
  | 0 => X
  | n + 1 => if (mo_cl X f n).1 3 0 n = 2 ∧ (mo_cl X f n).1 4 0 n = f then ((mo_bd (mo_cl X f n).1 n).1, (mo_cl X f n).2 + (mo_bd (mo_cl X f n).1 n).2) else mo_cl X f n
theorem mo_cl_s (X : fd_Mem × Int) (f : Int) (n : Nat) : mo_cl X f (n + 1) = if (mo_cl X f n).1 3 0 n = 2 ∧ (mo_cl X f n).1 4 0 n = f then ((mo_bd (mo_cl X f n).1 n).1, (mo_cl X f n).2 + (mo_bd (mo_cl X f n).1 n).2) else mo_cl X f n := rfl
def mo_c0 (P : fd_Mem) : fd_Mem := mo_e (fd_u3 (fd_u3 P 0 0 0 0) 0 0 4 1) (P 0 0 7).toNat
def mo_ca (P : fd_Mem) : Nat → fd_Mem × Int
  | 0 => (mo_c0 P, 0)
  | f + 1 => mo_cl (mo_ca P f) (f : Int) (P 0 0 7).toNat
theorem mo_ca_s (P : fd_Mem) (f : Nat) : mo_ca P (f + 1) = mo_cl (mo_ca P f) (f : Int) (P 0 0 7).toNat := rfl
def mo_xp (P : fd_Mem) : Nat → fd_Mem × Int
  | 0 => (P, 0)
  | n + 1 => if (mo_xp P n).1 3 0 n = 1 ∧ (mo_xp P n).1 7 0 n ≤ (mo_xp P n).1 0 0 2 then (fd_u3 (mo_xp P n).1 3 0 n 5, 1) else mo_xp P n
theorem mo_xp_s (P : fd_Mem) (n : Nat) : mo_xp P (n + 1) = if (mo_xp P n).1 3 0 n = 1 ∧ (mo_xp P n).1 7 0 n ≤ (mo_xp P n).1 0 0 2 then (fd_u3 (mo_xp P n).1 3 0 n 5, 1) else mo_xp P n := rfl
theorem mo_xp_k (P : fd_Mem) {k : Nat} (hk : k ≠ 3) (i j : Nat) : ∀ n, (mo_xp P n).1 k i j = P k i j
  | 0 => rfl
  | n + 1 => by
    rw [mo_xp_s]
    split
    · show (fd_u3 (mo_xp P n).1 3 0 n 5) k i j = P k i j
      rw [fd_u3_k hk]
      exact mo_xp_k P hk i j n
    · exact mo_xp_k P hk i j n
theorem mo_xp_f (P : fd_Mem) (j : Nat) : ∀ n, n ≤ j → (mo_xp P n).1 3 0 j = P 3 0 j
  | 0, _ => rfl
  | n + 1, h => by
    rw [mo_xp_s]
    split
    · show (fd_u3 (mo_xp P n).1 3 0 n 5) 3 0 j = P 3 0 j
      rw [fd_u3_j (by omega)]
      exact mo_xp_f P j n (by omega)
    · exact mo_xp_f P j n (by omega)
theorem mo_xp_01 (P : fd_Mem) : ∀ n, (mo_xp P n).2 = 0 ∨ (mo_xp P n).2 = 1
  | 0 => Or.inl rfl
  | n + 1 => by
    rw [mo_xp_s]
    split
    · exact Or.inr rfl
    · exact mo_xp_01 P n
/-- one tick leads from S to Z -/
def mo_q (P : fd_Mem) : fd_Mem := fd_u3 P 0 0 2 (P 0 0 2 + 1)
def mo_x (P : fd_Mem) : fd_Mem × Int := mo_xp (mo_q P) (P 0 0 7).toNat
def mo_stp (P Z : fd_Mem) : Prop := mo_ok (mo_q P) ∧ P 0 0 0 = 0 ∧ (((mo_x P).2 = 0 ∧ Z = (mo_x P).1) ∨ ((mo_x P).2 = 1 ∧ mo_ok (mo_x P).1 ∧ ∃ d, mo_sv d 0 (mo_x P).1 = some Z))
def mo_of (P : fd_Mem) (n : Nat) (w : Int) : Int := if w = 0 then P 3 0 n else if w = 1 then P 4 0 n else if w = 2 then P 5 0 n else if w = 3 then P 9 0 n else if w = 4 then P 8 0 n else if w = 5 then (if P 3 0 n = 1 then P 7 0 n else -1) else (if 0 < P 9 0 n then P 10 0 (6 * (n : Int)).toNat else -1)
def mo_ct (P : fd_Mem) (w : Int) : Nat → Int
  | 0 => 0
  | n + 1 => mo_ct P w n + (if w = 2 ∧ (P 3 0 n = 1 ∨ P 3 0 n = 2 ∨ P 3 0 n = 6) then P 5 0 n else if w = 3 ∧ P 3 0 n = 3 then 1 else 0)
theorem mo_ct_s (P : fd_Mem) (w : Int) (n : Nat) : mo_ct P w (n + 1) = mo_ct P w n + (if w = 2 ∧ (P 3 0 n = 1 ∨ P 3 0 n = 2 ∨ P 3 0 n = 6) then P 5 0 n else if w = 3 ∧ P 3 0 n = 3 then 1 else 0) := rfl
def mo_cnt (P : fd_Mem) (w : Int) : Int := if w = 0 then P 0 0 2 else if w = 1 then P 0 0 7 else if w = 2 ∨ w = 3 then mo_ct P w (P 0 0 7).toNat else if w = 4 then P 0 0 3 else if w = 5 then mo_fr P (P 0 0 1).toNat else P 0 0 4
theorem mo_fr_thr (P : fd_Mem) (z : Int) : ∀ n, mo_fr (fd_u3 P 0 0 0 z) n = mo_fr P n
  | 0 => rfl
  | n + 1 => by
    rw [mo_fr_s, mo_fr_s, mo_fr_thr P z n, fd_u3_k (by decide)]
theorem mo_ir_lt {P : fd_Mem} {v w a : Nat} (h : mo_ir P v w a = 1) : ((a + w : Nat) : Int) - 1 < P 0 0 1 := by
  unfold mo_ir at h
  split at h
  · next q => exact q.1
  · exact absurd h (by decide)
theorem mo_gv_9 (P : fd_Mem) (i sq : Nat) : (mo_gv P i sq) 9 0 i = P 9 0 i + 1 := by simp [mo_gv, fd_u3_at]
