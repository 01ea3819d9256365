/-! the world that the constructors leave, as the law's world -/
def la_a (h a1 h2 q3 q4 q5 h6 q7 : Nat) (f8 f9 : Nat → Nat) (hm : Nat) (q : Nat → Nat) (qo : Nat) : Nat → Nat → Nat := fun k i => match k with
  | 0 => h | 1 => a1 | 2 => h2 | 3 => q3 | 4 => q4 | 5 => q5 | 6 => h6 | 7 => q7 | 8 => f8 i | 9 => f9 i | 10 => qo | 20 => hm | k => q (k - 20)
def wi_model (cI : ClassId) (L h : Nat) (q : Nat → Nat) : va_W := [(h, .inr (4, wi_m L q)), ((q 1), .inl (cI, 4, .inl (fun j => fd_I (wi_mp 4 j)))), ((q 2), .inl (cI, 4, .inl (fun j => fd_I (if j < 4 then (L : Int) else 0)))), ((q 3), .inl (cI, 60, .inl (fun _ => fd_I 0))), ((q 4), .inl (cI, 60, .inl (fun _ => fd_I 0))), ((q 5), .inl (cI, 60, .inl (fun _ => fd_I 0))), ((q 6), .inl (cI, 60, .inl (fun _ => fd_I 0))), ((q 7), .inl (cI, 60, .inl (fun _ => fd_I 0))), ((q 8), .inl (cI, 60, .inl (fun _ => fd_I 0))), ((q 9), .inl (cI, 60, .inl (fun _ => fd_I 0))), ((q 10), .inl (cI, 360, .inl (fun _ => fd_I 0))), ((q 11), .inl (cI, 60, .inl (fun _ => fd_I 0)))]
def la_i (k i : Nat) : Nat := if k < 8 then k else if k = 8 then 8 + 2 * i else if k = 9 then 9 + 2 * i else if k = 10 then 140 else 108 + k
theorem la_wl_cases {k i : Nat} (h : (k, i) ∈ la_wl) : (k < 8 ∧ i = 0) ∨ (k = 8 ∧ i < 60) ∨ (k = 9 ∧ i < 60) ∨ (k = 10 ∧ i = 0) ∨ (20 ≤ k ∧ k < 32 ∧ i = 0) := by
  rcases la_wl_in h with h | ⟨k1, h9, rfl⟩
  · rcases List.mem_append.mp h with h | h
    · unfold ds_wl at h
      rcases List.mem_append.mp h with h | h
      · simp only [List.mem_cons, Prod.mk.injEq, List.not_mem_nil, or_false] at h
        omega
      · rcases List.mem_append.mp h with h | h
        · obtain ⟨j, hj, he⟩ := List.mem_map.mp h
          rw [List.mem_range] at hj
          have e1 : 8 = k := congrArg Prod.fst he
          have e2 : j = i := congrArg Prod.snd he
          omega
        · obtain ⟨j, hj, he⟩ := List.mem_map.mp h
          rw [List.mem_range] at hj
          have e1 : 9 = k := congrArg Prod.fst he
          have e2 : j = i := congrArg Prod.snd he
          omega
    · simp only [List.mem_cons, Prod.mk.injEq, List.not_mem_nil, or_false] at h
      omega
  · have := mo_wl_lt h9
    omega
theorem la_i_inj {k i k' i' : Nat} (h : (k, i) ∈ la_wl) (h' : (k', i') ∈ la_wl) (e : la_i k i = la_i k' i') : k = k' ∧ i = i' := by
  have c := la_wl_cases h
  have c' := la_wl_cases h'
  unfold la_i at e
  repeat' split at e
  all_goals omega
theorem wi_pair_at (cI : ClassId) (f8 f9 : Nat → Nat) : ∀ n i, i < n → (wi_pair cI f8 f9 n)[2 * i]? = some (f8 i, .inr (1, wi_b i (f9 i))) ∧ (wi_pair cI f8 f9 n)[2 * i + 1]? = some (f9 i, .inl (cI, 6, .inl (fun _ => fd_I 0)))
  | 0, i, h => absurd h (by omega)
  | n + 1, i, h => by
    have hl := wi_len cI f8 f9 n
    unfold wi_pair
    by_cases hq : i = n
    · subst hq
      rw [List.getElem?_append_right (by omega), List.getElem?_append_right (by omega), hl, show 2 * i - 2 * i = 0 by omega, show 2 * i + 1 - 2 * i = 1 by omega]
      exact ⟨rfl, rfl⟩
    · rw [List.getElem?_append_left (by omega), List.getElem?_append_left (by omega)]
      exact wi_pair_at cI f8 f9 n i (by omega)
section LC
variable {D : va_G} {A : Nat → Prop} {cI cB cJ : ClassId} {L h a1 h2 q3 q4 q5 h6 q7 hm qo : Nat} {f8 f9 q : Nat → Nat} {H : Heap}
theorem la_conv_D {ws : va_W} {ad : Nat → Nat → Nat} {en : Nat → Nat → (Nat → Int) → va_E} {M : fd_Mem} (hix : ∀ k i, (k, i) ∈ la_wl → ∃ e0, ws[la_i k i]? = some (ad k i, e0)) (hD : va_D A ws) : va_D A (fd_W ad en la_wl M) := by
  refine ⟨fun a b x y hx hy hxy => ?_, fun a x hx => ?_⟩
  · obtain ⟨k, i, hk, rfl⟩ := fd_W_inv hx
    obtain ⟨k', i', hk', rfl⟩ := fd_W_inv hy
    have hm := List.mem_of_getElem? hk
    have hm' := List.mem_of_getElem? hk'
    obtain ⟨e1, g1⟩ := hix k i hm
    obtain ⟨e2, g2⟩ := hix k' i' hm'
    have h9 := hD.1 _ _ _ _ g1 g2 hxy
    obtain ⟨rfl, rfl⟩ := la_i_inj hm hm' h9
    exact (List.getElem?_inj (List.getElem?_eq_some_iff.mp hk).1 la_nd).mp (hk.trans hk'.symm)
  · obtain ⟨k, i, hk, rfl⟩ := fd_W_inv hx
    obtain ⟨e1, g1⟩ := hix k i (List.mem_of_getElem? hk)
    have h9 := hD.2 _ (ad k i, e1) g1
    exact h9
theorem la_len : (wi_desk cI cB L h a1 h2 q3 q4 q5 h6 q7 f8 f9 60).length = 128 := by
  unfold wi_desk
  simp only [List.length_cons]
  rw [wi_len]
theorem la_conv_at {k i : Nat} (hki : (k, i) ∈ la_wl) : ∃ e0, (wi_desk cI cB L h a1 h2 q3 q4 q5 h6 q7 f8 f9 60 ++ (wi_model cI L hm q ++ ([(qo, .inl (cJ, 1, .inr (.inl (fun _ => 0))))] : va_W)))[la_i k i]? = some (la_a h a1 h2 q3 q4 q5 h6 q7 f8 f9 hm q qo k i, e0) ∧ ∀ H : Heap, va_at D fd_cl (la_a h a1 h2 q3 q4 q5 h6 q7 f8 f9 hm q qo k i, e0) H → va_at D fd_cl (la_a h a1 h2 q3 q4 q5 h6 q7 f8 f9 hm q qo k i, la_en cI cB cJ L (la_a h a1 h2 q3 q4 q5 h6 q7 f8 f9 hm q qo) k i (la_M (ds_M0 L) (mo_M0 L) 0 k i)) H := by
  rcases la_wl_cases hki with ⟨hk, rfl⟩ | ⟨rfl, hi⟩ | ⟨rfl, hi⟩ | ⟨rfl, rfl⟩ | ⟨h1, h2', rfl⟩
  · rcases (show k = 0 ∨ k = 1 ∨ k = 2 ∨ k = 3 ∨ k = 4 ∨ k = 5 ∨ k = 6 ∨ k = 7 by omega) with rfl | rfl | rfl | rfl | rfl | rfl | rfl | rfl
    · exact ⟨_, rfl, fun H hh => hh⟩
    · refine ⟨_, rfl, fun H hh => ?_⟩
      have e : vp_cell cB (60, .inr (.inr (.inr (.inr (wi_arr f8 60))))) = vp_cell cB (60, .inr (.inr (.inr (.inr (fun j => some (f8 j)))))) := by
        have ef : (fun j : Fin 60 => va_rf (wi_arr f8 60 j.val)) = (fun j : Fin 60 => va_rf (some (f8 j.val))) := by
          funext j
          unfold wi_arr
          rw [if_pos j.isLt]
        show ({ cls := cB, slots := Array.ofFn (n := 60) fun j => va_rf (wi_arr f8 60 j.val), vm := .none } : Cell) = { cls := cB, slots := Array.ofFn (n := 60) fun j => va_rf (some (f8 j.val)), vm := .none }
        rw [ef]
      show H[a1]? = some (vp_cell cB (60, .inr (.inr (.inr (.inr (fun j => some (f8 j)))))))
      rw [← e]
      exact hh
    · exact ⟨_, rfl, fun H hh => hh⟩
    · exact ⟨_, rfl, fun H hh => hh⟩
    · exact ⟨_, rfl, fun H hh => hh⟩
    · exact ⟨_, rfl, fun H hh => hh⟩
    · exact ⟨_, rfl, fun H hh => hh⟩
    · exact ⟨_, rfl, fun H hh => hh⟩
  · have e : la_i 8 i = 2 * i + 1 + 1 + 1 + 1 + 1 + 1 + 1 + 1 := by
      show 8 + 2 * i = _
      omega
    refine ⟨.inr (1, wi_b i (f9 i)), ?_, fun H hh => hh⟩
    rw [e, List.getElem?_append_left (by rw [la_len]; omega)]
    unfold wi_desk
    simp only [List.getElem?_cons_succ]
    exact (wi_pair_at cI f8 f9 60 i hi).1
  · have e : la_i 9 i = (2 * i + 1) + 1 + 1 + 1 + 1 + 1 + 1 + 1 + 1 := by
      show 9 + 2 * i = _
      omega
    refine ⟨.inl (cI, 6, .inl (fun _ => fd_I 0)), ?_, fun H hh => hh⟩
    rw [e, List.getElem?_append_left (by rw [la_len]; omega)]
    unfold wi_desk
    simp only [List.getElem?_cons_succ]
    exact (wi_pair_at cI f8 f9 60 i hi).2
  · refine ⟨.inl (cJ, 1, .inr (.inl (fun _ => 0))), ?_, fun H hh => ?_⟩
    · rw [show la_i 10 0 = 140 from rfl, List.getElem?_append_right (by rw [la_len]; omega), la_len]
      rfl
    · have e : (fun j => (fd_I (la_M (ds_M0 L) (mo_M0 L) 0 10 0 j)).toInt64) = (fun _ => (0 : Int64)) := by
        funext j
        show (fd_I (if 0 = 0 ∧ j = 0 then 0 else 0)).toInt64 = 0
        split <;> rfl
      show H[qo]? = some (vp_cell cJ (1, .inr (.inl (fun j => (fd_I (la_M (ds_M0 L) (mo_M0 L) 0 10 0 j)).toInt64))))
      rw [e]
      exact hh
  · have e : la_i k 0 = 128 + (k - 20) := by
      unfold la_i
      rw [if_neg (by omega), if_neg (by omega), if_neg (by omega), if_neg (by omega)]
      omega
    rw [e, List.getElem?_append_right (by rw [la_len]; omega), la_len, show 128 + (k - 20) - 128 = k - 20 by omega]
    rcases (show k = 20 ∨ k = 21 ∨ k = 22 ∨ k = 23 ∨ k = 24 ∨ k = 25 ∨ k = 26 ∨ k = 27 ∨ k = 28 ∨ k = 29 ∨ k = 30 ∨ k = 31 by omega) with rfl | rfl | rfl | rfl | rfl | rfl | rfl | rfl | rfl | rfl | rfl | rfl <;> exact ⟨_, rfl, fun H hh => hh⟩
end LC
