/-! what holds at the law's start -/
section LST
variable {s : State} {args : Array Value}
theorem la_words (h : ∀ w ∈ lw_tbl, w.before args s = true) : ∀ w ∈ fd_T, w.before args s = true := fun w hw => h w (List.mem_filter.mp hw).1
theorem la_str (h : ∀ w ∈ lw_tbl, w.before args s = true) : ∀ q ∈ fd_str, ∃ a : Nat, vk_R "FareDesk" q.1 q.2 a s := by
  intro q hq
  have h1 : (Cond.stringRef "FareDesk" q.1 q.2).before args s = true := h _ (by
    have h2 : ∀ q ∈ fd_str, Cond.stringRef "FareDesk" q.1 q.2 ∈ lw_tbl := by decide +kernel
    exact h2 q hq)
  have h3 : (Cond.stringRef "FareDesk" q.1 q.2).before #[] s = true := by
    simp only [Cond.before, Cond.holds, Cond.value] at h1 ⊢
    exact h1
  have h4 := h3
  simp only [Cond.before, Cond.holds, Cond.value] at h4
  cases hr : s.resolvedAt? "FareDesk" q.1 with
  | none => cases hc : s.vm.findClass "FareDesk" <;> simp [hr, hc] at h4
  | some r =>
    cases r with
    | string a => exact ⟨a, vk_R.of h3 (by
        unfold State.resolvedAt? at hr
        cases hc : s.vm.findClass "FareDesk" with
        | none => simp [hc] at hr
        | some c =>
          cases hk : s.vm.classes[c]? with
          | none => simp [hc, hk] at hr
          | some k =>
            simp [hc, hk] at hr
            simp [Term.eval, hc, hk, hr])⟩
    | _ => cases hc : s.vm.findClass "FareDesk" <;> simp [hr, hc] at h4
theorem la_N3 (h : (Jvm.Cond.and given_1 narrow_1).before args s = true) : fd_N3 s := by
  have hs := flat_of_before _ h
  exact ⟨va_Nc.of (hs (Cond.not (.castable "java/lang/IllegalStateException" "java/lang/IllegalArgumentException")) (by decide +kernel)), va_Nc.of (hs (Cond.not (.castable "java/lang/UnsupportedOperationException" "java/lang/IllegalArgumentException")) (by decide +kernel)), va_Nc.of (hs (Cond.not (.castable "java/lang/UnsupportedOperationException" "java/lang/IllegalStateException")) (by decide +kernel))⟩
theorem la_Ex (ht : ∀ w ∈ lw_tbl, w.before args s = true) (h : (Jvm.Cond.and given_1 narrow_1).before args s = true) : fd_Ex (fun q => s.heap.size ≤ q) s s.heap := by
  have hs := flat_of_before _ h
  refine ⟨?_, ?_, fun w hw => va_Nw.of (fd_bad_tab w hw) (ht w ?_), la_str ht⟩
  · exact vx_Zqof (ht _ (by decide +kernel)) (ht _ (by decide +kernel)) (hs _ (by decide +kernel)) (fun a h1 h2 => by omega)
  · exact vx_Zqof (ht _ (by decide +kernel)) (ht _ (by decide +kernel)) (hs _ (by decide +kernel)) (fun a h1 h2 => by omega)
  · have h2 : ∀ w ∈ fd_bad, w ∈ lw_tbl := by decide +kernel
    exact h2 w hw
theorem la_K (ht : ∀ w ∈ lw_tbl, w.before args s = true) : ∃ D : va_G, va_K D fd_cl [] s := by
  have hD := u_known (C := RD) (T := TD) (N := 7) (n := 7) (la_words ht) wsD (la_words ht _ (by decide +kernel))
  have hB := u_known (C := RB) (T := TB) (N := 9) (n := 9) (la_words ht) wsB (la_words ht _ (by decide +kernel))
  have hF := u_known (C := RF) (T := TF) (N := 3) (n := 3) (la_words ht) wsF (la_words ht _ (by decide +kernel))
  have hK := u_known (C := RK) (T := TK) (N := 2) (n := 2) (la_words ht) wsK (la_words ht _ (by decide +kernel))
  have hM := u_known (C := RM) (T := TM) (N := 17) (n := 17) (la_words ht) wsM (la_words ht _ (by decide +kernel))
  obtain ⟨c0, i0, h0⟩ := hD
  obtain ⟨c1, i1, h1⟩ := hB
  obtain ⟨c2, i2, h2⟩ := hF
  obtain ⟨c3, i3, h3⟩ := hK
  obtain ⟨c4, i4, h4⟩ := hM
  refine ⟨(fun k => match k with | 0 => c0 | 1 => c1 | 2 => c2 | 3 => c3 | _ => c4, fun k => match k with | 0 => i0 | 1 => i1 | 2 => i2 | 3 => i3 | _ => i4), fun c q hq => ?_, fun k q hq => by simp at hq⟩
  match c, hq with
  | 0, hq => cases hq; exact h0
  | 1, hq => cases hq; exact h1
  | 2, hq => cases hq; exact h2
  | 3, hq => cases hq; exact h3
  | 4, hq => cases hq; exact h4
  | c + 5, hq => simp [fd_cl] at hq
end LST
