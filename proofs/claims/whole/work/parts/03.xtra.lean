/-! words that the tables give and that do not go over to every later state by themselves; texts of the exceptions -/
def fd_bad : List Cond := [.castable "java/lang/IllegalArgumentException" "java/lang/IllegalArgumentException", .declares ⟨"java/lang/RuntimeException", "<init>", "()V"⟩, .declares ⟨"java/lang/RuntimeException", "<init>", "(Ljava/lang/String;)V"⟩, .declares ⟨"java/lang/Exception", "<init>", "()V"⟩, .declares ⟨"java/lang/Exception", "<init>", "(Ljava/lang/String;)V"⟩, .declares ⟨"java/lang/Throwable", "<init>", "()V"⟩, .declares ⟨"java/lang/Throwable", "<init>", "(Ljava/lang/String;)V"⟩, .castable "java/lang/IllegalStateException" "java/lang/IllegalStateException", .castable "java/lang/UnsupportedOperationException" "java/lang/UnsupportedOperationException"]
def fd_str : List (Nat × String) := [(226, "no such fare"), (50, "no such limit for this fare"), (228, "the journey is closed"), (65, "no such price"), (230, "no booking has so many places"), (232, "none is held for so many ticks"), (234, "no more bookings"), (236, "no room in this fare"), (244, "no such booking"), (103, "not held"), (238, "neither held, confirmed nor waiting"), (129, "not so many places can go"), (141, "neither held nor confirmed"), (148, "no room in that fare"), (155, "no such seat"), (240, "not confirmed"), (242, "each place has a seat"), (163, "the seat is taken"), (178, "too few seats are free"), (186, "not so many ticks"), (210, "nothing of a booking has this number"), (224, "nothing is counted under this number")]
theorem fd_bad_tab : ∀ w ∈ fd_bad, w.onTables = true := by
  intro w hw
  simp only [fd_bad, List.mem_cons, List.not_mem_nil, or_false] at hw
  rcases hw with rfl | rfl | rfl | rfl | rfl | rfl | rfl | rfl | rfl <;> rfl
theorem fd_bad_warm {s U : State} (hW : s.WarmedH U.vm) : ∀ w ∈ fd_bad, va_Nw w s → va_Nw w U := by
  intro w hw h
  simp only [fd_bad, List.mem_cons, List.not_mem_nil, or_false] at hw
  rcases hw with rfl | rfl | rfl | rfl | rfl | rfl | rfl | rfl | rfl
  · exact va_Nw.warmC hW h
  · exact va_Nw.warmD hW h
  · exact va_Nw.warmD hW h
  · exact va_Nw.warmD hW h
  · exact va_Nw.warmD hW h
  · exact va_Nw.warmD hW h
  · exact va_Nw.warmD hW h
  · exact va_Nw.warmC hW h
  · exact va_Nw.warmC hW h
