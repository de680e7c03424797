/-! the empty state keeps all that -/
theorem zero_W : WFu σ0 := ⟨by decide, fun u hu => absurd hu (Nat.not_lt_zero u)⟩
theorem zero_l : WFl σ0 := fun u hu => absurd hu (Nat.not_lt_zero u)
theorem zero_q : wfq σ0 := fun w ln hl => by cases hl
theorem zero_t : tot σ0 = 0 := rfl
theorem zero_lim {n : Nat} (hn : 0 < n) : lim σ0 n := ⟨hn, hn⟩
