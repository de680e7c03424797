/-! words of the links, channels and lines that the invariant speaks of -/
def lkx (σ : Sg) (x k : Nat) : Int32 := cb (sgI σ 0 k) (nI x)
def behL (σ : Sg) (b x : Nat) : Int32 := clo (lkx σ x) b
theorem cb_bt (m : Int32) {k i : Nat} (hk : k < 6) (h : bt (cb m (nI k)) i = true) : bt m i = true ∧ i ≠ k := by
  by_cases hi : i < 32
  · rw [hs_cb m (by omega) hi, Bool.and_eq_true, Bool.not_eq_true', decide_eq_false_iff_not] at h
    exact h
  · rw [b_big (by omega)] at h; cases h
def cI (σ : Sg) (i : Nat) : Prop := sgI σ 5 i = 0 ↔ sgI σ 2 i = -1
def dst (σ : Sg) (s : Nat) : Prop := ∀ u v, u < sgN σ 0 → v < sgN σ 0 → bt (sgI σ 1 s) u = true → bt (sgI σ 1 s) v = true → sgI σ 6 u = sgI σ 6 v → u = v
theorem take_I (σ : Sg) (i : Nat) (ag md bn pr : Int32) (f j : Nat) (h : ¬ (2 ≤ f ∧ f ≤ 5 ∧ j = i)) : sgI (takeInL σ i ag md bn pr) f j = sgI σ f j := by
  show sgI (uI (uI (uI (uI σ 3 i _) 4 i _) 2 i _) 5 i _) f j = _
  rw [sgI_uI, if_neg (by omega), sgI_uI, if_neg (by omega), sgI_uI, if_neg (by omega), sgI_uI, if_neg (by omega)]
theorem take_2 (σ : Sg) (i : Nat) (ag md bn pr : Int32) : sgI (takeInL σ i ag md bn pr) 2 i = if sgI σ 2 i = -1 then ag else if ag < sgI σ 2 i then ag else sgI σ 2 i := by
  show sgI (uI (uI (uI (uI σ 3 i _) 4 i _) 2 i (if sgI σ 2 i = -1 then ag else if ag < sgI σ 2 i then ag else sgI σ 2 i)) 5 i _) 2 i = _
  rw [sgI_uI, if_neg (by omega), sgI_uI, if_pos ⟨rfl, rfl⟩]
theorem take_5 (σ : Sg) (i : Nat) (ag md bn pr : Int32) : sgI (takeInL σ i ag md bn pr) 5 i = sgI σ 5 i ||| pr := by
  show sgI (uI (uI (uI (uI σ 3 i _) 4 i _) 2 i _) 5 i (_ ||| pr)) 5 i = _
  rw [sgI_uI, if_pos ⟨rfl, rfl⟩]
def lnX (ln : Ln) : Prop := (ln.1 = 3 → ∃ u, u < 20 ∧ ln.2.2.1 = nI u) ∧ ((ln.1 = 2 ∨ ln.1 = 4) → ln.2.2.2.1 ≠ -1)
theorem connect_ne (σ : Sg) (s d : Nat) (f i : Nat) (hf : f ≠ 0) : sgI (connectL σ s d) f i = sgI σ f i := by
  show sgI (uI (uI σ 0 s _) 0 d _) f i = _
  rw [sgI_uI, if_neg (by omega), sgI_uI, if_neg (by omega)]
