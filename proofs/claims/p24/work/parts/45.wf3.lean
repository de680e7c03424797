theorem rngI {p : Int32} {a b : Nat} (hb : b < 2 ^ 31) (hab : a ≤ b) (h : nI a ≤ p ∧ p ≤ nI b) : ∃ l, a + l ≤ b ∧ p = nI l + nI a := by
  have h0 := Int32.le_iff_toInt_le.mp h.1
  have h1 := Int32.le_iff_toInt_le.mp h.2
  rw [nI_toInt (by omega)] at h0
  rw [nI_toInt hb] at h1
  refine ⟨p.toInt.toNat - a, by omega, Int32.toInt_inj.mp ?_⟩
  rw [nI_add, nI_toInt (by omega)]
  omega
theorem letL_ok {q : Int32} (h : letL q ≠ -1) : ∃ l, l < 26 ∧ letL q = nI l := by
  unfold letL at h ⊢
  split
  · rename_i e
    obtain ⟨l, hl, hq⟩ := rngI (a := 97) (b := 122) (by decide) (by decide) e
    exact ⟨l, by omega, by rw [hq]; exact Int32.add_sub_cancel _ _⟩
  · rename_i e
    rw [if_neg e] at h
    split
    · rename_i e2
      obtain ⟨l, hl, hq⟩ := rngI (a := 65) (b := 90) (by decide) (by decide) e2
      exact ⟨l, by omega, by rw [hq]; exact Int32.add_sub_cancel _ _⟩
    · rename_i e2
      rw [if_neg e2] at h
      exact absurd rfl h
def WFl (σ : Sg) : Prop := ∀ u, u < sgN σ 0 → ∃ l, l < 26 ∧ sgI σ 6 u = nI l
theorem WFl_congr {σ τ : Sg} (h : WFl σ) (h0 : sgN τ 0 = sgN σ 0) (h6 : ∀ u, sgI τ 6 u = sgI σ 6 u) : WFl τ := fun u hu => by
  rw [h6]
  exact h u (by rw [← h0]; exact hu)
theorem wf_up {σ τ : Sg} {ln : Ln} (h : WFln σ ln) (h0 : sgN σ 0 ≤ sgN τ 0) : WFln τ ln := by
  rcases h with ⟨u, hu, e⟩ | e
  · exact Or.inl ⟨u, by omega, e⟩
  · exact Or.inr e
/-- who signs on: the books -/
theorem book_0 (σ : Sg) (s : Nat) (l : Int32) : sgN (bookL σ s l) 0 = sgN σ 0 + 1 := rfl
theorem book_N (σ : Sg) (s : Nat) (l : Int32) (f : Nat) (hf : f ≠ 0) : sgN (bookL σ s l) f = sgN σ f := by
  unfold bookL
  rw [sgN_uN, if_neg hf]
  rfl
theorem book_Q (σ : Sg) (s : Nat) (l : Int32) (w : Nat) : sgQ (bookL σ s l) w = sgQ σ w := rfl
theorem book_7 (σ : Sg) (s : Nat) (l : Int32) (u : Nat) : sgI (bookL σ s l) 7 u = if u = sgN σ 0 then nI s else sgI σ 7 u := by
  unfold bookL
  rw [sgI_uN, sgI_uI, if_neg (by omega), sgI_uI, if_neg (by omega), sgI_uI]
  by_cases e : u = sgN σ 0
  · rw [if_pos ⟨rfl, e⟩, if_pos e]
  · rw [if_neg (fun z => e z.2), if_neg e]
theorem book_6 (σ : Sg) (s : Nat) (l : Int32) (u : Nat) : sgI (bookL σ s l) 6 u = if u = sgN σ 0 then l else sgI σ 6 u := by
  unfold bookL
  rw [sgI_uN, sgI_uI, if_neg (by omega), sgI_uI]
  by_cases e : u = sgN σ 0
  · rw [if_pos ⟨rfl, e⟩, if_pos e]
  · rw [if_neg (fun z => e z.2), if_neg e, sgI_uI, if_neg (by omega)]
theorem sign_I (σ : Sg) (s : Nat) (l : Int32) (f u : Nat) (hf : f ≠ 1) : sgI (signL σ s l) f u = sgI (bookL σ s l) f u := by
  unfold signL
  show sgI (spreadL _ _ _ _) f u = _
  rw [spread_I]
  unfold learnL
  rw [sgI_uI, if_neg (fun z => hf z.1)]
theorem sign_0 (σ : Sg) (s : Nat) (l : Int32) : sgN (signL σ s l) 0 = sgN σ 0 + 1 := by
  unfold signL
  show sgN (spreadL _ _ _ _) 0 = _
  rw [spread_N _ _ _ _ 0 (by decide)]
  rfl
theorem sign_W {σ : Sg} (hW : WFu σ) (hu : sgN σ 0 < 20) {s : Nat} (hs : s < 6) (l : Int32) : WFu (signL σ s l) := by
  unfold WFu
  rw [sign_0]
  refine ⟨by omega, fun u hu2 => ?_⟩
  rw [sign_I _ _ _ _ _ (by decide), book_7]
  by_cases e : u = sgN σ 0
  · rw [if_pos e]; exact ⟨s, hs, rfl⟩
  · rw [if_neg e]; exact hW.2 u (by omega)
theorem sign_l {σ : Sg} (h : WFl σ) (s : Nat) {l : Int32} (hl : ∃ k, k < 26 ∧ l = nI k) : WFl (signL σ s l) := by
  intro u hu2
  rw [sign_0] at hu2
  rw [sign_I _ _ _ _ _ (by decide), book_6]
  by_cases e : u = sgN σ 0
  · rw [if_pos e]; exact hl
  · rw [if_neg e]; exact h u (by omega)
theorem wfq_sign {σ : Sg} (h : wfq σ) (s : Nat) (l : Int32) : wfq (signL σ s l) := by
  have h1 : wfq (learnL (bookL σ s l) s (sgN σ 0)) := fun w ln hl => wf_up (h w ln hl) (by show sgN σ 0 ≤ sgN σ 0 + 1; omega)
  exact wfq_tick (wfq_spread h1 (Or.inl ⟨sgN σ 0, by show sgN σ 0 < sgN σ 0 + 1; omega, Or.inl rfl⟩))
