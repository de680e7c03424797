/-! lines stay well formed, and homes stay -/
theorem wf_congr {σ τ : Sg} {ln : Ln} (h : WFln σ ln) (h0 : sgN τ 0 = sgN σ 0) : WFln τ ln := by
  unfold WFln at h ⊢
  rw [h0]
  exact h
def wfq (σ : Sg) : Prop := ∀ w, ∀ ln ∈ sgQ σ w, WFln σ ln
theorem wfq_q {σ τ : Sg} (h : wfq σ) (hq : ∀ w, sgQ τ w = sgQ σ w) (h0 : sgN τ 0 = sgN σ 0) : wfq τ := fun w ln hl => wf_congr (h w ln (by rw [← hq]; exact hl)) h0
theorem wfq_put {σ : Sg} {w : Nat} {ln : Ln} (h : wfq σ) (hl : WFln σ ln) : wfq (putL σ w ln) := by
  intro v l hv
  have e : sgQ (putL σ w ln) v = if v = w then sgQ σ w ++ [ln] else sgQ σ v := rfl
  rw [e] at hv
  refine wf_congr (σ := σ) ?_ (putL_0 σ w ln)
  by_cases ev : v = w
  · rw [if_pos ev] at hv
    rcases List.mem_append.mp hv with hv | hv
    · exact h _ _ hv
    · rw [List.mem_singleton.mp hv]; exact hl
  · rw [if_neg ev] at hv
    exact h _ _ hv
theorem wfq_spreadN {σ : Sg} {s : Nat} {but : Int32} {ln : Ln} (h : wfq σ) (hl : WFln σ ln) : ∀ o, wfq (spreadN σ s but ln o) := by
  intro o
  induction o with
  | zero => exact h
  | succ o ih =>
    unfold spreadN
    split
    · exact wfq_put ih (wf_congr hl (spreadN_N σ s but ln o 0 (by decide)))
    · exact ih
theorem wfq_spread {σ : Sg} {s : Nat} {but : Int32} {ln : Ln} (h : wfq σ) (hl : WFln σ ln) : wfq (spreadL σ s but ln) := wfq_spreadN h hl 6
theorem wfq_forget {σ : Sg} {s : Nat} {u : Int32} (h : wfq σ) : wfq (forgetL σ s u) := wfq_q h (forgetN_Q σ s u 4) (forget_N σ s u 0)
theorem wfq_uI {σ : Sg} {f i : Nat} {v : Int32} (h : wfq σ) : wfq (uI σ f i v) := wfq_q h (fun _ => rfl) rfl
theorem wfq_recvUser {σ : Sg} (hW : WFu σ) {s fr u hm : Nat} (h : wfq σ) (hu : u < sgN σ 0) : wfq (recvUser σ s fr u hm) := by
  unfold recvUser
  dsimp only
  have l0 : WFln σ (qln 0 u) := Or.inl ⟨u, hu, Or.inl rfl⟩
  have l1 : WFln σ (qln 1 u) := Or.inl ⟨u, hu, Or.inr rfl⟩
  split
  · split
    · exact wfq_spread (wfq_uI h) (wf_congr l0 rfl)
    · rename_i hne
      obtain ⟨v, hv, hve, -⟩ := nsL_user σ hW.1 s (sgI σ 6 u) (nI u) hne
      split
      · rw [hve]
        have k1 : WFln (forgetL σ s (nI v)) (1, nI v, 0, 0, 0, 0) := wf_congr (Or.inl ⟨v, hv, Or.inr rfl⟩) (forget_N σ s (nI v) 0)
        have k2 := wfq_spread (s := s) (but := -1) (wfq_forget (s := s) (u := nI v) h) k1
        exact wfq_spread (wfq_uI k2) (wf_congr l0 ((spread_N (forgetL σ s (nI v)) s (-1) (1, nI v, 0, 0, 0, 0) 0 (by decide)).trans (forget_N σ s (nI v) 0)))
      · exact wfq_put h l1
  · exact h
theorem wfq_recv {σ : Sg} (hW : WFu σ) {s fr : Nat} {ln : Ln} (h : wfq σ) (hl : WFln σ ln) : wfq (recvL σ s fr ln) := by
  have hu : ln.1 = 0 ∨ ln.1 = 1 → ∃ u, u < sgN σ 0 ∧ ln.2.1.toNatClampNeg = u := by
    intro hk
    rcases hl with ⟨u, hu, e⟩ | ⟨c, -, -, e⟩
    · have h20 := hW.1
      refine ⟨u, hu, ?_⟩
      rcases e with e | e
      · rw [e]; exact clN (by omega)
      · rw [e]; exact clN (by omega)
    · rcases e with e | e | e
      · rw [e] at hk; rcases hk with z | z
        · exact absurd z (by decide)
        · exact absurd z (by decide)
      · rw [e] at hk; rcases hk with z | z
        · exact absurd z (by decide)
        · exact absurd z (by decide)
      · rw [e] at hk; rcases hk with z | z
        · exact absurd z (by decide)
        · exact absurd z (by decide)
  unfold recvL
  split
  · rename_i e
    obtain ⟨u, hu, hc⟩ := hu (Or.inl e)
    rw [hc]
    exact wfq_recvUser hW h hu
  · split
    · rename_i e
      obtain ⟨u, hu, hc⟩ := hu (Or.inr e)
      rw [hc]
      unfold recvQuit
      split
      · exact wfq_spread (wfq_forget h) (wf_congr (Or.inl ⟨u, hu, Or.inr rfl⟩) (forget_N σ s (nI u) 0))
      · exact h
    · split
      · exact wfq_spread (wfq_q h (chan_Q σ s ln) (chan_N σ s ln 0)) (wf_congr hl (chan_N σ s ln 0))
      · split
        · exact wfq_spread (wfq_q h (drop_Q σ _ _) (drop_N σ _ _ 0)) (wf_congr hl (drop_N σ _ _ 0))
        · exact wfq_spread (wfq_q h (mode_Q σ _ _ _ _) (mode_N σ _ _ _ _ 0)) (wf_congr hl (mode_N σ _ _ _ _ 0))
theorem drop_I (σ : Sg) (i : Nat) (u : Int32) (f j : Nat) (hf : f = 0 ∨ 6 ≤ f) : sgI (dropL σ i u) f j = sgI σ f j := by
  unfold dropL
  dsimp only
  split
  · rw [sgI_uI, if_neg (by omega), sgI_uI, if_neg (by omega), sgI_uI, if_neg (by omega), sgI_uI, if_neg (by omega)]
  · rw [sgI_uI, if_neg (by omega)]
theorem mode_I (σ : Sg) (i : Nat) (a m b : Int32) (f j : Nat) (hf : f = 0 ∨ 6 ≤ f) : sgI (modeSet σ i a m b) f j = sgI σ f j := by
  unfold modeSet
  split
  · rw [sgI_uI, if_neg (by omega), sgI_uI, if_neg (by omega)]
  · rfl
theorem recvUser_I (σ : Sg) (s fr u hm f j : Nat) (hf : f = 0 ∨ 6 ≤ f) : sgI (recvUser σ s fr u hm) f j = sgI σ f j := by
  unfold recvUser
  dsimp only
  split
  · split
    · rw [spread_I, sgI_uI, if_neg (by omega)]
    · split
      · rw [spread_I, sgI_uI, if_neg (by omega), spread_I, forget_I _ _ _ _ _ hf]
      · rfl
  · rfl
