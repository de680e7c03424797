theorem chan_I (σ : Sg) (s : Nat) (ln : Ln) (f j : Nat) (hf : f = 0 ∨ 6 ≤ f) : sgI (chanSet σ s ln) f j = sgI σ f j := by
  unfold chanSet
  split
  · rfl
  · unfold takeInL
    dsimp only
    rw [sgI_uI, if_neg (by omega), sgI_uI, if_neg (by omega), sgI_uI, if_neg (by omega), sgI_uI, if_neg (by omega)]
theorem recvL_I (σ : Sg) (s fr : Nat) (ln : Ln) (f j : Nat) (hf : f = 0 ∨ 6 ≤ f) : sgI (recvL σ s fr ln) f j = sgI σ f j := by
  unfold recvL
  split
  · exact recvUser_I σ s fr _ _ f j hf
  · split
    · unfold recvQuit
      split
      · rw [spread_I, forget_I _ _ _ _ _ hf]
      · rfl
    · split
      · unfold recvChan
        rw [spread_I, chan_I _ _ _ _ _ hf]
      · split
        · unfold recvLeave
          rw [spread_I, drop_I _ _ _ _ _ hf]
        · unfold recvModes
          rw [spread_I, mode_I _ _ _ _ _ _ _ hf]
/-- a delivery changes no link, no user's letter, home or age -/
theorem dlv_I (σ : Sg) (x y f j : Nat) (hf : f = 0 ∨ 6 ≤ f) : sgI (dlvL σ x y) f j = sgI σ f j := by
  unfold dlvL
  split
  · rfl
  · exact recvL_I (uN (uQ σ (x * 6 + y) _) 3 (sgN σ 3 + 1)) y x _ f j hf
theorem dlv_N (σ : Sg) (x y f : Nat) (hf : f ≠ 2) : sgN (dlvL σ x y) f = sgN σ f := by
  unfold dlvL
  split
  · rfl
  · rename_i ln rest eq
    rw [sgN_uN]
    by_cases e : f = 3
    · rw [if_pos e, e]
    · rw [if_neg e, recvL_3 _ _ _ _ _ hf, sgN_uN, if_neg e, sgN_uQ]
theorem dlv_W {σ : Sg} (hW : WFu σ) (x y : Nat) : WFu (dlvL σ x y) := WFu_congr hW (dlv_N σ x y 0 (by decide)) (fun u => dlv_I σ x y 7 u (by omega))
theorem dlv_wfq {σ : Sg} (hW : WFu σ) (h : wfq σ) (x y : Nat) : wfq (dlvL σ x y) := by
  unfold dlvL
  split
  · exact h
  · rename_i ln rest eq
    have h1 : wfq (uN (uQ σ (x * 6 + y) rest) 3 (sgN σ 3 + 1)) := by
      intro w l hl
      refine wf_congr (σ := σ) ?_ rfl
      have e : sgQ (uN (uQ σ (x * 6 + y) rest) 3 (sgN σ 3 + 1)) w = if w = x * 6 + y then rest else sgQ σ w := rfl
      rw [e] at hl
      by_cases ew : w = x * 6 + y
      · rw [if_pos ew] at hl
        exact h (x * 6 + y) l (by rw [eq]; exact List.mem_cons_of_mem _ hl)
      · rw [if_neg ew] at hl
        exact h w l hl
    have hl : WFln (uN (uQ σ (x * 6 + y) rest) 3 (sgN σ 3 + 1)) ln := wf_congr (σ := σ) (h (x * 6 + y) ln (by rw [eq]; exact List.mem_cons_self ..)) rfl
    have hW1 : WFu (uN (uQ σ (x * 6 + y) rest) 3 (sgN σ 3 + 1)) := WFu_congr hW rfl (fun _ => rfl)
    exact wfq_q (wfq_recv hW1 h1 hl (s := y) (fr := x)) (fun _ => rfl) rfl
/-! the other calls keep the lines well formed -/
theorem wfq_tick {σ : Sg} (h : wfq σ) : wfq (tickL σ) := wfq_q h (fun _ => rfl) rfl
theorem wfq_bu1 {σ : Sg} (h : wfq σ) {s t : Nat} (hw : s * 6 + t < 36) : ∀ u, u ≤ sgN σ 0 → wfq (bu1 σ s t u) := by
  intro u
  induction u with
  | zero => intro _; exact h
  | succ u ih =>
    intro hu
    unfold bu1
    split
    · exact wfq_put (ih (by omega)) (wf_congr (σ := σ) (Or.inl ⟨u, by omega, Or.inl rfl⟩) ((bu1_up σ hw u).2.1 0 (by decide)))
    · exact ih (by omega)
theorem wfq_burst {σ : Sg} (h : wfq σ) {s t : Nat} (hs : s < 6) (ht : t < 6) : wfq (burstL σ s t) := by
  have hw : s * 6 + t < 36 := by omega
  have go : ∀ c, c ≤ 4 → wfq (bu2 σ s t c) := by
    intro c
    induction c with
    | zero => intro _; exact wfq_bu1 h hw _ (Nat.le_refl _)
    | succ c ih =>
      intro hc
      unfold bu2
      split
      · exact wfq_put (ih (by omega)) (wf_congr (σ := σ) (Or.inr ⟨c, by omega, rfl, Or.inl rfl⟩) ((bu2_up σ hw c).2.1 0 (by decide)))
      · exact ih (by omega)
  exact go 4 (by omega)
theorem wfq_link {σ : Sg} (h : wfq σ) {s t : Nat} (hs : s < 6) (ht : t < 6) : wfq (linkL σ s t) := wfq_tick (wfq_burst (wfq_burst (wfq_q h (connect_Q σ s t) rfl) hs ht) ht hs)
theorem wfq_quit {σ : Sg} (h : wfq σ) {u hm : Nat} (hu : u < sgN σ 0) : wfq (quitL σ u hm) := wfq_tick (wfq_spread (wfq_forget h) (wf_congr (σ := σ) (Or.inl ⟨u, hu, Or.inr rfl⟩) (forget_N σ hm (nI u) 0)))
theorem wfq_leave {σ : Sg} (h : wfq σ) {u hm c : Nat} (hc : c < 4) : wfq (leaveL σ u hm c) := wfq_tick (wfq_spread (wfq_q h (drop_Q σ _ _) (drop_N σ _ _ 0)) (wf_congr (σ := σ) (Or.inr ⟨c, hc, rfl, Or.inr (Or.inl rfl)⟩) (drop_N σ _ _ 0)))
theorem wfq_mod {σ : Sg} (h : wfq σ) {hm c : Nat} {m b : Int32} (hc : c < 4) : wfq (modL σ hm c m b) := wfq_tick (wfq_spread (wfq_q h (fun _ => rfl) rfl) (wf_congr (σ := σ) (Or.inr ⟨c, hc, rfl, Or.inr (Or.inr rfl)⟩) rfl))
theorem wfq_join {σ : Sg} (h : wfq σ) {u hm c : Nat} (hc : c < 4) : wfq (joinL σ u hm c) := wfq_tick (wfq_spread (wfq_q h (enter_Q σ _ _ _) (enter_N σ _ _ _ 0)) (wf_congr (σ := σ) (Or.inr ⟨c, hc, rfl, Or.inl rfl⟩) (enter_N σ _ _ _ 0)))
theorem wfq_cut {σ : Sg} (h : wfq σ) (s t : Nat) : wfq (cutL σ s t) := by
  intro w l hl
  refine wf_congr (σ := σ) ?_ rfl
  have e : sgQ (cutL σ s t) w = if w = t * 6 + s then [] else if w = s * 6 + t then [] else sgQ σ w := rfl
  rw [e] at hl
  by_cases e1 : w = t * 6 + s
  · rw [if_pos e1] at hl; cases hl
  · rw [if_neg e1] at hl
    by_cases e2 : w = s * 6 + t
    · rw [if_pos e2] at hl; cases hl
    · rw [if_neg e2] at hl; exact h w l hl
theorem wfq_split {σ : Sg} (h : wfq σ) (s t : Nat) : wfq (splitL σ s t) := wfq_tick (wfq_q (wfq_cut h s t) (fun w => fs_Q _ w 6) (fs_N _ 0 6))
