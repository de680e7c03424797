/-- the books of the users stay -/
def kp (σ τ : Sg) : Prop := sgN τ 0 = sgN σ 0 ∧ ∀ f u, 6 ≤ f → sgI τ f u = sgI σ f u
theorem kp_W {σ τ : Sg} (h : kp σ τ) (hW : WFu σ) : WFu τ := WFu_congr hW h.1 (fun u => h.2 7 u (by omega))
theorem kp_l {σ τ : Sg} (h : kp σ τ) (hl : WFl σ) : WFl τ := WFl_congr hl h.1 (fun u => h.2 6 u (by omega))
theorem kp_dlv (σ : Sg) (x y : Nat) : kp σ (dlvL σ x y) := ⟨dlv_N σ x y 0 (by decide), fun f u hf => dlv_I σ x y f u (Or.inr hf)⟩
theorem kp_link (σ : Sg) {s t : Nat} (hs : s < 6) (ht : t < 6) : kp σ (linkL σ s t) := by
  have u1 := burst_up (connectL σ s t) hs ht
  have u2 := burst_up (burstL (connectL σ s t) s t) ht hs
  refine ⟨(u2.2.1 0 (by decide)).trans (u1.2.1 0 (by decide)), fun f u hf => ((u2.1 f u).trans (u1.1 f u)).trans ?_⟩
  unfold connectL
  dsimp only
  rw [sgI_uI, if_neg (by omega), sgI_uI, if_neg (by omega)]
theorem kp_split (σ : Sg) (s t : Nat) : kp σ (splitL σ s t) := ⟨fs_N (cutL σ s t) 0 6, fun f u hf => (fs_I (cutL σ s t) f u (Or.inr hf) 6).trans (cut_7 σ s t u f (by omega))⟩
theorem kp_quit (σ : Sg) (u hm : Nat) : kp σ (quitL σ u hm) := ⟨(spread_N _ _ _ _ 0 (by decide)).trans (forget_N _ _ _ 0), fun f v hf => (spread_I _ _ _ _ f v).trans (forget_I _ _ _ f v (Or.inr hf))⟩
theorem kp_leave (σ : Sg) (u hm c : Nat) : kp σ (leaveL σ u hm c) := ⟨(spread_N _ _ _ _ 0 (by decide)).trans (drop_N _ _ _ 0), fun f v hf => (spread_I _ _ _ _ f v).trans (drop_I _ _ _ f v (Or.inr hf))⟩
theorem kp_mod (σ : Sg) (hm c : Nat) (m b : Int32) : kp σ (modL σ hm c m b) := by
  refine ⟨spread_N (mset σ (hm * 4 + c) m b) _ _ _ 0 (by decide), fun f v hf => (spread_I (mset σ (hm * 4 + c) m b) _ _ _ f v).trans ?_⟩
  unfold mset
  rw [sgI_uI, if_neg (by omega), sgI_uI, if_neg (by omega)]
theorem enter_I (σ : Sg) (i : Nat) (u clk : Int32) (f j : Nat) (hf : f = 0 ∨ 6 ≤ f) : sgI (enterL σ i u clk) f j = sgI σ f j := by
  unfold enterL
  dsimp only
  split
  · rw [sgI_uI, if_neg (by omega), sgI_uI, if_neg (by omega), sgI_uI, if_neg (by omega), sgI_uI, if_neg (by omega)]
  · rw [sgI_uI, if_neg (by omega)]
theorem kp_join (σ : Sg) (u hm c : Nat) : kp σ (joinL σ u hm c) := ⟨(spread_N (enL σ u hm c) _ _ _ 0 (by decide)).trans (enter_N _ _ _ _ 0), fun f v hf => (spread_I (enL σ u hm c) _ _ _ f v).trans (enter_I _ _ _ _ f v (Or.inr hf))⟩
theorem kp_tick (σ : Sg) : kp σ (tickL σ) := ⟨rfl, fun _ _ _ => rfl⟩
/-- the clock, call by call, and no line in hand -/
theorem clk_link (σ : Sg) {s t : Nat} (hs : s < 6) (ht : t < 6) : sgN (linkL σ s t) 1 = sgN σ 1 + 1 ∧ sgN (linkL σ s t) 3 = sgN σ 3 := by
  have u1 := burst_up (connectL σ s t) hs ht
  have u2 := burst_up (burstL (connectL σ s t) s t) ht hs
  have e1 := (u2.2.1 1 (by decide)).trans (u1.2.1 1 (by decide))
  have e3 := (u2.2.1 3 (by decide)).trans (u1.2.1 3 (by decide))
  refine ⟨?_, e3⟩
  show sgN (burstL (burstL (connectL σ s t) s t) t s) 1 + 1 = _
  rw [e1]
  rfl
