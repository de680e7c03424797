/-! QUESTIONS IN RANGE: nothing is made -/
theorem in6 {s : Nat} (hs : s < 6) : 0 ≤ nI s ∧ nI s < 6 := ⟨nI_pos' (by omega), nI_lt (b := 6) hs (by omega)⟩
theorem in4 {s : Nat} (hs : s < 4) : 0 ≤ nI s ∧ nI s < 4 := ⟨nI_pos' (by omega), nI_lt (b := 4) hs (by omega)⟩
theorem ck_S0 {k n mc ms : Nat} {M : Mem} {p : Nat} (hp : p < 6) {xp : String → Mem → Prop} {R : Nat → Nat → Prop} (hk : k ≤ mc ∧ n ≤ ms) (h1 : R 0 0) : ∃ c s, (k + c ≤ mc ∧ n + s ≤ ms) ∧ w_X5_checkServer c s M (nI p) xp (R c s) := ⟨0, 0, ⟨by omega, by omega⟩, p_ckServer M (nI p) (fun _ => h1) (fun hn => absurd (in6 hp) hn)⟩
theorem ck_C0 {k n mc ms : Nat} {M : Mem} {p : Nat} (hp : p < 4) {xp : String → Mem → Prop} {R : Nat → Nat → Prop} (hk : k ≤ mc ∧ n ≤ ms) (h1 : R 0 0) : ∃ c s, (k + c ≤ mc ∧ n + s ≤ ms) ∧ w_X5_checkChannel c s M (nI p) xp (R c s) := ⟨0, 0, ⟨by omega, by omega⟩, p_ckChannel M (nI p) (fun _ => h1) (fun hn => absurd (in4 hp) hn)⟩
section QS
variable {A : Nat → Nat} {Fo : Nat → Prop} {M0 M : Mem} {σ : Sg} {hl : Nat → Option Ln}
theorem q_tree (h : RepC A Fo M0 M σ hl) {s : Nat} (hs : s < 6) {mc ms : Nat} {xp : String → Mem → Prop} {post : Int32 → Prop} (hp : post (treeL σ s)) : w_X5_tree mc ms M (A 0) (nI s) xp post := ck_S0 hs ⟨Nat.zero_le _, Nat.zero_le _⟩ ⟨rp_0 h, _, (rp_ref h).2.1, rp_w4 h, p_tree h hp⟩
theorem q_known (h : RepC A Fo M0 M σ hl) {s : Nat} (hs : s < 6) {mc ms : Nat} {xp : String → Mem → Prop} {post : Int32 → Prop} (hp : post (sgI σ 1 s)) : w_X5_known mc ms M (A 0) (nI s) xp post := by
  refine ck_S0 hs ⟨Nat.zero_le _, Nat.zero_le _⟩ ⟨rp_0 h, _, (rp_ref h).1, (rp_vw h hs).1, _, (rp_vw h hs).2, rp_v h hs, ?_⟩
  have r1 : gI M (A (10 + s)) 0 = sgI σ 1 s := rp_rd h 1 s hs
  rw [r1]
  exact hp
theorem q_members (h : RepC A Fo M0 M σ hl) {s c : Nat} (hs : s < 6) (hc : c < 4) {mc ms : Nat} {xp : String → Mem → Prop} {post : Int32 → Prop} (hp : post (sgI σ 5 (s * 4 + c))) : w_X5_members mc ms M (A 0) (nI s) (nI c) xp post := by
  refine ck_S0 hs ⟨Nat.zero_le _, Nat.zero_le _⟩ (ck_C0 hc ⟨Nat.zero_le _, Nat.zero_le _⟩ ⟨rp_0 h, _, (rp_ref h).1, (rp_vw h hs).1, _, (rp_vw h hs).2, rp_v h hs, _, (rp_ch h hs).1, in_nI (rp_ch h hs).2 hc (by omega), _, rp_chi h hs hc, rp_i h (by omega), ?_⟩)
  have r1 : gI M (A (30 + (s * 4 + c))) 3 = sgI σ 5 (s * 4 + c) := rp_rd h 5 _ (show s * 4 + c < 24 by omega)
  rw [r1]
  exact hp
theorem q_age (h : RepC A Fo M0 M σ hl) {s c : Nat} (hs : s < 6) (hc : c < 4) {mc ms : Nat} {xp : String → Mem → Prop} {post : Int32 → Prop} (hp : post (sgI σ 2 (s * 4 + c))) : w_X5_age mc ms M (A 0) (nI s) (nI c) xp post := by
  refine ck_S0 hs ⟨Nat.zero_le _, Nat.zero_le _⟩ (ck_C0 hc ⟨Nat.zero_le _, Nat.zero_le _⟩ ⟨rp_0 h, _, (rp_ref h).1, (rp_vw h hs).1, _, (rp_vw h hs).2, rp_v h hs, _, (rp_ch h hs).1, in_nI (rp_ch h hs).2 hc (by omega), _, rp_chi h hs hc, rp_i h (by omega), ?_⟩)
  have r1 : gI M (A (30 + (s * 4 + c))) 0 = sgI σ 2 (s * 4 + c) := rp_rd h 2 _ (show s * 4 + c < 24 by omega)
  rw [r1]
  exact hp
theorem q_modes (h : RepC A Fo M0 M σ hl) {s c : Nat} (hs : s < 6) (hc : c < 4) {mc ms : Nat} {xp : String → Mem → Prop} {post : Int32 → Prop} (hp : post (sgI σ 3 (s * 4 + c))) : w_X5_modes mc ms M (A 0) (nI s) (nI c) xp post := by
  refine ck_S0 hs ⟨Nat.zero_le _, Nat.zero_le _⟩ (ck_C0 hc ⟨Nat.zero_le _, Nat.zero_le _⟩ ⟨rp_0 h, _, (rp_ref h).1, (rp_vw h hs).1, _, (rp_vw h hs).2, rp_v h hs, _, (rp_ch h hs).1, in_nI (rp_ch h hs).2 hc (by omega), _, rp_chi h hs hc, rp_i h (by omega), ?_⟩)
  have r1 : gI M (A (30 + (s * 4 + c))) 1 = sgI σ 3 (s * 4 + c) := rp_rd h 3 _ (show s * 4 + c < 24 by omega)
  rw [r1]
  exact hp
theorem q_bans (h : RepC A Fo M0 M σ hl) {s c : Nat} (hs : s < 6) (hc : c < 4) {mc ms : Nat} {xp : String → Mem → Prop} {post : Int32 → Prop} (hp : post (sgI σ 4 (s * 4 + c))) : w_X5_bans mc ms M (A 0) (nI s) (nI c) xp post := by
  refine ck_S0 hs ⟨Nat.zero_le _, Nat.zero_le _⟩ (ck_C0 hc ⟨Nat.zero_le _, Nat.zero_le _⟩ ⟨rp_0 h, _, (rp_ref h).1, (rp_vw h hs).1, _, (rp_vw h hs).2, rp_v h hs, _, (rp_ch h hs).1, in_nI (rp_ch h hs).2 hc (by omega), _, rp_chi h hs hc, rp_i h (by omega), ?_⟩)
  have r1 : gI M (A (30 + (s * 4 + c))) 2 = sgI σ 4 (s * 4 + c) := rp_rd h 4 _ (show s * 4 + c < 24 by omega)
  rw [r1]
  exact hp
theorem q_same (h : RepC A Fo M0 M σ hl) {s t : Nat} (hs : s < 6) (ht : t < 6) {mc ms : Nat} {xp : String → Mem → Prop} {post : Int32 → Prop} (h1 : (sgI σ 1 s = sgI σ 1 t ∧ ∀ c, c < 4 → chEq σ (s * 4 + c) (t * 4 + c)) → post 1) (h2 : ¬ (sgI σ 1 s = sgI σ 1 t ∧ ∀ c, c < 4 → chEq σ (s * 4 + c) (t * 4 + c)) → post 0) : w_X5_areSame mc ms M (A 0) (nI s) (nI t) xp post :=
  ck_S0 hs ⟨Nat.zero_le _, Nat.zero_le _⟩ (ck_S0 ht ⟨Nat.zero_le _, Nat.zero_le _⟩ ⟨rp_0 h, _, (rp_ref h).1, (rp_vw h hs).1, _, (rp_vw h hs).2, rp_0 h, _, (rp_ref h).1, (rp_vw h ht).1, _, (rp_vw h ht).2, rp_v h hs, p_vLooks h hs ht (fun e => ⟨Or.inr rfl, h1 e⟩) (fun e => ⟨Or.inl rfl, h2 e⟩)⟩)
theorem q_joined (h : RepC A Fo M0 M σ hl) {s t c : Nat} (hs : s < 6) (ht : t < 6) (hc : c < 4) {mc ms : Nat} {xp : String → Mem → Prop} {post : Int32 → Prop} (hp : post (settle (sgI σ 2 (s * 4 + c)) (sgI σ 3 (s * 4 + c)) (sgI σ 2 (t * 4 + c)) (sgI σ 3 (t * 4 + c)))) : w_X5_joinedModes mc ms M (A 0) (nI s) (nI t) (nI c) xp post := by
  refine ck_S0 hs ⟨Nat.zero_le _, Nat.zero_le _⟩ (ck_S0 ht ⟨Nat.zero_le _, Nat.zero_le _⟩ (ck_C0 hc ⟨Nat.zero_le _, Nat.zero_le _⟩ ⟨rp_0 h, _, (rp_ref h).1, (rp_vw h hs).1, _, (rp_vw h hs).2, rp_v h hs, _, (rp_ch h hs).1, in_nI (rp_ch h hs).2 hc (by omega), _, rp_chi h hs hc, rp_0 h, _, (rp_ref h).1, (rp_vw h ht).1, _, (rp_vw h ht).2, rp_v h ht, _, (rp_ch h ht).1, in_nI (rp_ch h ht).2 hc (by omega), _, rp_chi h ht hc, rp_i h (by omega), rp_i h (by omega), rp_i h (by omega), rp_i h (by omega), p_settled M _ _ _ _ ?_⟩))
  have a2 : gI M (A (30 + (s * 4 + c))) 0 = sgI σ 2 (s * 4 + c) := rp_rd h 2 _ (show s * 4 + c < 24 by omega)
  have a3 : gI M (A (30 + (s * 4 + c))) 1 = sgI σ 3 (s * 4 + c) := rp_rd h 3 _ (show s * 4 + c < 24 by omega)
  have b2 : gI M (A (30 + (t * 4 + c))) 0 = sgI σ 2 (t * 4 + c) := rp_rd h 2 _ (show t * 4 + c < 24 by omega)
  have b3 : gI M (A (30 + (t * 4 + c))) 1 = sgI σ 3 (t * 4 + c) := rp_rd h 3 _ (show t * 4 + c < 24 by omega)
  rw [a2, a3, b2, b3]
  exact hp
end QS
