/-! all that waits is delivered -/
def daN (σ : Sg) : Nat → Sg × Nat
  | 0 => (σ, 0)
  | r + 1 => ((drL (daN σ r).1).1, (daN σ r).2 + (drL (daN σ r).1).2)
theorem da_P {P : Sg → Prop} (hO : OKd P) {σ : Sg} (hp : P σ) : ∀ r, P (daN σ r).1 := by
  intro r
  induction r with
  | zero => exact hp
  | succ r ih => exact drO_P hO ih 6 (by omega)
theorem da_2 (σ : Sg) (r : Nat) : ∀ z, sgN (daN σ r).1 2 ≤ sgN (daN σ (r + z)).1 2 := by
  intro z
  induction z with
  | zero => exact Nat.le_refl _
  | succ z ih => exact Nat.le_trans ih (drO_2b (daN σ (r + z)).1 0 6)
section PCC
variable {A : Nat → Nat} {Fo : Nat → Prop} {M0 M : Mem} {σ : Sg} {hl : Nat → Option Ln}
theorem p_deliverAll (h : RepC A Fo M0 M σ hl) {P : Sg → Prop} (hO : OKd P) (hP : P σ) {R : Nat} (hR : R ≤ 1000000) (hlast : R = 1000000 ∨ tot (daN σ R).1 = 0) (hmin : ∀ r, r < R → tot (daN σ r).1 ≠ 0) {mc ms : Nat} (hbd : bud σ (daN σ R).1 mc ms) {post : Mem → Int32 → Prop} (hp : ∀ M' hl', RepC A Fo M0 M' (tickL (daN σ R).1) hl' → post M' (nI (daN σ R).2)) : w_X5_deliverAll mc ms M (A 0) post := by
  obtain ⟨b1, b2⟩ := hbd
  refine Lp_for R (fun c z => z.1 = nI (daN σ c).2 ∧ z.2.1 = nI c ∧ (∃ hl', RepC A Fo M0 z.2.2.1 (daN σ c).1 hl') ∧ z.2.2.2.1 + sgN σ 2 = sgN (daN σ c).1 2 ∧ z.2.2.2.2 = 8 * z.2.2.2.1) (fun z => z.2.1.toNatClampNeg) (fun c z hc hz => by rw [hz.2.1]; exact clN (by omega)) ⟨rfl, rfl, ⟨hl, h⟩, Nat.zero_add _, rfl⟩ ?_
  intro r z K hr hz hK x1 x2 M3 k4 n5 ez J hJ
  subst ez
  obtain ⟨z0, z1, ⟨hl3, z2⟩, z3, z4⟩ := hz
  have z0 : x1 = nI (daN σ r).2 := z0
  have z1 : x2 = nI r := z1
  have h3 : RepC A Fo M0 M3 (daN σ r).1 hl3 := z2
  have z3 : k4 + sgN σ 2 = sgN (daN σ r).1 2 := z3
  have z4 : n5 = 8 * k4 := z4
  subst z0
  subst z1
  have hP3 := da_P hO hP r
  obtain ⟨o1, o2, o3, o4⟩ := hO _ hP3
  have done : r = R → J := fun e => hJ ⟨rp_0 h3, rp_0 h3, fun M10 e10 => by
    subst e
    exact hp _ _ (p_tick h3 e10)⟩
  have ht31 : tot (daN σ r).1 < 2 ^ 31 := by have := o3.2; omega
  refine ⟨fun e => done ?_, fun e => ⟨rp_0 h3, _, (rp_ref h3).2.1, rp_w4 h3, fun e2 => done ?_, fun e2 => ⟨rp_0 h3, ?_⟩⟩⟩
  · have : 1000000 ≤ r := (le_nI (a := 1000000) (by omega) (by omega)).mp e
    omega
  · rw [rp_wait h3] at e2
    have : tot (daN σ r).1 ≤ 0 := (le_nI (b := 0) ht31 (by omega)).mp e2
    by_cases h9 : r < R
    · exact absurd (Nat.le_zero.mp this) (hmin r h9)
    · omega
  · have e5 : ¬ 1000000 ≤ r := fun h9 => e ((le_nI (a := 1000000) (by omega) (by omega)).mpr h9)
    have e6 : ¬ tot (daN σ r).1 = 0 := fun h9 => e2 (by rw [rp_wait h3, h9]; decide)
    have hlt : r < R := by
      rcases hlast with h9 | h9
      · omega
      · by_cases h8 : r < R
        · exact h8
        · have : r = R := by omega
          subst this
          exact absurd h9 e6
    have m0 := da_2 σ r 1
    have m1 := da_2 σ (r + 1) (R - (r + 1))
    rw [show r + 1 + (R - (r + 1)) = R by omega] at m1
    have m3 : sgN (daN σ (r + 1)).1 2 = sgN (drL (daN σ r).1).1 2 := rfl
    refine ⟨sgN (drL (daN σ r).1).1 2 - sgN (daN σ r).1 2, 8 * (sgN (drL (daN σ r).1).1 2 - sgN (daN σ r).1 2), ⟨by omega, by omega⟩, p_round h3 hO hP3 ⟨by omega, by omega⟩ (fun M17 hl17 h17 x19 e19 x20 e20 => hK _ hlt ⟨?_, by show x20 = _; rw [e20, nI_1], ⟨hl17, h17⟩, ?_, ?_⟩)⟩
    · show x19 = nI ((daN σ r).2 + (drL (daN σ r).1).2)
      rw [e19, nI_add]
    · show k4 + _ + sgN σ 2 = sgN (drL (daN σ r).1).1 2
      omega
    · show n5 + _ = 8 * (k4 + _)
      omega
/-! the questions -/
theorem p_lines (h : RepC A Fo M0 M σ hl) {post : Int32 → Prop} (hp : post (nI (tot σ))) : w_X5_lines M (A 0) post := by
  refine ⟨rp_0 h, _, (rp_ref h).2.1, rp_w4 h, ?_⟩
  rw [rp_wait h]
  exact hp
theorem p_users (h : RepC A Fo M0 M σ hl) {post : Int32 → Prop} (hp : post (nI (sgN σ 0))) : w_X5_users M (A 0) post := by
  refine ⟨rp_0 h, ?_⟩
  rw [rp_users h]
  exact hp
theorem p_clock (h : RepC A Fo M0 M σ hl) {post : Int32 → Prop} (hp : post (nI (sgN σ 1))) : w_X5_clock M (A 0) post := by
  refine ⟨rp_0 h, ?_⟩
  rw [rp_clock h]
  exact hp
theorem p_treeQ (h : RepC A Fo M0 M σ hl) {p : Int32} {mc ms : Nat} (hb : 1 ≤ mc ∧ 6 ≤ ms) {xp : String → Mem → Prop} {post : Int32 → Prop} (h1 : ¬ (0 ≤ p ∧ p < 6) → xp ioob M) (hp : ∀ s, s < 6 → p = nI s → post (treeL σ s)) : w_X5_tree mc ms M (A 0) p xp post := by
  refine ck_S (fun s hs es => ⟨⟨by omega, by omega⟩, ?_⟩) (fun hr => ⟨by omega, h1 hr⟩)
  subst es
  exact ⟨rp_0 h, _, (rp_ref h).2.1, rp_w4 h, p_tree h (hp s hs rfl)⟩
theorem p_knownQ (h : RepC A Fo M0 M σ hl) {p : Int32} {mc ms : Nat} (hb : 1 ≤ mc ∧ 6 ≤ ms) {xp : String → Mem → Prop} {post : Int32 → Prop} (h1 : ¬ (0 ≤ p ∧ p < 6) → xp ioob M) (hp : ∀ s, s < 6 → p = nI s → post (sgI σ 1 s)) : w_X5_known mc ms M (A 0) p xp post := by
  refine ck_S (fun s hs es => ⟨⟨by omega, by omega⟩, ?_⟩) (fun hr => ⟨by omega, h1 hr⟩)
  subst es
  refine ⟨rp_0 h, _, (rp_ref h).1, (rp_vw h hs).1, _, (rp_vw h hs).2, rp_v h hs, ?_⟩
  have r1 : gI M (A (10 + s)) 0 = sgI σ 1 s := rp_rd h 1 s hs
  rw [r1]
  exact hp s hs rfl
theorem p_membersQ (h : RepC A Fo M0 M σ hl) {p q : Int32} {mc ms : Nat} (hb : 1 ≤ mc ∧ 6 ≤ ms) {xp : String → Mem → Prop} {post : Int32 → Prop} (h1 : ¬ (0 ≤ p ∧ p < 6) ∨ ¬ (0 ≤ q ∧ q < 4) → xp ioob M) (hp : ∀ s c, s < 6 → c < 4 → p = nI s → q = nI c → post (sgI σ 5 (s * 4 + c))) : w_X5_members mc ms M (A 0) p q xp post := by
  refine ck_S (fun s hs es => ⟨⟨by omega, by omega⟩, ck_C (fun c hc ec => ⟨⟨by omega, by omega⟩, ?_⟩) (fun hr => ⟨by omega, h1 (Or.inr hr)⟩)⟩) (fun hr => ⟨by omega, h1 (Or.inl hr)⟩)
  subst es
  subst ec
  refine ⟨rp_0 h, _, (rp_ref h).1, (rp_vw h hs).1, _, (rp_vw h hs).2, rp_v h hs, _, (rp_ch h hs).1, in_nI (rp_ch h hs).2 hc (by omega), _, rp_chi h hs hc, rp_i h (by omega), ?_⟩
  have r1 : gI M (A (30 + (s * 4 + c))) 3 = sgI σ 5 (s * 4 + c) := rp_rd h 5 _ (show s * 4 + c < 24 by omega)
  rw [r1]
  exact hp s c hs hc rfl rfl
theorem p_ageQ (h : RepC A Fo M0 M σ hl) {p q : Int32} {mc ms : Nat} (hb : 1 ≤ mc ∧ 6 ≤ ms) {xp : String → Mem → Prop} {post : Int32 → Prop} (h1 : ¬ (0 ≤ p ∧ p < 6) ∨ ¬ (0 ≤ q ∧ q < 4) → xp ioob M) (hp : ∀ s c, s < 6 → c < 4 → p = nI s → q = nI c → post (sgI σ 2 (s * 4 + c))) : w_X5_age mc ms M (A 0) p q xp post := by
  refine ck_S (fun s hs es => ⟨⟨by omega, by omega⟩, ck_C (fun c hc ec => ⟨⟨by omega, by omega⟩, ?_⟩) (fun hr => ⟨by omega, h1 (Or.inr hr)⟩)⟩) (fun hr => ⟨by omega, h1 (Or.inl hr)⟩)
  subst es
  subst ec
  refine ⟨rp_0 h, _, (rp_ref h).1, (rp_vw h hs).1, _, (rp_vw h hs).2, rp_v h hs, _, (rp_ch h hs).1, in_nI (rp_ch h hs).2 hc (by omega), _, rp_chi h hs hc, rp_i h (by omega), ?_⟩
  have r1 : gI M (A (30 + (s * 4 + c))) 0 = sgI σ 2 (s * 4 + c) := rp_rd h 2 _ (show s * 4 + c < 24 by omega)
  rw [r1]
  exact hp s c hs hc rfl rfl
theorem p_modesQ (h : RepC A Fo M0 M σ hl) {p q : Int32} {mc ms : Nat} (hb : 1 ≤ mc ∧ 6 ≤ ms) {xp : String → Mem → Prop} {post : Int32 → Prop} (h1 : ¬ (0 ≤ p ∧ p < 6) ∨ ¬ (0 ≤ q ∧ q < 4) → xp ioob M) (hp : ∀ s c, s < 6 → c < 4 → p = nI s → q = nI c → post (sgI σ 3 (s * 4 + c))) : w_X5_modes mc ms M (A 0) p q xp post := by
  refine ck_S (fun s hs es => ⟨⟨by omega, by omega⟩, ck_C (fun c hc ec => ⟨⟨by omega, by omega⟩, ?_⟩) (fun hr => ⟨by omega, h1 (Or.inr hr)⟩)⟩) (fun hr => ⟨by omega, h1 (Or.inl hr)⟩)
  subst es
  subst ec
  refine ⟨rp_0 h, _, (rp_ref h).1, (rp_vw h hs).1, _, (rp_vw h hs).2, rp_v h hs, _, (rp_ch h hs).1, in_nI (rp_ch h hs).2 hc (by omega), _, rp_chi h hs hc, rp_i h (by omega), ?_⟩
  have r1 : gI M (A (30 + (s * 4 + c))) 1 = sgI σ 3 (s * 4 + c) := rp_rd h 3 _ (show s * 4 + c < 24 by omega)
  rw [r1]
  exact hp s c hs hc rfl rfl
theorem p_bansQ (h : RepC A Fo M0 M σ hl) {p q : Int32} {mc ms : Nat} (hb : 1 ≤ mc ∧ 6 ≤ ms) {xp : String → Mem → Prop} {post : Int32 → Prop} (h1 : ¬ (0 ≤ p ∧ p < 6) ∨ ¬ (0 ≤ q ∧ q < 4) → xp ioob M) (hp : ∀ s c, s < 6 → c < 4 → p = nI s → q = nI c → post (sgI σ 4 (s * 4 + c))) : w_X5_bans mc ms M (A 0) p q xp post := by
  refine ck_S (fun s hs es => ⟨⟨by omega, by omega⟩, ck_C (fun c hc ec => ⟨⟨by omega, by omega⟩, ?_⟩) (fun hr => ⟨by omega, h1 (Or.inr hr)⟩)⟩) (fun hr => ⟨by omega, h1 (Or.inl hr)⟩)
  subst es
  subst ec
  refine ⟨rp_0 h, _, (rp_ref h).1, (rp_vw h hs).1, _, (rp_vw h hs).2, rp_v h hs, _, (rp_ch h hs).1, in_nI (rp_ch h hs).2 hc (by omega), _, rp_chi h hs hc, rp_i h (by omega), ?_⟩
  have r1 : gI M (A (30 + (s * 4 + c))) 2 = sgI σ 4 (s * 4 + c) := rp_rd h 4 _ (show s * 4 + c < 24 by omega)
  rw [r1]
  exact hp s c hs hc rfl rfl
theorem p_sameQ (h : RepC A Fo M0 M σ hl) {p q : Int32} {mc ms : Nat} (hb : 1 ≤ mc ∧ 6 ≤ ms) {xp : String → Mem → Prop} {post : Int32 → Prop} (h1 : ¬ (0 ≤ p ∧ p < 6) ∨ ¬ (0 ≤ q ∧ q < 6) → xp ioob M) (hp : ∀ s t, s < 6 → t < 6 → p = nI s → q = nI t → ((sgI σ 1 s = sgI σ 1 t ∧ ∀ c, c < 4 → chEq σ (s * 4 + c) (t * 4 + c)) → post 1) ∧ (¬ (sgI σ 1 s = sgI σ 1 t ∧ ∀ c, c < 4 → chEq σ (s * 4 + c) (t * 4 + c)) → post 0)) : w_X5_areSame mc ms M (A 0) p q xp post := by
  refine ck_S (fun s hs es => ⟨⟨by omega, by omega⟩, ck_S (fun t ht et => ⟨⟨by omega, by omega⟩, ?_⟩) (fun hr => ⟨by omega, h1 (Or.inr hr)⟩)⟩) (fun hr => ⟨by omega, h1 (Or.inl hr)⟩)
  subst es
  subst et
  obtain ⟨p1, p2⟩ := hp s t hs ht rfl rfl
  exact ⟨rp_0 h, _, (rp_ref h).1, (rp_vw h hs).1, _, (rp_vw h hs).2, rp_0 h, _, (rp_ref h).1, (rp_vw h ht).1, _, (rp_vw h ht).2, rp_v h hs, p_vLooks h hs ht (fun e => ⟨Or.inr rfl, p1 e⟩) (fun e => ⟨Or.inl rfl, p2 e⟩)⟩
theorem p_joinedQ (h : RepC A Fo M0 M σ hl) {p q r : Int32} {mc ms : Nat} (hb : 1 ≤ mc ∧ 6 ≤ ms) {xp : String → Mem → Prop} {post : Int32 → Prop} (h1 : ¬ (0 ≤ p ∧ p < 6) ∨ ¬ (0 ≤ q ∧ q < 6) ∨ ¬ (0 ≤ r ∧ r < 4) → xp ioob M) (hp : ∀ s t c, s < 6 → t < 6 → c < 4 → p = nI s → q = nI t → r = nI c → post (settle (sgI σ 2 (s * 4 + c)) (sgI σ 3 (s * 4 + c)) (sgI σ 2 (t * 4 + c)) (sgI σ 3 (t * 4 + c)))) : w_X5_joinedModes mc ms M (A 0) p q r xp post := by
  refine ck_S (fun s hs es => ⟨⟨by omega, by omega⟩, ck_S (fun t ht et => ⟨⟨by omega, by omega⟩, ck_C (fun c hc ec => ⟨⟨by omega, by omega⟩, ?_⟩) (fun hr => ⟨by omega, h1 (Or.inr (Or.inr hr))⟩)⟩) (fun hr => ⟨by omega, h1 (Or.inr (Or.inl hr))⟩)⟩) (fun hr => ⟨by omega, h1 (Or.inl hr)⟩)
  subst es
  subst et
  subst ec
  refine ⟨rp_0 h, _, (rp_ref h).1, (rp_vw h hs).1, _, (rp_vw h hs).2, rp_v h hs, _, (rp_ch h hs).1, in_nI (rp_ch h hs).2 hc (by omega), _, rp_chi h hs hc, rp_0 h, _, (rp_ref h).1, (rp_vw h ht).1, _, (rp_vw h ht).2, rp_v h ht, _, (rp_ch h ht).1, in_nI (rp_ch h ht).2 hc (by omega), _, rp_chi h ht hc, rp_i h (by omega), rp_i h (by omega), rp_i h (by omega), rp_i h (by omega), p_settled M _ _ _ _ ?_⟩
  have a2 : gI M (A (30 + (s * 4 + c))) 0 = sgI σ 2 (s * 4 + c) := rp_rd h 2 _ (show s * 4 + c < 24 by omega)
  have a3 : gI M (A (30 + (s * 4 + c))) 1 = sgI σ 3 (s * 4 + c) := rp_rd h 3 _ (show s * 4 + c < 24 by omega)
  have b2 : gI M (A (30 + (t * 4 + c))) 0 = sgI σ 2 (t * 4 + c) := rp_rd h 2 _ (show t * 4 + c < 24 by omega)
  have b3 : gI M (A (30 + (t * 4 + c))) 1 = sgI σ 3 (t * 4 + c) := rp_rd h 3 _ (show t * 4 + c < 24 by omega)
  rw [a2, a3, b2, b3]
  exact hp s t c hs ht hc rfl rfl rfl
end PCC
