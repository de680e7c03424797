section PC2
variable {A : Nat → Nat} {Fo : Nat → Prop} {M0 M : Mem} {σ : Sg} {hl : Nat → Option Ln}
theorem p_isThere {M : Mem} {a : Nat} (ht : gT M a = some (0, 0)) {post : Int32 → Prop} (h : post (b2i (!decide (gI M a 3 = 0)))) : w_X0_isThere M a post := by
  refine ⟨ht, fun J hJ => ⟨fun e => hJ 0 ⟨Or.inl rfl, ?_⟩, fun e => hJ 1 ⟨Or.inr rfl, ?_⟩⟩⟩
  · rw [decide_eq_true e] at h; exact h
  · rw [decide_eq_false e] at h; exact h
/-- a user comes into channel i -/
def enterL (σ : Sg) (i : Nat) (u clk : Int32) : Sg :=
  let τ := if sgI σ 5 i = 0 then uI (uI (uI σ 2 i clk) 3 i 0) 4 i 0 else σ
  uI τ 5 i (sb (sgI τ 5 i) u)
theorem p_enter (h : RepC A Fo M0 M σ hl) {i : Nat} (hi : i < 24) (u clk : Int32) {post : Mem → Prop} (hp : ∀ M', RepC A Fo M0 M' (enterL σ i u clk) hl → post M') : w_X0_enter M (A (30 + i)) u clk post := by
  have r5 := rp_rd h 5 i hi
  have last : ∀ (τ : Sg) (M2 : Mem), RepC A Fo M0 M2 τ hl → ∀ M6, M6 = sI M2 (A (30 + i)) 3 ((gI M2 (A (30 + i)) 3) ||| (1 <<< (u &&& 31))) → RepC A Fo M0 M6 (uI τ 5 i (sb (sgI τ 5 i) u)) hl := by
    intro τ M2 h2 M6 e6
    have r := rp_rd h2 5 i hi
    have := rp_own h2 5 i hi (sb (sgI τ 5 i) u)
    rw [← r] at this ⊢
    rw [e6]
    exact this
  have r5' : gI M (A (30 + i)) 3 = sgI σ 5 i := r5
  refine ⟨rp_i h hi, fun J hJ => ⟨fun e => ?_, fun e => ?_⟩⟩
  · refine ⟨rp_i h hi, fun M8 e8 => ?_⟩
    have h8 := rp_own h 2 i hi clk
    refine ⟨by rw [e8]; exact rp_i h8 hi, fun M10 e10 => ?_⟩
    have h10 := rp_own h8 3 i hi 0
    refine ⟨by rw [e10, e8]; exact rp_i h10 hi, fun M12 e12 => ?_⟩
    have h12 := rp_own h10 4 i hi 0
    have h12' : RepC A Fo M0 M12 (uI (uI (uI σ 2 i clk) 3 i 0) 4 i 0) hl := by rw [e12, e10, e8]; exact h12
    refine hJ _ ⟨rp_i h12' hi, rp_i h12' hi, fun M6 e6 => hp _ ?_⟩
    have := last _ _ h12' M6 e6
    unfold enterL
    rw [if_pos (by rw [← r5']; exact e)]
    exact this
  · refine hJ _ ⟨rp_i h hi, rp_i h hi, fun M6 e6 => hp _ ?_⟩
    have := last _ _ h M6 e6
    unfold enterL
    rw [if_neg (by rw [← r5']; exact e)]
    exact this
/-- a line CHANNEL's age, modes, bans, and those present, come into channel i -/
def takeInL (σ : Sg) (i : Nat) (ag md bn pr : Int32) : Sg :=
  let τ := uI (uI σ 3 i (settle (sgI σ 2 i) (sgI σ 3 i) ag md)) 4 i (settle (sgI σ 2 i) (sgI σ 4 i) ag bn)
  let τ2 := uI τ 2 i (if sgI σ 2 i = -1 then ag else if ag < sgI σ 2 i then ag else sgI σ 2 i)
  uI τ2 5 i (sgI σ 5 i ||| pr)
theorem rp_line (h : RepC A Fo M0 M σ hl) {b : Nat} {ln : Ln} (hb : hl b = some ln) : gT M b = some (1, 0) ∧ lnC M b ln := by
  obtain ⟨La, Sp, ow, -, -, q3, -⟩ := h.2.2.1
  obtain ⟨h1, h2, h3⟩ := q3 b ln hb
  exact ⟨h2.1, h3⟩
theorem p_takeIn (h : RepC A Fo M0 M σ hl) {i b : Nat} (hi : i < 24) {ln : Ln} (hb : hl b = some ln) (hk : ln.1 = 2) (pr : Int32) {post : Mem → Prop} (hp : ∀ M', RepC A Fo M0 M' (takeInL σ i ln.2.2.2.1 ln.2.2.2.2.1 ln.2.2.2.2.2 pr) hl → post M') : w_X0_takeIn M (A (30 + i)) b pr post := by
  obtain ⟨l1, l2⟩ := rp_line h hb
  obtain ⟨x3, x4, x5⟩ := l2.2.2.2.2.2 (Or.inl hk)
  have g2 : gI M (A (30 + i)) 0 = sgI σ 2 i := rp_rd h 2 i hi
  have g3 : gI M (A (30 + i)) 1 = sgI σ 3 i := rp_rd h 3 i hi
  refine ⟨rp_i h hi, rp_i h hi, l1, l1, p_settled M _ _ _ _ ⟨rp_i h hi, fun M7 e7 => ?_⟩⟩
  have h7 : RepC A Fo M0 M7 (uI σ 3 i (settle (sgI σ 2 i) (sgI σ 3 i) ln.2.2.2.1 ln.2.2.2.2.1)) hl := by
    rw [e7, g2, g3, x3, x4]
    exact rp_own h 3 i hi _
  obtain ⟨l1, l2⟩ := rp_line h7 hb
  obtain ⟨y3, y4, y5⟩ := l2.2.2.2.2.2 (Or.inl hk)
  have k2 : gI M7 (A (30 + i)) 0 = sgI σ 2 i := by
    have := rp_rd h7 2 i hi
    rw [sgI_uI, if_neg (fun e => absurd e.1 (by decide))] at this
    exact this
  have k4 : gI M7 (A (30 + i)) 2 = sgI σ 4 i := by
    have := rp_rd h7 4 i hi
    rw [sgI_uI, if_neg (fun e => absurd e.1 (by decide))] at this
    exact this
  refine ⟨rp_i h7 hi, rp_i h7 hi, l1, l1, p_settled M7 _ _ _ _ ⟨rp_i h7 hi, fun M14 e14 => ?_⟩⟩
  have h14 : RepC A Fo M0 M14 (uI (uI σ 3 i (settle (sgI σ 2 i) (sgI σ 3 i) ln.2.2.2.1 ln.2.2.2.2.1)) 4 i (settle (sgI σ 2 i) (sgI σ 4 i) ln.2.2.2.1 ln.2.2.2.2.2)) hl := by
    rw [e14, k2, k4, y3, y5]
    exact rp_own h7 4 i hi _
  obtain ⟨l1, l2⟩ := rp_line h14 hb
  obtain ⟨z3, z4, z5⟩ := l2.2.2.2.2.2 (Or.inl hk)
  have m2 : gI M14 (A (30 + i)) 0 = sgI σ 2 i := by
    have := rp_rd h14 2 i hi
    rw [sgI_uI, if_neg (fun e => absurd e.1 (by decide)), sgI_uI, if_neg (fun e => absurd e.1 (by decide))] at this
    exact this
  refine ⟨rp_i h14 hi, fun J hJ => ?_⟩
  have key : J (if sgI σ 2 i = -1 then ln.2.2.2.1 else if ln.2.2.2.1 < sgI σ 2 i then ln.2.2.2.1 else sgI σ 2 i) := by
    refine hJ _ ⟨rp_i h14 hi, fun M19 e19 => ?_⟩
    have h19 : RepC A Fo M0 M19 _ hl := e19 ▸ rp_own h14 2 i hi (if sgI σ 2 i = -1 then ln.2.2.2.1 else if ln.2.2.2.1 < sgI σ 2 i then ln.2.2.2.1 else sgI σ 2 i)
    have m5 : gI M19 (A (30 + i)) 3 = sgI σ 5 i := by
      have := rp_rd h19 5 i hi
      rw [sgI_uI, if_neg (fun e => absurd e.1 (by decide)), sgI_uI, if_neg (fun e => absurd e.1 (by decide)), sgI_uI, if_neg (fun e => absurd e.1 (by decide))] at this
      exact this
    refine ⟨rp_i h19 hi, rp_i h19 hi, fun M22 e22 => hp _ ?_⟩
    rw [e22, m5]
    exact rp_own h19 5 i hi _
  refine ⟨fun e => ⟨l1, ?_⟩, fun e => ⟨rp_i h14 hi, l1, ?_⟩⟩
  · rw [m2] at e
    rw [if_pos e] at key
    rw [z3]
    exact key
  · rw [m2] at e
    rw [if_neg e] at key
    rw [z3, m2]
    exact key
theorem p_chLooks (h : RepC A Fo M0 M σ hl) {i j : Nat} (hi : i < 24) (hj : j < 24) {post : Int32 → Prop} (hp : post (b2i (decide (sgI σ 2 i = sgI σ 2 j ∧ sgI σ 3 i = sgI σ 3 j ∧ sgI σ 4 i = sgI σ 4 j ∧ sgI σ 5 i = sgI σ 5 j)))) : w_X0_looksLike M (A (30 + i)) (A (30 + j)) post := by
  have a2 : gI M (A (30 + i)) 0 = sgI σ 2 i := rp_rd h 2 i hi
  have a3 : gI M (A (30 + i)) 1 = sgI σ 3 i := rp_rd h 3 i hi
  have a4 : gI M (A (30 + i)) 2 = sgI σ 4 i := rp_rd h 4 i hi
  have a5 : gI M (A (30 + i)) 3 = sgI σ 5 i := rp_rd h 5 i hi
  have b2 : gI M (A (30 + j)) 0 = sgI σ 2 j := rp_rd h 2 j hj
  have b3 : gI M (A (30 + j)) 1 = sgI σ 3 j := rp_rd h 3 j hj
  have b4 : gI M (A (30 + j)) 2 = sgI σ 4 j := rp_rd h 4 j hj
  have b5 : gI M (A (30 + j)) 3 = sgI σ 5 j := rp_rd h 5 j hj
  have ti := rp_i h hi
  have tj := rp_i h hj
  unfold w_X0_looksLike
  simp only [ti, tj, a2, a3, a4, a5, b2, b3, b4, b5, true_and]
  by_cases e2 : sgI σ 2 i = sgI σ 2 j
  · by_cases e3 : sgI σ 3 i = sgI σ 3 j
    · by_cases e4 : sgI σ 4 i = sgI σ 4 j
      · by_cases e5 : sgI σ 5 i = sgI σ 5 j
        · rw [decide_eq_true ⟨e2, e3, e4, e5⟩] at hp
          have hp : post 1 := hp
          simp [e2, e3, e4, e5]
          intros
          simp_all
        · rw [decide_eq_false (fun h => e5 h.2.2.2)] at hp
          have hp : post 0 := hp
          simp [e2, e3, e4, e5]
          intros
          simp_all
      · rw [decide_eq_false (fun h => e4 h.2.2.1)] at hp
        have hp : post 0 := hp
        simp [e2, e3, e4]
        intros
        simp_all
    · rw [decide_eq_false (fun h => e3 h.2.1)] at hp
      have hp : post 0 := hp
      simp [e2, e3]
      intros
      simp_all
  · rw [decide_eq_false (fun h => e2 h.1)] at hp
    have hp : post 0 := hp
    simp [e2]
    intros
    simp_all
theorem p_knows (h : RepC A Fo M0 M σ hl) {s u : Nat} (hs : s < 6) (hu : u < 32) {post : Int32 → Prop} (hp : post (b2i (bt (sgI σ 1 s) u))) : w_X3_knows M (A (10 + s)) (nI u) post := by
  have r1 : gI M (A (10 + s)) 0 = sgI σ 1 s := rp_rd h 1 s hs
  refine ⟨rp_v h hs, ?_⟩
  rw [r1]
  exact p_has M _ hu ⟨b2i_01 _, hp⟩
theorem p_learn (h : RepC A Fo M0 M σ hl) {s : Nat} (hs : s < 6) (u : Int32) {post : Mem → Prop} (hp : ∀ M', RepC A Fo M0 M' (uI σ 1 s (sb (sgI σ 1 s) u)) hl → post M') : w_X3_learn M (A (10 + s)) u post := by
  have r1 : gI M (A (10 + s)) 0 = sgI σ 1 s := rp_rd h 1 s hs
  refine ⟨rp_v h hs, rp_v h hs, fun M3 e3 => hp _ ?_⟩
  rw [e3, r1]
  exact rp_own h 1 s hs _
theorem clN {n : Nat} (h : n < 2 ^ 31) : (nI n).toNatClampNeg = n := nI_clamp h
theorem le_nI {a b : Nat} (ha : a < 2 ^ 31) (hb : b < 2 ^ 31) : nI a ≤ nI b ↔ a ≤ b := nI_leI ha hb
theorem p_forget (h : RepC A Fo M0 M σ hl) {s : Nat} (hs : s < 6) (u : Int32) {post : Mem → Prop} (hp : ∀ M', RepC A Fo M0 M' (forgetL σ s u) hl → post M') : w_X3_forget M (A (10 + s)) u post := by
  have r1 : gI M (A (10 + s)) 0 = sgI σ 1 s := rp_rd h 1 s hs
  refine ⟨rp_v h hs, rp_v h hs, fun M3 e3 => ?_⟩
  have h3 : RepC A Fo M0 M3 (forgetN σ s u 0) hl := by
    rw [e3, r1]
    exact rp_own h 1 s hs _
  refine Lp_for 4 (fun c z => z.1 = nI c ∧ RepC A Fo M0 z.2 (forgetN σ s u c) hl) (fun z => z.1.toNatClampNeg) (fun c z hc hz => by rw [hz.1]; exact clN (by omega)) ⟨rfl, h3⟩ ?_
  intro c z K hc hz hK x4 M5 ez
  subst ez
  obtain ⟨hz1, hz2⟩ := hz
  have hz1 : x4 = nI c := hz1
  have hz2 : RepC A Fo M0 M5 (forgetN σ s u c) hl := hz2
  subst hz1
  refine ⟨fun e => hp _ ?_, fun e => ?_⟩
  · have : 4 ≤ c := (le_nI (a := 4) (by omega) (by omega)).mp e
    have hc4 : c = 4 := by omega
    rw [hc4] at hz2
    exact hz2
  · have hlt : c < 4 := Nat.not_le.mp (fun h9 => e ((le_nI (a := 4) (by omega) (by omega)).mpr h9))
    have hr := hz2.1.2.2.1
    have ht : gT M5 (A (20 + s)) = some (13, 4) := by rw [hz2.1.1 _ (by unfold vid; omega), ty_c s hs]
    refine ⟨rp_v hz2 hs, _, hr.2.2.2.1 s hs, in_nI ht hlt (by omega), A (30 + (s * 4 + c)), ?_, rp_i hz2 (by omega), ?_⟩
    · rw [clN (by omega)]
      exact hr.2.2.2.2.1 s c hs hlt
    · refine p_drop hz2 (by omega) u (fun M12 h12 x13 e13 => hK _ hlt ⟨?_, h12⟩)
      show x13 = nI (c + 1)
      rw [e13, nI_1]
end PC2
