theorem rngN {p : Int32} {n : Nat} (hn : n < 2 ^ 31) (h : 0 ≤ p ∧ p < nI n) : ∃ s, s < n ∧ p = nI s := by
  have h0 : (0 : Int32).toInt ≤ p.toInt := Int32.le_iff_toInt_le.mp h.1
  have h1 : p.toInt < (nI n).toInt := Int32.lt_iff_toInt_lt.mp h.2
  rw [nI_toInt hn] at h1
  have z : (0 : Int32).toInt = 0 := by decide
  rw [z] at h0
  refine ⟨p.toInt.toNat, by omega, Int32.toInt_inj.mp ?_⟩
  rw [nI_toInt (by omega)]
  omega
theorem rng6 {p : Int32} (h : 0 ≤ p ∧ p < 6) : ∃ s, s < 6 ∧ p = nI s := rngN (n := 6) (by decide) h
theorem rng4 {p : Int32} (h : 0 ≤ p ∧ p < 4) : ∃ s, s < 4 ∧ p = nI s := rngN (n := 4) (by decide) h
/-- how a check stands in a walk -/
theorem ck_S {k n mc ms : Nat} {M : Mem} {p : Int32} {xp : String → Mem → Prop} {R : Nat → Nat → Prop} (h1 : ∀ s, s < 6 → p = nI s → (k ≤ mc ∧ n ≤ ms) ∧ R 0 0) (h2 : ¬ (0 ≤ p ∧ p < 6) → (k + 1 ≤ mc ∧ n + 6 ≤ ms) ∧ xp ioob M) : ∃ c s, (k + c ≤ mc ∧ n + s ≤ ms) ∧ w_X5_checkServer c s M p xp (R c s) := by
  by_cases hr : 0 ≤ p ∧ p < 6
  · obtain ⟨s, hs, e⟩ := rng6 hr
    obtain ⟨q1, q2⟩ := h1 s hs e
    exact ⟨0, 0, ⟨by omega, by omega⟩, p_ckServer M p (fun _ => q2) (fun hn => absurd hr hn)⟩
  · obtain ⟨q1, q2⟩ := h2 hr
    exact ⟨1, 6, q1, p_ckServer M p (fun hn => absurd hn hr) (fun _ => ⟨⟨by omega, by omega⟩, q2⟩)⟩
theorem ck_C {k n mc ms : Nat} {M : Mem} {p : Int32} {xp : String → Mem → Prop} {R : Nat → Nat → Prop} (h1 : ∀ s, s < 4 → p = nI s → (k ≤ mc ∧ n ≤ ms) ∧ R 0 0) (h2 : ¬ (0 ≤ p ∧ p < 4) → (k + 1 ≤ mc ∧ n + 6 ≤ ms) ∧ xp ioob M) : ∃ c s, (k + c ≤ mc ∧ n + s ≤ ms) ∧ w_X5_checkChannel c s M p xp (R c s) := by
  by_cases hr : 0 ≤ p ∧ p < 4
  · obtain ⟨s, hs, e⟩ := rng4 hr
    obtain ⟨q1, q2⟩ := h1 s hs e
    exact ⟨0, 0, ⟨by omega, by omega⟩, p_ckChannel M p (fun _ => q2) (fun hn => absurd hr hn)⟩
  · obtain ⟨q1, q2⟩ := h2 hr
    exact ⟨1, 6, q1, p_ckChannel M p (fun hn => absurd hn hr) (fun _ => ⟨⟨by omega, by omega⟩, q2⟩)⟩
/-- the clock goes on -/
def tickL (σ : Sg) : Sg := uN σ 1 (sgN σ 1 + 1)
theorem WFu_congr {σ τ : Sg} (h : WFu σ) (h0 : sgN τ 0 = sgN σ 0) (h7 : ∀ u, sgI τ 7 u = sgI σ 7 u) : WFu τ := by
  unfold WFu
  rw [h0]
  exact ⟨h.1, fun u hu => by rw [h7]; exact h.2 u hu⟩
/-- room for one exception, or for what the call makes -/
def bud1 (σ σ' : Sg) (k n mc ms : Nat) : Prop := k + sgN σ' 2 + 1 ≤ sgN σ 2 + mc ∧ n + 8 * sgN σ' 2 + 6 ≤ 8 * sgN σ 2 + ms
section PCA
variable {A : Nat → Nat} {Fo : Nat → Prop} {M0 M : Mem} {σ : Sg} {hl : Nat → Option Ln}
theorem ck_U (h : RepC A Fo M0 M σ hl) (hW : WFu σ) {k n mc ms : Nat} {p : Int32} {xp : String → Mem → Prop} {R : Nat → Nat → Prop} (h1 : ∀ u, u < sgN σ 0 → p = nI u → (k ≤ mc ∧ n ≤ ms) ∧ R 0 0) (h2 : ¬ (0 ≤ p ∧ p < nI (sgN σ 0)) → (k + 1 ≤ mc ∧ n + 6 ≤ ms) ∧ xp ioob M) : ∃ c s, (k + c ≤ mc ∧ n + s ≤ ms) ∧ w_X5_checkUser c s M (A 0) p xp (R c s) := by
  by_cases hr : 0 ≤ p ∧ p < nI (sgN σ 0)
  · obtain ⟨s, hs, e⟩ := rngN (by have := hW.1; omega) hr
    obtain ⟨q1, q2⟩ := h1 s hs e
    exact ⟨0, 0, ⟨by omega, by omega⟩, p_ckUser h p (fun _ => q2) (fun hn => absurd hr hn)⟩
  · obtain ⟨q1, q2⟩ := h2 hr
    exact ⟨1, 6, q1, p_ckUser h p (fun hn => absurd hn hr) (fun _ => ⟨⟨by omega, by omega⟩, q2⟩)⟩
theorem ck_G (h : RepC A Fo M0 M σ hl) {u hm : Nat} (hu : u < 20) (hh : hm < 6) (he : sgI σ 7 u = nI hm) {k n mc ms : Nat} {xp : String → Mem → Prop} {R : Nat → Nat → Prop} (h1 : goneL σ u hm = false → (k ≤ mc ∧ n ≤ ms) ∧ R 0 0) (h2 : goneL σ u hm = true → (k + 1 ≤ mc ∧ n + 6 ≤ ms) ∧ xp ise M) : ∃ c s, (k + c ≤ mc ∧ n + s ≤ ms) ∧ w_X5_checkNotGone c s M (A 0) (nI u) xp (R c s) := by
  cases hr : goneL σ u hm with
  | false =>
    obtain ⟨q1, q2⟩ := h1 hr
    exact ⟨0, 0, ⟨by omega, by omega⟩, p_ckGone h hu hh he (fun _ => q2) (fun hn => by rw [hr] at hn; cases hn)⟩
  | true =>
    obtain ⟨q1, q2⟩ := h2 hr
    exact ⟨1, 6, q1, p_ckGone h hu hh he (fun hn => by rw [hr] at hn; cases hn) (fun _ => ⟨⟨by omega, by omega⟩, q2⟩)⟩
theorem ck_M (h : RepC A Fo M0 M σ hl) {u hm c : Nat} (hu : u < 20) (hc : c < 4) (hh : hm < 6) (he : sgI σ 7 u = nI hm) {k n mc ms : Nat} {xp : String → Mem → Prop} {R : Nat → Nat → Prop} (h1 : bt (sgI σ 5 (hm * 4 + c)) u = true → (k ≤ mc ∧ n ≤ ms) ∧ R 0 0) (h2 : ¬ bt (sgI σ 5 (hm * 4 + c)) u = true → (k + 1 ≤ mc ∧ n + 6 ≤ ms) ∧ xp ise M) : ∃ c2 s, (k + c2 ≤ mc ∧ n + s ≤ ms) ∧ w_X5_checkMember c2 s M (A 0) (nI u) (nI c) xp (R c2 s) := by
  by_cases hr : bt (sgI σ 5 (hm * 4 + c)) u = true
  · obtain ⟨q1, q2⟩ := h1 hr
    exact ⟨0, 0, ⟨by omega, by omega⟩, p_ckMember h hu hc hh he (fun _ => q2) (fun hn => absurd hr hn)⟩
  · obtain ⟨q1, q2⟩ := h2 hr
    exact ⟨1, 6, q1, p_ckMember h hu hc hh he (fun hn => absurd hn hr) (fun _ => ⟨⟨by omega, by omega⟩, q2⟩)⟩
theorem p_tick (h : RepC A Fo M0 M σ hl) {M' : Mem} (e : M' = sI M (A 0) 7 (gI M (A 0) 7 + 1)) : RepC A Fo M0 M' (tickL σ) hl := by
  have := rp_setN h (f := 1) (Or.inr rfl) (sgN σ 1 + 1)
  rw [e, rp_clock h, nI_1]
  exact this
theorem rp_wait (h : RepC A Fo M0 M σ hl) : gI M (A 2) 2 = nI (tot σ) := (qc_cnt h.2.2.1).1
def linkL (σ : Sg) (s t : Nat) : Sg := tickL (burstL (burstL (connectL σ s t) s t) t s)
theorem connect_N (σ : Sg) (s t f : Nat) : sgN (connectL σ s t) f = sgN σ f := rfl
theorem connect_Q (σ : Sg) (s t w : Nat) : sgQ (connectL σ s t) w = sgQ σ w := rfl
theorem connect_7 (σ : Sg) (s t u : Nat) : sgI (connectL σ s t) 7 u = sgI σ 7 u := by
  unfold connectL
  dsimp only
  rw [sgI_uI, if_neg (by omega), sgI_uI, if_neg (by omega)]
theorem p_link (h : RepC A Fo M0 M σ hl) (hW : WFu σ) (hn : lim σ 60000) {p q : Int32} {mc ms : Nat} (hb : 1 ≤ mc ∧ 6 ≤ ms) {xp : String → Mem → Prop} {post : Mem → Int32 → Prop}
    (h1 : ¬ (0 ≤ p ∧ p < 6) ∨ ¬ (0 ≤ q ∧ q < 6) → xp ioob M)
    (h2 : ∀ s t, s < 6 → t < 6 → p = nI s → q = nI t → bt (treeL σ s) t = true → xp ise M)
    (hp : ∀ s t, s < 6 → t < 6 → p = nI s → q = nI t → ¬ bt (treeL σ s) t = true → bud σ (linkL σ s t) mc ms ∧ ∀ M' hl', RepC A Fo M0 M' (linkL σ s t) hl' → post M' (nI (tot (linkL σ s t)) - nI (tot σ))) : w_X5_link mc ms M (A 0) p q xp post := by
  refine ck_S (fun s hs es => ⟨⟨by omega, by omega⟩, ck_S (fun t ht et => ⟨⟨by omega, by omega⟩, ?_⟩) (fun hr => ⟨by omega, h1 (Or.inr hr)⟩)⟩) (fun hr => ⟨by omega, h1 (Or.inl hr)⟩)
  subst es
  subst et
  refine ⟨rp_0 h, _, (rp_ref h).2.1, rp_w4 h, p_tree h (p_has M _ (by omega) ⟨fun e => ?_, fun e => ⟨by omega, h2 s t hs ht rfl rfl (b2i_nz e)⟩⟩)⟩
  obtain ⟨⟨b1, b2⟩, hp⟩ := hp s t hs ht rfl rfl (by rw [(b2i_z _).mp e]; decide)
  have b1 : sgN (burstL (burstL (connectL σ s t) s t) t s) 2 ≤ sgN σ 2 + mc := b1
  have b2 : 8 * sgN (burstL (burstL (connectL σ s t) s t) t s) 2 ≤ 8 * sgN σ 2 + ms := b2
  refine ⟨rp_0 h, _, (rp_ref h).2.1, rp_w4 h, fun x13 e13 => ⟨rp_0 h, _, (rp_ref h).2.1, rp_w4 h, p_connect h hs ht (fun M17 h17 => ⟨rp_0 h17, ?_⟩)⟩⟩
  have hW1 : WFu (connectL σ s t) := WFu_congr hW rfl (connect_7 σ s t)
  have hl1 : lim (connectL σ s t) 60000 := lim_congr hn rfl rfl (connect_Q σ s t)
  have u1 := burst_up (connectL σ s t) hs ht
  have u1' := u1
  generalize hτ : burstL (connectL σ s t) s t = τ at u1 b1 b2 hp
  have hW2 : WFu τ := WFu_congr hW1 (u1.2.1 0 (by decide)) (u1.1 7)
  have hl2 := upL_lim u1 hl1
  have u2 := burst_up τ ht hs
  have h20 := hW.1
  have c20 : sgN (connectL σ s t) 0 = sgN σ 0 := rfl
  have cc2 : sgN (connectL σ s t) 2 = sgN σ 2 := rfl
  have m1 := u1.2.2.2.1
  have m2 := u2.2.2.2.1
  refine ⟨sgN τ 2 - sgN σ 2, 8 * (sgN τ 2 - sgN σ 2), ⟨by omega, by omega⟩, p_burst h17 hW1 hs ht (lim_mono hl1 (by omega)) ⟨by rw [hτ]; omega, by rw [hτ]; omega⟩ (fun M21 hl21 h21 => ?_)⟩
  rw [hτ] at h21
  refine ⟨rp_0 h21, sgN (burstL τ t s) 2 - sgN τ 2, 8 * (sgN (burstL τ t s) 2 - sgN τ 2), ⟨by omega, by omega⟩, p_burst h21 hW2 ht hs (lim_mono hl2 (by omega)) ⟨by omega, by omega⟩ (fun M25 hl25 h25 => ⟨rp_0 h25, rp_0 h25, fun M28 e28 => ?_⟩)⟩
  have h28 := p_tick h25 e28
  have hlk : linkL σ s t = tickL (burstL τ t s) := by unfold linkL; rw [hτ]
  rw [hlk] at hp
  refine ⟨rp_0 h28, _, (rp_ref h28).2.1, rp_w4 h28, ?_⟩
  rw [rp_wait h28, e13, rp_wait h]
  exact hp _ _ h28
end PCA
