theorem b2i_nz {b : Bool} (h : ¬ b2i b = 0) : b = true := by
  cases b with
  | true => rfl
  | false => exact absurd rfl h
/-! the checks -/
theorem p_ckServer (M : Mem) (s : Int32) {mc ms : Nat} {xp : String → Mem → Prop} {post : Prop} (h1 : 0 ≤ s ∧ s < 6 → post) (h2 : ¬ (0 ≤ s ∧ s < 6) → (1 ≤ mc ∧ 6 ≤ ms) ∧ xp ioob M) : w_X5_checkServer mc ms M s xp post := by
  intro J hJ
  have bad : ¬ (0 ≤ s ∧ s < 6) → J := fun hn => hJ (by have := h2 hn; exact ⟨⟨by omega, by omega⟩, this.2⟩)
  exact ⟨fun e => bad (fun z => Int32.not_le.mpr e z.1), fun e => ⟨fun e1 => h1 ⟨Int32.not_lt.mp e, e1⟩, fun e1 => bad (fun z => e1 z.2)⟩⟩
theorem p_ckChannel (M : Mem) (s : Int32) {mc ms : Nat} {xp : String → Mem → Prop} {post : Prop} (h1 : 0 ≤ s ∧ s < 4 → post) (h2 : ¬ (0 ≤ s ∧ s < 4) → (1 ≤ mc ∧ 6 ≤ ms) ∧ xp ioob M) : w_X5_checkChannel mc ms M s xp post := by
  intro J hJ
  have bad : ¬ (0 ≤ s ∧ s < 4) → J := fun hn => hJ (by have := h2 hn; exact ⟨⟨by omega, by omega⟩, this.2⟩)
  exact ⟨fun e => bad (fun z => Int32.not_le.mpr e z.1), fun e => ⟨fun e1 => h1 ⟨Int32.not_lt.mp e, e1⟩, fun e1 => bad (fun z => e1 z.2)⟩⟩
section PC9
variable {A : Nat → Nat} {Fo : Nat → Prop} {M0 M : Mem} {σ : Sg} {hl : Nat → Option Ln}
theorem p_ckUser (h : RepC A Fo M0 M σ hl) (u : Int32) {mc ms : Nat} {xp : String → Mem → Prop} {post : Prop} (h1 : 0 ≤ u ∧ u < nI (sgN σ 0) → post) (h2 : ¬ (0 ≤ u ∧ u < nI (sgN σ 0)) → (1 ≤ mc ∧ 6 ≤ ms) ∧ xp ioob M) : w_X5_checkUser mc ms M (A 0) u xp post := by
  intro J hJ
  have bad : ¬ (0 ≤ u ∧ u < nI (sgN σ 0)) → J := fun hn => hJ (by have := h2 hn; exact ⟨⟨by omega, by omega⟩, this.2⟩)
  refine ⟨fun e => bad (fun z => Int32.not_le.mpr e z.1), fun e => ⟨rp_0 h, ?_⟩⟩
  rw [rp_users h]
  exact ⟨fun e1 => h1 ⟨Int32.not_lt.mp e, e1⟩, fun e1 => bad (fun z => e1 z.2)⟩
theorem p_ckGone (h : RepC A Fo M0 M σ hl) {u hm : Nat} (hu : u < 20) (hh : hm < 6) (he : sgI σ 7 u = nI hm) {mc ms : Nat} {xp : String → Mem → Prop} {post : Prop} (h1 : goneL σ u hm = false → post) (h2 : goneL σ u hm = true → (1 ≤ mc ∧ 6 ≤ ms) ∧ xp ise M) : w_X5_checkNotGone mc ms M (A 0) (nI u) xp post := by
  refine ⟨rp_0 h, p_isGone h hu hh he ⟨fun e => h1 ((b2i_z _).mp e), fun e => ?_⟩⟩
  have := h2 (b2i_nz e)
  exact ⟨⟨by omega, by omega⟩, this.2⟩
theorem p_ckMember (h : RepC A Fo M0 M σ hl) {u hm c : Nat} (hu : u < 20) (hc : c < 4) (hh : hm < 6) (he : sgI σ 7 u = nI hm) {mc ms : Nat} {xp : String → Mem → Prop} {post : Prop} (h1 : bt (sgI σ 5 (hm * 4 + c)) u = true → post) (h2 : ¬ bt (sgI σ 5 (hm * 4 + c)) u = true → (1 ≤ mc ∧ 6 ≤ ms) ∧ xp ise M) : w_X5_checkMember mc ms M (A 0) (nI u) (nI c) xp post := by
  have r := rp_ref h
  refine ⟨rp_0 h, _, r.1, rp_0 h, _, r.2.2.1, (rp_u3 h hu).1, ?_⟩
  rw [(rp_u3 h hu).2, he]
  refine ⟨(rp_vw h hh).1, _, (rp_vw h hh).2, rp_v h hh, _, (rp_ch h hh).1, in_nI (rp_ch h hh).2 hc (by omega), _, rp_chi h hh hc, rp_i h (by omega), ?_⟩
  have r5 : gI M (A (30 + (hm * 4 + c))) 3 = sgI σ 5 (hm * 4 + c) := rp_rd h 5 _ (show hm * 4 + c < 24 by omega)
  rw [r5]
  refine p_has M _ (by omega) ⟨fun e => ?_, fun e => h1 (b2i_nz e)⟩
  have := h2 (by rw [(b2i_z _).mp e]; decide)
  exact ⟨⟨by omega, by omega⟩, this.2⟩
end PC9
/-- users below n that s knows and doesn't reach are forgotten -/
def fuN (σ : Sg) (s : Nat) : Nat → Sg
  | 0 => σ
  | u + 1 => if bt (sgI (fuN σ s u) 1 s) u = true ∧ ¬ bt (treeL σ s) (sgI σ 7 u).toNatClampNeg = true then forgetL (fuN σ s u) s (nI u) else fuN σ s u
def fuL (σ : Sg) (s : Nat) : Sg := fuN σ s (sgN σ 0)
theorem forgetN_I (σ : Sg) (s : Nat) (u : Int32) (f i : Nat) (hf : f = 0 ∨ 6 ≤ f) : ∀ c, sgI (forgetN σ s u c) f i = sgI σ f i := by
  intro c
  induction c with
  | zero =>
    show sgI (uI σ 1 s _) f i = _
    rw [sgI_uI, if_neg (by omega)]
  | succ c ih =>
    show sgI (dropL _ _ _) f i = _
    rw [← ih]
    unfold dropL
    dsimp only
    split
    · rw [sgI_uI, if_neg (by omega), sgI_uI, if_neg (by omega), sgI_uI, if_neg (by omega), sgI_uI, if_neg (by omega)]
    · rw [sgI_uI, if_neg (by omega)]
theorem forget_I (σ : Sg) (s : Nat) (u : Int32) (f i : Nat) (hf : f = 0 ∨ 6 ≤ f) : sgI (forgetL σ s u) f i = sgI σ f i := forgetN_I σ s u f i hf 4
theorem fu_I (σ : Sg) (s : Nat) (f i : Nat) (hf : f = 0 ∨ 6 ≤ f) : ∀ c, sgI (fuN σ s c) f i = sgI σ f i := by
  intro c
  induction c with
  | zero => rfl
  | succ c ih =>
    unfold fuN
    split
    · rw [forget_I _ _ _ _ _ hf]; exact ih
    · exact ih
theorem fu_N (σ : Sg) (s : Nat) (f : Nat) : ∀ c, sgN (fuN σ s c) f = sgN σ f := by
  intro c
  induction c with
  | zero => rfl
  | succ c ih =>
    unfold fuN
    split
    · rw [forget_N]; exact ih
    · exact ih
theorem fu_Q (σ : Sg) (s : Nat) (w : Nat) : ∀ c, sgQ (fuN σ s c) w = sgQ σ w := by
  intro c
  induction c with
  | zero => rfl
  | succ c ih =>
    unfold fuN
    split
    · exact (forgetN_Q _ _ _ _ _).trans ih
    · exact ih
section PC9b
variable {A : Nat → Nat} {Fo : Nat → Prop} {M0 M : Mem} {σ : Sg} {hl : Nat → Option Ln}
theorem p_unreached (h : RepC A Fo M0 M σ hl) (hW : WFu σ) {s : Nat} (hs : s < 6) {post : Mem → Prop} (hp : ∀ M', RepC A Fo M0 M' (fuL σ s) hl → post M') : w_X5_forgetUnreached M (A 0) (nI s) post := by
  refine ⟨rp_0 h, _, (rp_ref h).1, (rp_vw h hs).1, _, (rp_vw h hs).2, rp_0 h, _, (rp_ref h).2.1, rp_w4 h, p_tree h ?_⟩
  have h20 := hW.1
  refine Lp_for (sgN σ 0) (fun c z => z.1 = nI c ∧ RepC A Fo M0 z.2 (fuN σ s c) hl) (fun z => z.1.toNatClampNeg) (fun c z hc hz => by rw [hz.1]; exact clN (by omega)) ⟨rfl, h⟩ ?_
  intro c z K hc hz hK x9 M10 ez
  subst ez
  obtain ⟨z1, z2⟩ := hz
  have z1 : x9 = nI c := z1
  have h10 : RepC A Fo M0 M10 (fuN σ s c) hl := z2
  subst z1
  refine ⟨rp_0 h10, fun e => ?_, fun e => ⟨rp_v h10 hs, ?_⟩⟩
  · rw [rp_users h10, fu_N] at e
    have : sgN σ 0 ≤ c := (le_nI (by omega) (by omega)).mp e
    have e2 : c = sgN σ 0 := by omega
    subst e2
    exact hp _ h10
  · rw [rp_users h10, fu_N] at e
    have hlt : c < sgN σ 0 := Nat.not_le.mp (fun h9 => e ((le_nI (by omega) (by omega)).mpr h9))
    have hc20 : c < 20 := by omega
    obtain ⟨hm, hh, he⟩ := hW.2 c hlt
    refine p_knows h10 hs (by omega) (fun J hJ => ?_)
    have skip : ¬ (bt (sgI (fuN σ s c) 1 s) c = true ∧ ¬ bt (treeL σ s) (sgI σ 7 c).toNatClampNeg = true) → J M10 := fun hno => hJ _ (fun x17 e17 => hK _ hlt ⟨by show x17 = _; rw [e17, nI_1], by
      show RepC A Fo M0 M10 (fuN σ s (c + 1)) hl
      unfold fuN; rw [if_neg hno]; exact h10⟩)
    refine ⟨fun e1 => skip (fun hh => by rw [(b2i_z _).mp e1] at hh; cases hh.1), fun e1 => ⟨rp_0 h10, _, (rp_ref h10).2.2.1, (rp_u3 h10 hc20).1, ?_⟩⟩
    rw [(rp_u3 h10 hc20).2, fu_I _ _ _ _ (by omega), he]
    refine p_has M10 _ (by omega) ⟨fun e2 => ⟨rp_v h10 hs, p_forget h10 hs (nI c) (fun M23 h23 => hJ _ (fun x17 e17 => hK _ hlt ⟨by show x17 = _; rw [e17, nI_1], ?_⟩))⟩, fun e2 => skip (fun z => z.2 (by rw [he, clN (by omega)]; exact b2i_nz e2))⟩
    show RepC A Fo M0 M23 (fuN σ s (c + 1)) hl
    unfold fuN
    rw [if_pos ⟨b2i_nz e1, by rw [he, clN (by omega), (b2i_z _).mp e2]; decide⟩]
    exact h23
end PC9b
/-! a burst -/
/-- τ is σ with at most n lines more -/
def upL (σ τ : Sg) (n : Nat) : Prop := (∀ f i, sgI τ f i = sgI σ f i) ∧ (∀ f, f ≠ 2 → sgN τ f = sgN σ f) ∧ (tot σ ≤ tot τ ∧ tot τ ≤ tot σ + n) ∧ sgN σ 2 ≤ sgN τ 2 ∧ sgN τ 2 ≤ Nat.max (sgN σ 2) (tot τ + sgN σ 3)
theorem upL_refl (σ : Sg) : upL σ σ 0 := ⟨fun _ _ => rfl, fun _ _ => rfl, ⟨by omega, by omega⟩, Nat.le_refl _, nmax_le⟩
theorem upL_mono {σ τ : Sg} {n m : Nat} (h : upL σ τ n) (hm : n ≤ m) : upL σ τ m := ⟨h.1, h.2.1, ⟨h.2.2.1.1, by have := h.2.2.1.2; omega⟩, h.2.2.2⟩
theorem upL_put {σ τ : Sg} {n w : Nat} (h : upL σ τ n) (hw : w < 36) (ln : Ln) : upL σ (putL τ w ln) (n + 1) := by
  obtain ⟨h1, h2, ⟨h3, h4⟩, h5, h6⟩ := h
  refine ⟨fun f i => by rw [putL_I]; exact h1 f i, fun f hf => ?_, ⟨?_, ?_⟩, ?_, ?_⟩
  · rw [← h2 f hf]
    unfold putL
    rw [sgN_uN, if_neg hf, sgN_uQ]
  · rw [putL_tot _ hw]; omega
  · rw [putL_tot _ hw]; omega
  · rw [putL_2]; exact Nat.le_trans h5 nmax_le
  · rw [putL_2, putL_tot _ hw, h2 3 (by decide)]
    refine nmax_lub (Nat.le_trans h6 (nmax_lub nmax_le ?_)) ?_
    · exact Nat.le_trans (by omega) nmax_le'
    · exact Nat.le_trans (by omega) nmax_le'
theorem upL_lim {σ τ : Sg} {n m : Nat} (h : upL σ τ n) (hl : lim σ m) : lim τ (m + n) := by
  obtain ⟨-, h2, ⟨h3, h4⟩, h5, h6⟩ := h
  obtain ⟨l1, l2⟩ := hl
  refine ⟨Nat.lt_of_le_of_lt h6 (Nat.max_lt.mpr ⟨by omega, by omega⟩), ?_⟩
  rw [h2 3 (by decide)]
  omega
def bu1 (σ : Sg) (s t : Nat) : Nat → Sg
  | 0 => σ
  | u + 1 => if bt (sgI σ 1 s) u = true then putL (bu1 σ s t u) (s * 6 + t) (qln 0 u) else bu1 σ s t u
def chLn (σ : Sg) (s c : Nat) : Ln := (2, nI c, sgI σ 5 (s * 4 + c), sgI σ 2 (s * 4 + c), sgI σ 3 (s * 4 + c), sgI σ 4 (s * 4 + c))
def bu2 (σ : Sg) (s t : Nat) : Nat → Sg
  | 0 => bu1 σ s t (sgN σ 0)
  | c + 1 => if ¬ sgI σ 5 (s * 4 + c) = 0 then putL (bu2 σ s t c) (s * 6 + t) (chLn σ s c) else bu2 σ s t c
def burstL (σ : Sg) (s t : Nat) : Sg := bu2 σ s t 4
theorem bu1_up (σ : Sg) {s t : Nat} (hw : s * 6 + t < 36) : ∀ u, upL σ (bu1 σ s t u) u := by
  intro u
  induction u with
  | zero => exact upL_refl σ
  | succ u ih =>
    unfold bu1
    split
    · exact upL_put ih hw _
    · exact upL_mono ih (by omega)
theorem bu2_up (σ : Sg) {s t : Nat} (hw : s * 6 + t < 36) : ∀ c, upL σ (bu2 σ s t c) (sgN σ 0 + c) := by
  intro c
  induction c with
  | zero => exact bu1_up σ hw _
  | succ c ih =>
    unfold bu2
    split
    · exact upL_put ih hw _
    · exact upL_mono ih (by omega)
theorem burst_up (σ : Sg) {s t : Nat} (hs : s < 6) (ht : t < 6) : upL σ (burstL σ s t) (sgN σ 0 + 4) := bu2_up σ (by omega) 4
theorem bu1_2 (σ : Sg) (s t u : Nat) : sgN (bu1 σ s t u) 2 ≤ sgN (bu1 σ s t (u + 1)) 2 := by
  show _ ≤ sgN (if _ then _ else _) 2
  split
  · exact nmax_le
  · exact Nat.le_refl _
theorem bu2_2 (σ : Sg) (s t u : Nat) : sgN (bu2 σ s t u) 2 ≤ sgN (bu2 σ s t (u + 1)) 2 := by
  show _ ≤ sgN (if _ then _ else _) 2
  split
  · exact nmax_le
  · exact Nat.le_refl _
theorem mono_le {g : Nat → Nat} (h : ∀ n, g n ≤ g (n + 1)) {a : Nat} : ∀ n, a ≤ n → g a ≤ g n := by
  intro n
  induction n with
  | zero => intro h0; rw [Nat.le_zero.mp h0]; exact Nat.le_refl _
  | succ n ih =>
    intro h0
    by_cases e : a = n + 1
    · rw [e]; exact Nat.le_refl _
    · exact Nat.le_trans (ih (by omega)) (h n)
section PC9c
variable {A : Nat → Nat} {Fo : Nat → Prop} {M0 M : Mem} {σ : Sg} {hl : Nat → Option Ln}
theorem p_burst (h : RepC A Fo M0 M σ hl) (hW : WFu σ) {s t : Nat} (hs : s < 6) (ht : t < 6) (hn : lim σ 80000) {mc ms : Nat} (hbd : bud σ (burstL σ s t) mc ms) {post : Mem → Prop} (hp : ∀ M' hl', RepC A Fo M0 M' (burstL σ s t) hl' → post M') : w_X5_burst mc ms M (A 0) (nI s) (nI t) post := by
  have h20 := hW.1
  have hw : s * 6 + t < 36 := by omega
  have hbd2 : sgN (bu2 σ s t 4) 2 ≤ sgN σ 2 + mc ∧ 8 * sgN (bu2 σ s t 4) 2 ≤ 8 * sgN σ 2 + ms := hbd
  refine ⟨rp_0 h, _, (rp_ref h).1, (rp_vw h hs).1, _, (rp_vw h hs).2, ?_⟩
  refine Lp_for (sgN σ 0) (fun c z => z.1 = nI c ∧ (∃ hl', RepC A Fo M0 z.2.1 (bu1 σ s t c) hl') ∧ z.2.2.1 + sgN σ 2 = sgN (bu1 σ s t c) 2 ∧ z.2.2.2 = 8 * z.2.2.1) (fun z => z.1.toNatClampNeg) (fun c z hc hz => by rw [hz.1]; exact clN (by omega)) ⟨rfl, ⟨hl, h⟩, Nat.zero_add _, rfl⟩ ?_
  intro u z K hu hz hK x5 M6 k7 n8 ez
  subst ez
  obtain ⟨z1, ⟨hl6, z2⟩, z3, z4⟩ := hz
  have z1 : x5 = nI u := z1
  have h6 : RepC A Fo M0 M6 (bu1 σ s t u) hl6 := z2
  have z3 : k7 + sgN σ 2 = sgN (bu1 σ s t u) 2 := z3
  have z4 : n8 = 8 * k7 := z4
  subst z1
  have up := bu1_up σ hw u
  refine ⟨rp_0 h6, fun e => ?_, fun e => ⟨rp_v h6 hs, ?_⟩⟩
  · rw [rp_users h6, up.2.1 0 (by decide)] at e
    have : sgN σ 0 ≤ u := (le_nI (by omega) (by omega)).mp e
    have e2 : u = sgN σ 0 := by omega
    subst e2
    refine Lp_for 4 (fun c z => z.1 = nI c ∧ (∃ hl', RepC A Fo M0 z.2.1 (bu2 σ s t c) hl') ∧ z.2.2.1 + sgN σ 2 = sgN (bu2 σ s t c) 2 ∧ z.2.2.2 = 8 * z.2.2.1) (fun z => z.1.toNatClampNeg) (fun c z hc hz => by rw [hz.1]; exact clN (by omega)) ⟨rfl, ⟨hl6, h6⟩, z3, z4⟩ ?_
    intro c z K hc hz hK x11 M12 k13 n14 ez
    subst ez
    obtain ⟨z1, ⟨hl12, z2⟩, z3, z4⟩ := hz
    have z1 : x11 = nI c := z1
    have h12 : RepC A Fo M0 M12 (bu2 σ s t c) hl12 := z2
    have z3 : k13 + sgN σ 2 = sgN (bu2 σ s t c) 2 := z3
    have z4 : n14 = 8 * k13 := z4
    subst z1
    have up2 := bu2_up σ hw c
    refine ⟨fun e => ?_, fun e => ?_⟩
    · have : 4 ≤ c := (le_nI (a := 4) (by omega) (by omega)).mp e
      have e4 : c = 4 := by omega
      subst e4
      exact hp _ _ h12
    · have hlt : c < 4 := Nat.not_le.mp (fun h9 => e ((le_nI (a := 4) (by omega) (by omega)).mpr h9))
      have r5 : gI M12 (A (30 + (s * 4 + c))) 3 = sgI σ 5 (s * 4 + c) := (rp_rd h12 5 _ (show s * 4 + c < 24 by omega)).trans (up2.1 _ _)
      refine ⟨rp_v h12 hs, _, (rp_ch h12 hs).1, in_nI (rp_ch h12 hs).2 hlt (by omega), _, rp_chi h12 hs hlt, rp_i h12 (by omega), p_isThere (rp_i h12 (by omega)) (fun J hJ => ⟨fun e1 => hJ _ _ _ (fun x26 e26 => hK _ hlt ⟨by show x26 = _; rw [e26, nI_1], ⟨hl12, ?_⟩, ?_, z4⟩), fun e1 => ?_⟩)⟩
      · show RepC A Fo M0 M12 (bu2 σ s t (c + 1)) hl12
        have e3 := (b2i_z _).mp e1
        rw [r5] at e3
        unfold bu2
        rw [if_neg (by simpa using e3)]
        exact h12
      · show k13 + sgN σ 2 = sgN (bu2 σ s t (c + 1)) 2
        have e3 := (b2i_z _).mp e1
        rw [r5] at e3
        unfold bu2
        rw [if_neg (by simpa using e3)]
        exact z3
      · have e3 := b2i_nz e1
        rw [r5] at e3
        have e5 : ¬ sgI σ 5 (s * 4 + c) = 0 := by simpa using e3
        have hst : bu2 σ s t (c + 1) = putL (bu2 σ s t c) (s * 6 + t) (chLn σ s c) := by
          show (if _ then _ else _) = _
          rw [if_pos e5]
        rw [r5]
        have hlm := upL_lim up2 hn
        have m1 := mono_le (bu2_2 σ s t) (a := c + 1) 4 (by omega)
        have m0 := bu2_2 σ s t c
        refine ⟨rp_0 h12, _, (rp_ref h12).2.1, rp_0 h12, _, (rp_ref h12).2.2.2.2.2, rp_i h12 (by omega), h12.1.1 6 (by unfold vid; omega), p_ofChannel h12 (Or.inl rfl) (by omega) (nI c) _ (fun M33 h33 => ⟨_, rfl, rp_w4 h33, sgN (bu2 σ s t (c + 1)) 2 - sgN (bu2 σ s t c) 2, 8 * (sgN (bu2 σ s t (c + 1)) 2 - sgN (bu2 σ s t c) 2), ⟨by omega, by omega⟩, p_put h33 hs ht (fs_s _ _ _) ⟨by have := hlm.1; omega, by have := hlm.2; omega⟩ ?_ ?_ (fun M39 h39 => hJ _ _ _ (fun x26 e26 => hK _ hlt ⟨by show x26 = _; rw [e26, nI_1], ⟨fset hl12 (A 6) (some (chLn σ s c)), ?_⟩, ?_, ?_⟩))⟩)⟩
        · rw [putL_2, ← putL_2 _ (s * 6 + t) (chLn σ s c), ← hst]; omega
        · rw [putL_2, ← putL_2 _ (s * 6 + t) (chLn σ s c), ← hst]; omega
        · show RepC A Fo M0 M39 (bu2 σ s t (c + 1)) _
          rw [hst]
          have e7 : ((2 : Int32), nI c, (if (2 : Int32) = 2 then sgI σ 5 (s * 4 + c) else 0), sgI (bu2 σ s t c) 2 (s * 4 + c), sgI (bu2 σ s t c) 3 (s * 4 + c), sgI (bu2 σ s t c) 4 (s * 4 + c)) = chLn σ s c := by
            rw [if_pos rfl, up2.1, up2.1, up2.1]; rfl
          rw [e7] at h39
          exact h39
        · show k13 + _ + sgN σ 2 = sgN (bu2 σ s t (c + 1)) 2
          omega
        · show n14 + _ = 8 * (k13 + _)
          omega
  · rw [rp_users h6, up.2.1 0 (by decide)] at e
    have hlt : u < sgN σ 0 := Nat.not_le.mp (fun h9 => e ((le_nI (by omega) (by omega)).mpr h9))
    refine p_knows h6 hs (by omega) (fun J hJ => ⟨fun e1 => hJ _ _ _ (fun x49 e49 => hK _ hlt ⟨by show x49 = _; rw [e49, nI_1], ⟨hl6, ?_⟩, ?_, z4⟩), fun e1 => ?_⟩)
    · show RepC A Fo M0 M6 (bu1 σ s t (u + 1)) hl6
      have e3 := (b2i_z _).mp e1
      rw [up.1] at e3
      unfold bu1
      rw [if_neg (by rw [e3]; decide)]
      exact h6
    · show k7 + sgN σ 2 = sgN (bu1 σ s t (u + 1)) 2
      have e3 := (b2i_z _).mp e1
      rw [up.1] at e3
      unfold bu1
      rw [if_neg (by rw [e3]; decide)]
      exact z3
    · have e3 := b2i_nz e1
      rw [up.1] at e3
      have hst : bu1 σ s t (u + 1) = putL (bu1 σ s t u) (s * 6 + t) (qln 0 u) := by
        show (if _ then _ else _) = _
        rw [if_pos e3]
      have hlm := upL_lim up hn
      have m1 := mono_le (bu1_2 σ s t) (a := u + 1) (sgN σ 0) (by omega)
      have m2 := mono_le (bu2_2 σ s t) (a := 0) 4 (by omega)
      have m0 := bu1_2 σ s t u
      have m3 : sgN (bu1 σ s t (sgN σ 0)) 2 = sgN (bu2 σ s t 0) 2 := rfl
      refine ⟨rp_0 h6, _, (rp_ref h6).2.1, rp_0 h6, _, (rp_ref h6).2.2.2.2.2, h6.1.1 6 (by unfold vid; omega), p_ofUser h6 (Or.inl rfl) (nI u) (fun M55 h55 => ⟨_, rfl, rp_w4 h55, sgN (bu1 σ s t (u + 1)) 2 - sgN (bu1 σ s t u) 2, 8 * (sgN (bu1 σ s t (u + 1)) 2 - sgN (bu1 σ s t u) 2), ⟨by omega, by omega⟩, p_put h55 hs ht (fs_s _ _ _) ⟨by have := hlm.1; omega, by have := hlm.2; omega⟩ ?_ ?_ (fun M61 h61 => hJ _ _ _ (fun x49 e49 => hK _ hlt ⟨by show x49 = _; rw [e49, nI_1], ⟨fset hl6 (A 6) (some (qln 0 u)), ?_⟩, ?_, ?_⟩))⟩)⟩
      · show sgN (putL (bu1 σ s t u) (s * 6 + t) (qln 0 u)) 2 ≤ _
        rw [← hst]; omega
      · show 8 * sgN (putL (bu1 σ s t u) (s * 6 + t) (qln 0 u)) 2 ≤ _
        rw [← hst]; omega
      · show RepC A Fo M0 M61 (bu1 σ s t (u + 1)) _
        rw [hst]
        exact h61
      · show k7 + _ + sgN σ 2 = sgN (bu1 σ s t (u + 1)) 2
        omega
      · show n8 + _ = 8 * (k7 + _)
        omega
end PC9c
