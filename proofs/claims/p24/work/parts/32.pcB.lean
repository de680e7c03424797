/-! split -/
def fsN (σ : Sg) : Nat → Sg
  | 0 => σ
  | s + 1 => fuL (fsN σ s) s
def splitL (σ : Sg) (s t : Nat) : Sg := tickL (fsN (cutL σ s t) 6)
theorem fs_N (σ : Sg) (f : Nat) : ∀ c, sgN (fsN σ c) f = sgN σ f := by
  intro c
  induction c with
  | zero => rfl
  | succ c ih => exact (fu_N _ _ _ _).trans ih
theorem fs_Q (σ : Sg) (w : Nat) : ∀ c, sgQ (fsN σ c) w = sgQ σ w := by
  intro c
  induction c with
  | zero => rfl
  | succ c ih => exact (fu_Q _ _ _ _).trans ih
theorem fs_I (σ : Sg) (f i : Nat) (hf : f = 0 ∨ 6 ≤ f) : ∀ c, sgI (fsN σ c) f i = sgI σ f i := by
  intro c
  induction c with
  | zero => rfl
  | succ c ih => exact (fu_I _ _ _ _ hf _).trans ih
theorem cut_N (σ : Sg) (s t f : Nat) : sgN (cutL σ s t) f = sgN σ f := rfl
theorem cut_7 (σ : Sg) (s t u f : Nat) (hf : f ≠ 0) : sgI (cutL σ s t) f u = sgI σ f u := by
  unfold cutL
  rw [sgI_uQ, sgI_uQ]
  unfold unlinkL
  dsimp only
  rw [sgI_uI, if_neg (fun e => hf e.1), sgI_uI, if_neg (fun e => hf e.1)]
section PCB
variable {A : Nat → Nat} {Fo : Nat → Prop} {M0 M : Mem} {σ : Sg} {hl : Nat → Option Ln}
theorem p_split (h : RepC A Fo M0 M σ hl) (hW : WFu σ) (hn : tot σ < 100000) {p q : Int32} {mc ms : Nat} (hb : 1 ≤ mc ∧ 6 ≤ ms) {xp : String → Mem → Prop} {post : Mem → Int32 → Prop}
    (h1 : ¬ (0 ≤ p ∧ p < 6) ∨ ¬ (0 ≤ q ∧ q < 6) → xp ioob M)
    (h2 : ∀ s t, s < 6 → t < 6 → p = nI s → q = nI t → ¬ bt (sgI σ 0 s) t = true → xp ise M)
    (hp : ∀ s t, s < 6 → t < 6 → p = nI s → q = nI t → bt (sgI σ 0 s) t = true → ∀ M', RepC A Fo M0 M' (splitL σ s t) hl → post M' (nI (tot σ) - nI (tot (splitL σ s t)))) : w_X5_split mc ms M (A 0) p q xp post := by
  refine ck_S (fun s hs es => ⟨⟨by omega, by omega⟩, ck_S (fun t ht et => ⟨⟨by omega, by omega⟩, ?_⟩) (fun hr => ⟨by omega, h1 (Or.inr hr)⟩)⟩) (fun hr => ⟨by omega, h1 (Or.inl hr)⟩)
  subst es
  subst et
  refine ⟨rp_0 h, _, (rp_ref h).2.1, rp_w4 h, p_haveLink h hs ht ⟨fun e => ⟨by omega, h2 s t hs ht rfl rfl (by rw [(b2i_z _).mp e]; decide)⟩, fun e => ⟨rp_0 h, _, (rp_ref h).2.1, rp_w4 h, fun x12 e12 => ⟨rp_0 h, _, (rp_ref h).2.1, rp_w4 h, p_cut h hs ht hn (fun M16 h16 => ?_)⟩⟩⟩⟩
  have hp := hp s t hs ht rfl rfl (b2i_nz e)
  refine Lp_for 6 (fun c z => z.1 = nI c ∧ RepC A Fo M0 z.2 (fsN (cutL σ s t) c) hl) (fun z => z.1.toNatClampNeg) (fun c z hc hz => by rw [hz.1]; exact clN (by omega)) ⟨rfl, h16⟩ ?_
  intro c z K hc hz hK x17 M18 ez
  subst ez
  obtain ⟨z1, z2⟩ := hz
  have z1 : x17 = nI c := z1
  have h18 : RepC A Fo M0 M18 (fsN (cutL σ s t) c) hl := z2
  subst z1
  refine ⟨fun e1 => ⟨rp_0 h18, rp_0 h18, fun M22 e22 => ?_⟩, fun e1 => ⟨rp_0 h18, ?_⟩⟩
  · have : 6 ≤ c := (le_nI (a := 6) (by omega) (by omega)).mp e1
    have e6 : c = 6 := by omega
    subst e6
    have h22 := p_tick h18 e22
    refine ⟨rp_0 h22, _, (rp_ref h22).2.1, rp_w4 h22, ?_⟩
    rw [rp_wait h22, e12, rp_wait h]
    exact hp _ h22
  · have hlt : c < 6 := Nat.not_le.mp (fun h9 => e1 ((le_nI (a := 6) (by omega) (by omega)).mpr h9))
    have hWc : WFu (fsN (cutL σ s t) c) := WFu_congr hW (fs_N _ 0 c) (fun u => (fs_I _ 7 u (by omega) c).trans (cut_7 σ s t u 7 (by omega)))
    exact p_unreached h18 hWc hlt (fun M27 h27 x28 e28 => hK _ hlt ⟨by show x28 = _; rw [e28, nI_1], h27⟩)
end PCB
/-! delivering -/
theorem recvUser_2 (σ : Sg) {s : Nat} (hs : s < 6) (fr u hm : Nat) : sgN σ 2 ≤ sgN (recvUser σ s fr u hm) 2 := by
  unfold recvUser
  dsimp only
  split
  · split
    · exact spread_2 (uI σ 1 s _) hs _ _
    · split
      · refine Nat.le_trans ?_ (spread_2 (uI (spreadL (forgetL σ s (nsL σ s (sgI σ 6 u) (nI u))) s (-1) (1, nsL σ s (sgI σ 6 u) (nI u), 0, 0, 0, 0)) 1 s _) hs _ _)
        rw [sgN_uI]
        refine Nat.le_trans (Nat.le_of_eq ?_) (spread_2 _ hs _ _)
        rw [forget_N]
      · exact nmax_le
  · exact Nat.le_refl _
theorem recvL_2 (σ : Sg) {s : Nat} (hs : s < 6) (fr : Nat) (ln : Ln) : sgN σ 2 ≤ sgN (recvL σ s fr ln) 2 := by
  unfold recvL
  split
  · exact recvUser_2 σ hs fr _ _
  · split
    · unfold recvQuit
      split
      · refine Nat.le_trans (Nat.le_of_eq ?_) (spread_2 _ hs _ _)
        rw [forget_N]
      · exact Nat.le_refl _
    · split
      · refine Nat.le_trans (Nat.le_of_eq ?_) (spread_2 _ hs _ _)
        rw [chan_N]
      · split
        · refine Nat.le_trans (Nat.le_of_eq ?_) (spread_2 _ hs _ _)
          rw [drop_N]
        · refine Nat.le_trans (Nat.le_of_eq ?_) (spread_2 _ hs _ _)
          rw [mode_N]
theorem dlv_2 (σ : Sg) (x : Nat) {y : Nat} (hy : y < 6) : sgN σ 2 ≤ sgN (dlvL σ x y) 2 := by
  unfold dlvL
  split
  · exact Nat.le_refl _
  · rename_i ln rest eq
    exact recvL_2 (uN (uQ σ (x * 6 + y) rest) 3 (sgN σ 3 + 1)) hy x ln
theorem dlv_e {σ : Sg} {x y : Nat} (h : sgQ σ (x * 6 + y) = []) : dlvL σ x y = σ := by
  unfold dlvL
  rw [h]
/-- what delivering keeps -/
def OKd (P : Sg → Prop) : Prop := ∀ τ, P τ → WFu τ ∧ (∀ w, w < 36 → ∀ ln ∈ sgQ τ w, WFln τ ln) ∧ lim τ 70000 ∧ ∀ x y, x < 6 → y < 6 → P (dlvL τ x y)
section PCB2
variable {A : Nat → Nat} {Fo : Nat → Prop} {M0 M : Mem} {σ : Sg} {hl : Nat → Option Ln}
theorem p_deliver (h : RepC A Fo M0 M σ hl) {P : Sg → Prop} (hO : OKd P) (hP : P σ) {p q : Int32} {mc ms : Nat} (hb : 1 ≤ mc ∧ 6 ≤ ms) {xp : String → Mem → Prop} {post : Mem → Int32 → Prop}
    (h1 : ¬ (0 ≤ p ∧ p < 6) ∨ ¬ (0 ≤ q ∧ q < 6) → xp ioob M)
    (h2 : ∀ s t, s < 6 → t < 6 → p = nI s → q = nI t → ¬ bt (sgI σ 0 s) t = true ∨ sgQ σ (s * 6 + t) = [] → ∀ M' hl', RepC A Fo M0 M' σ hl' → xp ise M')
    (hp : ∀ s t, s < 6 → t < 6 → p = nI s → q = nI t → bt (sgI σ 0 s) t = true → sgQ σ (s * 6 + t) ≠ [] → bud σ (dlvL σ s t) mc ms ∧ ∀ M' hl', RepC A Fo M0 M' (tickL (dlvL σ s t)) hl' → post M' (nI (tot (dlvL σ s t)))) : w_X5_deliver mc ms M (A 0) p q xp post := by
  refine ck_S (fun s hs es => ⟨⟨by omega, by omega⟩, ck_S (fun t ht et => ⟨⟨by omega, by omega⟩, ?_⟩) (fun hr => ⟨by omega, h1 (Or.inr hr)⟩)⟩) (fun hr => ⟨by omega, h1 (Or.inl hr)⟩)
  subst es
  subst et
  obtain ⟨o1, o2, o3, o4⟩ := hO σ hP
  refine ⟨rp_0 h, _, (rp_ref h).2.1, rp_w4 h, p_haveLink h hs ht ⟨fun e => ⟨by omega, h2 s t hs ht rfl rfl (Or.inl (by rw [(b2i_z _).mp e]; decide)) _ _ h⟩, fun e => ⟨rp_0 h, ?_⟩⟩⟩
  by_cases he : sgQ σ (s * 6 + t) = []
  · refine ⟨0, 0, ⟨by omega, by omega⟩, p_deliverFirst h o1 hs ht (o2 _ (by omega)) o3 ⟨by rw [dlv_e he]; omega, by rw [dlv_e he]; omega⟩ (fun M12 hl12 h12 => ?_)⟩
    rw [dlv_e he] at h12
    refine ⟨fun _ => ⟨by omega, h2 s t hs ht rfl rfl (Or.inr he) _ _ h12⟩, fun e2 => ?_⟩
    have := b2i_nz e2
    rw [he] at this
    cases this
  · obtain ⟨⟨b1, b2⟩, hp⟩ := hp s t hs ht rfl rfl (b2i_nz e) he
    have m1 := dlv_2 σ s ht
    refine ⟨sgN (dlvL σ s t) 2 - sgN σ 2, 8 * (sgN (dlvL σ s t) 2 - sgN σ 2), ⟨by omega, by omega⟩, p_deliverFirst h o1 hs ht (o2 _ (by omega)) o3 ⟨by omega, by omega⟩ (fun M12 hl12 h12 => ⟨fun e2 => ?_, fun _ => ⟨rp_0 h12, rp_0 h12, fun M16 e16 => ?_⟩⟩)⟩
    · have := (b2i_z _).mp e2
      rw [decide_eq_false he] at this
      cases this
    · have h16 := p_tick h12 e16
      refine ⟨rp_0 h16, _, (rp_ref h16).2.1, rp_w4 h16, ?_⟩
      rw [rp_wait h16]
      exact hp _ _ h16
end PCB2
/-- a round: each queue gives its first line -/
def drI (p : Sg × Nat) (x : Nat) : Nat → Sg × Nat
  | 0 => p
  | y + 1 => (dlvL (drI p x y).1 x y, (drI p x y).2 + (if sgQ (drI p x y).1 (x * 6 + y) = [] then 0 else 1))
def drO (σ : Sg) : Nat → Sg × Nat
  | 0 => (σ, 0)
  | x + 1 => drI (drO σ x) x 6
def drL (σ : Sg) : Sg × Nat := drO σ 6
theorem drI_P {P : Sg → Prop} (hO : OKd P) {p : Sg × Nat} (hp : P p.1) {x : Nat} (hx : x < 6) : ∀ y, y ≤ 6 → P (drI p x y).1 := by
  intro y
  induction y with
  | zero => intro _; exact hp
  | succ y ih => intro hy; exact (hO _ (ih (by omega))).2.2.2 x y hx (by omega)
theorem drO_P {P : Sg → Prop} (hO : OKd P) {σ : Sg} (hp : P σ) : ∀ x, x ≤ 6 → P (drO σ x).1 := by
  intro x
  induction x with
  | zero => intro _; exact hp
  | succ x ih => intro hx; exact drI_P hO (ih (by omega)) (by omega) 6 (by omega)
theorem drI_2 (p : Sg × Nat) (x : Nat) : ∀ y, y ≤ 6 → sgN p.1 2 ≤ sgN (drI p x y).1 2 := by
  intro y
  induction y with
  | zero => intro _; exact Nat.le_refl _
  | succ y ih => intro hy; exact Nat.le_trans (ih (by omega)) (dlv_2 _ x (by omega))
theorem drI_2b (p : Sg × Nat) (x y : Nat) : ∀ z, y + z ≤ 6 → sgN (drI p x y).1 2 ≤ sgN (drI p x (y + z)).1 2 := by
  intro z
  induction z with
  | zero => intro _; exact Nat.le_refl _
  | succ z ih => intro hy; exact Nat.le_trans (ih (by omega)) (dlv_2 (drI p x (y + z)).1 x (y := y + z) (by omega))
theorem drO_2b (σ : Sg) (x : Nat) : ∀ z, sgN (drO σ x).1 2 ≤ sgN (drO σ (x + z)).1 2 := by
  intro z
  induction z with
  | zero => exact Nat.le_refl _
  | succ z ih => exact Nat.le_trans ih (drI_2 _ _ 6 (by omega))
section PCB3
variable {A : Nat → Nat} {Fo : Nat → Prop} {M0 M : Mem} {σ : Sg} {hl : Nat → Option Ln}
theorem p_round (h : RepC A Fo M0 M σ hl) {P : Sg → Prop} (hO : OKd P) (hP : P σ) {mc ms : Nat} (hbd : bud σ (drL σ).1 mc ms) {post : Mem → Int32 → Prop} (hp : ∀ M' hl', RepC A Fo M0 M' (drL σ).1 hl' → post M' (nI (drL σ).2)) : w_X5_deliverRound mc ms M (A 0) post := by
  have hbd : sgN (drO σ 6).1 2 ≤ sgN σ 2 + mc ∧ 8 * sgN (drO σ 6).1 2 ≤ 8 * sgN σ 2 + ms := hbd
  refine Lp_for 6 (fun c z => z.1 = nI (drO σ c).2 ∧ z.2.1 = nI c ∧ (∃ hl', RepC A Fo M0 z.2.2.1 (drO σ c).1 hl') ∧ z.2.2.2.1 + sgN σ 2 = sgN (drO σ c).1 2 ∧ z.2.2.2.2 = 8 * z.2.2.2.1) (fun z => z.2.1.toNatClampNeg) (fun c z hc hz => by rw [hz.2.1]; exact clN (by omega)) ⟨rfl, rfl, ⟨hl, h⟩, Nat.zero_add _, rfl⟩ ?_
  intro x z K hx hz hK x1 x2 M3 k4 n5 ez
  subst ez
  obtain ⟨z0, z1, ⟨hl3, z2⟩, z3, z4⟩ := hz
  have z0 : x1 = nI (drO σ x).2 := z0
  have z1 : x2 = nI x := z1
  have h3 : RepC A Fo M0 M3 (drO σ x).1 hl3 := z2
  have z3 : k4 + sgN σ 2 = sgN (drO σ x).1 2 := z3
  have z4 : n5 = 8 * k4 := z4
  subst z0
  subst z1
  refine ⟨fun e => ?_, fun e => ?_⟩
  · have : 6 ≤ x := (le_nI (a := 6) (by omega) (by omega)).mp e
    have e6 : x = 6 := by omega
    subst e6
    exact hp _ _ h3
  have hlt : x < 6 := Nat.not_le.mp (fun h9 => e ((le_nI (a := 6) (by omega) (by omega)).mpr h9))
  refine Lp_for 6 (fun c z => z.1 = nI (drI (drO σ x) x c).2 ∧ z.2.1 = nI c ∧ (∃ hl', RepC A Fo M0 z.2.2.1 (drI (drO σ x) x c).1 hl') ∧ z.2.2.2.1 + sgN σ 2 = sgN (drI (drO σ x) x c).1 2 ∧ z.2.2.2.2 = 8 * z.2.2.2.1) (fun z => z.2.1.toNatClampNeg) (fun c z hc hz => by rw [hz.2.1]; exact clN (by omega)) ⟨rfl, rfl, ⟨hl3, h3⟩, z3, z4⟩ ?_
  intro y z K2 hy hz hK2 x7 x8 M9 k10 n11 ez
  subst ez
  obtain ⟨z0, z1, ⟨hl9, z2⟩, z3, z4⟩ := hz
  have z0 : x7 = nI (drI (drO σ x) x y).2 := z0
  have z1 : x8 = nI y := z1
  have h9 : RepC A Fo M0 M9 (drI (drO σ x) x y).1 hl9 := z2
  have z3 : k10 + sgN σ 2 = sgN (drI (drO σ x) x y).1 2 := z3
  have z4 : n11 = 8 * k10 := z4
  subst z0
  subst z1
  refine ⟨fun e2 x13 e13 => ?_, fun e2 => ⟨rp_0 h9, ?_⟩⟩
  · have : 6 ≤ y := (le_nI (a := 6) (by omega) (by omega)).mp e2
    have e6 : y = 6 := by omega
    subst e6
    exact hK _ hlt ⟨rfl, by show x13 = _; rw [e13, nI_1], ⟨hl9, h9⟩, z3, z4⟩
  have hlt2 : y < 6 := Nat.not_le.mp (fun h9 => e2 ((le_nI (a := 6) (by omega) (by omega)).mpr h9))
  have hP9 := drI_P hO (drO_P hO hP x (by omega)) hlt y (by omega)
  obtain ⟨o1, o2, o3, o4⟩ := hO _ hP9
  have m0 := dlv_2 (drI (drO σ x) x y).1 x hlt2
  have m1 := drI_2b (drO σ x) x (y + 1) (6 - (y + 1)) (by omega)
  have m2 := drO_2b σ (x + 1) (6 - (x + 1))
  rw [show y + 1 + (6 - (y + 1)) = 6 by omega] at m1
  rw [show x + 1 + (6 - (x + 1)) = 6 by omega] at m2
  have m3 : sgN (drI (drO σ x) x 6).1 2 = sgN (drO σ (x + 1)).1 2 := rfl
  have m4 : sgN (drI (drO σ x) x (y + 1)).1 2 = sgN (dlvL (drI (drO σ x) x y).1 x y) 2 := rfl
  refine ⟨sgN (dlvL (drI (drO σ x) x y).1 x y) 2 - sgN (drI (drO σ x) x y).1 2, 8 * (sgN (dlvL (drI (drO σ x) x y).1 x y) 2 - sgN (drI (drO σ x) x y).1 2), ⟨by omega, by omega⟩, p_deliverFirst h9 o1 hlt hlt2 (o2 _ (by omega)) o3 ⟨by omega, by omega⟩ (fun M17 hl17 h17 J hJ => ?_)⟩
  have go : ∀ v, v = nI (drI (drO σ x) x (y + 1)).2 → J v := fun v ev => hJ v (fun x21 e21 => hK2 _ hlt2 ⟨ev, by show x21 = _; rw [e21, nI_1], ⟨hl17, h17⟩, by
    show k10 + _ + sgN σ 2 = sgN (dlvL (drI (drO σ x) x y).1 x y) 2
    omega, by
    show n11 + _ = 8 * (k10 + _)
    omega⟩)
  have hst : (drI (drO σ x) x (y + 1)).2 = (drI (drO σ x) x y).2 + (if sgQ (drI (drO σ x) x y).1 (x * 6 + y) = [] then 0 else 1) := rfl
  refine ⟨fun e3 => go _ ?_, fun e3 x22 e22 => go _ ?_⟩
  · have e4 := (b2i_z _).mp e3
    have e5 : sgQ (drI (drO σ x) x y).1 (x * 6 + y) = [] := by
      by_cases e6 : sgQ (drI (drO σ x) x y).1 (x * 6 + y) = []
      · exact e6
      · rw [decide_eq_false e6] at e4; cases e4
    rw [hst, if_pos e5, Nat.add_zero]
  · have e4 := b2i_nz e3
    have e5 : ¬ sgQ (drI (drO σ x) x y).1 (x * 6 + y) = [] := fun e6 => by rw [decide_eq_true e6] at e4; cases e4
    rw [hst, if_neg e5, e22, nI_1]
end PCB3
