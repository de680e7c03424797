def WFu (σ : Sg) : Prop := sgN σ 0 ≤ 20 ∧ ∀ u, u < sgN σ 0 → ∃ h, h < 6 ∧ sgI σ 7 u = nI h
def bud (σ σ' : Sg) (mc ms : Nat) : Prop := sgN σ' 2 ≤ sgN σ 2 + mc ∧ 8 * sgN σ' 2 ≤ 8 * sgN σ 2 + ms
def lim (σ : Sg) (n : Nat) : Prop := sgN σ 2 < n ∧ tot σ + sgN σ 3 < n
def mtc (σ : Sg) (s : Nat) (l : Int32) (be : Int32) (u : Nat) : Prop := ¬ nI u = be ∧ sgI σ 6 u = l ∧ bt (sgI σ 1 s) u = true
/-- the first user below n that a server knows, with that letter, but one -/
def nsN (σ : Sg) (s : Nat) (l : Int32) (be : Int32) : Nat → Int32
  | 0 => -1
  | n + 1 => if nsN σ s l be n = -1 then (if ¬ nI n = be ∧ sgI σ 6 n = l ∧ bt (sgI σ 1 s) n = true then nI n else -1) else nsN σ s l be n
def nsL (σ : Sg) (s : Nat) (l : Int32) (be : Int32) : Int32 := nsN σ s l be (sgN σ 0)
theorem nI_m1 {n : Nat} (h : n < 2 ^ 31) : nI n ≠ -1 := fun e => by
  have h1 := nI_toInt h
  rw [e] at h1
  have : (-1 : Int32).toInt = -1 := by decide
  omega
theorem nsN_hit (σ : Sg) (s : Nat) (l be : Int32) {u : Nat} (h1 : nsN σ s l be u = -1) (h2 : mtc σ s l be u) : nsN σ s l be (u + 1) = nI u := by
  show (if _ then (if _ then _ else _) else _) = _
  rw [if_pos h1]
  exact if_pos h2
theorem nsN_miss (σ : Sg) (s : Nat) (l be : Int32) {u : Nat} (h1 : nsN σ s l be u = -1) (h2 : ¬ mtc σ s l be u) : nsN σ s l be (u + 1) = -1 := by
  show (if _ then (if _ then _ else _) else _) = _
  rw [if_pos h1]
  exact if_neg h2
theorem nsN_stay (σ : Sg) (s : Nat) (l be : Int32) {u : Nat} (hu : nsN σ s l be u ≠ -1) : ∀ n, u ≤ n → nsN σ s l be n = nsN σ s l be u := by
  intro n
  induction n with
  | zero => intro h; rw [Nat.le_zero.mp h]
  | succ n ih =>
    intro h
    by_cases e : u = n + 1
    · rw [e]
    · have h1 := ih (by omega)
      show (if _ then (if _ then _ else _) else _) = _
      rw [if_neg (by rw [h1]; exact hu), h1]
theorem nsN_spec (σ : Sg) (s : Nat) (l be : Int32) : ∀ n, n < 1000 → (nsN σ s l be n = -1 ∧ ∀ u, u < n → ¬ mtc σ s l be u) ∨ (∃ u, u < n ∧ nsN σ s l be n = nI u ∧ mtc σ s l be u) := by
  intro n
  induction n with
  | zero => intro _; exact Or.inl ⟨rfl, fun u hu => by omega⟩
  | succ n ih =>
    intro hn
    rcases ih (by omega) with ⟨h1, h2⟩ | ⟨u, h1, h2, h3⟩
    · by_cases hm : mtc σ s l be n
      · exact Or.inr ⟨n, by omega, nsN_hit σ s l be h1 hm, hm⟩
      · refine Or.inl ⟨nsN_miss σ s l be h1 hm, fun u hu => ?_⟩
        by_cases e : u = n
        · rw [e]; exact hm
        · exact h2 u (by omega)
    · have h4 : nsN σ s l be n ≠ -1 := by rw [h2]; exact nI_m1 (by omega)
      exact Or.inr ⟨u, by omega, by rw [nsN_stay σ s l be h4 (n + 1) (by omega)]; exact h2, h3⟩
section PC7
variable {A : Nat → Nat} {Fo : Nat → Prop} {M0 M : Mem} {σ : Sg} {hl : Nat → Option Ln}
theorem rp_ref (h : RepC A Fo M0 M σ hl) : gR M (A 0) 0 = some (A 1) ∧ gR M (A 0) 1 = some (A 2) ∧ gR M (A 0) 2 = some (A 3) ∧ gR M (A 0) 3 = some (A 4) ∧ gR M (A 0) 4 = some (A 5) ∧ gR M (A 0) 5 = some (A 6) := h.1.2.2.1.1
theorem rp_u3 (h : RepC A Fo M0 M σ hl) {u : Nat} (hu : u < 20) : inA M (A 3) 10 (nI u) ∧ gI M (A 3) (nI u).toNatClampNeg = sgI σ 7 u := ⟨in_nI (h.1.1 3 (by unfold vid; omega)) hu (by omega), by rw [clN (by omega)]; exact rp_rd h 7 u hu⟩
theorem rp_u4 (h : RepC A Fo M0 M σ hl) {u : Nat} (hu : u < 20) : inA M (A 4) 10 (nI u) ∧ gI M (A 4) (nI u).toNatClampNeg = sgI σ 6 u := ⟨in_nI (h.1.1 4 (by unfold vid; omega)) hu (by omega), by rw [clN (by omega)]; exact rp_rd h 6 u hu⟩
theorem rp_u5 (h : RepC A Fo M0 M σ hl) {u : Nat} (hu : u < 20) : inA M (A 5) 10 (nI u) ∧ gI M (A 5) (nI u).toNatClampNeg = sgI σ 8 u := ⟨in_nI (h.1.1 5 (by unfold vid; omega)) hu (by omega), by rw [clN (by omega)]; exact rp_rd h 8 u hu⟩
theorem rp_vw (h : RepC A Fo M0 M σ hl) {s : Nat} (hs : s < 6) : inA M (A 1) 12 (nI s) ∧ gR M (A 1) (nI s).toNatClampNeg = some (A (10 + s)) := ⟨in_nI (h.1.1 1 (by unfold vid; omega)) hs (by omega), by rw [clN (by omega)]; exact h.1.2.2.1.2.1 s hs⟩
theorem p_namesake (h : RepC A Fo M0 M σ hl) (hu20 : sgN σ 0 ≤ 20) {s : Nat} (hs : s < 6) (l be : Int32) {post : Int32 → Prop} (hp : post (nsL σ s l be)) : w_X5_namesake M (A 0) (A (10 + s)) l be post := by
  refine Lp_for (sgN σ 0) (fun c z => z = nI c ∧ nsN σ s l be c = -1) (fun z => z.toNatClampNeg) (fun c z hc hz => by rw [hz.1]; exact clN (by omega)) ⟨rfl, rfl⟩ ?_
  intro c z K hc hz hK x1 ez
  obtain ⟨z1, z2⟩ := hz
  subst ez
  subst z1
  refine ⟨rp_0 h, fun e => ?_, fun e J hJ => ?_⟩
  · rw [rp_users h] at e
    have : sgN σ 0 ≤ c := (le_nI (by omega) (by omega)).mp e
    have e2 : c = sgN σ 0 := by omega
    rw [e2] at z2
    unfold nsL at hp
    rw [z2] at hp
    exact hp
  · rw [rp_users h] at e
    have hlt : c < sgN σ 0 := Nat.not_le.mp (fun h9 => e ((le_nI (by omega) (by omega)).mpr h9))
    have hc20 : c < 20 := by omega
    have miss : ¬ mtc σ s l be c → J := fun hm => hJ (fun x5 e5 => hK _ hlt ⟨by rw [e5, nI_1], nsN_miss σ s l be z2 hm⟩)
    refine ⟨fun e1 => miss (fun hm => hm.1 e1), fun e1 => ⟨rp_0 h, _, (rp_ref h).2.2.2.1, (rp_u4 h hc20).1, fun e2 => ?_, fun e2 => ?_⟩⟩
    · rw [(rp_u4 h hc20).2] at e2
      refine ⟨rp_v h hs, p_knows h hs (by omega) ⟨fun e3 => ?_, fun e3 => ?_⟩⟩
      · rw [b2i_z] at e3
        exact miss (fun hm => by rw [hm.2.2] at e3; cases e3)
      · have hb : bt (sgI σ 1 s) c = true := by
          cases hb : bt (sgI σ 1 s) c with
          | true => rfl
          | false => exact absurd (by rw [b2i_z]; exact hb) e3
        have h5 := nsN_hit σ s l be z2 ⟨e1, e2, hb⟩
        have h6 := nsN_stay σ s l be (u := c + 1) (by rw [h5]; exact nI_m1 (by omega)) (sgN σ 0) hlt
        unfold nsL at hp
        rw [h6, h5] at hp
        exact hp
    · rw [(rp_u4 h hc20).2] at e2
      exact miss (fun hm => e2 hm.2.1)
/-- is a user gone -/
def goneL (σ : Sg) (u h : Nat) : Bool := !bt (sgI σ 1 h) u
theorem p_isGone (h : RepC A Fo M0 M σ hl) {u hm : Nat} (hu : u < 20) (hh : hm < 6) (he : sgI σ 7 u = nI hm) {post : Int32 → Prop} (hp : post (b2i (goneL σ u hm))) : w_X5_isGone M (A 0) (nI u) post := by
  have r := rp_ref h
  refine ⟨rp_0 h, _, r.1, rp_0 h, _, r.2.2.1, (rp_u3 h hu).1, ?_⟩
  rw [(rp_u3 h hu).2, he]
  refine ⟨(rp_vw h hh).1, _, (rp_vw h hh).2, rp_v h hh, p_knows h hh (by omega) (fun J hJ => ⟨fun e => hJ 1 ⟨Or.inr rfl, ?_⟩, fun e => hJ 0 ⟨Or.inl rfl, ?_⟩⟩)⟩
  · rw [b2i_z] at e
    unfold goneL at hp
    rw [e] at hp
    exact hp
  · have hb : bt (sgI σ 1 hm) u = true := by
      cases hb : bt (sgI σ 1 hm) u with
      | true => rfl
      | false => exact absurd (by rw [b2i_z]; exact hb) e
    unfold goneL at hp
    rw [hb] at hp
    exact hp
/-! what a server does with a line -/
def qln (k : Int32) (u : Nat) : Ln := (k, nI u, 0, 0, 0, 0)
def recvQuit (σ : Sg) (s fr u : Nat) : Sg := if bt (sgI σ 1 s) u = true then spreadL (forgetL σ s (nI u)) s (nI fr) (qln 1 u) else σ
def recvUser (σ : Sg) (s fr u hm : Nat) : Sg :=
  if bt (treeL σ s) hm = true then
    if nsL σ s (sgI σ 6 u) (nI u) = -1 then spreadL (uI σ 1 s (sb (sgI σ 1 s) (nI u))) s (nI fr) (qln 0 u)
    else if sgI σ 8 u ≤ sgI σ 8 (nsL σ s (sgI σ 6 u) (nI u)).toNatClampNeg then
      let τ := spreadL (forgetL σ s (nsL σ s (sgI σ 6 u) (nI u))) s (-1) (1, nsL σ s (sgI σ 6 u) (nI u), 0, 0, 0, 0)
      spreadL (uI τ 1 s (sb (sgI τ 1 s) (nI u))) s (nI fr) (qln 0 u)
    else putL σ (s * 6 + fr) (qln 1 u)
  else σ
theorem forgetN_N (σ : Sg) (s : Nat) (u : Int32) : ∀ c f, sgN (forgetN σ s u c) f = sgN σ f := by
  intro c
  induction c with
  | zero => intro f; rfl
  | succ c ih =>
    intro f
    show sgN (dropL _ _ _) f = _
    unfold dropL
    dsimp only
    split
    · exact ih f
    · exact ih f
theorem forgetN_Q (σ : Sg) (s : Nat) (u : Int32) : ∀ c w, sgQ (forgetN σ s u c) w = sgQ σ w := by
  intro c
  induction c with
  | zero => intro f; rfl
  | succ c ih =>
    intro f
    show sgQ (dropL _ _ _) f = _
    unfold dropL
    dsimp only
    split
    · exact ih f
    · exact ih f
theorem tot_congr {σ τ : Sg} (h : ∀ w, sgQ σ w = sgQ τ w) : tot σ = tot τ := by
  unfold tot
  rw [show sgQ σ = sgQ τ from funext h]
theorem forget_N (σ : Sg) (s : Nat) (u : Int32) (f : Nat) : sgN (forgetL σ s u) f = sgN σ f := forgetN_N σ s u 4 f
theorem forget_tot (σ : Sg) (s : Nat) (u : Int32) : tot (forgetL σ s u) = tot σ := tot_congr (forgetN_Q σ s u 4)
theorem spread_N (σ : Sg) (s : Nat) (but : Int32) (ln : Ln) (f : Nat) (hf : f ≠ 2) : sgN (spreadL σ s but ln) f = sgN σ f := spreadN_N σ s but ln 6 f hf
theorem spread_I (σ : Sg) (s : Nat) (but : Int32) (ln : Ln) (f i : Nat) : sgI (spreadL σ s but ln) f i = sgI σ f i := spreadN_I σ s but ln 6 f i
theorem spread_2 (σ : Sg) {s : Nat} (hs : s < 6) (but : Int32) (ln : Ln) : sgN σ 2 ≤ sgN (spreadL σ s but ln) 2 := spreadN_2le σ hs but ln (o := 0) 6 (by omega)
theorem spread_lim (σ : Sg) {s n : Nat} (hs : s < 6) (but : Int32) (ln : Ln) (h : lim σ n) : lim (spreadL σ s but ln) (n + 6) := by
  have h1 := spreadN_2up σ hs but ln 6 (by omega)
  have h2 := spreadN_tot σ hs but ln 6 (by omega)
  have h3 := spread_N σ s but ln 3 (by decide)
  unfold lim at h ⊢
  refine ⟨Nat.lt_of_le_of_lt h1 (Nat.max_lt.mpr ⟨by omega, by omega⟩), ?_⟩
  rw [h3]
  show tot (spreadN σ s but ln 6) + _ < _
  omega
theorem lim_mono {σ : Sg} {n m : Nat} (h : lim σ n) (hm : n ≤ m) : lim σ m := ⟨by have := h.1; omega, by have := h.2; omega⟩
theorem p_recvQuit (h : RepC A Fo M0 M σ hl) {s fr u b : Nat} (hs : s < 6) (hu : u < 20) (hb : hl b = some (qln 1 u)) (hn : lim σ 80000) {mc ms : Nat} (hbd : bud σ (recvQuit σ s fr u) mc ms) {post : Mem → Prop} (hp : ∀ M', RepC A Fo M0 M' (recvQuit σ s fr u) hl → post M') : w_X5_receiveQuit mc ms M (A 0) b (nI fr) (nI s) post := by
  have l1 := rp_line h hb
  have g1 : gI M b 1 = nI u := l1.2.2.1 (Or.inr rfl)
  refine ⟨rp_0 h, _, (rp_ref h).1, (rp_vw h hs).1, _, (rp_vw h hs).2, l1.1, rp_v h hs, ?_⟩
  rw [g1]
  refine p_knows h hs (by omega) (fun J hJ => ⟨fun e => hJ _ _ _ (hp _ ?_), fun e => ⟨l1.1, rp_v h hs, p_forget h hs (nI u) (fun M14 h14 => ?_)⟩⟩)
  · rw [b2i_z] at e
    unfold recvQuit
    rw [if_neg (by rw [e]; decide)]
    exact h
  · have hk : bt (sgI σ 1 s) u = true := by
      cases hb : bt (sgI σ 1 s) u with
      | true => rfl
      | false => exact absurd (by rw [b2i_z]; exact hb) e
    have hr : recvQuit σ s fr u = spreadL (forgetL σ s (nI u)) s (nI fr) (qln 1 u) := if_pos hk
    rw [hr] at hbd hp
    have hm := spread_2 (forgetL σ s (nI u)) hs (nI fr) (qln 1 u)
    have hN := forget_N σ s (nI u)
    have hlf : lim (forgetL σ s (nI u)) 80000 := by unfold lim; rw [hN, hN, forget_tot]; exact hn
    rw [hN] at hm
    refine ⟨rp_0 h14, _, (rp_ref h14).2.1, rp_w4 h14, mc, ms, ⟨by omega, by omega⟩, p_spread h14 hs (nI fr) hb ⟨by have := hlf.1; omega, by have := hlf.2; omega⟩ (by rw [hN]; exact hbd.1) (by rw [hN]; exact hbd.2) (fun M20 h20 => hJ _ _ _ (hp _ h20))⟩
theorem nsL_user (σ : Sg) (hu : sgN σ 0 ≤ 20) (s : Nat) (l be : Int32) (hne : nsL σ s l be ≠ -1) : ∃ v, v < sgN σ 0 ∧ nsL σ s l be = nI v ∧ mtc σ s l be v := by
  rcases nsN_spec σ s l be (sgN σ 0) (by omega) with ⟨h1, -⟩ | ⟨v, h1, h2, h3⟩
  · exact absurd h1 hne
  · exact ⟨v, h1, h2, h3⟩
theorem p_recvUser (h : RepC A Fo M0 M σ hl) (hW : WFu σ) {s fr u hm b : Nat} (hs : s < 6) (hfr : fr < 6) (hu : u < sgN σ 0) (hh : hm < 6) (he : sgI σ 7 u = nI hm) (hb : hl b = some (qln 0 u)) (hb6 : b ≠ A 6) (hn : lim σ 80000) {mc ms : Nat} (hbd : bud σ (recvUser σ s fr u hm) mc ms) {post : Mem → Prop} (hp : ∀ M' hl', (∀ a, a ≠ A 6 → hl' a = hl a) → RepC A Fo M0 M' (recvUser σ s fr u hm) hl' → post M') : w_X5_receiveUser mc ms M (A 0) b (nI fr) (nI s) post := by
  have hu20 : u < 20 := by have := hW.1; omega
  have l1 := rp_line h hb
  have g1 : gI M b 1 = nI u := l1.2.2.1 (Or.inl rfl)
  refine ⟨l1.1, fun x2 e2 => ?_⟩
  rw [g1] at e2
  subst e2
  refine ⟨rp_0 h, _, (rp_ref h).2.1, rp_w4 h, p_tree h ⟨rp_0 h, _, (rp_ref h).2.2.1, (rp_u3 h hu20).1, ?_⟩⟩
  rw [(rp_u3 h hu20).2, he]
  refine p_has M _ (by omega) ⟨fun e => hp _ hl (fun _ _ => rfl) ?_, fun e => ?_⟩
  · rw [b2i_z] at e
    unfold recvUser
    rw [if_neg (by rw [e]; decide)]
    exact h
  have htr : bt (treeL σ s) hm = true := by
    cases hb : bt (treeL σ s) hm with
    | true => rfl
    | false => exact absurd (by rw [b2i_z]; exact hb) e
  unfold recvUser at hbd hp
  rw [if_pos htr] at hbd hp
  refine ⟨rp_0 h, _, (rp_ref h).1, (rp_vw h hs).1, _, (rp_vw h hs).2, rp_0 h, _, (rp_ref h).2.2.2.1, (rp_u4 h hu20).1, rp_0 h, ?_⟩
  rw [(rp_u4 h hu20).2]
  refine p_namesake h hW.1 hs _ _ ?_
  generalize hrv : nsL σ s (sgI σ 6 u) (nI u) = rv at hbd hp
  intro J20 hJ20
  -- the last part: the user is known, and its line goes on
  have fin : ∀ (τ : Sg) (M2 : Mem) (hl2 : Nat → Option Ln) (c0 s0 : Nat), (∀ a, a ≠ A 6 → hl2 a = hl a) → RepC A Fo M0 M2 τ hl2 → lim τ 80010 → c0 + sgN σ 2 = sgN τ 2 → s0 = 8 * c0 → bud σ (spreadL (uI τ 1 s (sb (sgI τ 1 s) (nI u))) s (nI fr) (qln 0 u)) mc ms → (∀ M' hl', (∀ a, a ≠ A 6 → hl' a = hl a) → RepC A Fo M0 M' (spreadL (uI τ 1 s (sb (sgI τ 1 s) (nI u))) s (nI fr) (qln 0 u)) hl' → post M') → (gT M2 (A (10 + s)) = some (3, 0) ∧ w_X3_learn M2 (A (10 + s)) (nI u) (fun M26 => gT M26 (A 0) = some (5, 0) ∧ ∃ b28, gR M26 (A 0) 1 = some b28 ∧ gT M26 b28 = some (4, 0) ∧ ∃ c30 s31, (c0 + c30 ≤ mc ∧ s0 + s31 ≤ ms) ∧ w_X4_spread c30 s31 M26 b28 (nI s) (nI fr) b (fun M32 => post M32))) := by
    intro τ M2 hl2 c0 s0 hag h2 hlm hc0 hs0 hbd2 hp2
    refine ⟨rp_v h2 hs, p_learn h2 hs (nI u) (fun M26 h26 => ⟨rp_0 h26, _, (rp_ref h26).2.1, rp_w4 h26, ?_⟩)⟩
    have hmon := spread_2 (uI τ 1 s (sb (sgI τ 1 s) (nI u))) hs (nI fr) (qln 0 u)
    rw [sgN_uI] at hmon
    obtain ⟨q1, q2⟩ := hbd2
    refine ⟨mc - c0, ms - s0, ⟨by omega, by omega⟩, p_spread h26 hs (nI fr) (by rw [hag b hb6]; exact hb) ⟨by have := hlm.1; rw [sgN_uI]; omega, by have := hlm.2; rw [tot_uI, sgN_uI]; omega⟩ (by rw [sgN_uI]; omega) (by rw [sgN_uI]; omega) (fun M32 h32 => hp2 _ hl2 hag h32)⟩
  refine ⟨fun e1 => ?_, fun e1 => ?_⟩
  · subst e1
    rw [if_pos rfl] at hbd hp
    exact hJ20 (fun J24 hJ24 => ⟨fun _ => hJ24 _ _ _ (fin σ M hl 0 0 (fun _ _ => rfl) h (lim_mono hn (by omega)) (by omega) rfl hbd hp), fun e => absurd rfl e⟩)
  · rw [if_neg e1] at hbd hp
    obtain ⟨v, hv, hve, hvm⟩ := nsL_user σ hW.1 s (sgI σ 6 u) (nI u) (by rw [hrv]; exact e1)
    rw [hrv] at hve
    subst hve
    have hv20 : v < 20 := by have := hW.1; omega
    have hcl : (nI v).toNatClampNeg = v := clN (by omega)
    rw [hcl] at hbd hp
    refine ⟨rp_0 h, _, (rp_ref h).2.2.2.2.1, (rp_u5 h hv20).1, rp_0 h, _, (rp_ref h).2.2.2.2.1, (rp_u5 h hu20).1, ?_⟩
    rw [(rp_u5 h hv20).2, (rp_u5 h hu20).2]
    refine ⟨fun e3 => ?_, fun e3 => ?_⟩
    · rw [if_pos e3] at hbd hp
      dsimp only at hbd hp
      refine hJ20 (fun J24 hJ24 => ⟨fun e => absurd e e1, fun _ => ⟨rp_v h hs, p_forget h hs (nI v) (fun M34 h34 => ?_)⟩⟩)
      have h9 : RepC A Fo M0 M34 (forgetL σ s (nI v)) hl := h34
      refine ⟨rp_0 h9, _, (rp_ref h9).2.1, rp_0 h9, _, (rp_ref h9).2.2.2.2.2, h9.1.1 6 (by unfold vid; omega), p_ofUser h9 (Or.inr rfl) (nI v) (fun M40 h40 => ⟨_, rfl, rp_w4 h40, ?_⟩)⟩
      have hN := forget_N σ s (nI v)
      have hlf : lim (forgetL σ s (nI v)) 80000 := by unfold lim; rw [hN, hN, forget_tot]; exact hn
      have hm1 := spread_2 (forgetL σ s (nI v)) hs (-1) (1, nI v, 0, 0, 0, 0)
      rw [hN] at hm1
      have hlS := spread_lim (forgetL σ s (nI v)) hs (-1) (1, nI v, 0, 0, 0, 0) hlf
      have hm2 := spread_2 (uI (spreadL (forgetL σ s (nI v)) s (-1) (1, nI v, 0, 0, 0, 0)) 1 s (sb (sgI (spreadL (forgetL σ s (nI v)) s (-1) (1, nI v, 0, 0, 0, 0)) 1 s) (nI u))) hs (nI fr) (qln 0 u)
      rw [sgN_uI] at hm2
      have hbd' := hbd
      obtain ⟨q1, q2⟩ := hbd'
      refine ⟨sgN (spreadL (forgetL σ s (nI v)) s (-1) (1, nI v, 0, 0, 0, 0)) 2 - sgN σ 2, 8 * (sgN (spreadL (forgetL σ s (nI v)) s (-1) (1, nI v, 0, 0, 0, 0)) 2 - sgN σ 2), ⟨?_, ?_⟩, p_spread h40 hs (-1) (fs_s _ _ _) ⟨by have := hlf.1; omega, by have := hlf.2; omega⟩ (by rw [hN]; omega) (by rw [hN]; omega) (fun M46 h46 => hJ24 _ _ _ (fin _ M46 _ _ _ (fun a ha => fs_n _ _ ha) h46 (lim_mono hlS (by omega)) ?_ ?_ hbd hp))⟩
      · omega
      · omega
      · omega
      · omega
    · rw [if_neg e3] at hbd hp
      refine ⟨rp_0 h, _, (rp_ref h).2.1, rp_0 h, _, (rp_ref h).2.2.2.2.2, h.1.1 6 (by unfold vid; omega), p_ofUser h (Or.inr rfl) (nI u) (fun M59 h59 => ⟨_, rfl, rp_w4 h59, mc, ms, ⟨by omega, by omega⟩, p_put h59 hs hfr (fs_s _ _ _) ⟨by have := hn.1; omega, by have := hn.2; omega⟩ hbd.1 hbd.2 (fun M65 h65 => hp _ _ (fun a ha => fs_n _ _ ha) h65)⟩)⟩
end PC7
