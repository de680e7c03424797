/-! WHAT HOLDS BETWEEN CALLS -/
def QX (σ : Sg) : Prop := ∀ w ln, w < 36 → ln ∈ sgQ σ w → lnX ln
theorem lnX_u {k : Int32} (hk : k = 0 ∨ k = 1) (a : Int32) : lnX (k, a, 0, 0, 0, 0) := by
  refine ⟨fun (e : k = 3) => ?_, fun (e : k = 2 ∨ k = 4) => ?_⟩
  · rcases hk with h | h <;> (rw [h] at e; exact absurd e (by decide))
  · rcases hk with h | h <;> (rw [h] at e; exact absurd e (by decide))
theorem lx_put {σ : Sg} (h : QX σ) {w : Nat} {ln : Ln} (hl : lnX ln) : QX (putL σ w ln) := fun v l hv hm => by
  have hq : sgQ (putL σ w ln) v = if v = w then sgQ σ w ++ [ln] else sgQ σ v := rfl
  rw [hq] at hm
  split at hm
  · rename_i e
    rcases List.mem_append.mp hm with g | g
    · exact h w l (by omega) g
    · rw [List.mem_singleton] at g; rw [g]; exact hl
  · exact h v l hv hm
theorem lx_spread {σ : Sg} (h : QX σ) (s : Nat) (but : Int32) {ln : Ln} (hl : lnX ln) : QX (spreadL σ s but ln) := by
  have : ∀ o, QX (spreadN σ s but ln o) := by
    intro o
    induction o with
    | zero => exact h
    | succ o ih =>
      show QX (if _ then putL (spreadN σ s but ln o) (s * 6 + o) ln else spreadN σ s but ln o)
      split
      · exact lx_put ih hl
      · exact ih
  exact this 6
theorem nk_put {σ : Sg} (h : nolk σ) {s d : Nat} (hd : d < 6) (hl : bt (sgI σ 0 s) d = true) (ln : Ln) : nolk (putL σ (s * 6 + d) ln) := fun x y hx hy hn => by
  have hq : sgQ (putL σ (s * 6 + d) ln) (x * 6 + y) = if x * 6 + y = s * 6 + d then sgQ σ (s * 6 + d) ++ [ln] else sgQ σ (x * 6 + y) := rfl
  rw [hq]
  have hn : ¬ bt (sgI σ 0 x) y = true := hn
  by_cases e : x * 6 + y = s * 6 + d
  · exfalso
    have ex : x = s := by omega
    have ey : y = d := by omega
    rw [ex, ey] at hn
    exact hn hl
  · rw [if_neg e]
    exact h x y hx hy hn
theorem nk_spread {σ : Sg} (h : nolk σ) {s : Nat} (hs : s < 6) (but : Int32) (ln : Ln) : nolk (spreadL σ s but ln) := fun x y hx hy hn => by
  rw [spread_I] at hn
  have hq : sgQ (spreadL σ s but ln) (x * 6 + y) = _ := spq σ hs but ln 6 (Nat.le_refl _) x y hx hy
  rw [hq, if_neg (fun z => by rw [← z.1] at z; exact hn z.2.2.2)]
  exact h x y hx hy hn
/-- what hangs on links and queues alone, through a delivery -/
theorem recv_q {P : Sg → Prop} {x y : Nat} (hc : ∀ σ τ, P σ → sgI τ 0 = sgI σ 0 → sgQ τ = sgQ σ → P τ) (hsp : ∀ σ but ln, P σ → lnX ln → P (spreadL σ y but ln)) (hpt : ∀ σ u, P σ → bt (sgI σ 0 y) x = true → P (putL σ (y * 6 + x) (qln 1 u))) {τ : Sg} (h : P τ) (hW : WFu τ) (hyx : bt (sgI τ 0 y) x = true) {ln : Ln} (hwl : WFln τ ln) (hx : lnX ln) : P (recvL τ y x ln) := by
  have nw : ∀ ρ u, P ρ → P (spreadL (uI ρ 1 y (sb (sgI ρ 1 y) (nI u))) y (nI x) (qln 0 u)) := fun ρ u hρ => hsp _ _ _ (hc ρ _ hρ (funext (fun i => by rw [sgI_uI, if_neg (by omega)])) rfl) (lnX_u (Or.inl rfl) _)
  unfold recvL
  rcases hwl with ⟨u, hu, hl⟩ | ⟨d, hd4, hlc, hkk⟩
  · have hu' : u < 20 := by have := hW.1; omega
    rcases hl with hl | hl
    · subst hl
      have a1 : (qln 0 u).1 = 0 := rfl
      have a2 : (qln 0 u).2.1.toNatClampNeg = u := clN (by omega)
      rw [if_pos a1, a2]
      unfold recvUser
      split
      · split
        · exact nw τ u h
        · split
          · dsimp only
            exact nw _ u (hsp _ _ _ (hc τ _ h (fg_lk τ y _) (fg_q τ y _)) (lnX_u (Or.inr rfl) _))
          · exact hpt τ u h hyx
      · exact h
    · subst hl
      have a0 : ¬ (qln 1 u).1 = 0 := by show ¬ (1 : Int32) = 0; decide
      have a1 : (qln 1 u).1 = 1 := rfl
      rw [if_neg a0, if_pos a1]
      unfold recvQuit
      split
      · exact hsp _ _ _ (hc τ _ h (fg_lk τ y _) (fg_q τ y _)) (lnX_u (Or.inr rfl) _)
      · exact h
  · have n0 : ¬ ln.1 = 0 := by rcases hkk with e | e | e <;> (rw [e]; decide)
    have n1 : ¬ ln.1 = 1 := by rcases hkk with e | e | e <;> (rw [e]; decide)
    rw [if_neg n0, if_neg n1]
    split
    · exact hsp _ _ _ (hc τ _ h (funext (fun i => chan_I τ y ln 0 i (Or.inl rfl))) (funext (fun w => chan_Q τ y ln w))) hx
    · split
      · exact hsp _ _ _ (hc τ _ h (funext (fun i => dr_I τ _ _ 0 i (by omega))) (funext (fun w => drop_Q τ _ _ w))) hx
      · exact hsp _ _ _ (hc τ _ h (funext (fun i => mode_I τ _ _ _ _ 0 i (Or.inl rfl))) (funext (fun w => mode_Q τ _ _ _ _ w))) hx
def PI (σ : Sg) : Prop := WFu σ ∧ WFl σ ∧ wfq σ ∧ GR (sgI σ 0) ∧ nolk σ ∧ VI σ ∧ QX σ ∧ sgN σ 3 = 0
theorem pi_dlv {σ : Sg} (h : PI σ) {x y : Nat} (hx : x < 6) (hy : y < 6) : PI (dlvL σ x y) := by
  obtain ⟨p1, p2, p3, p4, p5, p6, p7, p8⟩ := id h
  cases hq2 : sgQ σ (x * 6 + y) with
  | nil => rw [dlv_e hq2]; exact h
  | cons ln rest =>
    have e : dlvL σ x y = uN (recvL (uN (uQ σ (x * 6 + y) rest) 3 (sgN σ 3 + 1)) y x ln) 3 (sgN σ 3) := by
      unfold dlvL
      rw [hq2]
    have hne : sgQ σ (x * 6 + y) ≠ [] := by rw [hq2]; exact fun z => by cases z
    have hxy : bt (sgI σ 0 x) y = true := Classical.byContradiction (fun h => hne (p5 x y hx hy h))
    have hyx := p4.2.1 x y hx hy hxy
    have hmem : ln ∈ sgQ σ (x * 6 + y) := by rw [hq2]; exact List.mem_cons_self
    have hwl : WFln (uN (uQ σ (x * 6 + y) rest) 3 (sgN σ 3 + 1)) ln := wf_congr (p3 _ ln hmem) rfl
    have hlx := p7 _ ln (by omega) hmem
    have qq : ∀ v, sgQ (uN (uQ σ (x * 6 + y) rest) 3 (sgN σ 3 + 1)) v = if v = x * 6 + y then rest else sgQ σ v := fun v => rfl
    have n1 : nolk (uN (uQ σ (x * 6 + y) rest) 3 (sgN σ 3 + 1)) := fun a b ha hb hn => by
      rw [qq]
      split
      · rename_i ew
        exfalso
        have ea : a = x := by omega
        have eb : b = y := by omega
        rw [ea, eb] at hn
        exact hn hxy
      · exact p5 a b ha hb hn
    have q1 : QX (uN (uQ σ (x * 6 + y) rest) 3 (sgN σ 3 + 1)) := fun w l hw hm => by
      rw [qq] at hm
      split at hm
      · rename_i ew
        exact p7 _ l (show x * 6 + y < 36 by omega) (by rw [hq2]; exact List.mem_cons_of_mem _ hm)
      · exact p7 w l hw hm
    have n2 := recv_q (P := nolk) (x := x) (y := y) (fun a b ha hl hq u v hu hv hn => by rw [hq]; exact ha u v hu hv (by rw [← hl]; exact hn)) (fun a b l ha _ => nk_spread ha hy b l) (fun a u ha hl => nk_put ha hx hl _) n1 p1 hyx hwl hlx
    have q2 := recv_q (P := QX) (x := x) (y := y) (fun a b ha hl hq w l hw hm => by rw [hq] at hm; exact ha w l hw hm) (fun a b l ha hl => lx_spread ha y b hl) (fun a u ha _ => lx_put ha (lnX_u (Or.inr rfl) _)) q1 p1 hyx hwl hlx
    have v1 : VI (uN (uQ σ (x * 6 + y) rest) 3 (sgN σ 3 + 1)) := vi_congr p6 (fun _ _ _ => rfl) rfl
    have v2 := vi_recv (x := x) v1 p1 hy hwl hlx
    have lk : sgI (dlvL σ x y) 0 = sgI σ 0 := funext (fun i => dlv_I σ x y 0 i (Or.inl rfl))
    refine ⟨dlv_W p1 x y, kp_l (kp_dlv σ x y) p2, dlv_wfq p1 p3 x y, by rw [lk]; exact p4, ?_, ?_, ?_, ?_⟩
    · rw [e]; exact n2
    · rw [e]; exact vi_congr v2 (fun _ _ _ => rfl) rfl
    · rw [e]; exact q2
    · rw [dlv_N σ x y 3 (by decide)]; exact p8
/-- a view has changed -/
theorem pi_view {σ ρ : Sg} (h : PI σ) (hv : VI ρ) (hq : sgQ ρ = sgQ σ) (hI : ∀ f i, f = 0 ∨ 6 ≤ f → sgI ρ f i = sgI σ f i) (h0 : sgN ρ 0 = sgN σ 0) (h3 : sgN ρ 3 = sgN σ 3) : PI ρ := by
  obtain ⟨p1, p2, p3, p4, p5, p6, p7, p8⟩ := h
  have lk : sgI ρ 0 = sgI σ 0 := funext (fun i => hI 0 i (Or.inl rfl))
  refine ⟨WFu_congr p1 h0 (fun u => hI 7 u (by omega)), WFl_congr p2 h0 (fun u => hI 6 u (by omega)), wfq_q p3 (fun w => by rw [hq]) h0, by rw [lk]; exact p4, fun x y hx hy hn => ?_, hv, fun w l hw hm => ?_, h3.trans p8⟩
  · rw [hq]
    rw [lk] at hn
    exact p5 x y hx hy hn
  · rw [hq] at hm
    exact p7 w l hw hm
theorem pi_spread {ρ : Sg} (h : PI ρ) {s : Nat} (hs : s < 6) {ln : Ln} (hl : lnX ln) (hwl : WFln ρ ln) : PI (tickL (spreadL ρ s (-1) ln)) := by
  obtain ⟨p1, p2, p3, p4, p5, p6, p7, p8⟩ := h
  refine ⟨WFu_congr p1 (spread_N ρ s _ _ 0 (by decide)) (fun u => spread_I ρ s _ _ 7 u), WFl_congr p2 (spread_N ρ s _ _ 0 (by decide)) (fun u => spread_I ρ s _ _ 6 u), wfq_tick (wfq_spread p3 hwl), ?_, nk_spread p5 hs _ _, vi_congr (vi_spread p6 s (-1) ln) (fun _ _ _ => rfl) rfl, lx_spread p7 s _ hl, (spread_N ρ s _ _ 3 (by decide)).trans p8⟩
  show GR (sgI (spreadL ρ s (-1) ln) 0)
  rw [sp_I]
  exact p4
/-! bursts -/
theorem burst_P {P : Sg → Prop} {σ : Sg} {s d : Nat} (hs : s < 6) (hp : ∀ τ ln, P τ → lnX ln → P (putL τ (s * 6 + d) ln)) (h : P σ) (hab : AB σ) : P (burstL σ s d) := by
  have h1 : ∀ u, P (bu1 σ s d u) := by
    intro u
    induction u with
    | zero => exact h
    | succ u ih =>
      show P (if _ then putL (bu1 σ s d u) (s * 6 + d) (qln 0 u) else bu1 σ s d u)
      split
      · exact hp _ _ ih (lnX_u (Or.inl rfl) _)
      · exact ih
  have h2 : ∀ c, c ≤ 4 → P (bu2 σ s d c) := by
    intro c
    induction c with
    | zero => intro _; exact h1 _
    | succ c ih =>
      intro hc
      show P (if ¬ sgI σ 5 (s * 4 + c) = 0 then putL (bu2 σ s d c) (s * 6 + d) (chLn σ s c) else bu2 σ s d c)
      split
      · rename_i hn
        refine hp _ _ (ih (by omega)) ⟨fun (e : (2 : Int32) = 3) => absurd e (by decide), fun _ => ?_⟩
        exact fun z => hn ((hab _ (by omega)).1.mpr z)
      · exact ih (by omega)
  exact h2 4 (Nat.le_refl _)
theorem burst_qs (σ : Sg) (s d : Nat) : (∀ w, w ≠ s * 6 + d → sgQ (burstL σ s d) w = sgQ σ w) ∧ qcn (sgQ (burstL σ s d) (s * 6 + d)) ≤ qcn (sgQ σ (s * 6 + d)) + (sgN σ 0 + 4) ∧ qcu (sgQ (burstL σ s d) (s * 6 + d)) ≤ qcu (sgQ σ (s * 6 + d)) := by
  have pq : ∀ (τ : Sg) (ln : Ln) w, sgQ (putL τ (s * 6 + d) ln) w = if w = s * 6 + d then sgQ τ (s * 6 + d) ++ [ln] else sgQ τ w := fun τ ln w => rfl
  have h1 : ∀ u, (∀ w, w ≠ s * 6 + d → sgQ (bu1 σ s d u) w = sgQ σ w) ∧ qcn (sgQ (bu1 σ s d u) (s * 6 + d)) ≤ qcn (sgQ σ (s * 6 + d)) + u ∧ qcu (sgQ (bu1 σ s d u) (s * 6 + d)) ≤ qcu (sgQ σ (s * 6 + d)) := by
    intro u
    induction u with
    | zero => exact ⟨fun _ _ => rfl, Nat.le_refl _, Nat.le_refl _⟩
    | succ u ih =>
      obtain ⟨i1, i2, i3⟩ := ih
      by_cases e : bt (sgI σ 1 s) u = true
      · have eb : bu1 σ s d (u + 1) = putL (bu1 σ s d u) (s * 6 + d) (qln 0 u) := if_pos e
        rw [eb]
        refine ⟨fun w hw => by rw [pq, if_neg hw]; exact i1 w hw, ?_, ?_⟩
        · rw [pq, if_pos rfl, qcn_app]
          have : (if (qln 0 u).1 = 1 then 0 else 1) ≤ 1 := by split <;> omega
          omega
        · rw [pq, if_pos rfl, qcu_app, if_neg (show ¬ (qln 0 u).1 = 1 from by show ¬ (0 : Int32) = 1; decide)]
          exact i3
      · have eb : bu1 σ s d (u + 1) = bu1 σ s d u := if_neg e
        rw [eb]
        exact ⟨i1, by omega, i3⟩
  have h2 : ∀ c, (∀ w, w ≠ s * 6 + d → sgQ (bu2 σ s d c) w = sgQ σ w) ∧ qcn (sgQ (bu2 σ s d c) (s * 6 + d)) ≤ qcn (sgQ σ (s * 6 + d)) + (sgN σ 0 + c) ∧ qcu (sgQ (bu2 σ s d c) (s * 6 + d)) ≤ qcu (sgQ σ (s * 6 + d)) := by
    intro c
    induction c with
    | zero => exact h1 (sgN σ 0)
    | succ c ih =>
      obtain ⟨i1, i2, i3⟩ := ih
      by_cases e : ¬ sgI σ 5 (s * 4 + c) = 0
      · have eb : bu2 σ s d (c + 1) = putL (bu2 σ s d c) (s * 6 + d) (chLn σ s c) := if_pos e
        rw [eb]
        refine ⟨fun w hw => by rw [pq, if_neg hw]; exact i1 w hw, ?_, ?_⟩
        · rw [pq, if_pos rfl, qcn_app]
          have : (if (chLn σ s c).1 = 1 then 0 else 1) ≤ 1 := by split <;> omega
          omega
        · rw [pq, if_pos rfl, qcu_app, if_neg (show ¬ (chLn σ s c).1 = 1 from by show ¬ (2 : Int32) = 1; decide)]
          exact i3
      · have eb : bu2 σ s d (c + 1) = bu2 σ s d c := if_neg e
        rw [eb]
        exact ⟨i1, by omega, i3⟩
  exact h2 4
/-- between calls: k calls so far -/
def Inv (σ : Sg) (k : Nat) : Prop := PI σ ∧ JJ σ k ∧ sgN σ 1 ≤ k ∧ sgN σ 2 ≤ 10700
theorem inv_Ph {σ : Sg} {k : Nat} (h : Inv σ k) : Ph σ ≤ 15 * k + 2880 := J_Ph h.1.2.2.2.1 h.1.2.2.2.2.1 h.2.1
theorem inv_tot {σ : Sg} {k : Nat} (h : Inv σ k) : tot σ ≤ 15 * k + 2880 := Nat.le_trans (tot_Ph σ) (inv_Ph h)
theorem inv_made {σ τ : Sg} {k n : Nat} (h : Inv σ k) (hk : k ≤ 512) (hm : md σ τ n) (hn : n ≤ 100) : sgN τ 2 ≤ 10700 := by
  have h1 := inv_tot h
  have h2 : sgN σ 3 = 0 := h.1.2.2.2.2.2.2.2
  exact Nat.le_trans hm.1 (nmax_lub h.2.2.2 (by omega))
theorem inv_up {σ : Sg} {k m : Nat} (h : Inv σ k) (hm : k ≤ m) : Inv σ m := ⟨h.1, JJ_mono h.2.1 hm, by have := h.2.2.1; omega, h.2.2.2⟩
/-- a call that changes a view and tells it -/
theorem inv_call {σ ρ : Sg} {k : Nat} (h : Inv σ k) (hk : k ≤ 512) (hv : VI ρ) (hq : sgQ ρ = sgQ σ) (hI : ∀ f i, f = 0 ∨ 6 ≤ f → sgI ρ f i = sgI σ f i) (hN : ∀ f, sgN ρ f = sgN σ f) {s : Nat} (hs : s < 6) {ln : Ln} (hl : lnX ln) (hwl : WFln ρ ln) : Inv (tickL (spreadL ρ s (-1) ln)) (k + 1) := by
  have hP := pi_spread (pi_view h.1 hv hq hI (hN 0) (hN 3)) hs hl hwl
  have m1 := md_tr (md_q hq (hN 2) (hN 3)) (md_spread ρ hs (-1) ln)
  have j1 := ap_tr (ap_q hq s) (ap_spread ρ hs (-1) ln)
  refine ⟨hP, ?_, ?_, ?_⟩
  · have := JJ_ap hs h.2.1 j1 (by split <;> omega) (by split <;> omega)
    exact JJ_le this (fun w _ => ⟨Nat.le_refl _, Nat.le_refl _⟩)
  · show sgN (spreadL ρ s (-1) ln) 1 + 1 ≤ k + 1
    rw [spread_N ρ s _ _ 1 (by decide), hN 1]
    have := h.2.2.1
    omega
  · exact inv_made h hk m1 (by omega)
theorem inv_quit {σ : Sg} {k : Nat} (h : Inv σ k) (hk : k ≤ 512) {u hm : Nat} (hu : u < sgN σ 0) (hh : hm < 6) : Inv (quitL σ u hm) (k + 1) := by
  have hu' : u < 20 := by have := h.1.1.1; omega
  exact inv_call h hk (vi_forget h.1.2.2.2.2.2.1 hh (by omega)) (fg_q σ hm _) (fun f i hf => forget_I σ hm _ f i hf) (forget_N σ hm _) hh (lnX_u (Or.inr rfl) _) (wf_congr (σ := σ) (Or.inl ⟨u, hu, Or.inr rfl⟩) (forget_N σ hm _ 0))
theorem inv_leave {σ : Sg} {k : Nat} (h : Inv σ k) (hk : k ≤ 512) {u hm d : Nat} (hu : u < sgN σ 0) (hh : hm < 6) (hd : d < 4) : Inv (leaveL σ u hm d) (k + 1) := by
  have hu' : u < 20 := by have := h.1.1.1; omega
  exact inv_call h hk (vi_drop h.1.2.2.2.2.2.1 _ (by omega)) (funext (fun w => drop_Q σ _ _ w)) (fun f i hf => drop_I σ _ _ f i hf) (drop_N σ _ _) hh ⟨fun _ => ⟨u, hu', rfl⟩, fun (e : (3 : Int32) = 2 ∨ (3 : Int32) = 4) => absurd e (by decide)⟩ (wf_congr (σ := σ) (Or.inr ⟨d, hd, rfl, Or.inr (Or.inl rfl)⟩) (drop_N σ _ _ 0))
theorem mset_I (σ : Sg) (i : Nat) (m b : Int32) (f j : Nat) (hf : f = 0 ∨ 6 ≤ f) : sgI (mset σ i m b) f j = sgI σ f j := by
  show sgI (uI (uI σ 3 i m) 4 i b) f j = _
  rw [sgI_uI, if_neg (by omega), sgI_uI, if_neg (by omega)]
theorem inv_mod {σ : Sg} {k : Nat} (h : Inv σ k) (hk : k ≤ 512) {u hm d : Nat} (hh : hm < 6) (hd : d < 4) (hb : bt (sgI σ 5 (hm * 4 + d)) u = true) (m b : Int32) : Inv (modL σ hm d m b) (k + 1) := by
  have hn : sgI σ 2 (hm * 4 + d) ≠ -1 := fun z => by
    rw [(h.1.2.2.2.2.2.1.1 _ (by omega)).1.mpr z, b_0] at hb
    cases hb
  exact inv_call h hk (vi_mset h.1.2.2.2.2.2.1 hh hd hb m b) rfl (fun f i hf => mset_I σ _ m b f i hf) (fun _ => rfl) hh ⟨fun (e : (4 : Int32) = 3) => absurd e (by decide), fun _ => hn⟩ (Or.inr ⟨d, hd, rfl, Or.inr (Or.inr rfl)⟩)
theorem inv_join {σ : Sg} {k : Nat} (h : Inv σ k) (hk : k ≤ 512) {u hm d : Nat} (hu : u < sgN σ 0) (hh : hm < 6) (hd : d < 4) (hg : goneL σ u hm = false) : Inv (joinL σ u hm d) (k + 1) := by
  have hu' : u < 20 := by have := h.1.1.1; omega
  have hck : sgN σ 1 < 2 ^ 31 := by have := h.2.2.1; omega
  have hkn : bt (sgI σ 1 hm) u = true := by
    unfold goneL at hg
    cases hb : bt (sgI σ 1 hm) u with
    | true => rfl
    | false => rw [hb] at hg; cases hg
  have hv := h.1.2.2.2.2.2.1
  exact inv_call h hk (vi_enter hv hh hd (by omega) hck hkn) (funext (fun w => enter_Q σ _ _ _ w)) (fun f i hf => en_o σ u hm d f i (by omega)) (enter_N σ _ _ _) hh ⟨fun (e : (2 : Int32) = 3) => absurd e (by decide), fun _ => en_ag hv hh hd hck u⟩ (wf_congr (σ := σ) (Or.inr ⟨d, hd, rfl, Or.inl rfl⟩) (enter_N σ _ _ _ 0))
theorem inv_sign {σ : Sg} {k : Nat} (h : Inv σ k) (hk : k ≤ 512) {s : Nat} (hs : s < 6) {l : Int32} (hl : ∃ j, j < 26 ∧ l = nI j) (hu : sgN σ 0 < 20) (hn : nsL σ s l (-1) = -1) : Inv (signL σ s l) (k + 1) := by
  obtain ⟨⟨p1, p2, p3, p4, p5, p6, p7, p8⟩, j, ck, mk⟩ := id h
  have qb : sgQ (learnL (bookL σ s l) s (sgN σ 0)) = sgQ σ := rfl
  have lb : sgI (learnL (bookL σ s l) s (sgN σ 0)) 0 = sgI σ 0 := funext (fun i => by
    show sgI (uI (bookL σ s l) 1 s _) 0 i = _
    rw [sgI_uI, if_neg (by omega)]
    exact book_o σ s l 0 i (by omega))
  have n2 : sgN (learnL (bookL σ s l) s (sgN σ 0)) 2 = sgN σ 2 := rfl
  have n3 : sgN (learnL (bookL σ s l) s (sgN σ 0)) 3 = sgN σ 3 := rfl
  have n1 : sgN (learnL (bookL σ s l) s (sgN σ 0)) 1 = sgN σ 1 := rfl
  have m1 := md_tr (md_q qb n2 n3) (md_spread (learnL (bookL σ s l) s (sgN σ 0)) hs (-1) (qln 0 (sgN σ 0)))
  have j1 := ap_tr (ap_q qb s) (ap_spread (learnL (bookL σ s l) s (sgN σ 0)) hs (-1) (qln 0 (sgN σ 0)))
  have nb : nolk (learnL (bookL σ s l) s (sgN σ 0)) := fun x y hx hy hn => by
    rw [qb]
    rw [lb] at hn
    exact p5 x y hx hy hn
  refine ⟨⟨sign_W p1 hu hs l, sign_l p2 s hl, wfq_sign p3 s l, ?_, nk_spread nb hs _ _, vi_sign p6 hu hn, lx_spread (σ := learnL (bookL σ s l) s (sgN σ 0)) p7 s _ (lnX_u (Or.inl rfl) _), ?_⟩, ?_, ?_, ?_⟩
  · show GR (sgI (spreadL (learnL (bookL σ s l) s (sgN σ 0)) s (-1) (qln 0 (sgN σ 0))) 0)
    rw [sp_I, lb]
    exact p4
  · exact (spread_N _ s _ _ 3 (by decide)).trans p8
  · have := JJ_ap hs j j1 (by split <;> omega) (by split <;> omega)
    exact JJ_le this (fun w _ => ⟨Nat.le_refl _, Nat.le_refl _⟩)
  · show sgN (spreadL (learnL (bookL σ s l) s (sgN σ 0)) s (-1) (qln 0 (sgN σ 0))) 1 + 1 ≤ k + 1
    rw [spread_N _ s _ _ 1 (by decide), n1]
    omega
  · exact inv_made h hk m1 (by omega)
theorem inv_dlv {σ : Sg} {k : Nat} (h : Inv σ k) (hk : k ≤ 512) {x y : Nat} (hx : x < 6) (hy : y < 6) : Inv (tickL (dlvL σ x y)) (k + 1) := by
  have hJ := dlv_J h.1.1 h.1.2.2.1 h.2.1 hx hy
  have hP := pi_dlv h.1 hx hy
  obtain ⟨p1, p2, p3, p4, p5, p6, p7, p8⟩ := hP
  refine ⟨⟨p1, p2, p3, p4, p5, vi_congr p6 (fun _ _ _ => rfl) rfl, p7, p8⟩, hJ.1, ?_, inv_made h hk hJ.2 (by omega)⟩
  show sgN (dlvL σ x y) 1 + 1 ≤ k + 1
  rw [dlv_N σ x y 1 (by decide)]
  have := h.2.2.1
  omega
theorem inv_link {σ : Sg} {k : Nat} (h : Inv σ k) (hk : k ≤ 512) {s t : Nat} (hs : s < 6) (ht : t < 6) (hn : ¬ bt (treeL σ s) t = true) : Inv (linkL σ s t) (k + 1) := by
  obtain ⟨⟨p1, p2, p3, p4, p5, p6, p7, p8⟩, ⟨c, c1, c2⟩, ck, mk⟩ := id h
  have hst : s ≠ t := fun e => hn (by rw [← e, tree_clo]; exact clo_self _ hs)
  have clk := clk_link σ hs ht
  have u1 := burst_up (connectL σ s t) hs ht
  have u2 := burst_up (burstL (connectL σ s t) s t) ht hs
  have hG1 := gr_connect p4 hs ht hn
  have lk1 : sgI (burstL (connectL σ s t) s t) 0 = sgI (connectL σ s t) 0 := funext (fun i => u1.1 0 i)
  have lk2 : sgI (burstL (burstL (connectL σ s t) s t) t s) 0 = sgI (connectL σ s t) 0 := (funext (fun i => u2.1 0 i)).trans lk1
  have a1 : bt (sgI (connectL σ s t) 0 s) t = true := (connect_lk σ hs ht hst s t).mpr (Or.inr (Or.inl ⟨rfl, rfl⟩))
  have a2 : bt (sgI (connectL σ s t) 0 t) s = true := (connect_lk σ hs ht hst t s).mpr (Or.inr (Or.inr ⟨rfl, rfl⟩))
  have no1 : ¬ bt (sgI σ 0 s) t = true := fun e => hn (by rw [tree_clo]; exact tr_step p4.1 hs (clo_self _ hs) e)
  have no2 : ¬ bt (sgI σ 0 t) s = true := fun e => no1 (p4.2.1 t s ht hs e)
  have v1 : VI (connectL σ s t) := vi_congr p6 (fun f i hf => connect_ne σ s t f i hf) rfl
  have v2 : VI (burstL (connectL σ s t) s t) := vi_congr v1 (fun f i _ => u1.1 f i) (u1.2.1 0 (by decide))
  have v3 : VI (burstL (burstL (connectL σ s t) s t) t s) := vi_congr v2 (fun f i _ => u2.1 f i) (u2.2.1 0 (by decide))
  have nk0 : nolk (connectL σ s t) := fun x y hx hy hn2 => p5 x y hx hy (fun e => hn2 ((connect_lk σ hs ht hst x y).mpr (Or.inl e)))
  have nk1 := burst_P (P := fun τ => nolk τ ∧ sgI τ 0 = sgI (connectL σ s t) 0) (s := s) (d := t) hs (fun τ ln hτ _ => ⟨nk_put hτ.1 ht (by rw [hτ.2]; exact a1) ln, hτ.2⟩) ⟨nk0, rfl⟩ v1.1
  have nk2 := burst_P (P := fun τ => nolk τ ∧ sgI τ 0 = sgI (connectL σ s t) 0) (s := t) (d := s) ht (fun τ ln hτ _ => ⟨nk_put hτ.1 hs (by rw [hτ.2]; exact a2) ln, hτ.2⟩) nk1 v2.1
  have x1 := burst_P (P := QX) (σ := connectL σ s t) (s := s) (d := t) hs (fun τ ln hτ hl => lx_put hτ hl) p7 v1.1
  have x2 := burst_P (P := QX) (s := t) (d := s) ht (fun τ ln hτ hl => lx_put hτ hl) x1 v2.1
  obtain ⟨b1, b2, b3⟩ := burst_qs (connectL σ s t) s t
  obtain ⟨d1, d2, d3⟩ := burst_qs (burstL (connectL σ s t) s t) t s
  have q0 : sgQ (connectL σ s t) = sgQ σ := rfl
  have n0 : sgN (connectL σ s t) 0 = sgN σ 0 := rfl
  have n00 : sgN (burstL (connectL σ s t) s t) 0 = sgN σ 0 := (u1.2.1 0 (by decide)).trans n0
  have hu20 := p1.1
  refine ⟨⟨kp_W (kp_link σ hs ht) p1, kp_l (kp_link σ hs ht) p2, wfq_link p3 hs ht, ?_, nk2.1, vi_congr v3 (fun _ _ _ => rfl) rfl, x2, clk.2.trans p8⟩, ⟨c, by omega, fun x y hx hy => ?_⟩, ?_, ?_⟩
  · show GR (sgI (burstL (burstL (connectL σ s t) s t) t s) 0)
    rw [lk2]
    exact hG1
  · show qcn (sgQ (burstL (burstL (connectL σ s t) s t) t s) (x * 6 + y)) ≤ c x + 24 ∧ qcu (sgQ (burstL (burstL (connectL σ s t) s t) t s) (x * 6 + y)) ≤ c x
    by_cases e2 : x * 6 + y = t * 6 + s
    · rw [e2]
      rw [b1 (t * 6 + s) (by omega), q0, p5 t s ht hs no2] at d2 d3
      have z1 : qcn ([] : List Ln) = 0 := rfl
      have z2 : qcu ([] : List Ln) = 0 := rfl
      omega
    · rw [d1 _ e2]
      by_cases e1 : x * 6 + y = s * 6 + t
      · rw [e1]
        rw [q0, p5 s t hs ht no1] at b2 b3
        have z1 : qcn ([] : List Ln) = 0 := rfl
        have z2 : qcu ([] : List Ln) = 0 := rfl
        omega
      · rw [b1 _ e1, q0]
        exact c2 x y hx hy
  · rw [clk.1]
    omega
  · have m0 : md σ (connectL σ s t) 0 := md_q rfl rfl rfl
    have m1 := md_tr (md_tr m0 (md_up u1)) (md_up u2)
    exact inv_made h hk m1 (by omega)
theorem vi_fuN {σ : Sg} (h : VI σ) (hu20 : sgN σ 0 ≤ 20) {s : Nat} (hs : s < 6) : ∀ u, u ≤ sgN σ 0 → VI (fuN σ s u) := by
  intro u
  induction u with
  | zero => intro _; exact h
  | succ u ih =>
    intro hu
    show VI (if _ then forgetL (fuN σ s u) s (nI u) else fuN σ s u)
    split
    · exact vi_forget (ih (by omega)) hs (by omega)
    · exact ih (by omega)
theorem vi_fsN {σ : Sg} (h : VI σ) (hu20 : sgN σ 0 ≤ 20) : ∀ s, s ≤ 6 → VI (fsN σ s) := by
  intro s
  induction s with
  | zero => intro _; exact h
  | succ s ih =>
    intro hs
    have hN : sgN (fsN σ s) 0 = sgN σ 0 := fs_N σ 0 s
    exact vi_fuN (ih (by omega)) (by rw [hN]; exact hu20) (by omega) (sgN (fsN σ s) 0) (Nat.le_refl _)
theorem inv_split {σ : Sg} {k : Nat} (h : Inv σ k) {s t : Nat} (hs : s < 6) (ht : t < 6) (hl : bt (sgI σ 0 s) t = true) : Inv (splitL σ s t) (k + 1) := by
  obtain ⟨⟨p1, p2, p3, p4, p5, p6, p7, p8⟩, j, ck, mk⟩ := id h
  have hst : s ≠ t := fun e => by rw [← e, p4.2.2.1 s hs] at hl; cases hl
  have qc : ∀ w, sgQ (cutL σ s t) w = if w = t * 6 + s then [] else if w = s * 6 + t then [] else sgQ σ w := fun w => rfl
  have qf : ∀ w, sgQ (splitL σ s t) w = sgQ (cutL σ s t) w := fun w => fs_Q (cutL σ s t) w 6
  have lk : sgI (splitL σ s t) 0 = sgI (unlinkL σ s t) 0 := funext (fun i => fs_I (cutL σ s t) 0 i (Or.inl rfl) 6)
  have v1 : VI (cutL σ s t) := vi_congr p6 (fun f i hf => cut_7 σ s t i f hf) rfl
  have v2 := vi_fsN v1 (show sgN (cutL σ s t) 0 ≤ 20 from p1.1) 6 (Nat.le_refl _)
  refine ⟨⟨kp_W (kp_split σ s t) p1, kp_l (kp_split σ s t) p2, wfq_split p3 s t, by rw [lk]; exact gr_unlink p4 hs ht hl, fun x y hx hy hn => ?_, vi_congr v2 (fun _ _ _ => rfl) rfl, fun w l hw hm => ?_, (fs_N (cutL σ s t) 3 6).trans p8⟩, JJ_mono (JJ_le j (fun w hw => ?_)) (Nat.le_succ _), ?_, ?_⟩
  · rw [qf, qc]
    rw [lk] at hn
    split
    · rfl
    · rename_i e1
      split
      · rfl
      · rename_i e2
        refine p5 x y hx hy (fun e => hn ((unlink_lk σ hs ht hst x y).mpr ⟨e, fun z => e2 (by rw [z.1, z.2]), fun z => e1 (by rw [z.1, z.2])⟩))
  · rw [qf, qc] at hm
    split at hm
    · cases hm
    · split at hm
      · cases hm
      · exact p7 w l hw hm
  · rw [qf, qc]
    split
    · exact ⟨Nat.zero_le _, Nat.zero_le _⟩
    · split
      · exact ⟨Nat.zero_le _, Nat.zero_le _⟩
      · exact ⟨Nat.le_refl _, Nat.le_refl _⟩
  · show sgN (fsN (cutL σ s t) 6) 1 + 1 ≤ k + 1
    rw [fs_N]
    have : sgN (cutL σ s t) 1 = sgN σ 1 := rfl
    omega
  · show sgN (fsN (cutL σ s t) 6) 2 ≤ 10700
    rw [fs_N]
    exact mk
/-! all is delivered -/
def PD (k : Nat) (σ : Sg) : Prop := PI σ ∧ Ph σ ≤ 10600 ∧ sgN σ 2 ≤ 10700 ∧ sgN σ 1 ≤ k
theorem pd_dlv {k : Nat} {σ : Sg} (h : PD k σ) {x y : Nat} (hx : x < 6) (hy : y < 6) : PD k (dlvL σ x y) := by
  obtain ⟨p, q, r, s⟩ := id h
  by_cases he : sgQ σ (x * 6 + y) = []
  · rw [dlv_e he]; exact h
  · have hf := dlv_falls p.2.2.2.1 p.1 p.2.2.1 p.2.2.2.2.1 hx hy he
    have ht := tot_Ph σ
    have hj : JJ σ (smN (fun x => smN (fun y => qcn (sgQ σ (x * 6 + y)) + qcu (sgQ σ (x * 6 + y))) 6) 6) := by
      refine ⟨fun x => smN (fun y => qcn (sgQ σ (x * 6 + y)) + qcu (sgQ σ (x * 6 + y))) 6, Nat.le_refl _, fun a b ha hb => ?_⟩
      have : ∀ (f : Nat → Nat) n i, i < n → f i ≤ smN f n := by
        intro f n
        induction n with
        | zero => intro i hi; omega
        | succ n ih =>
          intro i hi
          show f i ≤ smN f n + f n
          by_cases e : i = n
          · rw [e]; omega
          · have := ih i (by omega); omega
      have h1 := this (fun y => qcn (sgQ σ (a * 6 + y)) + qcu (sgQ σ (a * 6 + y))) 6 b hb
      dsimp only at h1 ⊢
      omega
    have hm := (dlv_J p.1 p.2.2.1 hj hx hy).2
    refine ⟨pi_dlv p hx hy, by omega, ?_, by rw [dlv_N σ x y 1 (by decide)]; exact s⟩
    have h3 : sgN σ 3 = 0 := p.2.2.2.2.2.2.2
    exact Nat.le_trans hm.1 (nmax_lub r (by omega))
theorem pd_OK (k : Nat) : OKd (PD k) := fun τ h => by
  obtain ⟨p, q, r, s⟩ := id h
  refine ⟨p.1, fun w _ ln hm => p.2.2.1 w ln hm, ⟨by omega, ?_⟩, fun x y hx hy => pd_dlv h hx hy⟩
  have ht := tot_Ph τ
  have h3 : sgN τ 3 = 0 := p.2.2.2.2.2.2.2
  omega
theorem pd_falls (k : Nat) : falls (PD k) Ph := fun τ x y h hx hy hne => dlv_falls h.1.2.2.2.1 h.1.1 h.1.2.2.1 h.1.2.2.2.2.1 hx hy hne
theorem inv_PD {σ : Sg} {k : Nat} (h : Inv σ k) (hk : k ≤ 512) : PD k σ := ⟨h.1, by have := inv_Ph h; omega, h.2.2.2, h.2.2.1⟩
theorem inv_all {σ : Sg} {k R : Nat} (h : Inv σ k) (hk : k ≤ 512) (h0 : tot (daN σ R).1 = 0) : Inv (tickL (daN σ R).1) (k + 1) := by
  obtain ⟨p, q, r, s⟩ := da_P (pd_OK k) (inv_PD h hk) R
  obtain ⟨p1, p2, p3, p4, p5, p6, p7, p8⟩ := p
  refine ⟨⟨p1, p2, p3, p4, p5, vi_congr p6 (fun _ _ _ => rfl) rfl, p7, p8⟩, ⟨fun _ => 0, by rw [smN_const]; omega, fun x y hx hy => ?_⟩, ?_, r⟩
  · have : sgQ (tickL (daN σ R).1) (x * 6 + y) = [] := tot_q h0 (x * 6 + y) (by omega)
    rw [this]
    exact ⟨Nat.zero_le _, Nat.zero_le _⟩
  · show sgN (daN σ R).1 1 + 1 ≤ k + 1
    omega
theorem inv_0 : Inv σ0 0 := by
  have hI : ∀ f i, sgI σ0 f i = if f = 2 ∨ f = 3 ∨ f = 4 then -1 else 0 := fun f i => rfl
  refine ⟨⟨zero_W, zero_l, zero_q, gr_zero, fun x y _ _ _ => rfl, ⟨fun i _ => ⟨⟨fun _ => rfl, fun _ => rfl⟩, fun _ => ⟨rfl, rfl⟩⟩, fun s _ u v hu => absurd hu (Nat.not_lt_zero u), fun s u _ hb => ?_, fun s d u _ _ hb => ?_⟩, fun w l _ hm => (by cases hm), rfl⟩, ⟨fun _ => 0, (by rw [smN_const]; omega), fun x y _ _ => ⟨Nat.zero_le _, Nat.zero_le _⟩⟩, Nat.le_refl _, Nat.zero_le _⟩
  · rw [hI, if_neg (by omega), b_0] at hb; cases hb
  · rw [hI, if_neg (by omega), b_0] at hb; cases hb
