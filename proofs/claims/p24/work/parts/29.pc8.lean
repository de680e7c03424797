def chanSet (σ : Sg) (s : Nat) (ln : Ln) : Sg :=
  if ln.2.2.1 &&& sgI σ 1 s = 0 then σ else takeInL σ (s * 4 + ln.2.1.toNatClampNeg) ln.2.2.2.1 ln.2.2.2.2.1 ln.2.2.2.2.2 (ln.2.2.1 &&& sgI σ 1 s)
def modeSet (σ : Sg) (i : Nat) (ag md bn : Int32) : Sg := if ¬ sgI σ 5 i = 0 ∧ sgI σ 2 i = ag then uI (uI σ 3 i md) 4 i bn else σ
def recvChan (σ : Sg) (s fr : Nat) (ln : Ln) : Sg := spreadL (chanSet σ s ln) s (nI fr) ln
def recvLeave (σ : Sg) (s fr : Nat) (ln : Ln) : Sg := spreadL (dropL σ (s * 4 + ln.2.1.toNatClampNeg) ln.2.2.1) s (nI fr) ln
def recvModes (σ : Sg) (s fr : Nat) (ln : Ln) : Sg := spreadL (modeSet σ (s * 4 + ln.2.1.toNatClampNeg) ln.2.2.2.1 ln.2.2.2.2.1 ln.2.2.2.2.2) s (nI fr) ln
def recvL (σ : Sg) (s fr : Nat) (ln : Ln) : Sg :=
  if ln.1 = 0 then recvUser σ s fr ln.2.1.toNatClampNeg (sgI σ 7 ln.2.1.toNatClampNeg).toNatClampNeg
  else if ln.1 = 1 then recvQuit σ s fr ln.2.1.toNatClampNeg
  else if ln.1 = 2 then recvChan σ s fr ln
  else if ln.1 = 3 then recvLeave σ s fr ln
  else recvModes σ s fr ln
def WFln (σ : Sg) (ln : Ln) : Prop := (∃ u, u < sgN σ 0 ∧ (ln = qln 0 u ∨ ln = qln 1 u)) ∨ (∃ c, c < 4 ∧ ln.2.1 = nI c ∧ (ln.1 = 2 ∨ ln.1 = 3 ∨ ln.1 = 4))
def dlvL (σ : Sg) (x y : Nat) : Sg := match sgQ σ (x * 6 + y) with
  | [] => σ
  | ln :: rest => uN (recvL (uN (uQ σ (x * 6 + y) rest) 3 (sgN σ 3 + 1)) y x ln) 3 (sgN σ 3)
theorem drop_N (σ : Sg) (i : Nat) (u : Int32) (f : Nat) : sgN (dropL σ i u) f = sgN σ f := by
  unfold dropL; dsimp only; split <;> rfl
theorem drop_Q (σ : Sg) (i : Nat) (u : Int32) (w : Nat) : sgQ (dropL σ i u) w = sgQ σ w := by
  unfold dropL; dsimp only; split <;> rfl
theorem chan_N (σ : Sg) (s : Nat) (ln : Ln) (f : Nat) : sgN (chanSet σ s ln) f = sgN σ f := by
  unfold chanSet; split <;> rfl
theorem chan_Q (σ : Sg) (s : Nat) (ln : Ln) (w : Nat) : sgQ (chanSet σ s ln) w = sgQ σ w := by
  unfold chanSet; split <;> rfl
theorem mode_N (σ : Sg) (i : Nat) (a m b : Int32) (f : Nat) : sgN (modeSet σ i a m b) f = sgN σ f := by
  unfold modeSet; split <;> rfl
theorem mode_Q (σ : Sg) (i : Nat) (a m b : Int32) (w : Nat) : sgQ (modeSet σ i a m b) w = sgQ σ w := by
  unfold modeSet; split <;> rfl
theorem recvUser_3 (σ : Sg) (s fr u hm f : Nat) (hf : f ≠ 2) : sgN (recvUser σ s fr u hm) f = sgN σ f := by
  unfold recvUser
  dsimp only
  split
  · split
    · rw [spread_N _ _ _ _ _ hf, sgN_uI]
    · split
      · rw [spread_N _ _ _ _ _ hf, sgN_uI, spread_N _ _ _ _ _ hf, forget_N]
      · show sgN (uN _ 2 _) f = _
        rw [sgN_uN, if_neg hf]; rfl
  · rfl
theorem recvL_3 (σ : Sg) (s fr : Nat) (ln : Ln) (f : Nat) (hf : f ≠ 2) : sgN (recvL σ s fr ln) f = sgN σ f := by
  unfold recvL
  split
  · exact recvUser_3 σ s fr _ _ f hf
  · split
    · unfold recvQuit
      split
      · rw [spread_N _ _ _ _ _ hf, forget_N]
      · rfl
    · split
      · unfold recvChan; rw [spread_N _ _ _ _ _ hf, chan_N]
      · split
        · unfold recvLeave; rw [spread_N _ _ _ _ _ hf, drop_N]
        · unfold recvModes; rw [spread_N _ _ _ _ _ hf, mode_N]
section PC8
variable {A : Nat → Nat} {Fo : Nat → Prop} {M0 M : Mem} {σ : Sg} {hl : Nat → Option Ln}
theorem lim_congr {σ τ : Sg} {n : Nat} (h : lim σ n) (h2 : sgN τ 2 = sgN σ 2) (h3 : sgN τ 3 = sgN σ 3) (hq : ∀ w, sgQ τ w = sgQ σ w) : lim τ n := by
  unfold lim
  rw [h2, h3, tot_congr hq]
  exact h
theorem p_recvChan (h : RepC A Fo M0 M σ hl) {s fr c b : Nat} (hs : s < 6) {ln : Ln} (hc : c < 4) (hlc : ln.2.1 = nI c) (hk : ln.1 = 2) (hb : hl b = some ln) (hn : lim σ 80000) {mc ms : Nat} (hbd : bud σ (recvChan σ s fr ln) mc ms) {post : Mem → Prop} (hp : ∀ M', RepC A Fo M0 M' (recvChan σ s fr ln) hl → post M') : w_X5_receiveChannel mc ms M (A 0) b (nI fr) (nI s) post := by
  have l1 := rp_line h hb
  have g6 : gI M b 6 = ln.2.2.1 := l1.2.2.2.2.2.1 hk
  have g2 : gI M b 2 = nI c := by
    have := l1.2.2.2.1 (by rw [hk]; decide)
    rw [this, hlc]
  have r1 : gI M (A (10 + s)) 0 = sgI σ 1 s := rp_rd h 1 s hs
  have hcl : ln.2.1.toNatClampNeg = c := by rw [hlc]; exact clN (by omega)
  refine ⟨rp_0 h, _, (rp_ref h).1, (rp_vw h hs).1, _, (rp_vw h hs).2, l1.1, rp_v h hs, fun x7 e7 J hJ => ?_⟩
  rw [g6, r1] at e7
  subst e7
  have fin : ∀ M8, RepC A Fo M0 M8 (chanSet σ s ln) hl → J M8 := by
    intro M8 h8
    have hN := chan_N σ s ln
    have hl8 := lim_congr hn (hN 2) (hN 3) (chan_Q σ s ln)
    refine hJ _ ⟨rp_0 h8, _, (rp_ref h8).2.1, rp_w4 h8, mc, ms, ⟨by omega, by omega⟩, p_spread h8 hs (nI fr) hb ⟨by have := hl8.1; omega, by have := hl8.2; omega⟩ ?_ ?_ (fun M20 h20 => hp _ h20)⟩
    · rw [hN]; exact hbd.1
    · rw [hN]; exact hbd.2
  refine ⟨fun e => fin _ ?_, fun e => ⟨rp_v h hs, _, (rp_ch h hs).1, l1.1, ?_⟩⟩
  · unfold chanSet
    rw [if_pos e]; exact h
  · rw [g2]
    refine ⟨in_nI (rp_ch h hs).2 hc (by omega), _, rp_chi h hs hc, rp_i h (by omega), p_takeIn h (by omega) hb hk _ (fun M22 h22 => fin _ ?_)⟩
    unfold chanSet
    rw [if_neg e, hcl]
    exact h22
theorem p_recvModes (h : RepC A Fo M0 M σ hl) {s fr c b : Nat} (hs : s < 6) {ln : Ln} (hc : c < 4) (hlc : ln.2.1 = nI c) (hk : ln.1 = 4) (hb : hl b = some ln) (hn : lim σ 80000) {mc ms : Nat} (hbd : bud σ (recvModes σ s fr ln) mc ms) {post : Mem → Prop} (hp : ∀ M', RepC A Fo M0 M' (recvModes σ s fr ln) hl → post M') : w_X5_receiveModes mc ms M (A 0) b (nI fr) (nI s) post := by
  have l1 := rp_line h hb
  have g2 : gI M b 2 = nI c := by
    have := l1.2.2.2.1 (by rw [hk]; decide)
    rw [this, hlc]
  obtain ⟨g3, g4, g5⟩ := l1.2.2.2.2.2.2 (Or.inr hk)
  have hcl : ln.2.1.toNatClampNeg = c := by rw [hlc]; exact clN (by omega)
  have hi : s * 4 + c < 24 := by omega
  have a2 : gI M (A (30 + (s * 4 + c))) 0 = sgI σ 2 (s * 4 + c) := rp_rd h 2 _ hi
  have a5 : gI M (A (30 + (s * 4 + c))) 3 = sgI σ 5 (s * 4 + c) := rp_rd h 5 _ hi
  refine ⟨rp_0 h, _, (rp_ref h).1, (rp_vw h hs).1, _, (rp_vw h hs).2, rp_v h hs, _, (rp_ch h hs).1, l1.1, ?_⟩
  rw [g2]
  refine ⟨in_nI (rp_ch h hs).2 hc (by omega), _, rp_chi h hs hc, rp_i h hi, p_isThere (rp_i h hi) (fun J hJ => ?_)⟩
  have fin : ∀ M8, RepC A Fo M0 M8 (modeSet σ (s * 4 + c) ln.2.2.2.1 ln.2.2.2.2.1 ln.2.2.2.2.2) hl → J M8 := by
    intro M8 h8
    have hN := mode_N σ (s * 4 + c) ln.2.2.2.1 ln.2.2.2.2.1 ln.2.2.2.2.2
    have hl8 := lim_congr hn (hN 2) (hN 3) (mode_Q σ (s * 4 + c) ln.2.2.2.1 ln.2.2.2.2.1 ln.2.2.2.2.2)
    unfold recvModes at hbd hp
    rw [hcl] at hbd hp
    refine hJ _ ⟨rp_0 h8, _, (rp_ref h8).2.1, rp_w4 h8, mc, ms, ⟨by omega, by omega⟩, p_spread h8 hs (nI fr) hb ⟨by have := hl8.1; omega, by have := hl8.2; omega⟩ ?_ ?_ (fun M20 h20 => hp _ h20)⟩
    · rw [hN]; exact hbd.1
    · rw [hN]; exact hbd.2
  refine ⟨fun e => fin _ ?_, fun e => ⟨rp_i h hi, l1.1, fun e2 => ?_, fun e2 => fin _ ?_⟩⟩
  · rw [b2i_z, a5] at e
    unfold modeSet
    rw [if_neg (fun hh => by rw [decide_eq_false hh.1] at e; cases e)]; exact h
  · rw [b2i_z, a5] at e
    have e5 : ¬ sgI σ 5 (s * 4 + c) = 0 := fun z => e (by rw [decide_eq_true z]; rfl)
    rw [a2, g3] at e2
    refine ⟨l1.1, rp_i h hi, fun M24 e24 => ?_⟩
    have h24 : RepC A Fo M0 M24 (uI σ 3 (s * 4 + c) ln.2.2.2.2.1) hl := by
      rw [e24, g4]; exact rp_own h 3 _ hi _
    have l2 := rp_line h24 hb
    obtain ⟨k3, k4, k5⟩ := l2.2.2.2.2.2.2 (Or.inr hk)
    refine ⟨l2.1, rp_i h24 hi, fun M27 e27 => fin _ ?_⟩
    unfold modeSet
    rw [if_pos ⟨e5, e2⟩, e27, k5]
    exact rp_own h24 4 _ hi _
  · rw [a2, g3] at e2
    unfold modeSet
    rw [if_neg (fun hh => e2 hh.2)]; exact h
theorem p_deliverFirst (h : RepC A Fo M0 M σ hl) (hW : WFu σ) {x y : Nat} (hx : x < 6) (hy : y < 6) (hq : ∀ ln ∈ sgQ σ (x * 6 + y), WFln σ ln) (hn : lim σ 70000) {mc ms : Nat} (hbd : bud σ (dlvL σ x y) mc ms) {post : Mem → Int32 → Prop} (hp : ∀ M' hl', RepC A Fo M0 M' (dlvL σ x y) hl' → post M' (b2i (!decide (sgQ σ (x * 6 + y) = [])))) : w_X5_deliverFirst mc ms M (A 0) (nI x) (nI y) post := by
  refine ⟨rp_0 h, _, (rp_ref h).2.1, rp_w4 h, p_take h hx hy (fun e0 => ⟨fun _ => ⟨Or.inl rfl, ?_⟩, fun b6 e6 => by cases e6⟩) (fun M4 b ln rest eq hbn h4 => ⟨fun z => (by cases z), fun b6 e6 => ?_⟩)⟩
  · have := hp M hl (by unfold dlvL; rw [e0]; exact h)
    rw [e0] at this
    exact this
  · cases e6
    have hb6 : b ≠ A 6 := fun e => h.2.2.2 (e ▸ hbn)
    have l1 := rp_line h4 (fs_s _ _ _)
    have hd : dlvL σ x y = uN (recvL (uN (uQ σ (x * 6 + y) rest) 3 (sgN σ 3 + 1)) y x ln) 3 (sgN σ 3) := by
      unfold dlvL; rw [eq]
    have hw : x * 6 + y < 36 := by omega
    have htot := tot_uQ σ hw rest
    rw [eq, List.length_cons] at htot
    rw [hd] at hbd hp
    have hne : (b2i (!decide (sgQ σ (x * 6 + y) = []))) = 1 := by rw [eq]; rfl
    rw [hne] at hp
    generalize hτ : uN (uQ σ (x * 6 + y) rest) 3 (sgN σ 3 + 1) = τ at h4 hbd hp
    have hτ0 : sgN τ 0 = sgN σ 0 := by rw [← hτ]; rfl
    have hτ2 : sgN τ 2 = sgN σ 2 := by rw [← hτ]; rfl
    have hτ3 : sgN τ 3 = sgN σ 3 + 1 := by rw [← hτ]; rfl
    have hτI : ∀ f i, sgI τ f i = sgI σ f i := fun f i => by rw [← hτ]; rfl
    have hτt : tot τ + 1 = tot σ := by rw [← hτ, tot_uN]; omega
    have hn4 : lim τ 80000 := by
      unfold lim at hn ⊢
      rw [hτ2, hτ3]
      omega
    have hW4 : WFu τ := by
      unfold WFu
      rw [hτ0]
      exact ⟨hW.1, fun u hu => by rw [hτI]; exact hW.2 u hu⟩
    have hbd4 : bud τ (recvL τ y x ln) mc ms := by
      unfold bud at hbd ⊢
      rw [hτ2]
      exact hbd
    refine ⟨l1.1, fun J hJ => ?_⟩
    have fin : ∀ M8 hl8 k9 n10, (∀ a, a ≠ A 6 → hl8 a = fset hl b (some ln) a) → RepC A Fo M0 M8 (recvL τ y x ln) hl8 → J M8 k9 n10 := by
      intro M8 hl8 k9 n10 hag h8
      refine hJ _ _ _ ⟨rp_0 h8, _, (rp_ref h8).2.1, rp_w4 h8, p_keep h8 (ln := ln) (by rw [hag b hb6, fs_s]) hb6 (k := sgN σ 3) (by rw [recvL_3 τ y x ln 3 (by decide), hτ3]) (fun M15 h15 => ⟨Or.inr rfl, hp _ _ h15⟩)⟩
    have hwl : WFln τ ln := by
      have h9 := hq ln (by rw [eq]; exact List.mem_cons_self)
      unfold WFln at h9 ⊢
      rw [hτ0]
      exact h9
    have g0 : gI M4 b 0 = ln.1 := l1.2.1
    rw [g0]
    rcases hwl with ⟨u, hu, hul⟩ | ⟨c, hc, hlc, hk⟩
    · have hu20 : u < 20 := by have := hW4.1; omega
      obtain ⟨hm, hh, he⟩ := hW4.2 u hu
      have hcl : (nI u).toNatClampNeg = u := clN (by omega)
      rcases hul with hul | hul
      · have hr : recvL τ y x ln = recvUser τ y x u hm := by
          unfold recvL
          rw [hul]
          show (if (0 : Int32) = 0 then _ else _) = _
          rw [if_pos rfl]
          show recvUser τ y x (nI u).toNatClampNeg (sgI τ 7 (nI u).toNatClampNeg).toNatClampNeg = _
          rw [hcl, he, clN (by omega)]
        rw [hr] at fin hbd4
        have e1 : ln.1 = 0 := by rw [hul]; rfl
        rw [e1]
        refine ⟨fun _ => ⟨rp_0 h4, mc, ms, ⟨by omega, by omega⟩, p_recvUser h4 hW4 hy hx hu hh he (by rw [fs_s, hul]) hb6 hn4 hbd4 (fun M20 hl20 hag h20 => fin _ _ _ _ hag h20)⟩, fun z => absurd z (by decide), fun z => absurd z (by decide), fun z => absurd z (by decide), fun z => absurd rfl z.1⟩
      · have hr : recvL τ y x ln = recvQuit τ y x u := by
          unfold recvL
          rw [hul]
          show (if (1 : Int32) = 0 then _ else if (1 : Int32) = 1 then _ else _) = _
          rw [if_neg (by decide), if_pos rfl]
          show recvQuit τ y x (nI u).toNatClampNeg = _
          rw [hcl]
        rw [hr] at fin hbd4
        have e1 : ln.1 = 1 := by rw [hul]; rfl
        rw [e1]
        refine ⟨fun z => absurd z (by decide), fun _ => ⟨rp_0 h4, mc, ms, ⟨by omega, by omega⟩, p_recvQuit h4 hy hu20 (by rw [fs_s, hul]) hn4 hbd4 (fun M20 h20 => fin _ _ _ _ (fun _ _ => rfl) h20)⟩, fun z => absurd z (by decide), fun z => absurd z (by decide), fun z => absurd rfl z.2.1⟩
    · have hcl : ln.2.1.toNatClampNeg = c := by rw [hlc]; exact clN (by omega)
      rcases hk with hk | hk | hk
      · have hr : recvL τ y x ln = recvChan τ y x ln := by
          unfold recvL
          rw [hk, if_neg (by decide), if_neg (by decide), if_pos rfl]
        rw [hr] at fin hbd4
        rw [hk]
        refine ⟨fun z => absurd z (by decide), fun z => absurd z (by decide), fun _ => ⟨rp_0 h4, mc, ms, ⟨by omega, by omega⟩, p_recvChan h4 hy hc hlc hk (fs_s _ _ _) hn4 hbd4 (fun M20 h20 => fin _ _ _ _ (fun _ _ => rfl) h20)⟩, fun z => absurd z (by decide), fun z => absurd rfl z.2.2.1⟩
      · have hr : recvL τ y x ln = recvLeave τ y x ln := by
          unfold recvL
          rw [hk, if_neg (by decide), if_neg (by decide), if_neg (by decide), if_pos rfl]
        rw [hr] at fin hbd4
        have g2 : gI M4 b 2 = nI c := by
          have := l1.2.2.2.1 (by rw [hk]; decide)
          rw [this, hlc]
        have g1 : gI M4 b 1 = ln.2.2.1 := l1.2.2.2.2.1 hk
        rw [hk]
        refine ⟨fun z => absurd z (by decide), fun z => absurd z (by decide), fun z => absurd z (by decide), fun _ => ⟨rp_0 h4, _, (rp_ref h4).1, (rp_vw h4 hy).1, _, (rp_vw h4 hy).2, rp_v h4 hy, _, (rp_ch h4 hy).1, l1.1, ?_⟩, fun z => absurd rfl z.2.2.2⟩
        rw [g2, g1]
        refine ⟨in_nI (rp_ch h4 hy).2 hc (by omega), _, rp_chi h4 hy hc, l1.1, rp_i h4 (by omega), p_drop h4 (by omega) _ (fun M40 h40 => ?_)⟩
        have hN := drop_N τ (y * 4 + c) ln.2.2.1
        have hl8 := lim_congr hn4 (hN 2) (hN 3) (drop_Q τ (y * 4 + c) ln.2.2.1)
        unfold recvLeave at fin hbd4
        rw [hcl] at fin hbd4
        refine ⟨rp_0 h40, _, (rp_ref h40).2.1, rp_w4 h40, mc, ms, ⟨by omega, by omega⟩, p_spread h40 hy (nI x) (fs_s _ _ _) ⟨by have := hl8.1; omega, by have := hl8.2; omega⟩ ?_ ?_ (fun M46 h46 => fin _ _ _ _ (fun _ _ => rfl) h46)⟩
        · rw [hN]; exact hbd4.1
        · rw [hN]; exact hbd4.2
      · have hr : recvL τ y x ln = recvModes τ y x ln := by
          unfold recvL
          rw [hk, if_neg (by decide), if_neg (by decide), if_neg (by decide), if_neg (by decide)]
        rw [hr] at fin hbd4
        rw [hk]
        exact ⟨fun z => absurd z (by decide), fun z => absurd z (by decide), fun z => absurd z (by decide), fun z => absurd z (by decide), fun _ => ⟨rp_0 h4, mc, ms, ⟨by omega, by omega⟩, p_recvModes h4 hy hc hlc hk (fs_s _ _ _) hn4 hbd4 (fun M50 h50 => fin _ _ _ _ (fun _ _ => rfl) h50)⟩⟩
end PC8
