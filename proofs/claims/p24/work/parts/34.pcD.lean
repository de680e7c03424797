def letL (p : Int32) : Int32 := if 97 ≤ p ∧ p ≤ 122 then p - 97 else if 65 ≤ p ∧ p ≤ 90 then p - 65 else -1
theorem p_letter (M : Mem) (p : Int32) {post : Int32 → Prop} (hp : post (letL p)) : w_X5_letterIn M p post := by
  intro J hJ
  have low : ¬ (97 ≤ p ∧ p ≤ 122) → J := fun hn => hJ (fun J2 hJ2 => by
    have no : ¬ (65 ≤ p ∧ p ≤ 90) → J2 := fun hm => hJ2 (by unfold letL at hp; rw [if_neg hn, if_neg hm] at hp; exact hp)
    refine ⟨fun e => no (fun z => Int32.not_le.mpr e z.1), fun e => ⟨fun e2 => no (fun z => Int32.not_le.mpr e2 z.2), fun e2 => ?_⟩⟩
    unfold letL at hp
    rw [if_neg hn, if_pos ⟨Int32.not_lt.mp e, Int32.not_lt.mp e2⟩] at hp
    exact hp)
  refine ⟨fun e => low (fun z => Int32.not_le.mpr e z.1), fun e => ⟨fun e2 => low (fun z => Int32.not_le.mpr e2 z.2), fun e2 => ?_⟩⟩
  unfold letL at hp
  rw [if_pos ⟨Int32.not_lt.mp e, Int32.not_lt.mp e2⟩] at hp
  exact hp
/-- a new user stands in the books -/
def bookL (σ : Sg) (s : Nat) (l : Int32) : Sg := uN (uI (uI (uI σ 7 (sgN σ 0) (nI s)) 6 (sgN σ 0) l) 8 (sgN σ 0) (nI (sgN σ 1))) 0 (sgN σ 0 + 1)
def learnL (σ : Sg) (s u : Nat) : Sg := uI σ 1 s (sb (sgI σ 1 s) (nI u))
def signL (σ : Sg) (s : Nat) (l : Int32) : Sg := tickL (spreadL (learnL (bookL σ s l) s (sgN σ 0)) s (-1) (qln 0 (sgN σ 0)))
def quitL (σ : Sg) (u hm : Nat) : Sg := tickL (spreadL (forgetL σ hm (nI u)) hm (-1) (qln 1 u))
def leaveL (σ : Sg) (u hm c : Nat) : Sg := tickL (spreadL (dropL σ (hm * 4 + c) (nI u)) hm (-1) (3, nI c, nI u, 0, 0, 0))
def mset (σ : Sg) (i : Nat) (m b : Int32) : Sg := uI (uI σ 3 i m) 4 i b
def modL (σ : Sg) (hm c : Nat) (m b : Int32) : Sg := tickL (spreadL (mset σ (hm * 4 + c) m b) hm (-1) (4, nI c, 0, sgI σ 2 (hm * 4 + c), m, b))
def enL (σ : Sg) (u hm c : Nat) : Sg := enterL σ (hm * 4 + c) (nI u) (nI (sgN σ 1))
def joinL (σ : Sg) (u hm c : Nat) : Sg := tickL (spreadL (enL σ u hm c) hm (-1) (2, nI c, 1 <<< (nI u &&& 31), sgI (enL σ u hm c) 2 (hm * 4 + c), sgI (enL σ u hm c) 3 (hm * 4 + c), sgI (enL σ u hm c) 4 (hm * 4 + c)))
section PCD
variable {A : Nat → Nat} {Fo : Nat → Prop} {M0 M : Mem} {σ : Sg} {hl : Nat → Option Ln}
theorem p_signOn (h : RepC A Fo M0 M σ hl) (hW : WFu σ) (hn : lim σ 80000) {p q : Int32} {mc ms : Nat} (hb : 1 ≤ mc ∧ 6 ≤ ms) {xp : String → Mem → Prop} {post : Mem → Int32 → Prop}
    (h1 : ¬ (0 ≤ p ∧ p < 6) → xp ioob M)
    (h2 : ∀ s, s < 6 → p = nI s → letL q = -1 → xp iae M)
    (h3 : ∀ s, s < 6 → p = nI s → letL q ≠ -1 → sgN σ 0 = 20 ∨ nsL σ s (letL q) (-1) ≠ -1 → xp ise M)
    (hp : ∀ s, s < 6 → p = nI s → letL q ≠ -1 → sgN σ 0 < 20 → nsL σ s (letL q) (-1) = -1 → bud σ (signL σ s (letL q)) mc ms ∧ ∀ M' hl', RepC A Fo M0 M' (signL σ s (letL q)) hl' → post M' (nI (sgN σ 0))) : w_X5_signOn mc ms M (A 0) p q xp post := by
  have h20 := hW.1
  refine ck_S (fun s hs es => ⟨⟨by omega, by omega⟩, ?_⟩) (fun hr => ⟨by omega, h1 hr⟩)
  subst es
  refine p_letter M q ⟨fun e => ⟨by omega, h2 s hs rfl e⟩, fun e => ⟨rp_0 h, _, (rp_ref h).1, (rp_vw h hs).1, _, (rp_vw h hs).2, rp_0 h, fun J hJ => ?_⟩⟩
  rw [rp_users h]
  refine ⟨fun e2 => hJ ⟨by omega, h3 s hs rfl e (Or.inl ?_)⟩, fun e2 => ⟨rp_0 h, p_namesake h hW.1 hs _ _ ⟨fun e3 => ?_, fun e3 => hJ ⟨by omega, h3 s hs rfl e (Or.inr e3)⟩⟩⟩⟩
  · have : 20 ≤ sgN σ 0 := (le_nI (a := 20) (by omega) (by omega)).mp e2
    omega
  have hu : sgN σ 0 < 20 := Nat.not_le.mp (fun h9 => e2 ((le_nI (a := 20) (by omega) (by omega)).mpr h9))
  obtain ⟨⟨b1, b2⟩, hp⟩ := hp s hs rfl e hu e3
  refine ⟨rp_0 h, fun x13 e13 => ?_⟩
  generalize hue : sgN σ 0 = u at *
  subst e13
  refine ⟨rp_0 h, _, (rp_ref h).2.2.1, (rp_u3 h hu).1, fun M16 e16 => ?_⟩
  have h16 : RepC A Fo M0 M16 (uI σ 7 u (nI s)) hl := by
    rw [e16, clN (by omega)]
    exact rp_own h 7 u hu (nI s)
  refine ⟨rp_0 h16, _, (rp_ref h16).2.2.2.1, (rp_u4 h16 hu).1, fun M20 e20 => ?_⟩
  have hI20 : RepC A Fo M0 M20 (uI (uI σ 7 u (nI s)) 6 u (letL q)) hl := by
    rw [e20, clN (by omega)]
    exact rp_own h16 6 u hu (letL q)
  refine ⟨rp_0 hI20, _, (rp_ref hI20).2.2.2.2.1, rp_0 hI20, (rp_u5 hI20 hu).1, fun M25 e25 => ?_⟩
  have h25 : RepC A Fo M0 M25 (uI (uI (uI σ 7 u (nI s)) 6 u (letL q)) 8 u (nI (sgN σ 1))) hl := by
    rw [e25, clN (by omega), rp_clock hI20]
    exact rp_own hI20 8 u hu _
  refine ⟨rp_0 h25, rp_0 h25, fun M29 e29 => ?_⟩
  have hbk : bookL σ s (letL q) = uN (uI (uI (uI σ 7 u (nI s)) 6 u (letL q)) 8 u (nI (sgN σ 1))) 0 (u + 1) := by unfold bookL; rw [hue]
  have h29 : RepC A Fo M0 M29 (bookL σ s (letL q)) hl := by
    rw [e29, rp_users h25, hbk]
    have := rp_setN h25 (f := 0) (Or.inl rfl) (u + 1)
    rw [show sgN (uI (uI (uI σ 7 u (nI s)) 6 u (letL q)) 8 u (nI (sgN σ 1))) 0 = u from hue, nI_1]
    exact this
  refine ⟨rp_v h29 hs, p_learn h29 hs (nI u) (fun M31 h31 => ⟨rp_0 h31, _, (rp_ref h31).2.1, rp_0 h31, _, (rp_ref h31).2.2.2.2.2, h31.1.1 6 (by unfold vid; omega), p_ofUser h31 (Or.inl rfl) (nI u) (fun M37 h37 => ⟨_, rfl, rp_w4 h37, mc, ms, ⟨by omega, by omega⟩, ?_⟩)⟩)⟩
  have hst : signL σ s (letL q) = tickL (spreadL (learnL (bookL σ s (letL q)) s u) s (-1) (qln 0 u)) := by unfold signL; rw [hue]
  rw [hst] at b1 b2 hp
  have h37' : RepC A Fo M0 M37 (learnL (bookL σ s (letL q)) s u) (fset hl (A 6) (some (qln 0 u))) := h37
  have q2 : sgN (learnL (bookL σ s (letL q)) s u) 2 = sgN σ 2 := rfl
  have q3 : sgN (learnL (bookL σ s (letL q)) s u) 3 = sgN σ 3 := rfl
  have qt : tot (learnL (bookL σ s (letL q)) s u) = tot σ := rfl
  obtain ⟨l1, l2⟩ := hn
  exact p_spread h37' hs (-1) (fs_s _ _ _) ⟨by omega, by omega⟩ b1 b2 (fun M43 h43 => ⟨rp_0 h43, rp_0 h43, fun M46 e46 => hp _ _ (p_tick h43 e46)⟩)
theorem p_quit (h : RepC A Fo M0 M σ hl) (hW : WFu σ) (hn : lim σ 80000) {p : Int32} {mc ms : Nat} (hb : 1 ≤ mc ∧ 6 ≤ ms) {xp : String → Mem → Prop} {post : Mem → Prop}
    (h1 : ¬ (0 ≤ p ∧ p < nI (sgN σ 0)) → xp ioob M)
    (h2 : ∀ u hm, u < sgN σ 0 → hm < 6 → p = nI u → sgI σ 7 u = nI hm → goneL σ u hm = true → xp ise M)
    (hp : ∀ u hm, u < sgN σ 0 → hm < 6 → p = nI u → sgI σ 7 u = nI hm → goneL σ u hm = false → bud σ (quitL σ u hm) mc ms ∧ ∀ M' hl', RepC A Fo M0 M' (quitL σ u hm) hl' → post M') : w_X5_quit mc ms M (A 0) p xp post := by
  have h20 := hW.1
  refine ⟨rp_0 h, ck_U h hW (fun u hu eu => ⟨⟨by omega, by omega⟩, ⟨rp_0 h, ?_⟩⟩) (fun hr => ⟨by omega, h1 hr⟩)⟩
  subst eu
  obtain ⟨hm, hh, he⟩ := hW.2 u hu
  have hu20 : u < 20 := by omega
  refine ck_G h hu20 hh he (fun hg => ⟨⟨by omega, by omega⟩, ?_⟩) (fun hg => ⟨by omega, h2 u hm hu hh rfl he hg⟩)
  obtain ⟨⟨b1, b2⟩, hp⟩ := hp u hm hu hh rfl he hg
  refine ⟨rp_0 h, _, (rp_ref h).2.2.1, (rp_u3 h hu20).1, fun x10 e10 => ?_⟩
  rw [(rp_u3 h hu20).2, he] at e10
  subst e10
  refine ⟨rp_0 h, _, (rp_ref h).1, (rp_vw h hh).1, _, (rp_vw h hh).2, rp_v h hh, p_forget h hh (nI u) (fun M16 h16 => ⟨rp_0 h16, _, (rp_ref h16).2.1, rp_0 h16, _, (rp_ref h16).2.2.2.2.2, h16.1.1 6 (by unfold vid; omega), p_ofUser h16 (Or.inr rfl) (nI u) (fun M22 h22 => ⟨_, rfl, rp_w4 h22, mc, ms, ⟨by omega, by omega⟩, ?_⟩)⟩)⟩
  have h22' : RepC A Fo M0 M22 (forgetL σ hm (nI u)) (fset hl (A 6) (some (qln 1 u))) := h22
  have q2 := forget_N σ hm (nI u) 2
  have q3 := forget_N σ hm (nI u) 3
  have qt := forget_tot σ hm (nI u)
  obtain ⟨l1, l2⟩ := hn
  have b1 : sgN (spreadL (forgetL σ hm (nI u)) hm (-1) (qln 1 u)) 2 ≤ sgN σ 2 + mc := b1
  have b2 : 8 * sgN (spreadL (forgetL σ hm (nI u)) hm (-1) (qln 1 u)) 2 ≤ 8 * sgN σ 2 + ms := b2
  exact p_spread h22' hh (-1) (fs_s _ _ _) ⟨by omega, by omega⟩ (by omega) (by omega) (fun M28 h28 => ⟨rp_0 h28, rp_0 h28, fun M31 e31 => hp _ _ (p_tick h28 e31)⟩)
theorem p_leave (h : RepC A Fo M0 M σ hl) (hW : WFu σ) (hn : lim σ 80000) {p q : Int32} {mc ms : Nat} (hb : 1 ≤ mc ∧ 6 ≤ ms) {xp : String → Mem → Prop} {post : Mem → Prop}
    (h1 : ¬ (0 ≤ p ∧ p < nI (sgN σ 0)) ∨ ¬ (0 ≤ q ∧ q < 4) → xp ioob M)
    (h2 : ∀ u hm c, u < sgN σ 0 → hm < 6 → c < 4 → p = nI u → q = nI c → sgI σ 7 u = nI hm → goneL σ u hm = true ∨ ¬ bt (sgI σ 5 (hm * 4 + c)) u = true → xp ise M)
    (hp : ∀ u hm c, u < sgN σ 0 → hm < 6 → c < 4 → p = nI u → q = nI c → sgI σ 7 u = nI hm → goneL σ u hm = false → bt (sgI σ 5 (hm * 4 + c)) u = true → bud σ (leaveL σ u hm c) mc ms ∧ ∀ M' hl', RepC A Fo M0 M' (leaveL σ u hm c) hl' → post M') : w_X5_leave mc ms M (A 0) p q xp post := by
  have h20 := hW.1
  refine ⟨rp_0 h, ck_U h hW (fun u hu eu => ⟨⟨by omega, by omega⟩, ck_C (fun c hc ec => ⟨⟨by omega, by omega⟩, ⟨rp_0 h, ?_⟩⟩) (fun hr => ⟨by omega, h1 (Or.inr hr)⟩)⟩) (fun hr => ⟨by omega, h1 (Or.inl hr)⟩)⟩
  subst eu
  subst ec
  obtain ⟨hm, hh, he⟩ := hW.2 u hu
  have hu20 : u < 20 := by omega
  refine ck_G h hu20 hh he (fun hg => ⟨⟨by omega, by omega⟩, ⟨rp_0 h, ck_M h hu20 hc hh he (fun hbm => ⟨⟨by omega, by omega⟩, ?_⟩) (fun hbm => ⟨by omega, h2 u hm c hu hh hc rfl rfl he (Or.inr hbm)⟩)⟩⟩) (fun hg => ⟨by omega, h2 u hm c hu hh hc rfl rfl he (Or.inl hg)⟩)
  obtain ⟨⟨b1, b2⟩, hp⟩ := hp u hm c hu hh hc rfl rfl he hg hbm
  refine ⟨rp_0 h, _, (rp_ref h).2.2.1, (rp_u3 h hu20).1, fun x15 e15 => ?_⟩
  rw [(rp_u3 h hu20).2, he] at e15
  subst e15
  refine ⟨rp_0 h, _, (rp_ref h).1, (rp_vw h hh).1, _, (rp_vw h hh).2, rp_v h hh, _, (rp_ch h hh).1, in_nI (rp_ch h hh).2 hc (by omega), _, rp_chi h hh hc, rp_i h (by omega), p_drop h (by omega) (nI u) (fun M25 h25 => ⟨rp_0 h25, _, (rp_ref h25).2.1, rp_0 h25, _, (rp_ref h25).2.2.2.2.2, h25.1.1 6 (by unfold vid; omega), p_ofLeave h25 (nI c) (nI u) (fun M31 h31 => ⟨_, rfl, rp_w4 h31, mc, ms, ⟨by omega, by omega⟩, ?_⟩)⟩)⟩
  have q2 := drop_N σ (hm * 4 + c) (nI u) 2
  have q3 := drop_N σ (hm * 4 + c) (nI u) 3
  have qt : tot (dropL σ (hm * 4 + c) (nI u)) = tot σ := tot_congr (drop_Q σ (hm * 4 + c) (nI u))
  obtain ⟨l1, l2⟩ := hn
  have b1 : sgN (spreadL (dropL σ (hm * 4 + c) (nI u)) hm (-1) (3, nI c, nI u, 0, 0, 0)) 2 ≤ sgN σ 2 + mc := b1
  have b2 : 8 * sgN (spreadL (dropL σ (hm * 4 + c) (nI u)) hm (-1) (3, nI c, nI u, 0, 0, 0)) 2 ≤ 8 * sgN σ 2 + ms := b2
  exact p_spread h31 hh (-1) (fs_s _ _ _) ⟨by omega, by omega⟩ (by omega) (by omega) (fun M37 h37 => ⟨rp_0 h37, rp_0 h37, fun M40 e40 => hp _ _ (p_tick h37 e40)⟩)
end PCD
