/-- the eldest below n of a mask -/
def elN (σ : Sg) (m : Int32) : Nat → Int32
  | 0 => -1
  | u + 1 => if bt m u = true then (if elN σ m u = -1 ∨ ¬ sgI σ 8 (elN σ m u).toNatClampNeg ≤ sgI σ 8 u then nI u else elN σ m u) else elN σ m u
theorem elN_user (σ : Sg) (m : Int32) : ∀ n, elN σ m n = -1 ∨ ∃ v, v < n ∧ elN σ m n = nI v := by
  intro n
  induction n with
  | zero => exact Or.inl rfl
  | succ n ih =>
    unfold elN
    have ih' : elN σ m n = -1 ∨ ∃ v, v < n + 1 ∧ elN σ m n = nI v := by
      rcases ih with h | ⟨v, h1, h2⟩
      · exact Or.inl h
      · exact Or.inr ⟨v, by omega, h2⟩
    split
    · split
      · exact Or.inr ⟨n, by omega, rfl⟩
      · exact ih'
    · exact ih'
/-- the homes of the users below n of a mask -/
def hmN (σ : Sg) (m : Int32) : Nat → Int32
  | 0 => 0
  | u + 1 => if bt m u = true then sb (hmN σ m u) (sgI σ 7 u) else hmN σ m u
def ltI (σ : Sg) (kp x : Int32) : Nat → Int32
  | 0 => x
  | y + 1 => if bt (ltI σ kp x y &&& (kp ^^^ (-1))) y = true ∧ bcL (sgI σ 0 y &&& ltI σ kp x y) = 1 then cb (ltI σ kp x y) (nI y) else ltI σ kp x y
def ltO (σ : Sg) (kp t : Int32) : Nat → Int32
  | 0 => t
  | r + 1 => ltI σ kp (ltO σ kp t r) 6
def ltL (σ : Sg) (hm : Nat) (hs : Int32) : Int32 := bcL (ltO σ (sb hs (nI hm)) (treeL σ hm) 5) - 1
def sayL (σ : Sg) (u hm c : Nat) : Int32 :=
  if goneL σ u hm = true then -2
  else if ¬ bt (sgI σ 5 (hm * 4 + c)) u = true then -3
  else if bt (sgI σ 4 (hm * 4 + c)) (sgI σ 6 u).toNatClampNeg = true then -4
  else if bt (sgI σ 3 (hm * 4 + c)) 0 = true ∧ ¬ elN σ (sgI σ 5 (hm * 4 + c)) (sgN σ 0) = nI u then -5
  else ltL σ hm (hmN σ (cb (sgI σ 5 (hm * 4 + c)) (nI u)) (sgN σ 0))
section PCF
variable {A : Nat → Nat} {Fo : Nat → Prop} {M0 M : Mem} {σ : Sg} {hl : Nat → Option Ln}
theorem p_eldest (h : RepC A Fo M0 M σ hl) (hu20 : sgN σ 0 ≤ 20) (m : Int32) {post : Int32 → Prop} (hp : post (elN σ m (sgN σ 0))) : w_X5_eldestOf M (A 0) m post := by
  refine Lp_for (sgN σ 0) (fun c z => z.1 = elN σ m c ∧ z.2 = nI c) (fun z => z.2.toNatClampNeg) (fun c z hc hz => by rw [hz.2]; exact clN (by omega)) ⟨rfl, rfl⟩ ?_
  intro c z K hc hz hK x1 x2 ez
  subst ez
  obtain ⟨z1, z2⟩ := hz
  have z1 : x1 = elN σ m c := z1
  have z2 : x2 = nI c := z2
  subst z1
  subst z2
  refine ⟨rp_0 h, fun e => ?_, fun e => ?_⟩
  · rw [rp_users h] at e
    have : sgN σ 0 ≤ c := (le_nI (by omega) (by omega)).mp e
    have e2 : c = sgN σ 0 := by omega
    subst e2
    exact hp
  rw [rp_users h] at e
  have hlt : c < sgN σ 0 := Nat.not_le.mp (fun h9 => e ((le_nI (by omega) (by omega)).mpr h9))
  refine p_has M m (by omega) (fun J hJ => ?_)
  have go : ∀ v, v = elN σ m (c + 1) → J v := fun v ev => hJ v (fun x8 e8 => hK _ hlt ⟨ev, by show x8 = _; rw [e8, nI_1]⟩)
  refine ⟨fun e1 => go _ ?_, fun e1 J9 hJ9 => ?_⟩
  · show _ = (if _ then _ else _)
    rw [if_neg (by rw [(b2i_z _).mp e1]; decide)]
  · have hb := b2i_nz e1
    have new : (elN σ m c = -1 ∨ ¬ sgI σ 8 (elN σ m c).toNatClampNeg ≤ sgI σ 8 c) → J9 := fun hh => hJ9 (go _ (by unfold elN; rw [if_pos hb, if_pos hh]))
    refine ⟨fun e2 => new (Or.inl e2), fun e2 => ?_⟩
    rcases elN_user σ m c with hv | ⟨v, hv, hve⟩
    · exact absurd hv e2
    rw [hve]
    refine ⟨rp_0 h, _, (rp_ref h).2.2.2.2.1, (rp_u5 h (by omega)).1, rp_0 h, _, (rp_ref h).2.2.2.2.1, (rp_u5 h (by omega)).1, ?_⟩
    rw [(rp_u5 h (by omega)).2, (rp_u5 h (by omega)).2]
    refine ⟨fun e3 => ?_, fun e3 => new (Or.inr (by rw [hve, clN (by omega)]; exact e3))⟩
    have g := go (nI v) (by
      unfold elN
      rw [if_pos hb, if_neg (by
        rintro (h8 | h8)
        · exact e2 h8
        · rw [hve, clN (by omega)] at h8; exact h8 e3), hve])
    exact g
theorem p_homes (h : RepC A Fo M0 M σ hl) (hu20 : sgN σ 0 ≤ 20) (m : Int32) {post : Int32 → Prop} (hp : post (hmN σ m (sgN σ 0))) : w_X5_homesOf M (A 0) m post := by
  refine Lp_for (sgN σ 0) (fun c z => z.1 = hmN σ m c ∧ z.2 = nI c) (fun z => z.2.toNatClampNeg) (fun c z hc hz => by rw [hz.2]; exact clN (by omega)) ⟨rfl, rfl⟩ ?_
  intro c z K hc hz hK x1 x2 ez
  subst ez
  obtain ⟨z1, z2⟩ := hz
  have z1 : x1 = hmN σ m c := z1
  have z2 : x2 = nI c := z2
  subst z1
  subst z2
  refine ⟨rp_0 h, fun e => ?_, fun e => ?_⟩
  · rw [rp_users h] at e
    have : sgN σ 0 ≤ c := (le_nI (by omega) (by omega)).mp e
    have e2 : c = sgN σ 0 := by omega
    subst e2
    exact hp
  rw [rp_users h] at e
  have hlt : c < sgN σ 0 := Nat.not_le.mp (fun h9 => e ((le_nI (by omega) (by omega)).mpr h9))
  refine p_has M m (by omega) (fun J hJ => ?_)
  have go : ∀ v, v = hmN σ m (c + 1) → J v := fun v ev => hJ v (fun x8 e8 => hK _ hlt ⟨ev, by show x8 = _; rw [e8, nI_1]⟩)
  refine ⟨fun e1 => go _ ?_, fun e1 => ⟨rp_0 h, _, (rp_ref h).2.2.1, (rp_u3 h (by omega)).1, fun x12 e12 => go _ ?_⟩⟩
  · show _ = (if _ then _ else _)
    rw [if_neg (by rw [(b2i_z _).mp e1]; decide)]
  · unfold hmN
    rw [if_pos (b2i_nz e1), e12, (rp_u3 h (by omega)).2]
    rfl
theorem p_towards (h : RepC A Fo M0 M σ hl) {hm : Nat} (hs : Int32) {post : Int32 → Prop} (hp : post (ltL σ hm hs)) : w_X4_linksTowards M (A 2) (nI hm) hs post := by
  intro x1 e1
  have e1 : x1 = sb hs (nI hm) := e1
  subst e1
  refine ⟨rp_w4 h, p_tree h ?_⟩
  refine Lp_for 5 (fun c z => z.1 = ltO σ (sb hs (nI hm)) (treeL σ hm) c ∧ z.2 = nI (c + 1)) (fun z => z.2.toNatClampNeg - 1) (fun c z hc hz => by rw [hz.2, clN (by omega)]; omega) ⟨rfl, rfl⟩ ?_
  intro c z K hc hz hK x4 x5 ez
  subst ez
  obtain ⟨z1, z2⟩ := hz
  have z1 : x4 = ltO σ (sb hs (nI hm)) (treeL σ hm) c := z1
  have z2 : x5 = nI (c + 1) := z2
  subst z1
  subst z2
  refine ⟨fun e => ?_, fun e => ?_⟩
  · have : 6 ≤ c + 1 := (le_nI (a := 6) (by omega) (by omega)).mp e
    have e5 : c = 5 := by omega
    subst e5
    exact p_bc M _ hp
  have hlt : c + 1 < 6 := Nat.not_le.mp (fun h9 => e ((le_nI (a := 6) (by omega) (by omega)).mpr h9))
  refine Lp_for 6 (fun d z => z.1 = ltI σ (sb hs (nI hm)) (ltO σ (sb hs (nI hm)) (treeL σ hm) c) d ∧ z.2 = nI d) (fun z => z.2.toNatClampNeg) (fun d z hd hz => by rw [hz.2]; exact clN (by omega)) ⟨rfl, rfl⟩ ?_
  intro d z K2 hd hz hK2 x8 x9 ez
  subst ez
  obtain ⟨z1, z2⟩ := hz
  have z1 : x8 = ltI σ (sb hs (nI hm)) (ltO σ (sb hs (nI hm)) (treeL σ hm) c) d := z1
  have z2 : x9 = nI d := z2
  subst z1
  subst z2
  refine ⟨fun e2 x11 e11 => ?_, fun e2 => ?_⟩
  · have : 6 ≤ d := (le_nI (a := 6) (by omega) (by omega)).mp e2
    have e6 : d = 6 := by omega
    subst e6
    exact hK _ (by omega) ⟨rfl, by show x11 = _; rw [e11, nI_1]⟩
  have hlt2 : d < 6 := Nat.not_le.mp (fun h9 => e2 ((le_nI (a := 6) (by omega) (by omega)).mpr h9))
  generalize hkp : sb hs (nI hm) = kp at *
  generalize hx : ltO σ kp (treeL σ hm) c = x at *
  refine p_has M _ (by omega) (fun J hJ => ?_)
  have go : ∀ v, v = ltI σ kp x (d + 1) → J v := fun v ev => hJ v (fun x15 e15 => hK2 _ hlt2 ⟨ev, by show x15 = _; rw [e15, nI_1]⟩)
  have r0 := rp_lki h hlt2
  refine ⟨fun e3 => go _ ?_, fun e3 => ⟨rp_w4 h, _, (rp_lk h).1, in_nI (rp_lk h).2 hlt2 (by omega), p_bc M _ ⟨fun e4 x20 e20 => go _ ?_, fun e4 => go _ ?_⟩⟩⟩
  · show _ = (if _ then _ else _)
    rw [if_neg (by rintro ⟨h1, -⟩; rw [(b2i_z _).mp e3] at h1; cases h1)]
  · rw [r0] at e4
    rw [e20]
    show _ = (if _ then _ else _)
    rw [if_pos ⟨b2i_nz e3, e4⟩]
    rfl
  · rw [r0] at e4
    show _ = (if _ then _ else _)
    rw [if_neg (fun z => e4 z.2)]
theorem p_say (h : RepC A Fo M0 M σ hl) (hW : WFu σ) (hWl : ∀ u, u < sgN σ 0 → ∃ l, l < 26 ∧ sgI σ 6 u = nI l) {p q : Int32} {mc ms : Nat} (hb : 1 ≤ mc ∧ 6 ≤ ms) {xp : String → Mem → Prop} {post : Int32 → Prop}
    (h1 : ¬ (0 ≤ p ∧ p < nI (sgN σ 0)) ∨ ¬ (0 ≤ q ∧ q < 4) → xp ioob M)
    (hp : ∀ u hm c, u < sgN σ 0 → hm < 6 → c < 4 → p = nI u → q = nI c → sgI σ 7 u = nI hm → post (sayL σ u hm c)) : w_X5_say mc ms M (A 0) p q xp post := by
  have h20 := hW.1
  refine ⟨rp_0 h, ck_U h hW (fun u hu eu => ⟨⟨by omega, by omega⟩, ck_C (fun c hc ec => ⟨⟨by omega, by omega⟩, ⟨rp_0 h, ?_⟩⟩) (fun hr => ⟨by omega, h1 (Or.inr hr)⟩)⟩) (fun hr => ⟨by omega, h1 (Or.inl hr)⟩)⟩
  subst eu
  subst ec
  obtain ⟨hm, hh, he⟩ := hW.2 u hu
  obtain ⟨l, hl26, hle⟩ := hWl u hu
  have hu20 : u < 20 := by omega
  have hp := hp u hm c hu hh hc rfl rfl he
  unfold sayL at hp
  have hi : hm * 4 + c < 24 := by omega
  have r3 : gI M (A (30 + (hm * 4 + c))) 1 = sgI σ 3 (hm * 4 + c) := rp_rd h 3 _ hi
  have r5 : gI M (A (30 + (hm * 4 + c))) 3 = sgI σ 5 (hm * 4 + c) := rp_rd h 5 _ hi
  have r4 : gI M (A (30 + (hm * 4 + c))) 2 = sgI σ 4 (hm * 4 + c) := rp_rd h 4 _ hi
  refine p_isGone h hu20 hh he ⟨fun e1 => ?_, fun e1 => by rw [if_pos (b2i_nz e1)] at hp; exact hp⟩
  rw [if_neg (by rw [(b2i_z _).mp e1]; decide)] at hp
  refine ⟨rp_0 h, _, (rp_ref h).1, rp_0 h, _, (rp_ref h).2.2.1, (rp_u3 h hu20).1, ?_⟩
  rw [(rp_u3 h hu20).2, he]
  refine ⟨(rp_vw h hh).1, _, (rp_vw h hh).2, rp_v h hh, _, (rp_ch h hh).1, in_nI (rp_ch h hh).2 hc (by omega), _, rp_chi h hh hc, rp_i h hi, ?_⟩
  rw [r5]
  refine p_has M _ (by omega) ⟨fun e2 => by rw [if_pos (by rw [(b2i_z _).mp e2]; decide)] at hp; exact hp, fun e2 => ?_⟩
  rw [if_neg (fun z => z (b2i_nz e2))] at hp
  refine ⟨rp_i h hi, rp_0 h, _, (rp_ref h).2.2.2.1, (rp_u4 h hu20).1, ?_⟩
  rw [r4, (rp_u4 h hu20).2, hle]
  rw [hle, clN (by omega)] at hp
  refine p_has M _ (by omega) ⟨fun e3 => ?_, fun e3 => by rw [if_pos (b2i_nz e3)] at hp; exact hp⟩
  rw [if_neg (by rw [(b2i_z _).mp e3]; decide)] at hp
  refine ⟨rp_i h hi, ?_⟩
  rw [r3]
  refine p_has M _ (k := 0) (by omega) (fun J hJ => ?_)
  have go : ¬ (bt (sgI σ 3 (hm * 4 + c)) 0 = true ∧ ¬ elN σ (sgI σ 5 (hm * 4 + c)) (sgN σ 0) = nI u) → J := fun hno => hJ (by
    rw [if_neg hno] at hp
    exact ⟨rp_0 h, _, (rp_ref h).2.1, rp_0 h, _, (rp_ref h).2.2.1, (rp_u3 h hu20).1, rp_i h hi, rp_0 h, p_homes h hW.1 _ (by
      rw [(rp_u3 h hu20).2, he]
      exact ⟨rp_w4 h, p_towards h _ hp⟩)⟩)
  refine ⟨fun e4 => go (fun z => by rw [(b2i_z _).mp e4] at z; cases z.1), fun e4 => ⟨rp_i h hi, rp_0 h, p_eldest h hW.1 _ ⟨fun e5 => go (fun z => z.2 e5), fun e5 => ?_⟩⟩⟩
  rw [if_pos ⟨b2i_nz e4, e5⟩] at hp
  exact hp
end PCF
