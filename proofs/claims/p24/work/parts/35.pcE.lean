def bcL (m : Int32) : Int32 :=
  let a := m - (((m.toUInt32 >>> (Int32.toUInt32 1 &&& Int32.toUInt32 31)).toInt32) &&& 1431655765)
  let b := (a &&& 858993459) + (((a.toUInt32 >>> (Int32.toUInt32 2 &&& Int32.toUInt32 31)).toInt32) &&& 858993459)
  let c := (b + ((b.toUInt32 >>> (Int32.toUInt32 4 &&& Int32.toUInt32 31)).toInt32)) &&& 252645135
  let d := c + ((c.toUInt32 >>> (Int32.toUInt32 8 &&& Int32.toUInt32 31)).toInt32)
  (d + ((d.toUInt32 >>> (Int32.toUInt32 16 &&& Int32.toUInt32 31)).toInt32)) &&& 63
theorem p_bc (M : Mem) (m : Int32) {post : Int32 → Prop} (hp : post (bcL m)) : w_J_bitCount M m post := by
  intro x1 e1 x2 e2 x3 e3 x4 e4 x5 e5
  subst e1
  subst e2
  subst e3
  subst e4
  subst e5
  exact hp
theorem enter_N (σ : Sg) (i : Nat) (u clk : Int32) (f : Nat) : sgN (enterL σ i u clk) f = sgN σ f := by
  unfold enterL; dsimp only; split <;> rfl
theorem enter_Q (σ : Sg) (i : Nat) (u clk : Int32) (w : Nat) : sgQ (enterL σ i u clk) w = sgQ σ w := by
  unfold enterL; dsimp only; split <;> rfl
section PCE
variable {A : Nat → Nat} {Fo : Nat → Prop} {M0 M : Mem} {σ : Sg} {hl : Nat → Option Ln}
theorem p_setModes (h : RepC A Fo M0 M σ hl) (hW : WFu σ) (hn : lim σ 80000) {p q r v : Int32} {mc ms : Nat} (hb : 1 ≤ mc ∧ 6 ≤ ms) {xp : String → Mem → Prop} {post : Mem → Int32 → Prop}
    (h1 : ¬ (0 ≤ p ∧ p < nI (sgN σ 0)) ∨ ¬ (0 ≤ q ∧ q < 4) → xp ioob M)
    (h2 : (0 ≤ p ∧ p < nI (sgN σ 0)) → (0 ≤ q ∧ q < 4) → ¬ (0 ≤ r ∧ r ≤ 15 ∧ 0 ≤ v ∧ v ≤ 67108863) → xp iae M)
    (h3 : ∀ u hm c, u < sgN σ 0 → hm < 6 → c < 4 → p = nI u → q = nI c → sgI σ 7 u = nI hm → (0 ≤ r ∧ r ≤ 15 ∧ 0 ≤ v ∧ v ≤ 67108863) → goneL σ u hm = true ∨ ¬ bt (sgI σ 5 (hm * 4 + c)) u = true → xp ise M)
    (hp : ∀ u hm c, u < sgN σ 0 → hm < 6 → c < 4 → p = nI u → q = nI c → sgI σ 7 u = nI hm → (0 ≤ r ∧ r ≤ 15 ∧ 0 ≤ v ∧ v ≤ 67108863) → goneL σ u hm = false → bt (sgI σ 5 (hm * 4 + c)) u = true → bud σ (modL σ hm c r v) mc ms ∧ ∀ M' hl', RepC A Fo M0 M' (modL σ hm c r v) hl' → post M' (sgI σ 3 (hm * 4 + c))) : w_X5_setModes mc ms M (A 0) p q r v xp post := by
  have h20 := hW.1
  refine ⟨rp_0 h, ck_U h hW (fun u hu eu => ⟨⟨by omega, by omega⟩, ck_C (fun c hc ec => ⟨⟨by omega, by omega⟩, fun J hJ => ?_⟩) (fun hr => ⟨by omega, h1 (Or.inr hr)⟩)⟩) (fun hr => ⟨by omega, h1 (Or.inl hr)⟩)⟩
  have hpr : 0 ≤ p ∧ p < nI (sgN σ 0) := by
    rw [eu]
    exact ⟨(le_nI (a := 0) (by omega) (by omega)).mpr (by omega), Int32.not_le.mp (fun h9 => by have := (le_nI (by omega) (by omega)).mp h9; omega)⟩
  have hqr : 0 ≤ q ∧ q < 4 := by
    rw [ec]
    exact ⟨(le_nI (a := 0) (by omega) (by omega)).mpr (by omega), Int32.not_le.mp (fun h9 => by have := (le_nI (a := 4) (by omega) (by omega)).mp h9; omega)⟩
  have bad : ¬ (0 ≤ r ∧ r ≤ 15 ∧ 0 ≤ v ∧ v ≤ 67108863) → J := fun hno => hJ ⟨by omega, h2 hpr hqr hno⟩
  refine ⟨fun e => bad (fun z => Int32.not_le.mpr e z.1), fun e1 => ⟨fun e => bad (fun z => Int32.not_le.mpr e z.2.1), fun e2 => ⟨fun e => bad (fun z => Int32.not_le.mpr e z.2.2.1), fun e3 => ⟨fun e4 => ?_, fun e => bad (fun z => e z.2.2.2)⟩⟩⟩⟩
  have hrng : 0 ≤ r ∧ r ≤ 15 ∧ 0 ≤ v ∧ v ≤ 67108863 := ⟨Int32.not_lt.mp e1, Int32.not_lt.mp e2, Int32.not_lt.mp e3, e4⟩
  subst eu
  subst ec
  obtain ⟨hm, hh, he⟩ := hW.2 u hu
  have hu20 : u < 20 := by omega
  refine ⟨rp_0 h, ck_G h hu20 hh he (fun hg => ⟨⟨by omega, by omega⟩, ⟨rp_0 h, ck_M h hu20 hc hh he (fun hbm => ⟨⟨by omega, by omega⟩, ?_⟩) (fun hbm => ⟨by omega, h3 u hm c hu hh hc rfl rfl he hrng (Or.inr hbm)⟩)⟩⟩) (fun hg => ⟨by omega, h3 u hm c hu hh hc rfl rfl he hrng (Or.inl hg)⟩)⟩
  obtain ⟨⟨b1, b2⟩, hp⟩ := hp u hm c hu hh hc rfl rfl he hrng hg hbm
  refine ⟨rp_0 h, _, (rp_ref h).2.2.1, (rp_u3 h hu20).1, fun x16 e16 => ?_⟩
  rw [(rp_u3 h hu20).2, he] at e16
  subst e16
  have hi : hm * 4 + c < 24 := by omega
  have r3 : gI M (A (30 + (hm * 4 + c))) 1 = sgI σ 3 (hm * 4 + c) := rp_rd h 3 _ hi
  refine ⟨rp_0 h, _, (rp_ref h).1, (rp_vw h hh).1, _, (rp_vw h hh).2, rp_v h hh, _, (rp_ch h hh).1, in_nI (rp_ch h hh).2 hc (by omega), _, rp_chi h hh hc, rp_i h hi, fun x26 e26 => ⟨rp_i h hi, fun M28 e28 => ?_⟩⟩
  rw [r3] at e26
  subst e26
  have h28 : RepC A Fo M0 M28 (uI σ 3 (hm * 4 + c) r) hl := by
    rw [e28]
    exact rp_own h 3 _ hi r
  refine ⟨rp_i h28 hi, fun M30 e30 => ?_⟩
  have h30 : RepC A Fo M0 M30 (mset σ (hm * 4 + c) r v) hl := by
    rw [e30]
    exact rp_own h28 4 _ hi v
  refine ⟨rp_0 h30, _, (rp_ref h30).2.1, rp_0 h30, _, (rp_ref h30).2.2.2.2.2, h30.1.1 6 (by unfold vid; omega), p_ofChannel h30 (Or.inr rfl) hi (nI c) 0 (fun M36 h36 => ⟨_, rfl, rp_w4 h36, mc, ms, ⟨by omega, by omega⟩, ?_⟩)⟩
  have e7 : ((4 : Int32), nI c, (if (4 : Int32) = 2 then (0 : Int32) else 0), sgI (mset σ (hm * 4 + c) r v) 2 (hm * 4 + c), sgI (mset σ (hm * 4 + c) r v) 3 (hm * 4 + c), sgI (mset σ (hm * 4 + c) r v) 4 (hm * 4 + c)) = ((4 : Int32), nI c, (0 : Int32), sgI σ 2 (hm * 4 + c), r, v) := by
    rw [if_neg (by decide)]
    unfold mset
    rw [sgI_uI, if_neg (by omega), sgI_uI, if_neg (by omega), sgI_uI, if_neg (by omega), sgI_uI, if_pos ⟨rfl, rfl⟩, sgI_uI, if_pos ⟨rfl, rfl⟩]
  rw [e7] at h36
  obtain ⟨l1, l2⟩ := hn
  have q2 : sgN (mset σ (hm * 4 + c) r v) 2 = sgN σ 2 := rfl
  have q3 : sgN (mset σ (hm * 4 + c) r v) 3 = sgN σ 3 := rfl
  have qt : tot (mset σ (hm * 4 + c) r v) = tot σ := rfl
  exact p_spread h36 hh (-1) (fs_s _ _ _) ⟨by omega, by omega⟩ b1 b2 (fun M42 h42 => ⟨rp_0 h42, rp_0 h42, fun M45 e45 => hp _ _ (p_tick h42 e45)⟩)
/-- may a user not come in -/
def barL (σ : Sg) (u hm c : Nat) : Prop := bt (sgI σ 5 (hm * 4 + c)) u = true ∨ (¬ sgI σ 5 (hm * 4 + c) = 0 ∧ bt (sgI σ 4 (hm * 4 + c)) (sgI σ 6 u).toNatClampNeg = true)
theorem p_join (h : RepC A Fo M0 M σ hl) (hW : WFu σ) (hWl : ∀ u, u < sgN σ 0 → ∃ l, l < 26 ∧ sgI σ 6 u = nI l) (hn : lim σ 80000) {p q : Int32} {mc ms : Nat} (hb : 1 ≤ mc ∧ 6 ≤ ms) {xp : String → Mem → Prop} {post : Mem → Int32 → Prop}
    (h1 : ¬ (0 ≤ p ∧ p < nI (sgN σ 0)) ∨ ¬ (0 ≤ q ∧ q < 4) → xp ioob M)
    (h2 : ∀ u hm c, u < sgN σ 0 → hm < 6 → c < 4 → p = nI u → q = nI c → sgI σ 7 u = nI hm → goneL σ u hm = true ∨ barL σ u hm c → xp ise M)
    (hp : ∀ u hm c, u < sgN σ 0 → hm < 6 → c < 4 → p = nI u → q = nI c → sgI σ 7 u = nI hm → goneL σ u hm = false → ¬ barL σ u hm c → bud σ (joinL σ u hm c) mc ms ∧ ∀ M' hl', RepC A Fo M0 M' (joinL σ u hm c) hl' → post M' (bcL (sgI (joinL σ u hm c) 5 (hm * 4 + c)))) : w_X5_join mc ms M (A 0) p q xp post := by
  have h20 := hW.1
  refine ⟨rp_0 h, ck_U h hW (fun u hu eu => ⟨⟨by omega, by omega⟩, ck_C (fun c hc ec => ⟨⟨by omega, by omega⟩, ⟨rp_0 h, ?_⟩⟩) (fun hr => ⟨by omega, h1 (Or.inr hr)⟩)⟩) (fun hr => ⟨by omega, h1 (Or.inl hr)⟩)⟩
  subst eu
  subst ec
  obtain ⟨hm, hh, he⟩ := hW.2 u hu
  obtain ⟨l, hl26, hle⟩ := hWl u hu
  have hu20 : u < 20 := by omega
  refine ck_G h hu20 hh he (fun hg => ⟨⟨by omega, by omega⟩, ?_⟩) (fun hg => ⟨by omega, h2 u hm c hu hh hc rfl rfl he (Or.inl hg)⟩)
  have h2' := h2 u hm c hu hh hc rfl rfl he
  have hp' := hp u hm c hu hh hc rfl rfl he hg
  refine ⟨rp_0 h, _, (rp_ref h).2.2.1, (rp_u3 h hu20).1, fun x12 e12 => ?_⟩
  rw [(rp_u3 h hu20).2, he] at e12
  subst e12
  have hi : hm * 4 + c < 24 := by omega
  have r5 : gI M (A (30 + (hm * 4 + c))) 3 = sgI σ 5 (hm * 4 + c) := rp_rd h 5 _ hi
  have r4 : gI M (A (30 + (hm * 4 + c))) 2 = sgI σ 4 (hm * 4 + c) := rp_rd h 4 _ hi
  refine ⟨rp_0 h, _, (rp_ref h).1, (rp_vw h hh).1, _, (rp_vw h hh).2, rp_v h hh, _, (rp_ch h hh).1, in_nI (rp_ch h hh).2 hc (by omega), _, rp_chi h hh hc, rp_i h hi, ?_⟩
  rw [r5]
  refine p_has M _ (by omega) ⟨fun e1 => ⟨rp_i h hi, p_isThere (rp_i h hi) (fun J hJ => ?_)⟩, fun e1 => ⟨by omega, h2' (Or.inr (Or.inl (b2i_nz e1)))⟩⟩
  rw [r5]
  have go : ¬ barL σ u hm c → J := fun hno => by
    obtain ⟨⟨b1, b2⟩, hp⟩ := hp' hno
    refine hJ ⟨rp_0 h, rp_i h hi, ?_⟩
    rw [rp_clock h]
    refine p_enter h hi (nI u) (nI (sgN σ 1)) (fun M28 h28 => ?_)
    have h28 : RepC A Fo M0 M28 (enL σ u hm c) hl := h28
    have r5' : gI M28 (A (30 + (hm * 4 + c))) 3 = sgI (enL σ u hm c) 5 (hm * 4 + c) := rp_rd h28 5 _ hi
    refine ⟨rp_0 h28, _, (rp_ref h28).2.1, rp_0 h28, _, (rp_ref h28).2.2.2.2.2, h28.1.1 6 (by unfold vid; omega), p_ofChannel h28 (Or.inl rfl) hi (nI c) _ (fun M34 h34 => ⟨_, rfl, rp_w4 h34, mc, ms, ⟨by omega, by omega⟩, ?_⟩)⟩
    rw [if_pos rfl] at h34
    obtain ⟨l1, l2⟩ := hn
    have q2 : sgN (enL σ u hm c) 2 = sgN σ 2 := enter_N _ _ _ _ 2
    have q3 : sgN (enL σ u hm c) 3 = sgN σ 3 := enter_N _ _ _ _ 3
    have qt : tot (enL σ u hm c) = tot σ := tot_congr (enter_Q _ _ _ _)
    generalize hln : ((2 : Int32), nI c, (1 : Int32) <<< (nI u &&& 31), sgI (enL σ u hm c) 2 (hm * 4 + c), sgI (enL σ u hm c) 3 (hm * 4 + c), sgI (enL σ u hm c) 4 (hm * 4 + c)) = ln at h34
    have hjl : joinL σ u hm c = tickL (spreadL (enL σ u hm c) hm (-1) ln) := by unfold joinL; rw [hln]
    rw [hjl] at b1 b2 hp
    have b1 : sgN (spreadL (enL σ u hm c) hm (-1) ln) 2 ≤ sgN σ 2 + mc := b1
    have b2 : 8 * sgN (spreadL (enL σ u hm c) hm (-1) ln) 2 ≤ 8 * sgN σ 2 + ms := b2
    refine p_spread h34 hh (-1) (fs_s _ _ _) ⟨by omega, by omega⟩ (by omega) (by omega) (fun M40 h40 => ⟨rp_0 h40, rp_0 h40, fun M43 e43 => ?_⟩)
    have h43 := p_tick h40 e43
    have r6 : gI M43 (A (30 + (hm * 4 + c))) 3 = sgI (tickL (spreadL (enL σ u hm c) hm (-1) ln)) 5 (hm * 4 + c) := rp_rd h43 5 _ hi
    refine ⟨rp_i h43 hi, p_bc M43 _ ?_⟩
    rw [r6]
    exact hp _ _ h43
  have nm : ¬ bt (sgI σ 5 (hm * 4 + c)) u = true := by rw [(b2i_z _).mp e1]; decide
  refine ⟨fun e2 => go (fun z => ?_), fun e2 => ⟨rp_i h hi, rp_0 h, _, (rp_ref h).2.2.2.1, (rp_u4 h hu20).1, ?_⟩⟩
  · rcases z with z | z
    · exact nm z
    · have := (b2i_z _).mp e2
      rw [decide_eq_false z.1] at this
      cases this
  · rw [r4, (rp_u4 h hu20).2, hle]
    have e3 := b2i_nz e2
    have e5 : ¬ sgI σ 5 (hm * 4 + c) = 0 := by simpa using e3
    refine p_has M _ (by omega) ⟨fun e4 => go (fun z => ?_), fun e4 => ⟨by omega, h2' (Or.inr (Or.inr ⟨e5, by rw [hle, clN (by omega)]; exact b2i_nz e4⟩))⟩⟩
    rcases z with z | z
    · exact nm z
    · have := z.2
      rw [hle, clN (by omega), (b2i_z _).mp e4] at this
      cases this
end PCE
