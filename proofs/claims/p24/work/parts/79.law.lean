/-! THE LAW -/
theorem rp_newFo {A : Nat → Nat} {Fo : Nat → Prop} {M0 M M' : Mem} {σ : Sg} {hl : Nat → Option Ln} (h : RepC A (fun _ => False) M0 M σ hl) (hg : ∀ b, gT M b ≠ none → agr M M' b) (hF : ∀ b, Fo b → gT M b = none ∧ gT M' b ≠ none) : RepC A Fo M' M' σ hl := by
  have own : ∀ i, vid i → agr M M' (A i) := fun i hi => hg _ (sm (h.1.1 i hi))
  have v0 : vid 0 := by unfold vid; omega
  have v1 : vid 1 := by unfold vid; omega
  have v2 : vid 2 := by unfold vid; omega
  have v8 : vid 8 := by unfold vid; omega
  have nF : ∀ a t, gT M a = some t → ¬ Fo a := fun a t ha hb => by
    have := (hF a hb).1
    rw [ha] at this
    cases this
  have lin : ∀ a, okA (fun _ => False) M a → agr M M' a ∧ okA Fo M' a := fun a ha => by
    have g := hg a (sm ha.1)
    exact ⟨g, g.1.trans ha.1, nF a _ ha.1⟩
  obtain ⟨⟨s1, s2, ⟨⟨r0, r1, r2, r3, r4, r5⟩, r6, ⟨r7, r8⟩, r9, r10, r11⟩, s4, s5⟩, ⟨w1, w2, w3⟩, ⟨La, Sp, ow, q1, ⟨q2, q2b, q2c, q2d⟩, q3, ⟨q4, q5, q6⟩⟩, h6⟩ := h
  have g0 := own 0 v0
  have g2 := own 2 v2
  refine ⟨⟨fun i hi => (own i hi).1.trans (s1 i hi), s2, ⟨⟨(g0.2.2.1 0).trans r0, (g0.2.2.1 1).trans r1, (g0.2.2.1 2).trans r2, (g0.2.2.1 3).trans r3, (g0.2.2.1 4).trans r4, (g0.2.2.1 5).trans r5⟩, fun s hs => ((own 1 v1).2.2.1 s).trans (r6 s hs), ⟨(g2.2.2.1 0).trans r7, (g2.2.2.1 1).trans r8⟩, fun s hs => ((own (10 + s) (by unfold vid; omega)).2.2.1 1).trans (r9 s hs), fun s c hs hc => ((own (20 + s) (by unfold vid; omega)).2.2.1 c).trans (r10 s c hs hc), fun w hw => ((own 8 v8).2.2.1 w).trans (r11 w hw)⟩, fun i hi => nF _ _ (s1 i hi), fun b hb => ⟨(hF b hb).2, agr_rf⟩⟩, ⟨fun f i hd => ((own _ (dmn_vid hd).1).2.1 _).trans (w1 f i hd), (g0.2.1 6).trans w2, (g0.2.1 7).trans w3⟩, ⟨La, Sp, ow, fun w hw => ?_, ⟨(g2.2.2.1 3).trans q2, chn_agr Sp (fun a ha => (lin a (q2d a ha).2).1) q2b, q2c, fun a ha => ⟨(q2d a ha).1, (lin a (q2d a ha).2).2⟩⟩, fun a ln ha => ?_, ⟨(g2.2.1 2).trans q4, (g2.2.1 4).trans q5, q6⟩⟩, h6⟩
  · obtain ⟨b1, b2, b3, b4, b5, b6⟩ := q1 w hw
    have gw := own (60 + w) (by unfold vid; omega)
    exact ⟨(gw.2.2.1 0).trans b1, (gw.2.2.1 1).trans b2, chn_agr _ (fun a ha => (lin a (b6 a ha).2).1) b3, b4, FA2_mono _ _ (fun a ha x hx => ln_agr hx (lin a (b6 a ha).2).1) b5, fun a ha => ⟨(b6 a ha).1, (lin a (b6 a ha).2).2⟩⟩
  · obtain ⟨c1, c2, c3⟩ := q3 a ln ha
    exact ⟨c1, (lin a c2).2, ln_agr c3 (lin a c2).1⟩
theorem m3 (i : Nat) : (3 : Int32) * nI i = nI (3 * i) := (Int32.ofNat_mul 3 i).symm
theorem m_draw (M : Mem) {b L : Nat} (xs : Nat → Int32) {j : Nat} (hj : j < L) (hL : L ≤ 260) {post : Int32 → Prop} (hp : ∀ v, v < 2 ^ 31 → post (nI v)) : w_L_draw M b L xs (nI j) post := by
  intro J2 hJ2
  refine ⟨fun z => absurd z (nI_ge hj (by omega)), fun _ => ⟨vp_in_nI hj (by omega), hJ2 _ ?_⟩⟩
  obtain ⟨v, hv, e⟩ := nI_of_bits (xs (Int32.toNatClampNeg (nI j)) &&& 2147483647) (n := 31) (by omega) (fun i hi => by
    rw [b_and]
    by_cases e : i = 31
    · rw [e, show bt 2147483647 31 = false from by decide +kernel, Bool.and_false]
    · rw [b_big (x := 2147483647) (by omega), Bool.and_false])
  rw [e]
  exact hp v hv
theorem law_holds (b L : Nat) (xs : Nat → Int32) (hL : L ≤ 260) : w_L_law 600104 7301314 (fun _ => none, fun _ _ => 0, fun _ _ => none, fun _ _ => 0) b L xs := by
  refine ⟨⟨by omega, by omega⟩, fun q1 hq1 M2 e2 => ⟨80, 325, ⟨by omega, by omega⟩, p_x5init (Fo := fun _ => False) (by rw [e2, gT_sN, if_pos rfl]) (fun b hb => hb.elim) ⟨Nat.le_refl _, Nat.le_refl _⟩ (fun M6 A hl hA0 hC => ⟨⟨by omega, by omega⟩, fun q7 hq7 M8 e8 => ?_⟩)⟩⟩
  have a86 : ∀ b, gT M6 b ≠ none → agr M6 M8 b := fun b hb => by
    rw [e8]
    exact agr_sN agr_rf (fun e => hb (e ▸ hq7))
  have t8 : gT M8 q7 = some (10, 48) := by rw [e8, gT_sN, if_pos rfl]
  have hC8 : RepC A (fun b => b = q7) M8 M8 σ0 hl := rp_newFo hC a86 (fun b hb => by
    have hb : b = q7 := hb
    rw [hb]
    exact ⟨hq7, by rw [t8]; exact fun z => by cases z⟩)
  have hW : WB A q7 M8 σ0 := ⟨⟨hl, hC8⟩, t8⟩
  have g8 : ∀ j, gI M8 q7 j = 0 := fun j => by rw [e8, gI_sN, if_pos rfl]
  have hM : Mir M8 q7 σ0 := ⟨g8 0, g8 1, fun s _ => g8 _, fun u hu => absurd hu (Nat.not_lt_zero u)⟩
  have tr3 : treeL σ0 3 = 8 := by decide +kernel
  have h3 : L / 3 ≤ 86 := by omega
  rw [← hA0]
  refine a_clock hW (fun J15 hJ15 J55 hJ55 => ⟨fun _ => a_users hW ⟨fun _ => a_lines hW ⟨fun _ => a_tree (s := 3) hW (by omega) ⟨by omega, by omega⟩ ⟨fun _ => hJ15 1 _ _ (fun J17 hJ17 => ?_), fun z => absurd tr3 z⟩, fun z => absurd rfl z⟩, fun z => absurd rfl z⟩, fun z => absurd rfl z⟩)
  rw [show nI L / 3 = nI (L / 3) from div_nI (n := 3) (by omega) (by omega)]
  refine ⟨fun _ => hJ17 _ ?_, fun z => absurd (nI_le (b := 90) (by omega) (by omega)) z⟩
  refine Lp_for (L / 3) (fun i z => z.1 = 1 ∧ z.2.1 = nI i ∧ ∃ σ, WB A q7 z.2.2.1 σ ∧ Mir z.2.2.1 q7 σ ∧ Inv σ (2 * i) ∧ XI σ ∧ z.2.2.2.1 ≤ 82 + sgN σ 2 + 2 * i ∧ z.2.2.2.2 ≤ 400 + 8 * sgN σ 2 + 12 * i) (fun z => z.2.1.toNatClampNeg) (fun c z hc hz => by rw [hz.2.1]; exact clN (by omega)) ⟨rfl, rfl, σ0, hW, hM, inv_0, xi_0, by show 0 + 1 + 80 + 1 + 0 ≤ 82 + sgN σ0 2 + 2 * 0; omega, by show 0 + 8 + 325 + 48 + 0 ≤ 400 + 8 * sgN σ0 2 + 12 * 0; omega⟩ ?_
  intro i z K hi hz hK x18 x19 M20 k21 n22 ez
  subst ez
  obtain ⟨z1, z2, σ, hW2, hM2, hI, hX, hk, hn⟩ := hz
  have z1 : x18 = 1 := z1
  have z2 : x19 = nI i := z2
  have hW2 : WB A q7 M20 σ := hW2
  have hM2 : Mir M20 q7 σ := hM2
  have hk : k21 ≤ 82 + sgN σ 2 + 2 * i := hk
  have hn : n22 ≤ 400 + 8 * sgN σ 2 + 12 * i := hn
  subst z1
  subst z2
  intro J24 hJ24
  refine ⟨fun _ => hJ24 rfl, fun hnl => ⟨fun z => absurd z d10, fun _ => ?_⟩⟩
  have hlt : i < L / 3 := Nat.not_le.mp (fun z => hnl ((le_nI (by omega) (by omega)).mpr z))
  have hI2 := hI.2.2.2
  rw [m3, nI_1, show nI (3 * i) + 2 = nI (3 * i + 2) from nI_add _ 2]
  refine m_draw M20 xs (by omega) hL (fun w hw => m_draw M20 xs (by omega) hL (fun a ha => m_draw M20 xs (by omega) hL (fun b' hb' => ?_)))
  obtain ⟨σ', nx, H⟩ := m_step hW2 hM2 hI hX (by omega) hw ha hb'
  have hI3 := nx.1.2.2.2
  have h22 := nx.2.2
  have c1 : cK σ σ' = sgN σ' 2 - sgN σ 2 + 2 := rfl
  have c2 : cS σ σ' = 8 * (sgN σ' 2 - sgN σ 2) + 12 := rfl
  refine ⟨cK σ σ', cS σ σ', ⟨by omega, by omega⟩, H _ (fun M30 h30 m30 J35 hJ35 J39 hJ39 => ?_)⟩
  have nxt : ∀ k33 n34, k33 = k21 + cK σ σ' → n34 = n22 + cS σ σ' → J35 1 k33 n34 := fun k33 n34 ek en => hJ35 1 k33 n34 (fun x36 e36 => hK _ hlt ⟨rfl, by
    show x36 = nI (i + 1)
    rw [e36, nI_1], σ', h30, m30, nx.1, nx.2.1, by show k33 ≤ 82 + sgN σ' 2 + 2 * (i + 1); omega, by show n34 ≤ 400 + 8 * sgN σ' 2 + 12 * (i + 1); omega⟩)
  exact ⟨fun z => absurd z d10, fun _ J42 hJ42 => ⟨fun _ => hJ42 _ _ (nxt _ _ rfl rfl), fun _ => ⟨0, 0, ⟨by omega, by omega⟩, m_views h30 m30 nx.1 nx.2.1 ⟨fun z => absurd z d10, fun _ => hJ42 _ _ (nxt _ _ rfl rfl)⟩⟩⟩⟩
