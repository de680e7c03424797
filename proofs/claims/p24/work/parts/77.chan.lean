/-! JOIN, LEAVE, QUIT, SET MODES -/
theorem jn_I (σ : Sg) (u hm c f j : Nat) : sgI (joinL σ u hm c) f j = sgI (enL σ u hm c) f j := spread_I (enL σ u hm c) hm (-1) _ f j
theorem lv_I (σ : Sg) (u hm c f j : Nat) : sgI (leaveL σ u hm c) f j = sgI (dropL σ (hm * 4 + c) (nI u)) f j := spread_I (dropL σ (hm * 4 + c) (nI u)) hm (-1) _ f j
theorem qt_I (σ : Sg) (u hm f j : Nat) : sgI (quitL σ u hm) f j = sgI (forgetL σ hm (nI u)) f j := spread_I (forgetL σ hm (nI u)) hm (-1) _ f j
theorem md_I (σ : Sg) (hm c : Nat) (m b : Int32) (f j : Nat) : sgI (modL σ hm c m b) f j = sgI (mset σ (hm * 4 + c) m b) f j := spread_I (mset σ (hm * 4 + c) m b) hm (-1) _ f j
theorem jn_1 (σ : Sg) (u hm c : Nat) : sgN (joinL σ u hm c) 1 = sgN σ 1 + 1 := by
  show sgN (spreadL (enL σ u hm c) hm (-1) _) 1 + 1 = _
  rw [spread_N _ _ _ _ 1 (by decide)]
  exact congrArg (· + 1) (enter_N σ _ _ _ 1)
theorem lv_1 (σ : Sg) (u hm c : Nat) : sgN (leaveL σ u hm c) 1 = sgN σ 1 + 1 := by
  show sgN (spreadL (dropL σ (hm * 4 + c) (nI u)) hm (-1) _) 1 + 1 = _
  rw [spread_N _ _ _ _ 1 (by decide), drop_N]
theorem qt_1 (σ : Sg) (u hm : Nat) : sgN (quitL σ u hm) 1 = sgN σ 1 + 1 := by
  show sgN (spreadL (forgetL σ hm (nI u)) hm (-1) _) 1 + 1 = _
  rw [spread_N _ _ _ _ 1 (by decide), forget_N]
theorem md_1 (σ : Sg) (hm c : Nat) (m b : Int32) : sgN (modL σ hm c m b) 1 = sgN σ 1 + 1 := by
  show sgN (spreadL (mset σ (hm * 4 + c) m b) hm (-1) _) 1 + 1 = _
  rw [spread_N _ _ _ _ 1 (by decide)]
  rfl
theorem say_ge {σ : Sg} (hG : GR (sgI σ 0)) (u : Nat) {hm : Nat} (hh : hm < 6) (c : Nat) : ¬ sayL σ u hm c < -5 := by
  rcases say_c hG u hh c with e | e | e | e | ⟨n, hn, e⟩
  · rw [e]; decide
  · rw [e]; decide
  · rw [e]; decide
  · rw [e]; decide
  · rw [e]; exact (by decide +kernel : ∀ n, n < 6 → ¬ nI n < -5) n hn
theorem cN_sb1 {m : Int32} {u n : Nat} (hu : u < 32) (hn : u < n) (hb : ¬ bt m u = true) : cN (sb m (nI u)) n = cN m n + 1 := by
  have h := cN_cb (sb m (nI u)) hu ((sb_iff m hu u).mpr (Or.inr rfl)) n
  have e : cb (sb m (nI u)) (nI u) = m := b_ext (fun i hi => by
    refine Bool.eq_iff_iff.mpr ?_
    rw [cb_iff _ hu, sb_iff _ hu]
    constructor
    · rintro ⟨h1 | h1, h2⟩
      · exact h1
      · exact absurd h1 h2
    · intro h1
      exact ⟨Or.inl h1, fun z => hb (by rw [← z]; exact h1)⟩)
  rw [e, if_pos hn] at h
  exact h.symm
theorem cb_one {m : Int32} {u : Nat} (hu : u < 32) (hb : bt m u = true) : cb m (nI u) = 0 ↔ m = 1 <<< (nI u &&& 31) := by
  constructor
  · intro h
    refine b_ext (fun i hi => ?_)
    rw [b_pow hu hi]
    by_cases e : i = u
    · rw [e, hb]; simp
    · rw [decide_eq_false e]
      refine bt_false (fun z => ?_)
      have := (cb_iff m hu i).mpr ⟨z, e⟩
      rw [h, b_0] at this
      cases this
  · intro h
    refine b_ext (fun i hi => ?_)
    rw [b_0]
    refine bt_false (fun z => ?_)
    obtain ⟨z1, z2⟩ := (cb_iff m hu i).mp z
    rw [h, b_pow hu hi, decide_eq_true_eq] at z1
    exact z2 z1
section WH
variable {A : Nat → Nat} {cc : Nat} {M : Mem} {σ : Sg} {k : Nat}
theorem mem_20 (hI : Inv σ k) {s c : Nat} (hs : s < 6) (hc : c < 4) : ∀ i, 20 ≤ i → bt (sgI σ 5 (s * 4 + c)) i = false := fun i hi => bt_false (fun z => by
  have h1 := (inv_V hI).2.2.2 s c i hs hc z
  have h2 := (inv_V hI).2.2.1 s i hs h1
  have := inv_u hI
  omega)
theorem m_joins (hW : WB A cc M σ) (hM : Mir M cc σ) (hI : Inv σ k) (hX : XI σ) (hk : k ≤ 490) {u c : Nat} (hu : u < sgN σ 0) (hc : c < 4) : ∃ σ', Nx σ k σ' ∧ ∀ post : Mem → Int32 → Prop, (∀ M', WB A cc M' σ' → Mir M' cc σ' → post M' 1) → w_L_joins (cK σ σ') (cS σ σ') M (A 0) cc (nI u) (nI c) post := by
  have h20 := inv_u hI
  have hG := inv_G hI
  have hV := inv_V hI
  obtain ⟨hm, hh, he, hme⟩ := hm_ex hI hu
  obtain ⟨l, hl, hle⟩ := lt_ex hI hu
  have hi : hm * 4 + c < 24 := by omega
  have r28 : gI M cc (Int32.toNatClampNeg (28 + nI u)) = nI hm := by rw [ix_28 (by omega), (hM.2.2.2 u hu).2, he]
  have r8 : gI M cc (Int32.toNatClampNeg (8 + nI u)) = nI l := by rw [ix_8 (by omega), (hM.2.2.2 u hu).1, hle]
  by_cases hj : bt (sgI σ 1 hm) u = true ∧ ¬ (¬ sgI σ 4 (hm * 4 + c) = -1 ∧ bt (sgI σ 4 (hm * 4 + c)) l = true) ∧ ¬ bt (sgI σ 5 (hm * 4 + c)) u = true
  · obtain ⟨j1, j2, j3⟩ := hj
    have hg : goneL σ u hm = false := by unfold goneL; rw [j1]; rfl
    have hI' := inv_join hI (by omega) hu hh hc hg
    have h2 : sgN σ 2 ≤ sgN (joinL σ u hm c) 2 := by
      have := spread_2 (enL σ u hm c) hh (-1) (2, nI c, 1 <<< (nI u &&& 31), sgI (enL σ u hm c) 2 (hm * 4 + c), sgI (enL σ u hm c) 3 (hm * 4 + c), sgI (enL σ u hm c) 4 (hm * 4 + c))
      rw [show sgN (enL σ u hm c) 2 = sgN σ 2 from enter_N σ _ _ _ 2] at this
      exact this
    have hbar : ¬ barL σ u hm c := fun z => by
      rcases z with z | ⟨z1, z2⟩
      · exact j3 z
      · rw [hle, clN (by omega)] at z2
        exact j2 ⟨ng_m1 (hX.2.1 _ hi z1).2, z2⟩
    have t5 : sgI (joinL σ u hm c) 5 (hm * 4 + c) = sb (sgI σ 5 (hm * 4 + c)) (nI u) := by rw [jn_I, en_5]
    have t2 : sgI (joinL σ u hm c) 2 (hm * 4 + c) = if sgI σ 5 (hm * 4 + c) = 0 then nI (sgN σ 1) else sgI σ 2 (hm * 4 + c) := by rw [jn_I, en_2]
    have t3 : sgI (joinL σ u hm c) 3 (hm * 4 + c) = if sgI σ 5 (hm * 4 + c) = 0 then 0 else sgI σ 3 (hm * 4 + c) := by rw [jn_I, en_3]
    have t4 : sgI (joinL σ u hm c) 4 (hm * 4 + c) = if sgI σ 5 (hm * 4 + c) = 0 then 0 else sgI σ 4 (hm * 4 + c) := by rw [jn_I, en_4]
    have hcnt : bcL (sgI (joinL σ u hm c) 5 (hm * 4 + c)) = nI (cN (sgI σ 5 (hm * 4 + c)) 20) + 1 := by rw [bc_20 (mem_20 hI' hh hc), t5, cN_sb1 (by omega) (by omega) j3, nI_1]
    refine ⟨joinL σ u hm c, ⟨inv_up hI' (by omega), xi_join hX u hh hc, h2⟩, fun post hp => ⟨in_28 hW (by omega), fun x2 e2 => ?_⟩⟩
    rw [r28] at e2
    subst e2
    refine a_members hW hh hc ⟨Nat.zero_le _, Nat.zero_le _⟩ (a_bans hW hh hc ⟨Nat.zero_le _, Nat.zero_le _⟩ (fun J12 hJ12 J76 hJ76 => ?_))
    have go : J12 0 := by
      refine hJ12 0 ⟨0, 0, ⟨Nat.zero_le _, Nat.zero_le _⟩, m_there hW hM hI hu he hh (fun _ J16 hJ16 => ⟨fun z => absurd z d10, fun _ => ⟨fun _ => ⟨fun z => absurd ((hs_one _ (by omega)).mp z) j3, fun _ => ?_⟩, fun z => absurd rfl z⟩⟩) (fun z => absurd j1 z)⟩
      refine a_age hW hh hc ⟨Nat.zero_le _, Nat.zero_le _⟩ (fun J29 hJ29 => ?_)
      have body : ∀ x28, x28 = sgI (joinL σ u hm c) 2 (hm * 4 + c) → J29 x28 := fun x28 e28 => by
        refine hJ29 x28 ⟨in_0 hW, in_0 hW, fun M31 e31 => ?_⟩
        subst e31
        have hW31 := wb_w hW (Int32.toNatClampNeg 0) (gI M cc (Int32.toNatClampNeg 0) + 1)
        refine ⟨wb_0 hW31, cK σ (joinL σ u hm c), cS σ (joinL σ u hm c), ⟨by omega, by omega⟩, c_join hW31 hI (by omega) hu hc he hh j1 hbar (by unfold cK cS; omega) (fun M36 h36 hj => m_count M36 _ (fun J42 hJ42 J45 hJ45 => ?_))⟩
        have hM36 : Mir M36 cc (joinL σ u hm c) := mir_tick hM hj (kp_join σ u hm c) (jn_1 σ u hm c) (fun p _ => by rw [jn_I, en_o σ u hm c 0 p (by omega)])
        have fin : ∀ k9 n9, J42 1 k9 n9 := fun k9 n9 => hJ42 1 k9 n9 ⟨Or.inr rfl, hp M36 h36 hM36⟩
        refine ⟨fun _ => a_members h36 hh hc ⟨by omega, by omega⟩ ⟨fun _ => a_age h36 hh hc ⟨by omega, by omega⟩ ⟨fun _ J56 hJ56 => ⟨fun z => a_modes h36 hh hc ⟨by omega, by omega⟩ ⟨fun _ => a_bans h36 hh hc ⟨by omega, by omega⟩ ⟨fun _ => hJ56 _ _ (fin _ _), fun y => absurd ?_ y⟩, fun y => absurd ?_ y⟩, fun _ => hJ56 _ _ (fin _ _)⟩, fun z => absurd e28.symm z⟩, fun z => absurd t5 z⟩, fun z => absurd hcnt z⟩
        · rw [t4, if_pos ((hV.1 _ hi).1.mpr z)]
        · rw [t3, if_pos ((hV.1 _ hi).1.mpr z)]
      refine ⟨fun z => ⟨in_0 hW, ?_⟩, fun z => body _ ?_⟩
      · rw [ix_0, hM.1]
        exact body _ (by rw [t2, if_pos ((hV.1 _ hi).1.mpr z)])
      · rw [t2, if_neg (fun y => z ((hV.1 _ hi).1.mp y))]
    refine ⟨fun _ => hJ76 go, fun z => ⟨in_8 hW (by omega), ?_⟩⟩
    rw [r8]
    exact ⟨fun zb => absurd ⟨z, (hs_one _ (by omega)).mp zb⟩ j2, fun _ => hJ76 go⟩
  · refine ⟨σ, nx_rf hI hX, fun post hp => ⟨in_28 hW (by omega), fun x2 e2 => ?_⟩⟩
    rw [r28] at e2
    subst e2
    obtain ⟨q1, q2⟩ := ck2 σ σ
    refine a_members hW hh hc ⟨Nat.zero_le _, Nat.zero_le _⟩ (a_bans hW hh hc ⟨Nat.zero_le _, Nat.zero_le _⟩ (fun J12 hJ12 J76 hJ76 => ?_))
    have core : ∀ x11, (x11 = 0 → ¬ (¬ sgI σ 4 (hm * 4 + c) = -1 ∧ bt (sgI σ 4 (hm * 4 + c)) l = true)) → J12 x11 := fun x11 hx => by
      have say : ∀ J16 : Prop, (_ → J16) → J16 := fun J16 hJ16 => hJ16 (a_say (k9 := 0) (n := 0) (mc := cK σ σ) (ms := cS σ σ) hW hI hu hc he hh ⟨by omega, by omega⟩ (R := fun _ _ x20 => ∀ J22 : Int32 → Prop, (∀ (x21 : Int32), (((x21 : Int32) = 0 ∨ (x21 : Int32) = 1) ∧ post M x21) → J22 x21) → ((x20 < (-5) → J22 0) ∧ (¬ (x20 < (-5)) → J22 1))) (fun J22 hJ22 => ⟨fun z => absurd z (say_ge hG u hh c), fun _ => hJ22 1 ⟨Or.inr rfl, hp M hW hM⟩⟩))
      exact hJ12 x11 ⟨0, 0, ⟨Nat.zero_le _, Nat.zero_le _⟩, m_there hW hM hI hu he hh (fun e J16 hJ16 => ⟨fun z => absurd z d10, fun _ => ⟨fun z0 => ⟨fun _ => say J16 hJ16, fun zm => absurd ⟨e, hx z0, fun y => zm ((hs_one _ (by omega)).mpr y)⟩ hj⟩, fun _ => say J16 hJ16⟩⟩) (fun e J16 hJ16 => ⟨fun _ => say J16 hJ16, fun z => absurd rfl z⟩)⟩
    refine ⟨fun z => hJ76 (core 0 (fun _ y => y.1 z)), fun z => ⟨in_8 hW (by omega), ?_⟩⟩
    rw [r8]
    exact ⟨fun _ => core 1 (fun y => absurd y d10), fun zb => hJ76 (core 0 (fun _ y => zb ((hs_one _ (by omega)).mpr y.2)))⟩
theorem say_gone {u hm : Nat} (c : Nat) (h : ¬ bt (sgI σ 1 hm) u = true) : sayL σ u hm c = -2 := by
  unfold sayL goneL
  rw [bt_false h]
  rfl
theorem say_no {u hm c : Nat} (h : bt (sgI σ 1 hm) u = true) (hb : ¬ bt (sgI σ 5 (hm * 4 + c)) u = true) : sayL σ u hm c = -3 := by
  unfold sayL goneL
  rw [h, if_neg (by decide), if_pos hb]
theorem m_leaves (hW : WB A cc M σ) (hM : Mir M cc σ) (hI : Inv σ k) (hX : XI σ) (hk : k ≤ 490) {u c : Nat} (hu : u < sgN σ 0) (hc : c < 4) (b : Int32) : ∃ σ', Nx σ k σ' ∧ ∀ post : Mem → Int32 → Prop, (∀ M', WB A cc M' σ' → Mir M' cc σ' → post M' 1) → w_L_leaves (cK σ σ') (cS σ σ') M (A 0) cc (nI u) (nI c) b post := by
  have h20 := inv_u hI
  have hG := inv_G hI
  have hV := inv_V hI
  obtain ⟨hm, hh, he, hme⟩ := hm_ex hI hu
  have hi : hm * 4 + c < 24 := by omega
  have r28 : gI M cc (Int32.toNatClampNeg (28 + nI u)) = nI hm := by rw [ix_28 (by omega), (hM.2.2.2 u hu).2, he]
  obtain ⟨q1, q2⟩ := ck2 σ σ
  by_cases hg : bt (sgI σ 1 hm) u = true
  · by_cases hb : b = 0
    · by_cases hmb : bt (sgI σ 5 (hm * 4 + c)) u = true
      · have hI' := inv_leave hI (by omega) hu hh hc
        have hV' := inv_V hI'
        have h2 : sgN σ 2 ≤ sgN (leaveL σ u hm c) 2 := by
          have := spread_2 (dropL σ (hm * 4 + c) (nI u)) hh (-1) (3, nI c, nI u, 0, 0, 0)
          rw [drop_N] at this
          exact this
        refine ⟨leaveL σ u hm c, ⟨inv_up hI' (by omega), xi_leave hX u hm c, h2⟩, fun post hp => ⟨in_28 hW (by omega), fun x2 e2 => ?_⟩⟩
        rw [r28] at e2
        subst e2
        refine a_members hW hh hc ⟨Nat.zero_le _, Nat.zero_le _⟩ ⟨0, 0, ⟨Nat.zero_le _, Nat.zero_le _⟩, m_there hW hM hI hu he hh (fun _ => ⟨fun z => absurd z d10, fun _ => ⟨fun _ => ⟨fun z => ?_, fun _ => ⟨in_0 hW, in_0 hW, fun M11 e11 => ?_⟩⟩, fun z => absurd hb z⟩⟩) (fun z => absurd hg z)⟩
        · have := (hs_ex _ (by omega)).mp z
          rw [hmb] at this
          cases this
        · subst e11
          have hW11 := wb_w hW (Int32.toNatClampNeg 0) (gI M cc (Int32.toNatClampNeg 0) + 1)
          refine ⟨wb_0 hW11, cK σ (leaveL σ u hm c), cS σ (leaveL σ u hm c), ⟨by omega, by omega⟩, c_leave hW11 hI (by omega) hu hc he hh hg hmb (by unfold cK cS; omega) (fun M16 h16 hj => ?_)⟩
          have hM16 : Mir M16 cc (leaveL σ u hm c) := mir_tick hM hj (kp_leave σ u hm c) (lv_1 σ u hm c) (fun p _ => by rw [lv_I, dr_I σ _ _ 0 p (by omega)])
          have t5 : sgI (leaveL σ u hm c) 5 (hm * 4 + c) = cb (sgI σ 5 (hm * 4 + c)) (nI u) := by rw [lv_I, dr_5, if_pos rfl]
          have t2 : sgI (leaveL σ u hm c) 2 (hm * 4 + c) = -1 ↔ sgI σ 5 (hm * 4 + c) = 1 <<< (nI u &&& 31) := by
            have hci : sgI (leaveL σ u hm c) 5 (hm * 4 + c) = 0 ↔ sgI (leaveL σ u hm c) 2 (hm * 4 + c) = -1 := (hV'.1 _ hi).1
            rw [← hci, t5]
            exact cb_one (by omega) hmb
          refine a_members h16 hh hc ⟨by omega, by omega⟩ (fun J24 hJ24 J27 hJ27 => ⟨fun _ => a_age h16 hh hc ⟨by omega, by omega⟩ (fun J33 hJ33 => ?_), fun z => absurd t5 z⟩)
          have fin : ∀ k9 n9, J24 1 k9 n9 := fun k9 n9 => hJ24 1 k9 n9 ⟨Or.inr rfl, hp M16 h16 hM16⟩
          exact ⟨fun z => hJ33 1 (fun J35 hJ35 => ⟨fun _ => hJ35 1 ⟨fun _ => fin _ _, fun y => absurd rfl y⟩, fun y => absurd (t2.mp z) y⟩), fun z => hJ33 0 (fun J35 hJ35 => ⟨fun y => absurd (t2.mpr y) z, fun _ => hJ35 0 ⟨fun _ => fin _ _, fun y => absurd rfl y⟩⟩)⟩
      · refine ⟨σ, nx_rf hI hX, fun post hp => ⟨in_28 hW (by omega), fun x2 e2 => ?_⟩⟩
        rw [r28] at e2
        subst e2
        refine a_members hW hh hc ⟨Nat.zero_le _, Nat.zero_le _⟩ ⟨0, 0, ⟨Nat.zero_le _, Nat.zero_le _⟩, m_there hW hM hI hu he hh (fun _ => ⟨fun z => absurd z d10, fun _ => ⟨fun _ => ⟨fun _ => a_say hW hI hu hc he hh ⟨by omega, by omega⟩ (fun J hJ => ⟨fun _ => hJ 1 ⟨Or.inr rfl, hp M hW hM⟩, fun z => absurd (say_no hg hmb) z⟩), fun z => absurd ((hs_ex _ (by omega)).mpr (bt_false hmb)) z⟩, fun z => absurd hb z⟩⟩) (fun z => absurd hg z)⟩
    · have hI' := inv_quit hI (by omega) hu hh
      have h2 : sgN σ 2 ≤ sgN (quitL σ u hm) 2 := by
        have := spread_2 (forgetL σ hm (nI u)) hh (-1) (qln 1 u)
        rw [forget_N] at this
        exact this
      refine ⟨quitL σ u hm, ⟨inv_up hI' (by omega), xi_quit hX u hm, h2⟩, fun post hp => ⟨in_28 hW (by omega), fun x2 e2 => ?_⟩⟩
      rw [r28] at e2
      subst e2
      refine a_members hW hh hc ⟨Nat.zero_le _, Nat.zero_le _⟩ ⟨0, 0, ⟨Nat.zero_le _, Nat.zero_le _⟩, m_there hW hM hI hu he hh (fun _ => ⟨fun z => absurd z d10, fun _ => ⟨fun z => absurd z hb, fun _ => ⟨in_0 hW, in_0 hW, fun M49 e49 => ?_⟩⟩⟩) (fun z => absurd hg z)⟩
      subst e49
      have hW49 := wb_w hW (Int32.toNatClampNeg 0) (gI M cc (Int32.toNatClampNeg 0) + 1)
      refine ⟨wb_0 hW49, cK σ (quitL σ u hm), cS σ (quitL σ u hm), ⟨by omega, by omega⟩, c_quit hW49 hI (by omega) hu he hh hg (by unfold cK cS; omega) (fun M54 h54 hj => ?_)⟩
      have hM54 : Mir M54 cc (quitL σ u hm) := mir_tick hM hj (kp_quit σ u hm) (qt_1 σ u hm) (fun p _ => by rw [qt_I, forget_I _ _ _ 0 p (Or.inl rfl)])
      have t1 : ¬ bt (sgI (quitL σ u hm) 1 hm) u = true := fun z => by
        rw [qt_I, fg_1, if_pos rfl, cb_iff _ (by omega)] at z
        exact z.2 rfl
      have t5 : sgI (quitL σ u hm) 5 (hm * 4 + c) = cb (sgI σ 5 (hm * 4 + c)) (nI u) := by rw [qt_I, fg_5, if_pos (by omega)]
      have t0 : u < sgN (quitL σ u hm) 0 := by rw [(kp_quit σ u hm).1]; exact hu
      have t7 : sgI (quitL σ u hm) 7 u = nI hm := by rw [(kp_quit σ u hm).2 7 u (by omega), he]
      exact ⟨0, 0, ⟨by omega, by omega⟩, m_there h54 hM54 hI' t0 t7 hh (fun z => absurd z t1) (fun _ J61 hJ61 J64 hJ64 => ⟨fun _ => a_members h54 hh hc ⟨by omega, by omega⟩ ⟨fun _ => hJ61 1 _ _ ⟨Or.inr rfl, hp M54 h54 hM54⟩, fun z => absurd t5 z⟩, fun z => absurd rfl z⟩)⟩
  · refine ⟨σ, nx_rf hI hX, fun post hp => ⟨in_28 hW (by omega), fun x2 e2 => ?_⟩⟩
    rw [r28] at e2
    subst e2
    refine a_members hW hh hc ⟨Nat.zero_le _, Nat.zero_le _⟩ ⟨0, 0, ⟨Nat.zero_le _, Nat.zero_le _⟩, m_there hW hM hI hu he hh (fun z => absurd z hg) (fun _ => ⟨fun _ => a_say hW hI hu hc he hh ⟨by omega, by omega⟩ (fun J hJ => ⟨fun _ => hJ 1 ⟨Or.inr rfl, hp M hW hM⟩, fun z => absurd (say_gone c hg) z⟩), fun z => absurd rfl z⟩)⟩
theorem odd_bt : ∀ m, m < 16 → (nI m - nI m / 2 * 2 = 1 ↔ bt (nI m) 0 = true) := by decide +kernel
theorem rg_ok : ∀ m, m < 16 → ∀ b, b < 64 → 0 ≤ nI m ∧ nI m ≤ 15 ∧ 0 ≤ nI b ∧ nI b ≤ 67108863 := by decide +kernel
theorem ng_nI {m : Nat} (h : m < 64) : ng (nI m) := (by decide +kernel : ∀ m, m < 64 → bt (nI m) 31 = false) m h
theorem m_sets (hW : WB A cc M σ) (hM : Mir M cc σ) (hI : Inv σ k) (hX : XI σ) (hk : k ≤ 490) {u c m b : Nat} (hu : u < sgN σ 0) (hc : c < 4) (hm16 : m < 16) (hb64 : b < 64) : ∃ σ', Nx σ k σ' ∧ ∀ post : Mem → Int32 → Prop, (∀ M', WB A cc M' σ' → Mir M' cc σ' → post M' 1) → w_L_sets (cK σ σ') (cS σ σ') M (A 0) cc (nI u) (nI c) (nI m) (nI b) post := by
  have h20 := inv_u hI
  have hG := inv_G hI
  have hV := inv_V hI
  obtain ⟨hm, hh, he, hme⟩ := hm_ex hI hu
  obtain ⟨l, hl, hle⟩ := lt_ex hI hu
  have hi : hm * 4 + c < 24 := by omega
  have r28 : gI M cc (Int32.toNatClampNeg (28 + nI u)) = nI hm := by rw [ix_28 (by omega), (hM.2.2.2 u hu).2, he]
  obtain ⟨q1, q2⟩ := ck2 σ σ
  by_cases hg : bt (sgI σ 1 hm) u = true
  · by_cases hmb : bt (sgI σ 5 (hm * 4 + c)) u = true
    · have hI' := inv_mod hI (by omega) hh hc hmb (nI m) (nI b)
      have hG' := inv_G hI'
      have h2 : sgN σ 2 ≤ sgN (modL σ hm c (nI m) (nI b)) 2 := spread_2 (mset σ (hm * 4 + c) (nI m) (nI b)) hh (-1) (4, nI c, 0, sgI σ 2 (hm * 4 + c), nI m, nI b)
      have mI : ∀ f j, ¬ ((f = 3 ∨ f = 4) ∧ j = hm * 4 + c) → sgI (modL σ hm c (nI m) (nI b)) f j = sgI σ f j := fun f j hf => by
        rw [md_I]
        show sgI (uI (uI σ 3 _ _) 4 _ _) f j = _
        rw [sgI_uI, if_neg (by omega), sgI_uI, if_neg (by omega)]
      have t3 : sgI (modL σ hm c (nI m) (nI b)) 3 (hm * 4 + c) = nI m := by
        rw [md_I]
        show sgI (uI (uI σ 3 (hm * 4 + c) (nI m)) 4 (hm * 4 + c) (nI b)) 3 (hm * 4 + c) = _
        rw [sgI_uI, if_neg (by omega), sgI_uI, if_pos ⟨rfl, rfl⟩]
      have t4 : sgI (modL σ hm c (nI m) (nI b)) 4 (hm * 4 + c) = nI b := by
        rw [md_I]
        show sgI (uI (uI σ 3 (hm * 4 + c) (nI m)) 4 (hm * 4 + c) (nI b)) 4 (hm * 4 + c) = _
        rw [sgI_uI, if_pos ⟨rfl, rfl⟩]
      have t2 := mI 2 (hm * 4 + c) (by omega)
      have hk' : kp σ (modL σ hm c (nI m) (nI b)) := kp_mod σ hm c (nI m) (nI b)
      have t0 : u < sgN (modL σ hm c (nI m) (nI b)) 0 := by rw [hk'.1]; exact hu
      have t7 : sgI (modL σ hm c (nI m) (nI b)) 7 u = nI hm := by rw [hk'.2 7 u (by omega), he]
      have t6 : sgI (modL σ hm c (nI m) (nI b)) 6 u = nI l := by rw [hk'.2 6 u (by omega), hle]
      have t1 : bt (sgI (modL σ hm c (nI m) (nI b)) 1 hm) u = true := by rw [mI 1 hm (by omega)]; exact hg
      have t5 : bt (sgI (modL σ hm c (nI m) (nI b)) 5 (hm * 4 + c)) u = true := by rw [mI 5 _ (by omega)]; exact hmb
      -- what say answers
      have s1 : sayL (modL σ hm c (nI m) (nI b)) u hm c = -4 ↔ bt (nI b) l = true := by
        unfold sayL goneL
        rw [t1, if_neg (by decide), if_neg (fun z => z t5), t4, t6, clN (by omega)]
        constructor
        · intro h
          refine Classical.byContradiction (fun z => ?_)
          rw [if_neg z] at h
          split at h
          · exact absurd h (by decide)
          · obtain ⟨n, h1, h3⟩ := lt_rng hG' hh (hmN (modL σ hm c (nI m) (nI b)) (cb (sgI (modL σ hm c (nI m) (nI b)) 5 (hm * 4 + c)) (nI u)) (sgN (modL σ hm c (nI m) (nI b)) 0))
            have h4 := cN_le (treeL (modL σ hm c (nI m) (nI b)) hm) 6
            rw [h1] at h
            exact (by decide +kernel : ∀ n, n < 6 → ¬ nI n = -4) n (by omega) h
        · intro h
          rw [if_pos h]
      have s2 : ¬ bt (nI b) l = true → ¬ bt (nI m) 0 = true → ∃ n, sayL (modL σ hm c (nI m) (nI b)) u hm c = nI n ∧ n < cN (treeL (modL σ hm c (nI m) (nI b)) hm) 6 := fun z1 z2 => by
        unfold sayL goneL
        rw [t1, if_neg (by decide), if_neg (fun z => z t5), t4, t6, clN (by omega), if_neg z1, t3, if_neg (fun z => z2 z.1)]
        exact lt_rng hG' hh _
      refine ⟨modL σ hm c (nI m) (nI b), ⟨inv_up hI' (by omega), xi_mod hX hm c (ng_nI (by omega)) (ng_nI hb64), h2⟩, fun post hp => ⟨in_28 hW (by omega), fun x2 e2 => ?_⟩⟩
      rw [r28] at e2
      subst e2
      refine ⟨0, 0, ⟨Nat.zero_le _, Nat.zero_le _⟩, m_there hW hM hI hu he hh (fun _ J8 hJ8 => ⟨fun z => absurd z d10, fun _ => a_members hW hh hc ⟨Nat.zero_le _, Nat.zero_le _⟩ ⟨fun z => ?_, fun _ => a_modes hW hh hc ⟨Nat.zero_le _, Nat.zero_le _⟩ (a_age hW hh hc ⟨Nat.zero_le _, Nat.zero_le _⟩ ⟨in_0 hW, in_0 hW, fun M29 e29 => ?_⟩)⟩⟩) (fun z => absurd hg z)⟩
      · have := (hs_ex _ (by omega)).mp z
        rw [hmb] at this
        cases this
      · subst e29
        have hW29 := wb_w hW (Int32.toNatClampNeg 0) (gI M cc (Int32.toNatClampNeg 0) + 1)
        have bd : sgN (modL σ hm c (nI m) (nI b)) 2 - sgN σ 2 + 2 = cK σ (modL σ hm c (nI m) (nI b)) ∧ 8 * (sgN (modL σ hm c (nI m) (nI b)) 2 - sgN σ 2) + 12 = cS σ (modL σ hm c (nI m) (nI b)) := ⟨rfl, rfl⟩
        obtain ⟨bd1, bd2⟩ := bd
        refine ⟨wb_0 hW29, sgN (modL σ hm c (nI m) (nI b)) 2 - sgN σ 2 + 1, 8 * (sgN (modL σ hm c (nI m) (nI b)) 2 - sgN σ 2) + 6, ⟨by omega, by omega⟩, c_modes hW29 hI (by omega) hu hc he hh hg hmb (rg_ok m hm16 b hb64) ⟨Nat.le_refl _, Nat.le_refl _⟩ (fun M34 h34 hj J39 hJ39 J74 hJ74 => ?_)⟩
        have hM34 : Mir M34 cc (modL σ hm c (nI m) (nI b)) := mir_tick hM hj hk' (md_1 σ hm c _ _) (fun p _ => mI 0 p (by omega))
        have r8 : gI M34 cc (Int32.toNatClampNeg (8 + nI u)) = nI l := by rw [ix_8 (by omega), (hM34.2.2.2 u t0).1, t6]
        have fin : ∀ k37 n38, k37 = 0 + 0 + 0 + 0 + 0 + (sgN (modL σ hm c (nI m) (nI b)) 2 - sgN σ 2 + 1) + 0 + 0 + 0 → n38 = 0 + 0 + 0 + 0 + 0 + (8 * (sgN (modL σ hm c (nI m) (nI b)) 2 - sgN σ 2) + 6) + 0 + 0 + 0 → J39 1 k37 n38 := by
          intro k37 n38 ek en
          refine hJ39 1 k37 n38 (a_say h34 hI' t0 hc t7 hh ⟨by omega, by omega⟩ ⟨in_8 h34 (by omega), fun J46 hJ46 => ?_⟩)
          rw [r8]
          have tail : ∀ (x45 : Int32), (x45 = 0 ∨ x45 = 1) → (x45 = 1 ↔ bt (nI b) l = true) → J46 x45 := fun x45 h01 hx => by
            refine hJ46 x45 (fun J50 hJ50 J53 hJ53 => ⟨fun z => absurd z d10, fun _ J55 hJ55 => ?_⟩)
            have ok : ∀ k' n', J50 1 k' n' := fun k' n' => hJ50 1 k' n' ⟨Or.inr rfl, hp M34 h34 hM34⟩
            have fine : J55 x45 := by
              refine hJ55 x45 ⟨fun _ J58 hJ58 => ⟨fun z0 => ⟨fun _ => hJ58 _ _ (ok _ _), fun zo => ?_⟩, fun _ => hJ58 _ _ (ok _ _)⟩, fun z => absurd rfl z⟩
              have z1 : ¬ bt (nI b) l = true := fun y => absurd (hx.mpr y) (by rw [z0]; decide)
              have z2 : ¬ bt (nI m) 0 = true := fun y => zo ((odd_bt m hm16).mpr y)
              obtain ⟨n, n1, n2⟩ := s2 z1 z2
              have n3 := cN_le (treeL (modL σ hm c (nI m) (nI b)) hm) 6
              rw [n1]
              refine ⟨fun z => absurd z (nI_pos (by omega)), fun _ => a_tree h34 hh ⟨by omega, by omega⟩ (m_count M34 _ ⟨fun z => absurd z ?_, fun _ => hJ58 _ _ (ok _ _)⟩)⟩
              rw [cN_6 (by rw [tree_clo]; exact clo_b6 hh hG'.1)]
              exact nI_ge n2 (by omega)
            refine ⟨fun z => ?_, fun z => ?_⟩
            · have : x45 = 1 := hx.mpr (s1.mp z)
              rw [this] at fine
              exact fine
            · have h9 : x45 = 0 := h01.resolve_right (fun y => z (s1.mpr (hx.mp y)))
              rw [h9] at fine
              exact fine
          exact ⟨fun z => tail 1 (Or.inr rfl) ⟨fun _ => (hs_one _ (by omega)).mp z, fun _ => rfl⟩, fun z => tail 0 (Or.inl rfl) ⟨fun y => absurd y (by decide), fun y => absurd ((hs_one _ (by omega)).mpr y) z⟩⟩
        exact ⟨fun _ => a_modes h34 hh hc ⟨by omega, by omega⟩ ⟨fun _ => a_bans h34 hh hc ⟨by omega, by omega⟩ ⟨fun _ => a_age h34 hh hc ⟨by omega, by omega⟩ ⟨fun _ => fin _ _ rfl rfl, fun z => absurd t2 z⟩, fun z => absurd t4 z⟩, fun z => absurd t3 z⟩, fun z => absurd rfl z⟩
    · refine ⟨σ, nx_rf hI hX, fun post hp => ⟨in_28 hW (by omega), fun x2 e2 => ?_⟩⟩
      rw [r28] at e2
      subst e2
      refine ⟨0, 0, ⟨Nat.zero_le _, Nat.zero_le _⟩, m_there hW hM hI hu he hh (fun _ J8 hJ8 => ⟨fun z => absurd z d10, fun _ => a_members hW hh hc ⟨Nat.zero_le _, Nat.zero_le _⟩ ⟨fun _ => hJ8 _ _ (a_say hW hI hu hc he hh ⟨by omega, by omega⟩ (fun J hJ => ⟨fun z => absurd z (by rw [say_no hg hmb]; decide), fun _ => hJ 1 ⟨Or.inr rfl, hp M hW hM⟩⟩)), fun z => absurd ((hs_ex _ (by omega)).mpr (bt_false hmb)) z⟩⟩) (fun z => absurd hg z)⟩
  · refine ⟨σ, nx_rf hI hX, fun post hp => ⟨in_28 hW (by omega), fun x2 e2 => ?_⟩⟩
    rw [r28] at e2
    subst e2
    refine ⟨0, 0, ⟨Nat.zero_le _, Nat.zero_le _⟩, m_there hW hM hI hu he hh (fun z => absurd z hg) (fun _ J8 hJ8 => ⟨fun _ => hJ8 _ _ (a_say hW hI hu hc he hh ⟨by omega, by omega⟩ (fun J hJ => ⟨fun z => absurd z (by rw [say_gone c hg]; decide), fun _ => hJ 1 ⟨Or.inr rfl, hp M hW hM⟩⟩)), fun z => absurd rfl z⟩)⟩
end WH
