/-! ONE STEP -/
theorem rem_nI {a n : Nat} (ha : a < 2 ^ 31) (hn : n < 2 ^ 31) : nI a - nI a / nI n * nI n = nI (a % n) := Int32.toInt_inj.mp (by
  rw [rem_toInt, nI_toInt ha, nI_toInt hn, nI_toInt (Nat.lt_of_le_of_lt (Nat.mod_le _ _) ha)]
  rfl)
theorem div_nI {a n : Nat} (ha : a < 2 ^ 31) (hn : n < 2 ^ 31) : nI a / nI n = nI (a / n) := Int32.toInt_inj.mp (by
  have h1 : a / n < 2 ^ 31 := Nat.lt_of_le_of_lt (Nat.div_le_self _ _) ha
  rw [Int32.toInt_div, nI_toInt ha, nI_toInt hn, nI_toInt h1]
  have key : ∀ q : Nat, q < 2 ^ 31 → Int.bmod (q : Int) (2 ^ 32) = q := fun q hq => Int.bmod_eq_of_le (by omega) (by omega)
  exact key _ h1)
theorem r13 {w : Nat} (h : w < 2 ^ 31) : nI w - nI w / 13 * 13 = nI (w % 13) := rem_nI (n := 13) h (by omega)
theorem r6 {w : Nat} (h : w < 2 ^ 31) : nI w - nI w / 6 * 6 = nI (w % 6) := rem_nI (n := 6) h (by omega)
theorem r4 {w : Nat} (h : w < 2 ^ 31) : nI w - nI w / 4 * 4 = nI (w % 4) := rem_nI (n := 4) h (by omega)
theorem r626 {a : Nat} (h : a < 2 ^ 31) : nI a / 6 - nI a / 6 / 26 * 26 = nI (a / 6 % 26) := by
  rw [show nI a / 6 = nI (a / 6) from div_nI (n := 6) h (by omega)]
  exact rem_nI (n := 26) (by omega) (by omega)
theorem r66 {a : Nat} (h : a < 2 ^ 31) : nI a / 6 - nI a / 6 / 6 * 6 = nI (a / 6 % 6) := by
  rw [show nI a / 6 = nI (a / 6) from div_nI (n := 6) h (by omega)]
  exact rem_nI (n := 6) (by omega) (by omega)
theorem r416 {a : Nat} (h : a < 2 ^ 31) : nI a / 4 - nI a / 4 / 16 * 16 = nI (a / 4 % 16) := by
  rw [show nI a / 4 = nI (a / 4) from div_nI (n := 4) h (by omega)]
  exact rem_nI (n := 16) (by omega) (by omega)
theorem r2064 {a : Nat} (h : a < 2 ^ 31) : nI a / 20 - nI a / 20 / 64 * 64 = nI (a / 20 % 64) := by
  rw [show nI a / 20 = nI (a / 20) from div_nI (n := 20) h (by omega)]
  exact rem_nI (n := 64) (by omega) (by omega)
theorem n0 {n : Nat} (h : n < 2 ^ 31) : nI n = 0 ↔ n = 0 := nI_eq (b := 0) h (by omega)
theorem drO_ph {k : Nat} {σ : Sg} (hp : PD k σ) : Ph (drL σ).1 + (drL σ).2 ≤ Ph σ := (drO_cnt (pd_OK k) (pd_falls k) hp 6 (Nat.le_refl _)).1
theorem da_ph {k : Nat} {σ : Sg} (hp : PD k σ) : ∀ r, Ph (daN σ r).1 + (daN σ r).2 ≤ Ph σ := by
  intro r
  induction r with
  | zero => exact Nat.le_refl _
  | succ r ih =>
    have := drO_ph (da_P (pd_OK k) hp r)
    show Ph (drL (daN σ r).1).1 + ((daN σ r).2 + (drL (daN σ r).1).2) ≤ Ph σ
    omega
theorem da_keep {k : Nat} {σ : Sg} (hp : PD k σ) (R : Nat) : kp σ (daN σ R).1 ∧ (∀ p, sgI (daN σ R).1 0 p = sgI σ 0 p) ∧ sgN (daN σ R).1 1 = sgN σ 1 := by
  have hO : OKd (fun τ => PD k τ ∧ kp σ τ ∧ (∀ p, sgI τ 0 p = sgI σ 0 p) ∧ sgN τ 1 = sgN σ 1) := fun τ h => by
    obtain ⟨a, b, c, d⟩ := pd_OK k τ h.1
    refine ⟨a, b, c, fun x y hx hy => ⟨d x y hx hy, ⟨(dlv_N τ x y 0 (by decide)).trans h.2.1.1, fun f u hf => (dlv_I τ x y f u (Or.inr hf)).trans (h.2.1.2 f u hf)⟩, fun p => (dlv_I τ x y 0 p (Or.inl rfl)).trans (h.2.2.1 p), (dlv_N τ x y 1 (by decide)).trans h.2.2.2⟩⟩
  exact (da_P hO (σ := σ) ⟨hp, ⟨rfl, fun _ _ _ => rfl⟩, fun _ => rfl, rfl⟩ R).2
theorem tot_split (σ : Sg) {s t : Nat} (hs : s < 6) (ht : t < 6) : tot (splitL σ s t) ≤ tot σ := by
  have e : tot (splitL σ s t) = tot (cutL σ s t) := tot_congr (fun w => fs_Q (cutL σ s t) w 6)
  rw [e]
  exact Nat.le_trans (tot_clear _ (show t * 6 + s < 36 by omega)) (tot_clear (unlinkL σ s t) (show s * 6 + t < 36 by omega))
section WI
variable {A : Nat → Nat} {cc : Nat} {M : Mem} {σ : Sg} {k : Nat}
theorem c_all (h : WB A cc M σ) (hI : Inv σ k) (hk : k ≤ 500) {R : Nat} (hR1 : R ≤ Ph σ) (hR2 : tot (daN σ R).1 = 0) (hR3 : ∀ r, r < R → tot (daN σ r).1 ≠ 0) {mc ms : Nat} (hb : sgN (daN σ R).1 2 - sgN σ 2 + 1 ≤ mc ∧ 8 * (sgN (daN σ R).1 2 - sgN σ 2) + 6 ≤ ms) {post : Mem → Int32 → Prop} (hp : ∀ M', WB A cc M' (tickL (daN σ R).1) → (∀ j, gI M' cc j = gI M cc j) → post M' (nI (daN σ R).2)) : w_X5_deliverAll mc ms M (A 0) post := by
  obtain ⟨⟨hl, hC⟩, hT⟩ := id h
  have hph := inv_Ph hI
  exact p_deliverAll hC (pd_OK k) (inv_PD hI (by omega)) (R := R) (by omega) (Or.inr hR2) hR3 ⟨by omega, by omega⟩ (fun M' hl' h' => hp M' (wb_c h h').1 (wb_c h h').2)
set_option maxHeartbeats 8000000 in
theorem m_step0 (hW : WB A cc M σ) (hM : Mir M cc σ) (hI : Inv σ k) (hX : XI σ) (hk : k ≤ 490) {w a b : Nat} (hw : w < 2 ^ 31) (ha : a < 2 ^ 31) (hb : b < 2 ^ 31) (ev : w % 13 = 0) : ∃ σ', Nx σ k σ' ∧ ∀ post : Mem → Int32 → Prop, (∀ M', WB A cc M' σ' → Mir M' cc σ' → post M' 1) → w_L_step (cK σ σ') (cS σ σ') M (A 0) cc (nI w) (nI a) (nI b) post := by
  have h20 := inv_u hI
  have hG := inv_G hI
  have hV := inv_V hI
  have hs : a % 6 < 6 := Nat.mod_lt _ (by omega)
  have ht : b % 6 < 6 := Nat.mod_lt _ (by omega)
  have hc : a % 4 < 4 := Nat.mod_lt _ (by omega)
  · have hv0 := ev
    obtain ⟨σ', nx, H⟩ := m_links hW hM hI hX hk hs ht
    refine ⟨σ', nx, fun post hp x1 e1 x2 e2 => ⟨in_1 hW, fun J5 hJ5 => ?_⟩⟩
    rw [r6 ha] at e1
    rw [r6 hb] at e2
    subst e1
    subst e2
    rw [r13 hw, ev] at hJ5
    rw [ix_1, hM.2.1] at hJ5 ⊢
    have go : ∀ x4, x4 = nI (if sgN σ 0 = 0 then 0 else b % sgN σ 0) → J5 x4 := fun x4 e4 => by
      refine hJ5 x4 (fun x6 e6 J7 hJ7 J24 hJ24 J36 hJ36 => ?_)
      rw [r4 ha] at e6
      refine ⟨fun _ => ?_, fun z => absurd z (by decide), fun z => absurd z (by decide), fun z => absurd z (by decide), fun z => absurd z (by decide), fun z => absurd z (by decide), fun z => absurd z (by decide), fun z => absurd z (by decide), fun z => absurd z (by decide), fun z => absurd z (by decide), fun z => absurd z (by decide), fun z => absurd z (by decide), fun z => absurd z (by decide)⟩
      exact hJ36 ⟨cK σ σ', cS σ σ', ⟨by omega, by omega⟩, H _ (fun M' h1 h2 => ⟨Or.inr rfl, hp M' h1 h2⟩)⟩
    refine ⟨fun z => go 0 ?_, fun z => ⟨in_1 hW, z, go _ ?_⟩⟩
    · rw [if_pos ((n0 (by omega)).mp z)]
      rfl
    · rw [if_neg (fun y => z ((n0 (by omega)).mpr y))]
      exact rem_nI hb (by omega)
set_option maxHeartbeats 8000000 in
theorem m_step1 (hW : WB A cc M σ) (hM : Mir M cc σ) (hI : Inv σ k) (hX : XI σ) (hk : k ≤ 490) {w a b : Nat} (hw : w < 2 ^ 31) (ha : a < 2 ^ 31) (hb : b < 2 ^ 31) (ev : w % 13 = 1) : ∃ σ', Nx σ k σ' ∧ ∀ post : Mem → Int32 → Prop, (∀ M', WB A cc M' σ' → Mir M' cc σ' → post M' 1) → w_L_step (cK σ σ') (cS σ σ') M (A 0) cc (nI w) (nI a) (nI b) post := by
  have h20 := inv_u hI
  have hG := inv_G hI
  have hV := inv_V hI
  have hs : a % 6 < 6 := Nat.mod_lt _ (by omega)
  have ht : b % 6 < 6 := Nat.mod_lt _ (by omega)
  have hc : a % 4 < 4 := Nat.mod_lt _ (by omega)
  · have hv0 := ev
    obtain ⟨σ', nx, H⟩ := m_links hW hM hI hX hk hs ht
    refine ⟨σ', nx, fun post hp x1 e1 x2 e2 => ⟨in_1 hW, fun J5 hJ5 => ?_⟩⟩
    rw [r6 ha] at e1
    rw [r6 hb] at e2
    subst e1
    subst e2
    rw [r13 hw, ev] at hJ5
    rw [ix_1, hM.2.1] at hJ5 ⊢
    have go : ∀ x4, x4 = nI (if sgN σ 0 = 0 then 0 else b % sgN σ 0) → J5 x4 := fun x4 e4 => by
      refine hJ5 x4 (fun x6 e6 J7 hJ7 J24 hJ24 J36 hJ36 => ?_)
      rw [r4 ha] at e6
      refine ⟨fun z => absurd z (by decide), fun _ => ?_, fun z => absurd z (by decide), fun z => absurd z (by decide), fun z => absurd z (by decide), fun z => absurd z (by decide), fun z => absurd z (by decide), fun z => absurd z (by decide), fun z => absurd z (by decide), fun z => absurd z (by decide), fun z => absurd z (by decide), fun z => absurd z (by decide), fun z => absurd z (by decide)⟩
      exact hJ36 ⟨cK σ σ', cS σ σ', ⟨by omega, by omega⟩, H _ (fun M' h1 h2 => ⟨Or.inr rfl, hp M' h1 h2⟩)⟩
    refine ⟨fun z => go 0 ?_, fun z => ⟨in_1 hW, z, go _ ?_⟩⟩
    · rw [if_pos ((n0 (by omega)).mp z)]
      rfl
    · rw [if_neg (fun y => z ((n0 (by omega)).mpr y))]
      exact rem_nI hb (by omega)
set_option maxHeartbeats 8000000 in
theorem m_step2 (hW : WB A cc M σ) (hM : Mir M cc σ) (hI : Inv σ k) (hX : XI σ) (hk : k ≤ 490) {w a b : Nat} (hw : w < 2 ^ 31) (ha : a < 2 ^ 31) (hb : b < 2 ^ 31) (ev : w % 13 = 2) : ∃ σ', Nx σ k σ' ∧ ∀ post : Mem → Int32 → Prop, (∀ M', WB A cc M' σ' → Mir M' cc σ' → post M' 1) → w_L_step (cK σ σ') (cS σ σ') M (A 0) cc (nI w) (nI a) (nI b) post := by
  have h20 := inv_u hI
  have hG := inv_G hI
  have hV := inv_V hI
  have hs : a % 6 < 6 := Nat.mod_lt _ (by omega)
  have ht : b % 6 < 6 := Nat.mod_lt _ (by omega)
  have hc : a % 4 < 4 := Nat.mod_lt _ (by omega)
  · have hv0 := ev
    obtain ⟨σ', nx, H⟩ := m_links hW hM hI hX hk hs ht
    refine ⟨σ', nx, fun post hp x1 e1 x2 e2 => ⟨in_1 hW, fun J5 hJ5 => ?_⟩⟩
    rw [r6 ha] at e1
    rw [r6 hb] at e2
    subst e1
    subst e2
    rw [r13 hw, ev] at hJ5
    rw [ix_1, hM.2.1] at hJ5 ⊢
    have go : ∀ x4, x4 = nI (if sgN σ 0 = 0 then 0 else b % sgN σ 0) → J5 x4 := fun x4 e4 => by
      refine hJ5 x4 (fun x6 e6 J7 hJ7 J24 hJ24 J36 hJ36 => ?_)
      rw [r4 ha] at e6
      refine ⟨fun z => absurd z (by decide), fun z => absurd z (by decide), fun _ => ?_, fun z => absurd z (by decide), fun z => absurd z (by decide), fun z => absurd z (by decide), fun z => absurd z (by decide), fun z => absurd z (by decide), fun z => absurd z (by decide), fun z => absurd z (by decide), fun z => absurd z (by decide), fun z => absurd z (by decide), fun z => absurd z (by decide)⟩
      exact hJ36 ⟨cK σ σ', cS σ σ', ⟨by omega, by omega⟩, H _ (fun M' h1 h2 => ⟨Or.inr rfl, hp M' h1 h2⟩)⟩
    refine ⟨fun z => go 0 ?_, fun z => ⟨in_1 hW, z, go _ ?_⟩⟩
    · rw [if_pos ((n0 (by omega)).mp z)]
      rfl
    · rw [if_neg (fun y => z ((n0 (by omega)).mpr y))]
      exact rem_nI hb (by omega)
set_option maxHeartbeats 8000000 in
theorem m_step3 (hW : WB A cc M σ) (hM : Mir M cc σ) (hI : Inv σ k) (hX : XI σ) (hk : k ≤ 490) {w a b : Nat} (hw : w < 2 ^ 31) (ha : a < 2 ^ 31) (hb : b < 2 ^ 31) (ev : w % 13 = 3) : ∃ σ', Nx σ k σ' ∧ ∀ post : Mem → Int32 → Prop, (∀ M', WB A cc M' σ' → Mir M' cc σ' → post M' 1) → w_L_step (cK σ σ') (cS σ σ') M (A 0) cc (nI w) (nI a) (nI b) post := by
  have h20 := inv_u hI
  have hG := inv_G hI
  have hV := inv_V hI
  have hs : a % 6 < 6 := Nat.mod_lt _ (by omega)
  have ht : b % 6 < 6 := Nat.mod_lt _ (by omega)
  have hc : a % 4 < 4 := Nat.mod_lt _ (by omega)
  · have hv0 := ev
    have hlk : gI M cc (Int32.toNatClampNeg (2 + nI (a % 6))) = sgI σ 0 (a % 6) := by rw [ix_2 (by omega), hM.2.2.1 _ hs]
    by_cases hl : bt (sgI σ 0 (a % 6)) (b % 6) = true
    · have hI' := inv_split hI hs ht hl
      have hX' := xi_split hI.1 hX hs ht
      have hG' := inv_G hI'
      have hst : a % 6 ≠ b % 6 := fun z => by rw [← z, hG.2.2.1 _ hs] at hl; cases hl
      have h2 : sgN (splitL σ (a % 6) (b % 6)) 2 = sgN σ 2 := fs_N (cutL σ (a % 6) (b % 6)) 2 6
      have h1 : sgN (splitL σ (a % 6) (b % 6)) 1 = sgN σ 1 + 1 := congrArg (· + 1) (fs_N (cutL σ (a % 6) (b % 6)) 1 6)
      have tt := tot_split σ hs ht
      have ti := inv_tot hI
      have nt : ¬ bt (treeL (splitL σ (a % 6) (b % 6)) (a % 6)) (b % 6) = true := by rw [tree_clo, split_lk]; exact tr_unlink hG hs ht hl
      refine ⟨splitL σ (a % 6) (b % 6), ⟨inv_up hI' (by omega), hX', Nat.le_of_eq h2.symm⟩, fun post hp x1 e1 x2 e2 => ⟨in_1 hW, fun J5 hJ5 => ?_⟩⟩
      rw [r6 ha] at e1
      rw [r6 hb] at e2
      subst e1
      subst e2
      rw [r13 hw, ev] at hJ5
      rw [ix_1, hM.2.1] at hJ5 ⊢
      have go : ∀ x4, x4 = nI (if sgN σ 0 = 0 then 0 else b % sgN σ 0) → J5 x4 := fun x4 e4 => by
        refine hJ5 x4 (fun x6 e6 J7 hJ7 J24 hJ24 J36 hJ36 => ?_)
        rw [r4 ha] at e6
        refine ⟨fun z => absurd z (by decide), fun z => absurd z (by decide), fun z => absurd z (by decide), fun _ => ?_, fun z => absurd z (by decide), fun z => absurd z (by decide), fun z => absurd z (by decide), fun z => absurd z (by decide), fun z => absurd z (by decide), fun z => absurd z (by decide), fun z => absurd z (by decide), fun z => absurd z (by decide), fun z => absurd z (by decide)⟩
        rw [hlk]
        refine ⟨in_2 hW hs, fun z => ?_, fun _ => ?_⟩
        · have := (hs_ex _ (by omega)).mp z
          rw [hl] at this
          cases this
        refine a_lines hW ⟨in_0 hW, in_0 hW, fun M46 e46 => ?_⟩
        have hW46 : WB A cc M46 σ := by rw [e46]; exact wb_w hW _ _
        refine ⟨in_2 hW46 hs, in_2 hW46 hs, fun M49 e49 => ?_⟩
        have hW49 : WB A cc M49 σ := by rw [e49]; exact wb_w hW46 _ _
        refine ⟨in_2 hW49 ht, in_2 hW49 ht, fun M52 e52 => ?_⟩
        have hW52 : WB A cc M52 σ := by rw [e52]; exact wb_w hW49 _ _
        refine ⟨wb_0 hW52, cK σ (splitL σ (a % 6) (b % 6)), cS σ (splitL σ (a % 6) (b % 6)), ⟨by omega, by omega⟩, c_split hW52 hI (by omega) hs ht hl (by unfold cK cS; omega) (fun M57 h57 hj J62 hJ62 J65 hJ65 => ?_)⟩
        rw [ix_0] at e46
        rw [ix_2 (by omega)] at e49 e52
        have r46 : gI M46 cc (2 + a % 6) = sgI σ 0 (a % 6) := by rw [e46, rd_w, if_neg (by omega), hM.2.2.1 _ hs]
        have r49 : gI M49 cc (2 + b % 6) = sgI σ 0 (b % 6) := by rw [e49, rd_w, if_neg (by omega), e46, rd_w, if_neg (by omega), hM.2.2.1 _ ht]
        rw [r46] at e49
        rw [r49] at e52
        have hM57 : Mir M57 cc (splitL σ (a % 6) (b % 6)) := mir_lk hM e46 e49 e52 hj hs ht (kp_split σ _ _) h1 (fun p => by rw [split_lk]; exact unl_0 σ hst p)
        rw [nI_sub tt]
        refine ⟨fun z => absurd z (nI_pos (by omega)), fun _ => a_lines h57 ⟨fun _ => a_tree h57 hs ⟨by omega, by omega⟩ ⟨fun _ => a_known h57 hs ⟨by omega, by omega⟩ (a_tree h57 ht ⟨by omega, by omega⟩ (m_homes h57 hM57 hI' _ ⟨fun _ => hJ62 1 _ _ ⟨Or.inr rfl, hp M57 h57 hM57⟩, fun z => absurd ?_ z⟩)), fun z => absurd ((hs_ex _ (by omega)).mpr (bt_false nt)) z⟩, fun z => absurd ?_ z⟩⟩
        · refine b_ext (fun i hi => ?_)
          rw [b_and, ho_bt hI' _ _ (Nat.le_refl _) i hi, b_0]
          cases hb1 : bt (sgI (splitL σ (a % 6) (b % 6)) 1 (a % 6)) i with
          | false => rfl
          | true =>
            have g1 := hX'.1 _ i hs hb1
            cases hb2 : bt (treeL (splitL σ (a % 6) (b % 6)) (b % 6)) (hmu (splitL σ (a % 6) (b % 6)) i) with
            | false => simp
            | true =>
              rw [tree_clo] at hb2 nt
              exact absurd (tr_trans hG'.1 hs g1 (tr_sym hG'.1 hG'.2.1 ht hb2)) nt
        · rw [nI_sub (Nat.sub_le _ _)]
          congr 1
          omega
      refine ⟨fun z => go 0 ?_, fun z => ⟨in_1 hW, z, go _ ?_⟩⟩
      · rw [if_pos ((n0 (by omega)).mp z)]
        rfl
      · rw [if_neg (fun y => z ((n0 (by omega)).mpr y))]
        exact rem_nI hb (by omega)
    · refine ⟨σ, nx_rf hI hX, fun post hp x1 e1 x2 e2 => ⟨in_1 hW, fun J5 hJ5 => ?_⟩⟩
      rw [r6 ha] at e1
      rw [r6 hb] at e2
      subst e1
      subst e2
      rw [r13 hw, ev] at hJ5
      rw [ix_1, hM.2.1] at hJ5 ⊢
      have go : ∀ x4, x4 = nI (if sgN σ 0 = 0 then 0 else b % sgN σ 0) → J5 x4 := fun x4 e4 => by
        refine hJ5 x4 (fun x6 e6 J7 hJ7 J24 hJ24 J36 hJ36 => ?_)
        rw [r4 ha] at e6
        refine ⟨fun z => absurd z (by decide), fun z => absurd z (by decide), fun z => absurd z (by decide), fun _ => ?_, fun z => absurd z (by decide), fun z => absurd z (by decide), fun z => absurd z (by decide), fun z => absurd z (by decide), fun z => absurd z (by decide), fun z => absurd z (by decide), fun z => absurd z (by decide), fun z => absurd z (by decide), fun z => absurd z (by decide)⟩
        rw [hlk]
        refine ⟨in_2 hW hs, fun _ => a_tree hW hs ⟨Nat.zero_le _, Nat.zero_le _⟩ (a_tree hW ht ⟨Nat.zero_le _, Nat.zero_le _⟩ (fun J hJ => ⟨fun _ => hJ 1 ⟨Or.inr rfl, hp M hW hM⟩, fun z => absurd ?_ z⟩)), fun z => absurd ((hs_ex _ (by omega)).mpr (bt_false hl)) z⟩
        rw [sh1 _ (by omega), sh1 _ (by omega), tree_clo, tree_clo]
        by_cases e : bt (clo (sgI σ 0) (a % 6)) (b % 6) = true
        · rw [if_pos e, if_pos (tr_sym hG.1 hG.2.1 hs e)]
        · rw [if_neg e, if_neg (fun y => e (tr_sym hG.1 hG.2.1 ht y))]
      refine ⟨fun z => go 0 ?_, fun z => ⟨in_1 hW, z, go _ ?_⟩⟩
      · rw [if_pos ((n0 (by omega)).mp z)]
        rfl
      · rw [if_neg (fun y => z ((n0 (by omega)).mpr y))]
        exact rem_nI hb (by omega)
set_option maxHeartbeats 8000000 in
theorem m_step4 (hW : WB A cc M σ) (hM : Mir M cc σ) (hI : Inv σ k) (hX : XI σ) (hk : k ≤ 490) {w a b : Nat} (hw : w < 2 ^ 31) (ha : a < 2 ^ 31) (hb : b < 2 ^ 31) (ev : w % 13 = 4) : ∃ σ', Nx σ k σ' ∧ ∀ post : Mem → Int32 → Prop, (∀ M', WB A cc M' σ' → Mir M' cc σ' → post M' 1) → w_L_step (cK σ σ') (cS σ σ') M (A 0) cc (nI w) (nI a) (nI b) post := by
  have h20 := inv_u hI
  have hG := inv_G hI
  have hV := inv_V hI
  have hs : a % 6 < 6 := Nat.mod_lt _ (by omega)
  have ht : b % 6 < 6 := Nat.mod_lt _ (by omega)
  have hc : a % 4 < 4 := Nat.mod_lt _ (by omega)
  · have hv0 := ev
    by_cases e3 : nI b - nI b / 3 * 3 = 0
    · by_cases e9 : nI b - nI b / 2 * 2 = 0
      · obtain ⟨σ', nx, H⟩ := m_signs hW hM hI hX hk hs (show a / 6 % 26 < 26 by omega) 1
        refine ⟨σ', nx, fun post hp x1 e1 x2 e2 => ⟨in_1 hW, fun J5 hJ5 => ?_⟩⟩
        rw [r6 ha] at e1
        rw [r6 hb] at e2
        subst e1
        subst e2
        rw [r13 hw, ev] at hJ5
        rw [ix_1, hM.2.1] at hJ5 ⊢
        have go : ∀ x4, x4 = nI (if sgN σ 0 = 0 then 0 else b % sgN σ 0) → J5 x4 := fun x4 e4 => by
          refine hJ5 x4 (fun x6 e6 J7 hJ7 J24 hJ24 J36 hJ36 => ?_)
          rw [r4 ha] at e6
          refine ⟨fun z => absurd z (by decide), fun z => absurd z (by decide), fun z => absurd z (by decide), fun z => absurd z (by decide), fun _ => ?_, fun z => absurd z (by decide), fun z => absurd z (by decide), fun z => absurd z (by decide), fun z => absurd z (by decide), fun z => absurd z (by decide), fun z => absurd z (by decide), fun z => absurd z (by decide), fun z => absurd z (by decide)⟩
          exact hJ24 (fun J26 hJ26 => ⟨fun _ => hJ26 26 ⟨by decide, fun J29 hJ29 => ⟨fun _ => hJ29 1 ⟨cK σ σ', cS σ σ', ⟨by omega, by omega⟩, by rw [r626 ha]; exact H _ (fun M' h1 h2 => ⟨Or.inr rfl, hp M' h1 h2⟩)⟩, fun y => absurd e9 y⟩⟩, fun y => absurd e3 y⟩)
        refine ⟨fun z => go 0 ?_, fun z => ⟨in_1 hW, z, go _ ?_⟩⟩
        · rw [if_pos ((n0 (by omega)).mp z)]
          rfl
        · rw [if_neg (fun y => z ((n0 (by omega)).mpr y))]
          exact rem_nI hb (by omega)
      · obtain ⟨σ', nx, H⟩ := m_signs hW hM hI hX hk hs (show a / 6 % 26 < 26 by omega) 0
        refine ⟨σ', nx, fun post hp x1 e1 x2 e2 => ⟨in_1 hW, fun J5 hJ5 => ?_⟩⟩
        rw [r6 ha] at e1
        rw [r6 hb] at e2
        subst e1
        subst e2
        rw [r13 hw, ev] at hJ5
        rw [ix_1, hM.2.1] at hJ5 ⊢
        have go : ∀ x4, x4 = nI (if sgN σ 0 = 0 then 0 else b % sgN σ 0) → J5 x4 := fun x4 e4 => by
          refine hJ5 x4 (fun x6 e6 J7 hJ7 J24 hJ24 J36 hJ36 => ?_)
          rw [r4 ha] at e6
          refine ⟨fun z => absurd z (by decide), fun z => absurd z (by decide), fun z => absurd z (by decide), fun z => absurd z (by decide), fun _ => ?_, fun z => absurd z (by decide), fun z => absurd z (by decide), fun z => absurd z (by decide), fun z => absurd z (by decide), fun z => absurd z (by decide), fun z => absurd z (by decide), fun z => absurd z (by decide), fun z => absurd z (by decide)⟩
          exact hJ24 (fun J26 hJ26 => ⟨fun _ => hJ26 26 ⟨by decide, fun J29 hJ29 => ⟨fun y => absurd y e9, fun _ => hJ29 0 ⟨cK σ σ', cS σ σ', ⟨by omega, by omega⟩, by rw [r626 ha]; exact H _ (fun M' h1 h2 => ⟨Or.inr rfl, hp M' h1 h2⟩)⟩⟩⟩, fun y => absurd e3 y⟩)
        refine ⟨fun z => go 0 ?_, fun z => ⟨in_1 hW, z, go _ ?_⟩⟩
        · rw [if_pos ((n0 (by omega)).mp z)]
          rfl
        · rw [if_neg (fun y => z ((n0 (by omega)).mpr y))]
          exact rem_nI hb (by omega)
    · by_cases e9 : nI b - nI b / 2 * 2 = 0
      · obtain ⟨σ', nx, H⟩ := m_signs hW hM hI hX hk hs (show a / 6 % 6 < 26 by omega) 1
        refine ⟨σ', nx, fun post hp x1 e1 x2 e2 => ⟨in_1 hW, fun J5 hJ5 => ?_⟩⟩
        rw [r6 ha] at e1
        rw [r6 hb] at e2
        subst e1
        subst e2
        rw [r13 hw, ev] at hJ5
        rw [ix_1, hM.2.1] at hJ5 ⊢
        have go : ∀ x4, x4 = nI (if sgN σ 0 = 0 then 0 else b % sgN σ 0) → J5 x4 := fun x4 e4 => by
          refine hJ5 x4 (fun x6 e6 J7 hJ7 J24 hJ24 J36 hJ36 => ?_)
          rw [r4 ha] at e6
          refine ⟨fun z => absurd z (by decide), fun z => absurd z (by decide), fun z => absurd z (by decide), fun z => absurd z (by decide), fun _ => ?_, fun z => absurd z (by decide), fun z => absurd z (by decide), fun z => absurd z (by decide), fun z => absurd z (by decide), fun z => absurd z (by decide), fun z => absurd z (by decide), fun z => absurd z (by decide), fun z => absurd z (by decide)⟩
          exact hJ24 (fun J26 hJ26 => ⟨fun y => absurd y e3, fun _ => hJ26 6 ⟨by decide, fun J29 hJ29 => ⟨fun _ => hJ29 1 ⟨cK σ σ', cS σ σ', ⟨by omega, by omega⟩, by rw [r66 ha]; exact H _ (fun M' h1 h2 => ⟨Or.inr rfl, hp M' h1 h2⟩)⟩, fun y => absurd e9 y⟩⟩⟩)
        refine ⟨fun z => go 0 ?_, fun z => ⟨in_1 hW, z, go _ ?_⟩⟩
        · rw [if_pos ((n0 (by omega)).mp z)]
          rfl
        · rw [if_neg (fun y => z ((n0 (by omega)).mpr y))]
          exact rem_nI hb (by omega)
      · obtain ⟨σ', nx, H⟩ := m_signs hW hM hI hX hk hs (show a / 6 % 6 < 26 by omega) 0
        refine ⟨σ', nx, fun post hp x1 e1 x2 e2 => ⟨in_1 hW, fun J5 hJ5 => ?_⟩⟩
        rw [r6 ha] at e1
        rw [r6 hb] at e2
        subst e1
        subst e2
        rw [r13 hw, ev] at hJ5
        rw [ix_1, hM.2.1] at hJ5 ⊢
        have go : ∀ x4, x4 = nI (if sgN σ 0 = 0 then 0 else b % sgN σ 0) → J5 x4 := fun x4 e4 => by
          refine hJ5 x4 (fun x6 e6 J7 hJ7 J24 hJ24 J36 hJ36 => ?_)
          rw [r4 ha] at e6
          refine ⟨fun z => absurd z (by decide), fun z => absurd z (by decide), fun z => absurd z (by decide), fun z => absurd z (by decide), fun _ => ?_, fun z => absurd z (by decide), fun z => absurd z (by decide), fun z => absurd z (by decide), fun z => absurd z (by decide), fun z => absurd z (by decide), fun z => absurd z (by decide), fun z => absurd z (by decide), fun z => absurd z (by decide)⟩
          exact hJ24 (fun J26 hJ26 => ⟨fun y => absurd y e3, fun _ => hJ26 6 ⟨by decide, fun J29 hJ29 => ⟨fun y => absurd y e9, fun _ => hJ29 0 ⟨cK σ σ', cS σ σ', ⟨by omega, by omega⟩, by rw [r66 ha]; exact H _ (fun M' h1 h2 => ⟨Or.inr rfl, hp M' h1 h2⟩)⟩⟩⟩⟩)
        refine ⟨fun z => go 0 ?_, fun z => ⟨in_1 hW, z, go _ ?_⟩⟩
        · rw [if_pos ((n0 (by omega)).mp z)]
          rfl
        · rw [if_neg (fun y => z ((n0 (by omega)).mpr y))]
          exact rem_nI hb (by omega)
set_option maxHeartbeats 8000000 in
theorem m_step5 (hW : WB A cc M σ) (hM : Mir M cc σ) (hI : Inv σ k) (hX : XI σ) (hk : k ≤ 490) {w a b : Nat} (hw : w < 2 ^ 31) (ha : a < 2 ^ 31) (hb : b < 2 ^ 31) (ev : w % 13 = 5) : ∃ σ', Nx σ k σ' ∧ ∀ post : Mem → Int32 → Prop, (∀ M', WB A cc M' σ' → Mir M' cc σ' → post M' 1) → w_L_step (cK σ σ') (cS σ σ') M (A 0) cc (nI w) (nI a) (nI b) post := by
  have h20 := inv_u hI
  have hG := inv_G hI
  have hV := inv_V hI
  have hs : a % 6 < 6 := Nat.mod_lt _ (by omega)
  have ht : b % 6 < 6 := Nat.mod_lt _ (by omega)
  have hc : a % 4 < 4 := Nat.mod_lt _ (by omega)
  · have hv0 := ev
    by_cases e3 : nI b - nI b / 3 * 3 = 0
    · by_cases e9 : nI b - nI b / 2 * 2 = 0
      · obtain ⟨σ', nx, H⟩ := m_signs hW hM hI hX hk hs (show a / 6 % 26 < 26 by omega) 1
        refine ⟨σ', nx, fun post hp x1 e1 x2 e2 => ⟨in_1 hW, fun J5 hJ5 => ?_⟩⟩
        rw [r6 ha] at e1
        rw [r6 hb] at e2
        subst e1
        subst e2
        rw [r13 hw, ev] at hJ5
        rw [ix_1, hM.2.1] at hJ5 ⊢
        have go : ∀ x4, x4 = nI (if sgN σ 0 = 0 then 0 else b % sgN σ 0) → J5 x4 := fun x4 e4 => by
          refine hJ5 x4 (fun x6 e6 J7 hJ7 J24 hJ24 J36 hJ36 => ?_)
          rw [r4 ha] at e6
          refine ⟨fun z => absurd z (by decide), fun z => absurd z (by decide), fun z => absurd z (by decide), fun z => absurd z (by decide), fun z => absurd z (by decide), fun _ => ?_, fun z => absurd z (by decide), fun z => absurd z (by decide), fun z => absurd z (by decide), fun z => absurd z (by decide), fun z => absurd z (by decide), fun z => absurd z (by decide), fun z => absurd z (by decide)⟩
          exact hJ24 (fun J26 hJ26 => ⟨fun _ => hJ26 26 ⟨by decide, fun J29 hJ29 => ⟨fun _ => hJ29 1 ⟨cK σ σ', cS σ σ', ⟨by omega, by omega⟩, by rw [r626 ha]; exact H _ (fun M' h1 h2 => ⟨Or.inr rfl, hp M' h1 h2⟩)⟩, fun y => absurd e9 y⟩⟩, fun y => absurd e3 y⟩)
        refine ⟨fun z => go 0 ?_, fun z => ⟨in_1 hW, z, go _ ?_⟩⟩
        · rw [if_pos ((n0 (by omega)).mp z)]
          rfl
        · rw [if_neg (fun y => z ((n0 (by omega)).mpr y))]
          exact rem_nI hb (by omega)
      · obtain ⟨σ', nx, H⟩ := m_signs hW hM hI hX hk hs (show a / 6 % 26 < 26 by omega) 0
        refine ⟨σ', nx, fun post hp x1 e1 x2 e2 => ⟨in_1 hW, fun J5 hJ5 => ?_⟩⟩
        rw [r6 ha] at e1
        rw [r6 hb] at e2
        subst e1
        subst e2
        rw [r13 hw, ev] at hJ5
        rw [ix_1, hM.2.1] at hJ5 ⊢
        have go : ∀ x4, x4 = nI (if sgN σ 0 = 0 then 0 else b % sgN σ 0) → J5 x4 := fun x4 e4 => by
          refine hJ5 x4 (fun x6 e6 J7 hJ7 J24 hJ24 J36 hJ36 => ?_)
          rw [r4 ha] at e6
          refine ⟨fun z => absurd z (by decide), fun z => absurd z (by decide), fun z => absurd z (by decide), fun z => absurd z (by decide), fun z => absurd z (by decide), fun _ => ?_, fun z => absurd z (by decide), fun z => absurd z (by decide), fun z => absurd z (by decide), fun z => absurd z (by decide), fun z => absurd z (by decide), fun z => absurd z (by decide), fun z => absurd z (by decide)⟩
          exact hJ24 (fun J26 hJ26 => ⟨fun _ => hJ26 26 ⟨by decide, fun J29 hJ29 => ⟨fun y => absurd y e9, fun _ => hJ29 0 ⟨cK σ σ', cS σ σ', ⟨by omega, by omega⟩, by rw [r626 ha]; exact H _ (fun M' h1 h2 => ⟨Or.inr rfl, hp M' h1 h2⟩)⟩⟩⟩, fun y => absurd e3 y⟩)
        refine ⟨fun z => go 0 ?_, fun z => ⟨in_1 hW, z, go _ ?_⟩⟩
        · rw [if_pos ((n0 (by omega)).mp z)]
          rfl
        · rw [if_neg (fun y => z ((n0 (by omega)).mpr y))]
          exact rem_nI hb (by omega)
    · by_cases e9 : nI b - nI b / 2 * 2 = 0
      · obtain ⟨σ', nx, H⟩ := m_signs hW hM hI hX hk hs (show a / 6 % 6 < 26 by omega) 1
        refine ⟨σ', nx, fun post hp x1 e1 x2 e2 => ⟨in_1 hW, fun J5 hJ5 => ?_⟩⟩
        rw [r6 ha] at e1
        rw [r6 hb] at e2
        subst e1
        subst e2
        rw [r13 hw, ev] at hJ5
        rw [ix_1, hM.2.1] at hJ5 ⊢
        have go : ∀ x4, x4 = nI (if sgN σ 0 = 0 then 0 else b % sgN σ 0) → J5 x4 := fun x4 e4 => by
          refine hJ5 x4 (fun x6 e6 J7 hJ7 J24 hJ24 J36 hJ36 => ?_)
          rw [r4 ha] at e6
          refine ⟨fun z => absurd z (by decide), fun z => absurd z (by decide), fun z => absurd z (by decide), fun z => absurd z (by decide), fun z => absurd z (by decide), fun _ => ?_, fun z => absurd z (by decide), fun z => absurd z (by decide), fun z => absurd z (by decide), fun z => absurd z (by decide), fun z => absurd z (by decide), fun z => absurd z (by decide), fun z => absurd z (by decide)⟩
          exact hJ24 (fun J26 hJ26 => ⟨fun y => absurd y e3, fun _ => hJ26 6 ⟨by decide, fun J29 hJ29 => ⟨fun _ => hJ29 1 ⟨cK σ σ', cS σ σ', ⟨by omega, by omega⟩, by rw [r66 ha]; exact H _ (fun M' h1 h2 => ⟨Or.inr rfl, hp M' h1 h2⟩)⟩, fun y => absurd e9 y⟩⟩⟩)
        refine ⟨fun z => go 0 ?_, fun z => ⟨in_1 hW, z, go _ ?_⟩⟩
        · rw [if_pos ((n0 (by omega)).mp z)]
          rfl
        · rw [if_neg (fun y => z ((n0 (by omega)).mpr y))]
          exact rem_nI hb (by omega)
      · obtain ⟨σ', nx, H⟩ := m_signs hW hM hI hX hk hs (show a / 6 % 6 < 26 by omega) 0
        refine ⟨σ', nx, fun post hp x1 e1 x2 e2 => ⟨in_1 hW, fun J5 hJ5 => ?_⟩⟩
        rw [r6 ha] at e1
        rw [r6 hb] at e2
        subst e1
        subst e2
        rw [r13 hw, ev] at hJ5
        rw [ix_1, hM.2.1] at hJ5 ⊢
        have go : ∀ x4, x4 = nI (if sgN σ 0 = 0 then 0 else b % sgN σ 0) → J5 x4 := fun x4 e4 => by
          refine hJ5 x4 (fun x6 e6 J7 hJ7 J24 hJ24 J36 hJ36 => ?_)
          rw [r4 ha] at e6
          refine ⟨fun z => absurd z (by decide), fun z => absurd z (by decide), fun z => absurd z (by decide), fun z => absurd z (by decide), fun z => absurd z (by decide), fun _ => ?_, fun z => absurd z (by decide), fun z => absurd z (by decide), fun z => absurd z (by decide), fun z => absurd z (by decide), fun z => absurd z (by decide), fun z => absurd z (by decide), fun z => absurd z (by decide)⟩
          exact hJ24 (fun J26 hJ26 => ⟨fun y => absurd y e3, fun _ => hJ26 6 ⟨by decide, fun J29 hJ29 => ⟨fun y => absurd y e9, fun _ => hJ29 0 ⟨cK σ σ', cS σ σ', ⟨by omega, by omega⟩, by rw [r66 ha]; exact H _ (fun M' h1 h2 => ⟨Or.inr rfl, hp M' h1 h2⟩)⟩⟩⟩⟩)
        refine ⟨fun z => go 0 ?_, fun z => ⟨in_1 hW, z, go _ ?_⟩⟩
        · rw [if_pos ((n0 (by omega)).mp z)]
          rfl
        · rw [if_neg (fun y => z ((n0 (by omega)).mpr y))]
          exact rem_nI hb (by omega)
set_option maxHeartbeats 8000000 in
theorem m_step6 (hW : WB A cc M σ) (hM : Mir M cc σ) (hI : Inv σ k) (hX : XI σ) (hk : k ≤ 490) {w a b : Nat} (hw : w < 2 ^ 31) (ha : a < 2 ^ 31) (hb : b < 2 ^ 31) (ev : w % 13 = 6) : ∃ σ', Nx σ k σ' ∧ ∀ post : Mem → Int32 → Prop, (∀ M', WB A cc M' σ' → Mir M' cc σ' → post M' 1) → w_L_step (cK σ σ') (cS σ σ') M (A 0) cc (nI w) (nI a) (nI b) post := by
  have h20 := inv_u hI
  have hG := inv_G hI
  have hV := inv_V hI
  have hs : a % 6 < 6 := Nat.mod_lt _ (by omega)
  have ht : b % 6 < 6 := Nat.mod_lt _ (by omega)
  have hc : a % 4 < 4 := Nat.mod_lt _ (by omega)
  · have hv0 := ev
    by_cases e3 : nI b - nI b / 3 * 3 = 0
    · by_cases e9 : nI b - nI b / 2 * 2 = 0
      · obtain ⟨σ', nx, H⟩ := m_signs hW hM hI hX hk hs (show a / 6 % 26 < 26 by omega) 1
        refine ⟨σ', nx, fun post hp x1 e1 x2 e2 => ⟨in_1 hW, fun J5 hJ5 => ?_⟩⟩
        rw [r6 ha] at e1
        rw [r6 hb] at e2
        subst e1
        subst e2
        rw [r13 hw, ev] at hJ5
        rw [ix_1, hM.2.1] at hJ5 ⊢
        have go : ∀ x4, x4 = nI (if sgN σ 0 = 0 then 0 else b % sgN σ 0) → J5 x4 := fun x4 e4 => by
          refine hJ5 x4 (fun x6 e6 J7 hJ7 J24 hJ24 J36 hJ36 => ?_)
          rw [r4 ha] at e6
          refine ⟨fun z => absurd z (by decide), fun z => absurd z (by decide), fun z => absurd z (by decide), fun z => absurd z (by decide), fun z => absurd z (by decide), fun z => absurd z (by decide), fun _ => ?_, fun z => absurd z (by decide), fun z => absurd z (by decide), fun z => absurd z (by decide), fun z => absurd z (by decide), fun z => absurd z (by decide), fun z => absurd z (by decide)⟩
          exact hJ24 (fun J26 hJ26 => ⟨fun _ => hJ26 26 ⟨by decide, fun J29 hJ29 => ⟨fun _ => hJ29 1 ⟨cK σ σ', cS σ σ', ⟨by omega, by omega⟩, by rw [r626 ha]; exact H _ (fun M' h1 h2 => ⟨Or.inr rfl, hp M' h1 h2⟩)⟩, fun y => absurd e9 y⟩⟩, fun y => absurd e3 y⟩)
        refine ⟨fun z => go 0 ?_, fun z => ⟨in_1 hW, z, go _ ?_⟩⟩
        · rw [if_pos ((n0 (by omega)).mp z)]
          rfl
        · rw [if_neg (fun y => z ((n0 (by omega)).mpr y))]
          exact rem_nI hb (by omega)
      · obtain ⟨σ', nx, H⟩ := m_signs hW hM hI hX hk hs (show a / 6 % 26 < 26 by omega) 0
        refine ⟨σ', nx, fun post hp x1 e1 x2 e2 => ⟨in_1 hW, fun J5 hJ5 => ?_⟩⟩
        rw [r6 ha] at e1
        rw [r6 hb] at e2
        subst e1
        subst e2
        rw [r13 hw, ev] at hJ5
        rw [ix_1, hM.2.1] at hJ5 ⊢
        have go : ∀ x4, x4 = nI (if sgN σ 0 = 0 then 0 else b % sgN σ 0) → J5 x4 := fun x4 e4 => by
          refine hJ5 x4 (fun x6 e6 J7 hJ7 J24 hJ24 J36 hJ36 => ?_)
          rw [r4 ha] at e6
          refine ⟨fun z => absurd z (by decide), fun z => absurd z (by decide), fun z => absurd z (by decide), fun z => absurd z (by decide), fun z => absurd z (by decide), fun z => absurd z (by decide), fun _ => ?_, fun z => absurd z (by decide), fun z => absurd z (by decide), fun z => absurd z (by decide), fun z => absurd z (by decide), fun z => absurd z (by decide), fun z => absurd z (by decide)⟩
          exact hJ24 (fun J26 hJ26 => ⟨fun _ => hJ26 26 ⟨by decide, fun J29 hJ29 => ⟨fun y => absurd y e9, fun _ => hJ29 0 ⟨cK σ σ', cS σ σ', ⟨by omega, by omega⟩, by rw [r626 ha]; exact H _ (fun M' h1 h2 => ⟨Or.inr rfl, hp M' h1 h2⟩)⟩⟩⟩, fun y => absurd e3 y⟩)
        refine ⟨fun z => go 0 ?_, fun z => ⟨in_1 hW, z, go _ ?_⟩⟩
        · rw [if_pos ((n0 (by omega)).mp z)]
          rfl
        · rw [if_neg (fun y => z ((n0 (by omega)).mpr y))]
          exact rem_nI hb (by omega)
    · by_cases e9 : nI b - nI b / 2 * 2 = 0
      · obtain ⟨σ', nx, H⟩ := m_signs hW hM hI hX hk hs (show a / 6 % 6 < 26 by omega) 1
        refine ⟨σ', nx, fun post hp x1 e1 x2 e2 => ⟨in_1 hW, fun J5 hJ5 => ?_⟩⟩
        rw [r6 ha] at e1
        rw [r6 hb] at e2
        subst e1
        subst e2
        rw [r13 hw, ev] at hJ5
        rw [ix_1, hM.2.1] at hJ5 ⊢
        have go : ∀ x4, x4 = nI (if sgN σ 0 = 0 then 0 else b % sgN σ 0) → J5 x4 := fun x4 e4 => by
          refine hJ5 x4 (fun x6 e6 J7 hJ7 J24 hJ24 J36 hJ36 => ?_)
          rw [r4 ha] at e6
          refine ⟨fun z => absurd z (by decide), fun z => absurd z (by decide), fun z => absurd z (by decide), fun z => absurd z (by decide), fun z => absurd z (by decide), fun z => absurd z (by decide), fun _ => ?_, fun z => absurd z (by decide), fun z => absurd z (by decide), fun z => absurd z (by decide), fun z => absurd z (by decide), fun z => absurd z (by decide), fun z => absurd z (by decide)⟩
          exact hJ24 (fun J26 hJ26 => ⟨fun y => absurd y e3, fun _ => hJ26 6 ⟨by decide, fun J29 hJ29 => ⟨fun _ => hJ29 1 ⟨cK σ σ', cS σ σ', ⟨by omega, by omega⟩, by rw [r66 ha]; exact H _ (fun M' h1 h2 => ⟨Or.inr rfl, hp M' h1 h2⟩)⟩, fun y => absurd e9 y⟩⟩⟩)
        refine ⟨fun z => go 0 ?_, fun z => ⟨in_1 hW, z, go _ ?_⟩⟩
        · rw [if_pos ((n0 (by omega)).mp z)]
          rfl
        · rw [if_neg (fun y => z ((n0 (by omega)).mpr y))]
          exact rem_nI hb (by omega)
      · obtain ⟨σ', nx, H⟩ := m_signs hW hM hI hX hk hs (show a / 6 % 6 < 26 by omega) 0
        refine ⟨σ', nx, fun post hp x1 e1 x2 e2 => ⟨in_1 hW, fun J5 hJ5 => ?_⟩⟩
        rw [r6 ha] at e1
        rw [r6 hb] at e2
        subst e1
        subst e2
        rw [r13 hw, ev] at hJ5
        rw [ix_1, hM.2.1] at hJ5 ⊢
        have go : ∀ x4, x4 = nI (if sgN σ 0 = 0 then 0 else b % sgN σ 0) → J5 x4 := fun x4 e4 => by
          refine hJ5 x4 (fun x6 e6 J7 hJ7 J24 hJ24 J36 hJ36 => ?_)
          rw [r4 ha] at e6
          refine ⟨fun z => absurd z (by decide), fun z => absurd z (by decide), fun z => absurd z (by decide), fun z => absurd z (by decide), fun z => absurd z (by decide), fun z => absurd z (by decide), fun _ => ?_, fun z => absurd z (by decide), fun z => absurd z (by decide), fun z => absurd z (by decide), fun z => absurd z (by decide), fun z => absurd z (by decide), fun z => absurd z (by decide)⟩
          exact hJ24 (fun J26 hJ26 => ⟨fun y => absurd y e3, fun _ => hJ26 6 ⟨by decide, fun J29 hJ29 => ⟨fun y => absurd y e9, fun _ => hJ29 0 ⟨cK σ σ', cS σ σ', ⟨by omega, by omega⟩, by rw [r66 ha]; exact H _ (fun M' h1 h2 => ⟨Or.inr rfl, hp M' h1 h2⟩)⟩⟩⟩⟩)
        refine ⟨fun z => go 0 ?_, fun z => ⟨in_1 hW, z, go _ ?_⟩⟩
        · rw [if_pos ((n0 (by omega)).mp z)]
          rfl
        · rw [if_neg (fun y => z ((n0 (by omega)).mpr y))]
          exact rem_nI hb (by omega)
set_option maxHeartbeats 8000000 in
theorem m_step7 (hW : WB A cc M σ) (hM : Mir M cc σ) (hI : Inv σ k) (hX : XI σ) (hk : k ≤ 490) {w a b : Nat} (hw : w < 2 ^ 31) (ha : a < 2 ^ 31) (hb : b < 2 ^ 31) (ev : w % 13 = 7) : ∃ σ', Nx σ k σ' ∧ ∀ post : Mem → Int32 → Prop, (∀ M', WB A cc M' σ' → Mir M' cc σ' → post M' 1) → w_L_step (cK σ σ') (cS σ σ') M (A 0) cc (nI w) (nI a) (nI b) post := by
  have h20 := inv_u hI
  have hG := inv_G hI
  have hV := inv_V hI
  have hs : a % 6 < 6 := Nat.mod_lt _ (by omega)
  have ht : b % 6 < 6 := Nat.mod_lt _ (by omega)
  have hc : a % 4 < 4 := Nat.mod_lt _ (by omega)
  · have hv0 := ev
    by_cases hn : sgN σ 0 = 0
    · refine ⟨σ, nx_rf hI hX, fun post hp x1 e1 x2 e2 => ⟨in_1 hW, fun J5 hJ5 => ?_⟩⟩
      rw [r6 ha] at e1
      rw [r6 hb] at e2
      subst e1
      subst e2
      rw [r13 hw, ev] at hJ5
      rw [ix_1, hM.2.1] at hJ5 ⊢
      have go : ∀ x4, x4 = nI (if sgN σ 0 = 0 then 0 else b % sgN σ 0) → J5 x4 := fun x4 e4 => by
        refine hJ5 x4 (fun x6 e6 J7 hJ7 J24 hJ24 J36 hJ36 => ?_)
        rw [r4 ha] at e6
        refine ⟨fun z => absurd z (by decide), fun z => absurd z (by decide), fun z => absurd z (by decide), fun z => absurd z (by decide), fun z => absurd z (by decide), fun z => absurd z (by decide), fun z => absurd z (by decide), fun _ => ?_, fun z => absurd z (by decide), fun z => absurd z (by decide), fun z => absurd z (by decide), fun z => absurd z (by decide), fun z => absurd z (by decide)⟩
        exact hJ7 ⟨in_1 hW, fun J13 hJ13 J17 hJ17 => ⟨fun _ => hJ17 M 0 0 (hJ13 1 M 0 0 ⟨Or.inr rfl, hp M hW hM⟩), fun z => absurd ((n0 (by omega)).mpr hn) z⟩⟩
      refine ⟨fun z => go 0 ?_, fun z => ⟨in_1 hW, z, go _ ?_⟩⟩
      · rw [if_pos ((n0 (by omega)).mp z)]
        rfl
      · rw [if_neg (fun y => z ((n0 (by omega)).mpr y))]
        exact rem_nI hb (by omega)
    · have hu : b % sgN σ 0 < sgN σ 0 := Nat.mod_lt _ (by omega)
      obtain ⟨σ', nx, H⟩ := m_joins hW hM hI hX hk hu hc
      refine ⟨σ', nx, fun post hp x1 e1 x2 e2 => ⟨in_1 hW, fun J5 hJ5 => ?_⟩⟩
      rw [r6 ha] at e1
      rw [r6 hb] at e2
      subst e1
      subst e2
      rw [r13 hw, ev] at hJ5
      rw [ix_1, hM.2.1] at hJ5 ⊢
      have go : ∀ x4, x4 = nI (if sgN σ 0 = 0 then 0 else b % sgN σ 0) → J5 x4 := fun x4 e4 => by
        refine hJ5 x4 (fun x6 e6 J7 hJ7 J24 hJ24 J36 hJ36 => ?_)
        rw [r4 ha] at e6
        rw [if_neg hn] at e4
        subst e4
        subst e6
        refine ⟨fun z => absurd z (by decide), fun z => absurd z (by decide), fun z => absurd z (by decide), fun z => absurd z (by decide), fun z => absurd z (by decide), fun z => absurd z (by decide), fun z => absurd z (by decide), fun _ => ?_, fun z => absurd z (by decide), fun z => absurd z (by decide), fun z => absurd z (by decide), fun z => absurd z (by decide), fun z => absurd z (by decide)⟩
        exact hJ7 ⟨in_1 hW, fun J13 hJ13 J17 hJ17 => ⟨fun z => absurd ((n0 (by omega)).mp z) hn, fun _ => ⟨cK σ σ', cS σ σ', ⟨by omega, by omega⟩, H _ (fun M' h1 h2 => ⟨fun z => absurd z d10, fun _ => hJ17 M' _ _ (hJ13 1 M' _ _ ⟨Or.inr rfl, hp M' h1 h2⟩)⟩)⟩⟩⟩
      refine ⟨fun z => go 0 ?_, fun z => ⟨in_1 hW, z, go _ ?_⟩⟩
      · rw [if_pos ((n0 (by omega)).mp z)]
        rfl
      · rw [if_neg (fun y => z ((n0 (by omega)).mpr y))]
        exact rem_nI hb (by omega)
set_option maxHeartbeats 8000000 in
theorem m_step8 (hW : WB A cc M σ) (hM : Mir M cc σ) (hI : Inv σ k) (hX : XI σ) (hk : k ≤ 490) {w a b : Nat} (hw : w < 2 ^ 31) (ha : a < 2 ^ 31) (hb : b < 2 ^ 31) (ev : w % 13 = 8) : ∃ σ', Nx σ k σ' ∧ ∀ post : Mem → Int32 → Prop, (∀ M', WB A cc M' σ' → Mir M' cc σ' → post M' 1) → w_L_step (cK σ σ') (cS σ σ') M (A 0) cc (nI w) (nI a) (nI b) post := by
  have h20 := inv_u hI
  have hG := inv_G hI
  have hV := inv_V hI
  have hs : a % 6 < 6 := Nat.mod_lt _ (by omega)
  have ht : b % 6 < 6 := Nat.mod_lt _ (by omega)
  have hc : a % 4 < 4 := Nat.mod_lt _ (by omega)
  · have hv0 := ev
    by_cases hn : sgN σ 0 = 0
    · refine ⟨σ, nx_rf hI hX, fun post hp x1 e1 x2 e2 => ⟨in_1 hW, fun J5 hJ5 => ?_⟩⟩
      rw [r6 ha] at e1
      rw [r6 hb] at e2
      subst e1
      subst e2
      rw [r13 hw, ev] at hJ5
      rw [ix_1, hM.2.1] at hJ5 ⊢
      have go : ∀ x4, x4 = nI (if sgN σ 0 = 0 then 0 else b % sgN σ 0) → J5 x4 := fun x4 e4 => by
        refine hJ5 x4 (fun x6 e6 J7 hJ7 J24 hJ24 J36 hJ36 => ?_)
        rw [r4 ha] at e6
        refine ⟨fun z => absurd z (by decide), fun z => absurd z (by decide), fun z => absurd z (by decide), fun z => absurd z (by decide), fun z => absurd z (by decide), fun z => absurd z (by decide), fun z => absurd z (by decide), fun z => absurd z (by decide), fun _ => ?_, fun z => absurd z (by decide), fun z => absurd z (by decide), fun z => absurd z (by decide), fun z => absurd z (by decide)⟩
        exact hJ7 ⟨in_1 hW, fun J13 hJ13 J17 hJ17 => ⟨fun _ => hJ17 M 0 0 (hJ13 1 M 0 0 ⟨Or.inr rfl, hp M hW hM⟩), fun z => absurd ((n0 (by omega)).mpr hn) z⟩⟩
      refine ⟨fun z => go 0 ?_, fun z => ⟨in_1 hW, z, go _ ?_⟩⟩
      · rw [if_pos ((n0 (by omega)).mp z)]
        rfl
      · rw [if_neg (fun y => z ((n0 (by omega)).mpr y))]
        exact rem_nI hb (by omega)
    · have hu : b % sgN σ 0 < sgN σ 0 := Nat.mod_lt _ (by omega)
      obtain ⟨σ', nx, H⟩ := m_joins hW hM hI hX hk hu hc
      refine ⟨σ', nx, fun post hp x1 e1 x2 e2 => ⟨in_1 hW, fun J5 hJ5 => ?_⟩⟩
      rw [r6 ha] at e1
      rw [r6 hb] at e2
      subst e1
      subst e2
      rw [r13 hw, ev] at hJ5
      rw [ix_1, hM.2.1] at hJ5 ⊢
      have go : ∀ x4, x4 = nI (if sgN σ 0 = 0 then 0 else b % sgN σ 0) → J5 x4 := fun x4 e4 => by
        refine hJ5 x4 (fun x6 e6 J7 hJ7 J24 hJ24 J36 hJ36 => ?_)
        rw [r4 ha] at e6
        rw [if_neg hn] at e4
        subst e4
        subst e6
        refine ⟨fun z => absurd z (by decide), fun z => absurd z (by decide), fun z => absurd z (by decide), fun z => absurd z (by decide), fun z => absurd z (by decide), fun z => absurd z (by decide), fun z => absurd z (by decide), fun z => absurd z (by decide), fun _ => ?_, fun z => absurd z (by decide), fun z => absurd z (by decide), fun z => absurd z (by decide), fun z => absurd z (by decide)⟩
        exact hJ7 ⟨in_1 hW, fun J13 hJ13 J17 hJ17 => ⟨fun z => absurd ((n0 (by omega)).mp z) hn, fun _ => ⟨cK σ σ', cS σ σ', ⟨by omega, by omega⟩, H _ (fun M' h1 h2 => ⟨fun z => absurd z d10, fun _ => hJ17 M' _ _ (hJ13 1 M' _ _ ⟨Or.inr rfl, hp M' h1 h2⟩)⟩)⟩⟩⟩
      refine ⟨fun z => go 0 ?_, fun z => ⟨in_1 hW, z, go _ ?_⟩⟩
      · rw [if_pos ((n0 (by omega)).mp z)]
        rfl
      · rw [if_neg (fun y => z ((n0 (by omega)).mpr y))]
        exact rem_nI hb (by omega)
set_option maxHeartbeats 8000000 in
theorem m_step9 (hW : WB A cc M σ) (hM : Mir M cc σ) (hI : Inv σ k) (hX : XI σ) (hk : k ≤ 490) {w a b : Nat} (hw : w < 2 ^ 31) (ha : a < 2 ^ 31) (hb : b < 2 ^ 31) (ev : w % 13 = 9) : ∃ σ', Nx σ k σ' ∧ ∀ post : Mem → Int32 → Prop, (∀ M', WB A cc M' σ' → Mir M' cc σ' → post M' 1) → w_L_step (cK σ σ') (cS σ σ') M (A 0) cc (nI w) (nI a) (nI b) post := by
  have h20 := inv_u hI
  have hG := inv_G hI
  have hV := inv_V hI
  have hs : a % 6 < 6 := Nat.mod_lt _ (by omega)
  have ht : b % 6 < 6 := Nat.mod_lt _ (by omega)
  have hc : a % 4 < 4 := Nat.mod_lt _ (by omega)
  · have hv0 := ev
    by_cases hn : sgN σ 0 = 0
    · refine ⟨σ, nx_rf hI hX, fun post hp x1 e1 x2 e2 => ⟨in_1 hW, fun J5 hJ5 => ?_⟩⟩
      rw [r6 ha] at e1
      rw [r6 hb] at e2
      subst e1
      subst e2
      rw [r13 hw, ev] at hJ5
      rw [ix_1, hM.2.1] at hJ5 ⊢
      have go : ∀ x4, x4 = nI (if sgN σ 0 = 0 then 0 else b % sgN σ 0) → J5 x4 := fun x4 e4 => by
        refine hJ5 x4 (fun x6 e6 J7 hJ7 J24 hJ24 J36 hJ36 => ?_)
        rw [r4 ha] at e6
        refine ⟨fun z => absurd z (by decide), fun z => absurd z (by decide), fun z => absurd z (by decide), fun z => absurd z (by decide), fun z => absurd z (by decide), fun z => absurd z (by decide), fun z => absurd z (by decide), fun z => absurd z (by decide), fun z => absurd z (by decide), fun _ => ?_, fun z => absurd z (by decide), fun z => absurd z (by decide), fun z => absurd z (by decide)⟩
        exact ⟨in_1 hW, fun J13 hJ13 J17 hJ17 => ⟨fun _ => hJ17 M 0 0 (hJ13 1 M 0 0 ⟨Or.inr rfl, hp M hW hM⟩), fun z => absurd ((n0 (by omega)).mpr hn) z⟩⟩
      refine ⟨fun z => go 0 ?_, fun z => ⟨in_1 hW, z, go _ ?_⟩⟩
      · rw [if_pos ((n0 (by omega)).mp z)]
        rfl
      · rw [if_neg (fun y => z ((n0 (by omega)).mpr y))]
        exact rem_nI hb (by omega)
    · have hu : b % sgN σ 0 < sgN σ 0 := Nat.mod_lt _ (by omega)
      by_cases e3 : nI a - nI a / 3 * 3 = 0
      · obtain ⟨σ', nx, H⟩ := m_leaves hW hM hI hX hk hu hc 1
        refine ⟨σ', nx, fun post hp x1 e1 x2 e2 => ⟨in_1 hW, fun J5 hJ5 => ?_⟩⟩
        rw [r6 ha] at e1
        rw [r6 hb] at e2
        subst e1
        subst e2
        rw [r13 hw, ev] at hJ5
        rw [ix_1, hM.2.1] at hJ5 ⊢
        have go : ∀ x4, x4 = nI (if sgN σ 0 = 0 then 0 else b % sgN σ 0) → J5 x4 := fun x4 e4 => by
          refine hJ5 x4 (fun x6 e6 J7 hJ7 J24 hJ24 J36 hJ36 => ?_)
          rw [r4 ha] at e6
          rw [if_neg hn] at e4
          subst e4
          subst e6
          refine ⟨fun z => absurd z (by decide), fun z => absurd z (by decide), fun z => absurd z (by decide), fun z => absurd z (by decide), fun z => absurd z (by decide), fun z => absurd z (by decide), fun z => absurd z (by decide), fun z => absurd z (by decide), fun z => absurd z (by decide), fun _ => ?_, fun z => absurd z (by decide), fun z => absurd z (by decide), fun z => absurd z (by decide)⟩
          exact ⟨in_1 hW, fun J13 hJ13 J17 hJ17 => ⟨fun z => absurd ((n0 (by omega)).mp z) hn, fun _ J108 hJ108 => ⟨fun _ => hJ108 1 ⟨cK σ σ', cS σ σ', ⟨by omega, by omega⟩, H _ (fun M' h1 h2 => ⟨fun z => absurd z d10, fun _ => hJ17 M' _ _ (hJ13 1 M' _ _ ⟨Or.inr rfl, hp M' h1 h2⟩)⟩)⟩, fun y => absurd e3 y⟩⟩⟩
        refine ⟨fun z => go 0 ?_, fun z => ⟨in_1 hW, z, go _ ?_⟩⟩
        · rw [if_pos ((n0 (by omega)).mp z)]
          rfl
        · rw [if_neg (fun y => z ((n0 (by omega)).mpr y))]
          exact rem_nI hb (by omega)
      · obtain ⟨σ', nx, H⟩ := m_leaves hW hM hI hX hk hu hc 0
        refine ⟨σ', nx, fun post hp x1 e1 x2 e2 => ⟨in_1 hW, fun J5 hJ5 => ?_⟩⟩
        rw [r6 ha] at e1
        rw [r6 hb] at e2
        subst e1
        subst e2
        rw [r13 hw, ev] at hJ5
        rw [ix_1, hM.2.1] at hJ5 ⊢
        have go : ∀ x4, x4 = nI (if sgN σ 0 = 0 then 0 else b % sgN σ 0) → J5 x4 := fun x4 e4 => by
          refine hJ5 x4 (fun x6 e6 J7 hJ7 J24 hJ24 J36 hJ36 => ?_)
          rw [r4 ha] at e6
          rw [if_neg hn] at e4
          subst e4
          subst e6
          refine ⟨fun z => absurd z (by decide), fun z => absurd z (by decide), fun z => absurd z (by decide), fun z => absurd z (by decide), fun z => absurd z (by decide), fun z => absurd z (by decide), fun z => absurd z (by decide), fun z => absurd z (by decide), fun z => absurd z (by decide), fun _ => ?_, fun z => absurd z (by decide), fun z => absurd z (by decide), fun z => absurd z (by decide)⟩
          exact ⟨in_1 hW, fun J13 hJ13 J17 hJ17 => ⟨fun z => absurd ((n0 (by omega)).mp z) hn, fun _ J108 hJ108 => ⟨fun y => absurd y e3, fun _ => hJ108 0 ⟨cK σ σ', cS σ σ', ⟨by omega, by omega⟩, H _ (fun M' h1 h2 => ⟨fun z => absurd z d10, fun _ => hJ17 M' _ _ (hJ13 1 M' _ _ ⟨Or.inr rfl, hp M' h1 h2⟩)⟩)⟩⟩⟩⟩
        refine ⟨fun z => go 0 ?_, fun z => ⟨in_1 hW, z, go _ ?_⟩⟩
        · rw [if_pos ((n0 (by omega)).mp z)]
          rfl
        · rw [if_neg (fun y => z ((n0 (by omega)).mpr y))]
          exact rem_nI hb (by omega)
set_option maxHeartbeats 8000000 in
theorem m_step10 (hW : WB A cc M σ) (hM : Mir M cc σ) (hI : Inv σ k) (hX : XI σ) (hk : k ≤ 490) {w a b : Nat} (hw : w < 2 ^ 31) (ha : a < 2 ^ 31) (hb : b < 2 ^ 31) (ev : w % 13 = 10) : ∃ σ', Nx σ k σ' ∧ ∀ post : Mem → Int32 → Prop, (∀ M', WB A cc M' σ' → Mir M' cc σ' → post M' 1) → w_L_step (cK σ σ') (cS σ σ') M (A 0) cc (nI w) (nI a) (nI b) post := by
  have h20 := inv_u hI
  have hG := inv_G hI
  have hV := inv_V hI
  have hs : a % 6 < 6 := Nat.mod_lt _ (by omega)
  have ht : b % 6 < 6 := Nat.mod_lt _ (by omega)
  have hc : a % 4 < 4 := Nat.mod_lt _ (by omega)
  · have hv0 := ev
    by_cases hn : sgN σ 0 = 0
    · refine ⟨σ, nx_rf hI hX, fun post hp x1 e1 x2 e2 => ⟨in_1 hW, fun J5 hJ5 => ?_⟩⟩
      rw [r6 ha] at e1
      rw [r6 hb] at e2
      subst e1
      subst e2
      rw [r13 hw, ev] at hJ5
      rw [ix_1, hM.2.1] at hJ5 ⊢
      have go : ∀ x4, x4 = nI (if sgN σ 0 = 0 then 0 else b % sgN σ 0) → J5 x4 := fun x4 e4 => by
        refine hJ5 x4 (fun x6 e6 J7 hJ7 J24 hJ24 J36 hJ36 => ?_)
        rw [r4 ha] at e6
        refine ⟨fun z => absurd z (by decide), fun z => absurd z (by decide), fun z => absurd z (by decide), fun z => absurd z (by decide), fun z => absurd z (by decide), fun z => absurd z (by decide), fun z => absurd z (by decide), fun z => absurd z (by decide), fun z => absurd z (by decide), fun z => absurd z (by decide), fun _ => ?_, fun z => absurd z (by decide), fun z => absurd z (by decide)⟩
        exact ⟨in_1 hW, fun J13 hJ13 J17 hJ17 => ⟨fun _ => hJ17 M 0 0 (hJ13 1 M 0 0 ⟨Or.inr rfl, hp M hW hM⟩), fun z => absurd ((n0 (by omega)).mpr hn) z⟩⟩
      refine ⟨fun z => go 0 ?_, fun z => ⟨in_1 hW, z, go _ ?_⟩⟩
      · rw [if_pos ((n0 (by omega)).mp z)]
        rfl
      · rw [if_neg (fun y => z ((n0 (by omega)).mpr y))]
        exact rem_nI hb (by omega)
    · have hu : b % sgN σ 0 < sgN σ 0 := Nat.mod_lt _ (by omega)
      obtain ⟨σ', nx, H⟩ := m_sets hW hM hI hX hk hu hc (show a / 4 % 16 < 16 by omega) (show b / 20 % 64 < 64 by omega)
      refine ⟨σ', nx, fun post hp x1 e1 x2 e2 => ⟨in_1 hW, fun J5 hJ5 => ?_⟩⟩
      rw [r6 ha] at e1
      rw [r6 hb] at e2
      subst e1
      subst e2
      rw [r13 hw, ev] at hJ5
      rw [ix_1, hM.2.1] at hJ5 ⊢
      have go : ∀ x4, x4 = nI (if sgN σ 0 = 0 then 0 else b % sgN σ 0) → J5 x4 := fun x4 e4 => by
        refine hJ5 x4 (fun x6 e6 J7 hJ7 J24 hJ24 J36 hJ36 => ?_)
        rw [r4 ha] at e6
        rw [if_neg hn] at e4
        subst e4
        subst e6
        refine ⟨fun z => absurd z (by decide), fun z => absurd z (by decide), fun z => absurd z (by decide), fun z => absurd z (by decide), fun z => absurd z (by decide), fun z => absurd z (by decide), fun z => absurd z (by decide), fun z => absurd z (by decide), fun z => absurd z (by decide), fun z => absurd z (by decide), fun _ => ?_, fun z => absurd z (by decide), fun z => absurd z (by decide)⟩
        refine ⟨in_1 hW, fun J13 hJ13 J17 hJ17 => ⟨fun z => absurd ((n0 (by omega)).mp z) hn, fun _ => ⟨cK σ σ', cS σ σ', ⟨by omega, by omega⟩, ?_⟩⟩⟩
        rw [r416 ha, r2064 hb]
        exact H _ (fun M' h1 h2 => ⟨fun z => absurd z d10, fun _ => hJ17 M' _ _ (hJ13 1 M' _ _ ⟨Or.inr rfl, hp M' h1 h2⟩)⟩)
      refine ⟨fun z => go 0 ?_, fun z => ⟨in_1 hW, z, go _ ?_⟩⟩
      · rw [if_pos ((n0 (by omega)).mp z)]
        rfl
      · rw [if_neg (fun y => z ((n0 (by omega)).mpr y))]
        exact rem_nI hb (by omega)
set_option maxHeartbeats 8000000 in
theorem m_step11 (hW : WB A cc M σ) (hM : Mir M cc σ) (hI : Inv σ k) (hX : XI σ) (hk : k ≤ 490) {w a b : Nat} (hw : w < 2 ^ 31) (ha : a < 2 ^ 31) (hb : b < 2 ^ 31) (ev : w % 13 = 11) : ∃ σ', Nx σ k σ' ∧ ∀ post : Mem → Int32 → Prop, (∀ M', WB A cc M' σ' → Mir M' cc σ' → post M' 1) → w_L_step (cK σ σ') (cS σ σ') M (A 0) cc (nI w) (nI a) (nI b) post := by
  have h20 := inv_u hI
  have hG := inv_G hI
  have hV := inv_V hI
  have hs : a % 6 < 6 := Nat.mod_lt _ (by omega)
  have ht : b % 6 < 6 := Nat.mod_lt _ (by omega)
  have hc : a % 4 < 4 := Nat.mod_lt _ (by omega)
  · have hv0 := ev
    obtain ⟨R, hR1, hR2, hR3⟩ := da_R (pd_OK k) (pd_falls k) (inv_PD hI (by omega))
    have hI' := inv_all hI (by omega) hR2
    have hX' := xi_all hI (by omega) hX R
    have hP := inv_PD hI (show k ≤ 512 by omega)
    obtain ⟨d1, d2, d3⟩ := da_keep hP R
    have h2 : sgN σ 2 ≤ sgN (tickL (daN σ R).1) 2 := by
      have := da_2 σ 0 R
      rw [Nat.zero_add] at this
      exact this
    have hph := inv_Ph hI
    have c1 := da_ph hP R
    have c2 := da_tot hP R
    have h22 : sgN (tickL (daN σ R).1) 2 = sgN (daN σ R).1 2 := rfl
    refine ⟨tickL (daN σ R).1, ⟨inv_up hI' (by omega), hX', h2⟩, fun post hp x1 e1 x2 e2 => ⟨in_1 hW, fun J5 hJ5 => ?_⟩⟩
    rw [r6 ha] at e1
    rw [r6 hb] at e2
    subst e1
    subst e2
    rw [r13 hw, ev] at hJ5
    rw [ix_1, hM.2.1] at hJ5 ⊢
    have go : ∀ x4, x4 = nI (if sgN σ 0 = 0 then 0 else b % sgN σ 0) → J5 x4 := fun x4 e4 => by
      refine hJ5 x4 (fun x6 e6 J7 hJ7 J24 hJ24 J36 hJ36 => ?_)
      rw [r4 ha] at e6
      refine ⟨fun z => absurd z (by decide), fun z => absurd z (by decide), fun z => absurd z (by decide), fun z => absurd z (by decide), fun z => absurd z (by decide), fun z => absurd z (by decide), fun z => absurd z (by decide), fun z => absurd z (by decide), fun z => absurd z (by decide), fun z => absurd z (by decide), fun z => absurd z (by decide), fun _ => ?_, fun z => absurd z (by decide)⟩
      refine ⟨in_0 hW, in_0 hW, fun M133 e133 => ?_⟩
      subst e133
      have hW1 := wb_w hW (Int32.toNatClampNeg 0) (gI M cc (Int32.toNatClampNeg 0) + 1)
      refine a_lines hW1 ⟨wb_0 hW1, cK σ (tickL (daN σ R).1), cS σ (tickL (daN σ R).1), ⟨by omega, by omega⟩, c_all hW1 hI (by omega) hR1 hR2 hR3 (by unfold cK cS; omega) (fun M140 h140 hj J145 hJ145 J148 hJ148 => ?_)⟩
      have hM140 : Mir M140 cc (tickL (daN σ R).1) := mir_tick hM hj d1 (congrArg (· + 1) d3) (fun p _ => d2 p)
      refine ⟨fun z => absurd z (nI_nlt (by omega) (by omega)), fun _ => a_lines h140 ⟨fun _ => a_clock h140 ⟨in_0 h140, ?_⟩, fun z => absurd ?_ z⟩⟩
      · rw [ix_0, hM140.1]
        exact ⟨fun _ => ⟨0, 0, ⟨by omega, by omega⟩, m_quiet h140 hM140 hI' hX' ⟨fun z => absurd z d10, fun _ => hJ145 1 _ _ ⟨Or.inr rfl, hp M140 h140 hM140⟩⟩⟩, fun z => absurd rfl z⟩
      · have e9 : tot (tickL (daN σ R).1) = 0 := hR2
        rw [e9]
        rfl
    refine ⟨fun z => go 0 ?_, fun z => ⟨in_1 hW, z, go _ ?_⟩⟩
    · rw [if_pos ((n0 (by omega)).mp z)]
      rfl
    · rw [if_neg (fun y => z ((n0 (by omega)).mpr y))]
      exact rem_nI hb (by omega)
set_option maxHeartbeats 8000000 in
theorem m_step12 (hW : WB A cc M σ) (hM : Mir M cc σ) (hI : Inv σ k) (hX : XI σ) (hk : k ≤ 490) {w a b : Nat} (hw : w < 2 ^ 31) (ha : a < 2 ^ 31) (hb : b < 2 ^ 31) (ev : w % 13 = 12) : ∃ σ', Nx σ k σ' ∧ ∀ post : Mem → Int32 → Prop, (∀ M', WB A cc M' σ' → Mir M' cc σ' → post M' 1) → w_L_step (cK σ σ') (cS σ σ') M (A 0) cc (nI w) (nI a) (nI b) post := by
  have h20 := inv_u hI
  have hG := inv_G hI
  have hV := inv_V hI
  have hs : a % 6 < 6 := Nat.mod_lt _ (by omega)
  have ht : b % 6 < 6 := Nat.mod_lt _ (by omega)
  have hc : a % 4 < 4 := Nat.mod_lt _ (by omega)
  · have hv0 := ev
    have ti := inv_tot hI
    refine ⟨σ, nx_rf hI hX, fun post hp x1 e1 x2 e2 => ⟨in_1 hW, fun J5 hJ5 => ?_⟩⟩
    rw [r6 ha] at e1
    rw [r6 hb] at e2
    subst e1
    subst e2
    rw [r13 hw, ev] at hJ5
    rw [ix_1, hM.2.1] at hJ5 ⊢
    have go : ∀ x4, x4 = nI (if sgN σ 0 = 0 then 0 else b % sgN σ 0) → J5 x4 := fun x4 e4 => by
      refine hJ5 x4 (fun x6 e6 J7 hJ7 J24 hJ24 J36 hJ36 => ?_)
      rw [r4 ha] at e6
      refine ⟨fun z => absurd z (by decide), fun z => absurd z (by decide), fun z => absurd z (by decide), fun z => absurd z (by decide), fun z => absurd z (by decide), fun z => absurd z (by decide), fun z => absurd z (by decide), fun z => absurd z (by decide), fun z => absurd z (by decide), fun z => absurd z (by decide), fun z => absurd z (by decide), fun z => absurd z (by decide), fun _ => ?_⟩
      refine a_lines hW (fun J166 hJ166 J169 hJ169 => ⟨fun z => absurd z (nI_pos (by omega)), fun _ => ?_⟩)
      have ok : ∀ k9 n9, J166 1 k9 n9 := fun k9 n9 => hJ166 1 k9 n9 ⟨Or.inr rfl, hp M hW hM⟩
      exact a_same hW hs ht ⟨Nat.zero_le _, Nat.zero_le _⟩ (fun e => a_same hW ht hs ⟨Nat.zero_le _, Nat.zero_le _⟩ (fun _ => ⟨fun _ => ok _ _, fun z => absurd rfl z⟩) (fun z => absurd ⟨e.1.symm, fun c h9 => ⟨(e.2 c h9).1.symm, (e.2 c h9).2.1.symm, (e.2 c h9).2.2.1.symm, (e.2 c h9).2.2.2.symm⟩⟩ z)) (fun e => a_same hW ht hs ⟨Nat.zero_le _, Nat.zero_le _⟩ (fun z => absurd ⟨z.1.symm, fun c h9 => ⟨(z.2 c h9).1.symm, (z.2 c h9).2.1.symm, (z.2 c h9).2.2.1.symm, (z.2 c h9).2.2.2.symm⟩⟩ e) (fun _ => ⟨fun _ => ok _ _, fun z => absurd rfl z⟩))
    refine ⟨fun z => go 0 ?_, fun z => ⟨in_1 hW, z, go _ ?_⟩⟩
    · rw [if_pos ((n0 (by omega)).mp z)]
      rfl
    · rw [if_neg (fun y => z ((n0 (by omega)).mpr y))]
      exact rem_nI hb (by omega)
theorem m_step (hW : WB A cc M σ) (hM : Mir M cc σ) (hI : Inv σ k) (hX : XI σ) (hk : k ≤ 490) {w a b : Nat} (hw : w < 2 ^ 31) (ha : a < 2 ^ 31) (hb : b < 2 ^ 31) : ∃ σ', Nx σ k σ' ∧ ∀ post : Mem → Int32 → Prop, (∀ M', WB A cc M' σ' → Mir M' cc σ' → post M' 1) → w_L_step (cK σ σ') (cS σ σ') M (A 0) cc (nI w) (nI a) (nI b) post := by
  have hv : w % 13 < 13 := Nat.mod_lt _ (by omega)
  rcases (show w % 13 = 0 ∨ w % 13 = 1 ∨ w % 13 = 2 ∨ w % 13 = 3 ∨ w % 13 = 4 ∨ w % 13 = 5 ∨ w % 13 = 6 ∨ w % 13 = 7 ∨ w % 13 = 8 ∨ w % 13 = 9 ∨ w % 13 = 10 ∨ w % 13 = 11 ∨ w % 13 = 12 by omega) with ev | ev | ev | ev | ev | ev | ev | ev | ev | ev | ev | ev | ev
  · exact m_step0 hW hM hI hX hk hw ha hb ev
  · exact m_step1 hW hM hI hX hk hw ha hb ev
  · exact m_step2 hW hM hI hX hk hw ha hb ev
  · exact m_step3 hW hM hI hX hk hw ha hb ev
  · exact m_step4 hW hM hI hX hk hw ha hb ev
  · exact m_step5 hW hM hI hX hk hw ha hb ev
  · exact m_step6 hW hM hI hX hk hw ha hb ev
  · exact m_step7 hW hM hI hX hk hw ha hb ev
  · exact m_step8 hW hM hI hX hk hw ha hb ev
  · exact m_step9 hW hM hI hX hk hw ha hb ev
  · exact m_step10 hW hM hI hX hk hw ha hb ev
  · exact m_step11 hW hM hI hX hk hw ha hb ev
  · exact m_step12 hW hM hI hX hk hw ha hb ev
end WI
