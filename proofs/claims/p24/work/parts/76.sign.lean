/-! SIGN ON -/
theorem let_ok : ∀ l, l < 26 → letL (((65 + nI l).toUInt32 % 65536).toInt32) = nI l ∧ letL (((97 + nI l).toUInt32 % 65536).toInt32) = nI l := by decide +kernel
theorem least_bt {x : Int32} (hb : b6 x) (hn : ¬ x = 0) : ∃ o, o < 6 ∧ bt x o = true ∧ ∀ j, j < o → ¬ bt x j = true := by
  have key : ∀ n, n ≤ 6 → (∃ o, o < n ∧ bt x o = true ∧ ∀ j, j < o → ¬ bt x j = true) ∨ ∀ j, j < n → ¬ bt x j = true := by
    intro n
    induction n with
    | zero => intro _; exact Or.inr (fun j hj => by omega)
    | succ n ih =>
      intro hn
      rcases ih (by omega) with ⟨o, h1, h2⟩ | h
      · exact Or.inl ⟨o, by omega, h2⟩
      · by_cases e : bt x n = true
        · exact Or.inl ⟨n, by omega, e, h⟩
        · refine Or.inr (fun j hj => ?_)
          by_cases ej : j = n
          · rw [ej]; exact e
          · exact h j (by omega)
  rcases key 6 (Nat.le_refl _) with h | h
  · exact h
  · refine absurd (b_ext (fun i _ => ?_)) hn
    rw [b_0]
    by_cases hi : i < 6
    · exact bt_false (h i hi)
    · exact hb i (by omega)
theorem cN_6 {x : Int32} (hb : b6 x) : cN x 20 = cN x 6 := cN_more (k := 6) hb 14
/-- is a name free: the law's own count -/
def frN (σ : Sg) (s : Nat) (l : Int32) : Nat → Bool
  | 0 => decide (sgN σ 0 < 20)
  | u + 1 => frN σ s l u && !(bt (sgI σ 1 s) u && decide (sgI σ 6 u = l))
theorem fr_iff (σ : Sg) (s : Nat) (l : Int32) : ∀ n, frN σ s l n = true ↔ (sgN σ 0 < 20 ∧ ∀ v, v < n → ¬ (bt (sgI σ 1 s) v = true ∧ sgI σ 6 v = l)) := by
  intro n
  induction n with
  | zero =>
    show decide (sgN σ 0 < 20) = true ↔ _
    rw [decide_eq_true_eq]
    exact ⟨fun h => ⟨h, fun v hv => by omega⟩, fun h => h.1⟩
  | succ n ih =>
    show (frN σ s l n && !(bt (sgI σ 1 s) n && decide (sgI σ 6 n = l))) = true ↔ _
    rw [Bool.and_eq_true, ih, Bool.not_eq_true', Bool.and_eq_false_iff, decide_eq_false_iff_not]
    constructor
    · rintro ⟨⟨h1, h2⟩, h3⟩
      refine ⟨h1, fun v hv => ?_⟩
      by_cases ev : v = n
      · rw [ev]
        rintro ⟨g1, g2⟩
        rcases h3 with h3 | h3
        · rw [h3] at g1; cases g1
        · exact h3 g2
      · exact h2 v (by omega)
    · rintro ⟨h1, h2⟩
      refine ⟨⟨h1, fun v hv => h2 v (by omega)⟩, ?_⟩
      have h3 := h2 n (by omega)
      cases hb : bt (sgI σ 1 s) n with
      | false => exact Or.inl rfl
      | true => exact Or.inr (fun z => h3 ⟨hb, z⟩)
theorem fr_ns {σ : Sg} (hu : sgN σ 0 ≤ 20) {s : Nat} {l : Int32} (h : frN σ s l (sgN σ 0) = true) : nsL σ s l (-1) = -1 := by
  have h2 := ((fr_iff σ s l _).mp h).2
  rcases nsN_spec σ s l (-1) (sgN σ 0) (by omega) with ⟨g, _⟩ | ⟨u, g1, g2, g3⟩
  · exact g
  · exact absurd ⟨g3.2.2, g3.2.1⟩ (h2 u g1)
theorem b2i_n0 {b : Bool} (h : b = true) : ¬ b2i b = 0 := by rw [h]; decide
theorem rd_5 {M M1 M2 M3 M4 : Mem} {cc a b : Nat} {x y z w : Int32} (e1 : M1 = sI M cc a x) (e2 : M2 = sI M1 cc b y) (e3 : M3 = sI M2 cc 0 z) (e4 : M4 = sI M3 cc 1 w) (j : Nat) : gI M4 cc j = if j = 1 then w else if j = 0 then z else if j = b then y else if j = a then x else gI M cc j := by
  rw [e4, rd_w, e3, rd_w, e2, rd_w, e1, rd_w]
theorem sign_1 (σ : Sg) (s : Nat) (l : Int32) : sgN (signL σ s l) 1 = sgN σ 1 + 1 := by
  show sgN (spreadL (learnL (bookL σ s l) s (sgN σ 0)) s (-1) (qln 0 (sgN σ 0))) 1 + 1 = _
  rw [spread_N _ _ _ _ 1 (by decide)]
  rfl
theorem sign_k (σ : Sg) (s : Nat) (l : Int32) : sgI (signL σ s l) 1 s = sb (sgI σ 1 s) (nI (sgN σ 0)) := by
  show sgI (spreadL (learnL (bookL σ s l) s (sgN σ 0)) s (-1) (qln 0 (sgN σ 0))) 1 s = _
  rw [spread_I]
  show sgI (uI (bookL σ s l) 1 s (sb (sgI (bookL σ s l) 1 s) (nI (sgN σ 0)))) 1 s = _
  rw [sgI_uI, if_pos ⟨rfl, rfl⟩, book_o σ s l 1 s (by omega)]
theorem sign_lk (σ : Sg) (s : Nat) (l : Int32) (p : Nat) : sgI (signL σ s l) 0 p = sgI σ 0 p := by rw [sign_I σ s l 0 p (by decide), book_o σ s l 0 p (by omega)]
theorem tot_sign (σ : Sg) {s : Nat} (hs : s < 6) (l : Int32) : tot (signL σ s l) = tot σ + cN (sgI σ 0 s) 6 := by
  have h : tot (spreadL (learnL (bookL σ s l) s (sgN σ 0)) s (-1) (qln 0 (sgN σ 0))) = _ := tot_spread (learnL (bookL σ s l) s (sgN σ 0)) hs (qln 0 (sgN σ 0)) 6 (Nat.le_refl _)
  have e1 : sgI (learnL (bookL σ s l) s (sgN σ 0)) 0 s = sgI σ 0 s := by
    show sgI (uI (bookL σ s l) 1 s _) 0 s = _
    rw [sgI_uI, if_neg (by omega), book_o σ s l 0 s (by omega)]
  have e2 : tot (learnL (bookL σ s l) s (sgN σ 0)) = tot σ := rfl
  rw [e1, e2] at h
  exact h
section WG
variable {A : Nat → Nat} {cc : Nat} {M : Mem} {σ : Sg} {k : Nat}
theorem mir_sign {s : Nat} {l : Int32} {M1 M2 M3 M4 M5 : Mem} (hM : Mir M cc σ) (hu : sgN σ 0 < 20) (e1 : M1 = sI M cc (8 + sgN σ 0) l) (e2 : M2 = sI M1 cc (28 + sgN σ 0) (nI s)) (e3 : M3 = sI M2 cc 0 (gI M cc 0 + 1)) (e4 : M4 = sI M3 cc 1 (gI M cc 1 + 1)) (hj : ∀ j, gI M5 cc j = gI M4 cc j) : Mir M5 cc (signL σ s l) := by
  have r : ∀ j, gI M5 cc j = if j = 1 then gI M cc 1 + 1 else if j = 0 then gI M cc 0 + 1 else if j = 28 + sgN σ 0 then nI s else if j = 8 + sgN σ 0 then l else gI M cc j := fun j => (hj j).trans (rd_5 e1 e2 e3 e4 j)
  obtain ⟨m0, m1, m2, m3⟩ := hM
  refine ⟨?_, ?_, fun p hp => ?_, fun u hu' => ?_⟩
  · rw [r, if_neg (by omega), if_pos rfl, m0, nI_1, sign_1]
  · rw [r, if_pos rfl, m1, nI_1, sign_0]
  · rw [r, if_neg (by omega), if_neg (by omega), if_neg (by omega), if_neg (by omega), sign_lk]
    exact m2 p hp
  · rw [sign_0] at hu'
    rw [sign_I σ s l 6 u (by decide), sign_I σ s l 7 u (by decide), book_6, book_7, r, r]
    by_cases e : u = sgN σ 0
    · rw [if_pos e, if_pos e, e, if_neg (by omega), if_neg (by omega), if_neg (by omega), if_pos rfl, if_neg (by omega), if_neg (by omega), if_pos rfl]
      exact ⟨rfl, rfl⟩
    · rw [if_neg e, if_neg e, if_neg (by omega), if_neg (by omega), if_neg (by omega), if_neg (by omega), if_neg (by omega), if_neg (by omega), if_neg (by omega), if_neg (by omega)]
      exact m3 u (by omega)
theorem m_signF (hW : WB A cc M σ) (hM : Mir M cc σ) (hI : Inv σ k) (hk : k ≤ 490) {s l : Nat} (hs : s < 6) (hl : l < 26) (b : Int32) (hf : frN σ s (nI l) (sgN σ 0) = true) {mc ms : Nat} {post : Mem → Int32 → Prop} (hmc : sgN (signL σ s (nI l)) 2 - sgN σ 2 + 1 ≤ mc ∧ 8 * (sgN (signL σ s (nI l)) 2 - sgN σ 2) + 6 ≤ ms)
    (h1 : (sgI σ 0 s = 0 ∨ ¬ b = 0) → ∀ M', WB A cc M' (signL σ s (nI l)) → Mir M' cc (signL σ s (nI l)) → post M' 1)
    (h2 : ¬ sgI σ 0 s = 0 → b = 0 → ∀ M', WB A cc M' (signL σ s (nI l)) → Mir M' cc (signL σ s (nI l)) → ∃ c d, (sgN (signL σ s (nI l)) 2 - sgN σ 2 + 1 + c ≤ mc ∧ 8 * (sgN (signL σ s (nI l)) 2 - sgN σ 2) + 6 + d ≤ ms) ∧ ∀ R : Mem → Int32 → Prop, (∀ M'', post M'' 1 → R M'' 1) → w_L_delivers c d M' (A 0) cc (nI s) R) : w_L_signs mc ms M (A 0) cc (nI s) (nI l) b post := by
  have h20 := inv_u hI
  have hu : sgN σ 0 < 20 := ((fr_iff σ s (nI l) _).mp hf).1
  have hns := fr_ns h20 hf
  have hG := inv_G hI
  refine ⟨in_1 hW, fun J3 hJ3 => ?_⟩
  rw [ix_1, hM.2.1]
  refine ⟨fun z => absurd z (nI_ge (b := 20) hu (by omega)), fun _ => hJ3 1 ?_⟩
  have f0 : ∀ c, c ≤ sgN σ 0 → frN σ s (nI l) c = true := fun c hc => by
    have h := (fr_iff σ s (nI l) _).mp hf
    exact (fr_iff σ s (nI l) c).mpr ⟨h.1, fun v hv => h.2 v (by omega)⟩
  refine Lp_forX (sgN σ 0) (fun c => ((1 : Int32), nI c, 0, 0)) (fun z => z.2.1.toNatClampNeg) (fun c hc => clN (by omega)) rfl ?_
  intro c K hc hK x4 x5 k6 n7 ez
  cases ez
  refine ⟨in_1 hW, ?_⟩
  rw [ix_1, hM.2.1]
  refine ⟨fun ec => ⟨fun z => absurd z d10, fun _ => ⟨in_1 hW, fun x11 e11 => ?_⟩⟩, fun ec J85 hJ85 J89 hJ89 => ⟨fun z => absurd z d10, fun _ => ?_⟩⟩
  · subst e11
    refine a_lines hW ⟨in_8 hW hu, fun M14 e14 => ?_⟩
    have hW14 : WB A cc M14 σ := by rw [e14]; exact wb_w hW _ _
    refine ⟨in_28 hW14 hu, fun M16 e16 => ?_⟩
    have hW16 : WB A cc M16 σ := by rw [e16]; exact wb_w hW14 _ _
    refine ⟨in_0 hW16, in_0 hW16, fun M19 e19 => ?_⟩
    have hW19 : WB A cc M19 σ := by rw [e19]; exact wb_w hW16 _ _
    refine ⟨in_1 hW19, in_1 hW19, fun M22 e22 => ?_⟩
    have hW22 : WB A cc M22 σ := by rw [e22]; exact wb_w hW19 _ _
    rw [ix_8 (by omega)] at e14
    rw [ix_28 (by omega)] at e16
    rw [ix_0] at e19
    have r16 : gI M16 cc 0 = gI M cc 0 := by rw [e16, rd_w, if_neg (by omega), e14, rd_w, if_neg (by omega)]
    have r19 : gI M19 cc 1 = gI M cc 1 := by rw [e19, rd_w, if_neg (by omega), e16, rd_w, if_neg (by omega), e14, rd_w, if_neg (by omega)]
    rw [r16] at e19
    rw [r19] at e22
    have lnz : ¬ nI l = -1 := nI_m1 (by omega)
    have hI' := inv_sign hI (by omega) hs ⟨l, hl, rfl⟩ hu hns
    have main : ∀ x24 : Int32, letL (((x24 + nI l).toUInt32 % 65536).toInt32) = nI l → ∀ (J25 : Int32 → Prop) (Q : Int32 → Prop), (Q x24 → J25 x24) → Q x24 → J25 x24 := fun x24 _ J25 Q h h9 => h h9
    intro J25 hJ25
    have go : ∀ x24 : Int32, letL (((x24 + nI l).toUInt32 % 65536).toInt32) = nI l → J25 x24 := by
      intro x24 hlet
      refine hJ25 x24 ⟨wb_0 hW22, sgN (signL σ s (nI l)) 2 - sgN σ 2 + 1, 8 * (sgN (signL σ s (nI l)) 2 - sgN σ 2) + 6, ⟨by omega, by omega⟩, c_sign hW22 hI (by omega) hs hlet lnz hu hns ⟨Nat.le_refl _, Nat.le_refl _⟩ (fun M29 h29 hj J34 hJ34 J59 hJ59 => ?_)⟩
      have hM29 : Mir M29 cc (signL σ s (nI l)) := mir_sign hM hu e14 e16 e19 e22 hj
      have hlk : gI M29 cc (Int32.toNatClampNeg (2 + nI s)) = sgI σ 0 s := by rw [ix_2 (by omega), hM29.2.2.1 s hs, sign_lk]
      have hb6 : b6 (sgI σ 0 s) := hG.1 s hs
      have fin : ∀ k32 n33, k32 = 0 + (sgN (signL σ s (nI l)) 2 - sgN σ 2 + 1) + 0 → n33 = 0 + (8 * (sgN (signL σ s (nI l)) 2 - sgN σ 2) + 6) + 0 → J34 1 k32 n33 := by
        intro k32 n33 ek en
        refine hJ34 1 k32 n33 (fun J39 hJ39 J43 hJ43 => ⟨fun z => absurd z d10, fun _ => ⟨in_2 h29 hs, fun J48 hJ48 => ?_⟩⟩)
        rw [hlk]
        have ok : ∀ M' k' n', post M' 1 → J48 M' k' n' := fun M' k' n' h => hJ48 M' k' n' (hJ39 1 M' k' n' ⟨Or.inr rfl, h⟩)
        refine ⟨fun z => ok _ _ _ (h1 (Or.inl z) M29 h29 hM29), fun z => ⟨fun zb => ?_, fun zb => ok _ _ _ (h1 (Or.inr zb) M29 h29 hM29)⟩⟩
        obtain ⟨c9, d9, g1, g2⟩ := h2 z zb M29 h29 hM29
        exact ⟨c9, d9, ⟨by omega, by omega⟩, g2 _ (fun M'' h => ⟨fun z => absurd z d10, fun _ => ok _ _ _ h⟩)⟩
      refine ⟨fun _ => a_users h29 ⟨fun _ => a_known h29 hs ⟨by omega, by omega⟩ ⟨fun _ => a_lines h29 ⟨in_2 h29 hs, ?_⟩, fun z => absurd ?_ z⟩, fun z => absurd ?_ z⟩, fun z => absurd rfl z⟩
      · rw [hlk]
        refine m_count M29 _ ⟨fun _ => fin _ _ rfl rfl, fun z => absurd ?_ z⟩
        rw [cN_6 hb6, tot_sign σ hs, nI_add]
      · rw [sign_k]
        exact (hs_one _ (by omega)).mpr ((sb_iff _ (by omega) _).mpr (Or.inr rfl))
      · rw [sign_0, nI_1]
    exact ⟨fun _ => go 65 (let_ok l hl).1, fun _ => go 97 (let_ok l hl).2⟩
  · have hlt : c < sgN σ 0 := Nat.not_le.mp (fun z => ec ((le_nI (by omega) (by omega)).mpr z))
    refine a_known hW hs ⟨Nat.zero_le _, Nat.zero_le _⟩ (fun J94 hJ94 => ?_)
    have hJ : J94 := hJ94 (hJ85 1 _ _ (fun x86 e86 => by rw [e86, nI_1]; exact hK hlt))
    refine ⟨fun _ => hJ, fun eb => ⟨in_8 hW (by omega), fun el => ?_, fun _ => hJ⟩⟩
    rw [ix_8 (by omega), (hM.2.2.2 c hlt).1] at el
    have hb : bt (sgI σ 1 s) c = true := Classical.byContradiction (fun z => eb ((hs_ex _ (by omega)).mpr (bt_false z)))
    exact absurd ⟨hb, el⟩ (((fr_iff σ s (nI l) _).mp hf).2 c hlt)
/-- the name isn't free -/
theorem m_signN (hW : WB A cc M σ) (hM : Mir M cc σ) (hI : Inv σ k) {s l : Nat} (hs : s < 6) (b : Int32) (hf : frN σ s (nI l) (sgN σ 0) = false) {mc ms : Nat} {post : Mem → Int32 → Prop} (hp : post M 1) : w_L_signs mc ms M (A 0) cc (nI s) (nI l) b post := by
  have h20 := inv_u hI
  refine ⟨in_1 hW, fun J3 hJ3 => ?_⟩
  rw [ix_1, hM.2.1]
  have go : J3 (b2i (frN σ s (nI l) 0)) := by
    refine hJ3 _ ?_
    refine Lp_forX (sgN σ 0) (fun c => (b2i (frN σ s (nI l) c), nI c, 0, 0)) (fun z => z.2.1.toNatClampNeg) (fun c hc => clN (by omega)) rfl ?_
    intro c K hc hK x4 x5 k6 n7 ez
    cases ez
    refine ⟨in_1 hW, ?_⟩
    rw [ix_1, hM.2.1]
    refine ⟨fun ec => ?_, fun ec J85 hJ85 J89 hJ89 => ?_⟩
    · have h1 : sgN σ 0 ≤ c := (le_nI (by omega) (by omega)).mp ec
      have h2 : c = sgN σ 0 := by omega
      rw [h2, hf]
      exact ⟨fun _ => a_users hW ⟨in_1 hW, fun J79 hJ79 => ⟨fun _ => hJ79 1 ⟨Or.inr rfl, hp⟩, fun z => absurd rfl z⟩⟩, fun z => absurd rfl z⟩
    · have hlt : c < sgN σ 0 := Nat.not_le.mp (fun z => ec ((le_nI (by omega) (by omega)).mpr z))
      have nx : ∀ b', b' = frN σ s (nI l) (c + 1) → ∀ x86, x86 = nI c + 1 → K (b2i b', x86, 0, 0) := fun b' eb x86 e86 => by rw [e86, nI_1, eb]; exact hK hlt
      cases hc1 : frN σ s (nI l) c with
      | false =>
        have e1 : frN σ s (nI l) (c + 1) = false := by
          show (frN σ s (nI l) c && _) = false
          rw [hc1, Bool.false_and]
        exact ⟨fun _ => hJ89 _ _ (hJ85 0 _ _ (nx false e1.symm)), fun z => absurd rfl z⟩
      | true =>
        refine ⟨fun z => absurd z d10, fun _ => a_known hW hs ⟨Nat.zero_le _, Nat.zero_le _⟩ (fun J94 hJ94 => ?_)⟩
        have e0 : frN σ s (nI l) (c + 1) = !(bt (sgI σ 1 s) c && decide (sgI σ 6 c = nI l)) := by
          show (frN σ s (nI l) c && _) = _
          rw [hc1, Bool.true_and]
        refine ⟨fun eb => hJ94 (hJ85 1 _ _ (nx true ?_)), fun eb => ⟨in_8 hW (by omega), fun el => hJ89 _ _ (hJ85 0 _ _ (nx false ?_)), fun el => hJ94 (hJ85 1 _ _ (nx true ?_))⟩⟩
        · rw [e0, (hs_ex _ (by omega)).mp eb]
          rfl
        · have hb : bt (sgI σ 1 s) c = true := Classical.byContradiction (fun z => eb ((hs_ex _ (by omega)).mpr (bt_false z)))
          rw [ix_8 (by omega), (hM.2.2.2 c hlt).1] at el
          rw [e0, hb, decide_eq_true el]
          rfl
        · rw [ix_8 (by omega), (hM.2.2.2 c hlt).1] at el
          rw [e0, decide_eq_false el, Bool.and_false]
          rfl
  refine ⟨fun e => ?_, fun e => ?_⟩
  · have h1 : 20 ≤ sgN σ 0 := (le_nI (a := 20) (by omega) (by omega)).mp e
    have h2 : frN σ s (nI l) 0 = false := decide_eq_false (by omega)
    rw [h2] at go
    exact go
  · have h1 : sgN σ 0 < 20 := Nat.not_le.mp (fun z => e ((le_nI (a := 20) (by omega) (by omega)).mpr z))
    have h2 : frN σ s (nI l) 0 = true := decide_eq_true h1
    rw [h2] at go
    exact go
theorem m_signs (hW : WB A cc M σ) (hM : Mir M cc σ) (hI : Inv σ k) (hX : XI σ) (hk : k ≤ 490) {s l : Nat} (hs : s < 6) (hl : l < 26) (b : Int32) : ∃ σ', Nx σ k σ' ∧ ∀ post : Mem → Int32 → Prop, (∀ M', WB A cc M' σ' → Mir M' cc σ' → post M' 1) → w_L_signs (cK σ σ') (cS σ σ') M (A 0) cc (nI s) (nI l) b post := by
  have h20 := inv_u hI
  cases hf : frN σ s (nI l) (sgN σ 0) with
  | false => exact ⟨σ, nx_rf hI hX, fun post hp => m_signN hW hM hI hs b hf (hp M hW hM)⟩
  | true =>
    have hu : sgN σ 0 < 20 := ((fr_iff σ s (nI l) _).mp hf).1
    have hns := fr_ns h20 hf
    have hI' := inv_sign hI (by omega) hs ⟨l, hl, rfl⟩ hu hns
    have hX' := xi_sign (inv_V hI) hX hs hu (nI l)
    have h2 : sgN σ 2 ≤ sgN (signL σ s (nI l)) 2 := spread_2 (learnL (bookL σ s (nI l)) s (sgN σ 0)) hs (-1) (qln 0 (sgN σ 0))
    by_cases hd : sgI σ 0 s = 0 ∨ ¬ b = 0
    · refine ⟨signL σ s (nI l), ⟨inv_up hI' (by omega), hX', h2⟩, fun post hp => m_signF hW hM hI hk hs hl b hf (by unfold cK cS; omega) (fun _ => hp) (fun z zb => absurd hd (fun y => y.elim z (fun y => y zb)))⟩
    · have hn : ¬ sgI σ 0 s = 0 := fun z => hd (Or.inl z)
      obtain ⟨o, ho, hb, hlo⟩ := least_bt (inv_G hI |>.1 s hs) hn
      have hq : sgQ (signL σ s (nI l)) (s * 6 + o) ≠ [] := by
        have e1 : sgI (learnL (bookL σ s (nI l)) s (sgN σ 0)) 0 s = sgI σ 0 s := by
          show sgI (uI (bookL σ s (nI l)) 1 s _) 0 s = _
          rw [sgI_uI, if_neg (by omega), book_o σ s (nI l) 0 s (by omega)]
        have e2 : sgQ (signL σ s (nI l)) (s * 6 + o) = _ := spq (learnL (bookL σ s (nI l)) s (sgN σ 0)) hs (-1) (qln 0 (sgN σ 0)) 6 (Nat.le_refl _) s o hs ho
        rw [e2, if_pos ⟨rfl, ho, nI_m1 (by omega), by rw [e1]; exact hb⟩]
        exact fun z => by simp at z
      have h3 : sgN (signL σ s (nI l)) 2 ≤ sgN (dlvL (signL σ s (nI l)) s o) 2 := dlv_2 _ s ho
      have h4 : sgN (tickL (dlvL (signL σ s (nI l)) s o)) 2 = sgN (dlvL (signL σ s (nI l)) s o) 2 := rfl
      refine ⟨tickL (dlvL (signL σ s (nI l)) s o), ⟨inv_dlv hI' (by omega) hs ho, xi_tick (xi_dlv hI'.1 hX' hs ho), by omega⟩, fun post hp => m_signF hW hM hI hk hs hl b hf (by unfold cK cS; omega) (fun z => absurd z hd) (fun _ _ M' hW' hM' => ⟨sgN (dlvL (signL σ s (nI l)) s o) 2 - sgN (signL σ s (nI l)) 2 + 1, 8 * (sgN (dlvL (signL σ s (nI l)) s o) 2 - sgN (signL σ s (nI l)) 2) + 6, by unfold cK cS; omega, fun R hR => m_delivers hW' hM' hI' (by omega) hs ho (by rw [sign_lk]; exact hb) (fun j hj => by rw [sign_lk]; exact hlo j hj) hq ⟨Nat.le_refl _, Nat.le_refl _⟩ (fun M'' h1 h2 => hR M'' (hp M'' h1 h2))⟩)⟩
end WG
