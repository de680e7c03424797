/-! what the constructors make -/
theorem agr_tr {M M' M'' : Mem} {b : Nat} (h : agr M M' b) (h2 : agr M' M'' b) : agr M M'' b := ⟨h2.1.trans h.1, fun j => (h2.2.1 j).trans (h.2.1 j), fun j => (h2.2.2.1 j).trans (h.2.2.1 j), fun j => (h2.2.2.2 j).trans (h.2.2.2 j)⟩
def m0 (M : Mem) (a : Nat) : Mem := sI (sI (sI (sI M a 0 (-1)) a 1 (-1)) a 2 (-1)) a 3 0
theorem agr_m0 {M0 M : Mem} {a b : Nat} (h : agr M0 M b) (hne : b ≠ a) : agr M0 (m0 M a) b := agr_sI (agr_sI (agr_sI (agr_sI h hne) hne) hne) hne
def ch0 (M : Mem) (a : Nat) : Prop := gT M a = some (0, 0) ∧ gI M a 0 = -1 ∧ gI M a 1 = -1 ∧ gI M a 2 = -1 ∧ gI M a 3 = 0
theorem ch0_agr {M M' : Mem} {a : Nat} (h : ch0 M a) (g : agr M M' a) : ch0 M' a := ⟨g.1.trans h.1, (g.2.1 0).trans h.2.1, (g.2.1 1).trans h.2.2.1, (g.2.1 2).trans h.2.2.2.1, (g.2.1 3).trans h.2.2.2.2⟩
theorem m0_ch {M : Mem} {a : Nat} (h : gT M a = some (0, 0)) : ch0 (m0 M a) a := by
  refine ⟨h, ?_, ?_, ?_, ?_⟩
  · unfold m0
    rw [gI_sI, if_neg (by omega), gI_sI, if_neg (by omega), gI_sI, if_neg (by omega), gI_sI, if_pos ⟨rfl, rfl⟩]
  · unfold m0
    rw [gI_sI, if_neg (by omega), gI_sI, if_neg (by omega), gI_sI, if_pos ⟨rfl, rfl⟩]
  · unfold m0
    rw [gI_sI, if_neg (by omega), gI_sI, if_pos ⟨rfl, rfl⟩]
  · unfold m0
    rw [gI_sI, if_pos ⟨rfl, rfl⟩]
theorem p_x0init {M : Mem} {a : Nat} (h : gT M a = some (0, 0)) {post : Mem → Prop} (hp : post (m0 M a)) : w_X0_init M a post := by
  refine ⟨h, fun M2 e2 => ?_⟩
  subst e2
  refine ⟨h, fun M4 e4 => ?_⟩
  subst e4
  refine ⟨h, fun M6 e6 => ?_⟩
  subst e6
  refine ⟨h, fun M8 e8 => ?_⟩
  subst e8
  exact hp
/-- a view with its channels, the first c of them -/
def vw0 (M : Mem) (a ca : Nat) (M9 : Mem) (fc : Nat → Nat) (c : Nat) : Prop := (∀ b, b ≠ a → gT M b ≠ none → agr M M9 b) ∧ gT M9 a = some (3, 0) ∧ gI M9 a 0 = 0 ∧ gR M9 a 1 = some ca ∧ gT M9 ca = some (13, 4) ∧ gT M ca = none ∧ (∀ d, d < c → gR M9 ca d = some (fc d) ∧ ch0 M9 (fc d) ∧ gT M (fc d) = none ∧ fc d ≠ ca) ∧ ∀ d e, d < c → e < c → fc d = fc e → d = e
theorem vw0_step {M : Mem} {a ca : Nat} (ha : gT M a ≠ none) {M9 : Mem} {fc : Nat → Nat} {c q : Nat} (h : vw0 M a ca M9 fc c) (hq : gT M9 q = none) : vw0 M a ca (sR (m0 (sN M9 q (0, 0)) q) ca c (some q)) (fun d => if d = c then q else fc d) (c + 1) := by
  obtain ⟨h1, h2, h3, h4, h5, h6, h7, h8⟩ := h
  have nqa : a ≠ q := fun e => by rw [e, hq] at h2; cases h2
  have nqc : ca ≠ q := fun e => by rw [e, hq] at h5; cases h5
  have nca : a ≠ ca := fun e => ha (by rw [e]; exact h6)
  have nqf : ∀ d, d < c → fc d ≠ q := fun d hd e => by have := (h7 d hd).2.1.1; rw [e, hq] at this; cases this
  have hMq : gT M q = none := by
    cases hg : gT M q with
    | none => rfl
    | some t =>
      have := (h1 q (fun e => nqa e.symm) (by rw [hg]; exact fun z => by cases z)).1
      rw [hq, hg] at this
      cases this
  have st : ∀ b, b ≠ q → b ≠ ca → agr M9 (sR (m0 (sN M9 q (0, 0)) q) ca c (some q)) b := fun b n1 n2 => agr_sR (agr_m0 (agr_sN agr_rf n1) n1) n2
  have tq : gT (sN M9 q (0, 0)) q = some (0, 0) := by rw [gT_sN, if_pos rfl]
  have sa := st a nqa nca
  refine ⟨fun b n1 n2 => agr_tr (h1 b n1 n2) (st b (fun e => n2 (e ▸ hMq)) (fun e => n2 (e ▸ h6))), sa.1.trans h2, (sa.2.1 0).trans h3, (sa.2.2.1 1).trans h4, ?_, h6, fun d hd => ?_, fun d e hd he hde => ?_⟩
  · show gT (sN M9 q (0, 0)) ca = _
    rw [gT_sN, if_neg nqc]
    exact h5
  · by_cases e : d = c
    · subst e
      dsimp only
      rw [if_pos rfl]
      exact ⟨by rw [gR_sR, if_pos ⟨rfl, rfl⟩], ch0_agr (m0_ch tq) (agr_sR agr_rf (fun e => nqc e.symm)), hMq, fun e => nqc e.symm⟩
    · have hd' : d < c := by omega
      obtain ⟨g1, g2, g3, g4⟩ := h7 d hd'
      dsimp only
      rw [if_neg e]
      refine ⟨?_, ch0_agr g2 (st _ (nqf d hd') g4), g3, g4⟩
      rw [gR_sR, if_neg (fun z => e z.2)]
      show gR (sN M9 q (0, 0)) ca d = _
      rw [gR_sN, if_neg nqc]
      exact g1
  · dsimp only at hde
    by_cases e1 : d = c
    · by_cases e2 : e = c
      · omega
      · rw [if_pos e1, if_neg e2] at hde
        exact absurd hde.symm (nqf e (by omega))
    · by_cases e2 : e = c
      · rw [if_neg e1, if_pos e2] at hde
        exact absurd hde (nqf d (by omega))
      · rw [if_neg e1, if_neg e2] at hde
        exact h8 d e (by omega) (by omega) hde
theorem p_x3init {M : Mem} {a : Nat} (h : gT M a = some (3, 0)) {mc ms : Nat} (hb : 5 ≤ mc ∧ 20 ≤ ms) {post : Mem → Prop} (hp : ∀ M' ca fc, vw0 M a ca M' fc 4 → post M') : w_X3_init mc ms M a post := by
  have ha : gT M a ≠ none := by rw [h]; exact fun z => by cases z
  refine ⟨h, fun M2 e2 => ⟨⟨by omega, by omega⟩, fun q3 hq3 M4 e4 => ?_⟩⟩
  subst e2
  have hq : gT M q3 = none := hq3
  have naq : a ≠ q3 := fun e => ha (e ▸ hq)
  subst e4
  have tA : gT (sN (sI M a 0 0) q3 (13, 4)) a = some (3, 0) := by rw [gT_sN, if_neg naq]; exact h
  refine ⟨tA, fun M7 e7 => ?_⟩
  subst e7
  have start : vw0 M a q3 (sR (sN (sI M a 0 0) q3 (13, 4)) a 1 (some q3)) (fun _ => 0) 0 := by
    refine ⟨fun b n1 n2 => agr_sR (agr_sN (agr_sI agr_rf n1) (fun e => n2 (e ▸ hq))) n1, tA, ?_, by rw [gR_sR, if_pos ⟨rfl, rfl⟩], ?_, hq, fun d hd => by omega, fun d e hd => by omega⟩
    · show gI (sN (sI M a 0 0) q3 (13, 4)) a 0 = 0
      rw [gI_sN, if_neg naq, gI_sI, if_pos ⟨rfl, rfl⟩]
    · show gT (sN (sI M a 0 0) q3 (13, 4)) q3 = _
      rw [gT_sN, if_pos rfl]
  refine Lp_for 4 (fun c z => z.1 = nI c ∧ z.2.2.1 = 1 + c ∧ z.2.2.2 = 4 + 4 * c ∧ ∃ fc, vw0 M a q3 z.2.1 fc c) (fun z => z.1.toNatClampNeg) (fun c z hc hz => by rw [hz.1]; exact clN (by omega)) ⟨rfl, rfl, rfl, _, start⟩ ?_
  intro c z K hc hz hK x8 M9 k10 n11 ez
  subst ez
  obtain ⟨z1, z2, z3, fc, z4⟩ := hz
  have z1' : x8 = nI c := z1
  have z2 : k10 = 1 + c := z2
  have z3 : n11 = 4 + 4 * c := z3
  have z4 : vw0 M a q3 M9 fc c := z4
  subst z1'
  refine ⟨fun e => ?_, fun e => ?_⟩
  · have : 4 ≤ c := (le_nI (a := 4) (by omega) (by omega)).mp e
    have e4 : c = 4 := by omega
    subst e4
    exact hp _ _ _ z4
  have hlt : c < 4 := Nat.not_le.mp (fun h9 => e ((le_nI (a := 4) (by omega) (by omega)).mpr h9))
  refine ⟨z4.2.1, q3, z4.2.2.2.1, ⟨by omega, by omega⟩, fun q15 hq15 M16 e16 => ?_⟩
  subst e16
  have tq : gT (sN M9 q15 (0, 0)) q15 = some (0, 0) := by rw [gT_sN, if_pos rfl]
  have nq : q3 ≠ q15 := fun e => by have := z4.2.2.2.2.1; rw [e, hq15] at this; cases this
  refine p_x0init tq ⟨tq, in_nI (N := 4) ?_ hlt (by omega), fun M19 e19 x21 e21 => hK _ hlt ⟨by show x21 = _; rw [e21, nI_1], by show k10 + 1 = _; omega, by show n11 + 4 = _; omega, (fun d => if d = c then q15 else fc d), ?_⟩⟩
  · show gT (sN M9 q15 (0, 0)) q3 = _
    rw [gT_sN, if_neg nq]
    exact z4.2.2.2.2.1
  · show vw0 M a q3 M19 _ (c + 1)
    rw [e19, clN (by omega)]
    exact vw0_step ha z4 hq15
/-- a queue, empty -/
def q0 (M : Mem) (a : Nat) : Mem := sR (sR M a 0 none) a 1 none
theorem agr_q0 {M0 M : Mem} {a b : Nat} (h : agr M0 M b) (hne : b ≠ a) : agr M0 (q0 M a) b := agr_sR (agr_sR h hne) hne
def qu0 (M : Mem) (a : Nat) : Prop := gT M a = some (2, 0) ∧ gR M a 0 = none ∧ gR M a 1 = none
theorem qu0_agr {M M' : Mem} {a : Nat} (h : qu0 M a) (g : agr M M' a) : qu0 M' a := ⟨g.1.trans h.1, (g.2.2.1 0).trans h.2.1, (g.2.2.1 1).trans h.2.2⟩
theorem q0_qu {M : Mem} {a : Nat} (h : gT M a = some (2, 0)) : qu0 (q0 M a) a := by
  refine ⟨h, ?_, ?_⟩
  · unfold q0
    rw [gR_sR, if_neg (by omega), gR_sR, if_pos ⟨rfl, rfl⟩]
  · unfold q0
    rw [gR_sR, if_pos ⟨rfl, rfl⟩]
theorem p_x2init {M : Mem} {a : Nat} (h : gT M a = some (2, 0)) {post : Mem → Prop} (hp : post (q0 M a)) : w_X2_init M a post := by
  refine ⟨h, fun M2 e2 => ?_⟩
  subst e2
  refine ⟨h, fun M4 e4 => ?_⟩
  subst e4
  exact hp
/-- the wires, with the first c queues -/
def wr0 (M : Mem) (a la qa : Nat) (M9 : Mem) (fq : Nat → Nat) (c : Nat) : Prop := (∀ b, b ≠ a → gT M b ≠ none → agr M M9 b) ∧ (gT M9 a = some (4, 0) ∧ gI M9 a 2 = 0 ∧ gI M9 a 4 = 0 ∧ gR M9 a 0 = some la ∧ gR M9 a 1 = some qa ∧ gR M9 a 3 = none) ∧ (gT M9 la = some (10, 6) ∧ ∀ j, gI M9 la j = 0) ∧ gT M9 qa = some (14, 36) ∧ (gT M la = none ∧ gT M qa = none ∧ la ≠ qa) ∧ (∀ d, d < c → gR M9 qa d = some (fq d) ∧ qu0 M9 (fq d) ∧ gT M (fq d) = none ∧ fq d ≠ qa ∧ fq d ≠ la) ∧ ∀ d e, d < c → e < c → fq d = fq e → d = e
theorem wr0_step {M : Mem} {a la qa : Nat} (ha : gT M a ≠ none) {M9 : Mem} {fq : Nat → Nat} {c q : Nat} (h : wr0 M a la qa M9 fq c) (hq : gT M9 q = none) : wr0 M a la qa (sR (q0 (sN M9 q (2, 0)) q) qa c (some q)) (fun d => if d = c then q else fq d) (c + 1) := by
  obtain ⟨h1, ⟨h2, h2a, h2b, h2c, h2d, h2e⟩, ⟨h3, h3a⟩, h5, ⟨h6, h6a, h6b⟩, h7, h8⟩ := h
  have nqa : a ≠ q := fun e => by rw [e, hq] at h2; cases h2
  have nqc : qa ≠ q := fun e => by rw [e, hq] at h5; cases h5
  have nql : la ≠ q := fun e => by rw [e, hq] at h3; cases h3
  have nca : a ≠ qa := fun e => ha (by rw [e]; exact h6a)
  have nqf : ∀ d, d < c → fq d ≠ q := fun d hd e => by have := (h7 d hd).2.1.1; rw [e, hq] at this; cases this
  have hMq : gT M q = none := by
    cases hg : gT M q with
    | none => rfl
    | some t =>
      have := (h1 q (fun e => nqa e.symm) (by rw [hg]; exact fun z => by cases z)).1
      rw [hq, hg] at this
      cases this
  have st : ∀ b, b ≠ q → b ≠ qa → agr M9 (sR (q0 (sN M9 q (2, 0)) q) qa c (some q)) b := fun b n1 n2 => agr_sR (agr_q0 (agr_sN agr_rf n1) n1) n2
  have tq : gT (sN M9 q (2, 0)) q = some (2, 0) := by rw [gT_sN, if_pos rfl]
  have sa := st a nqa nca
  have sl := st la nql h6b
  refine ⟨fun b n1 n2 => agr_tr (h1 b n1 n2) (st b (fun e => n2 (e ▸ hMq)) (fun e => n2 (e ▸ h6a))), ⟨sa.1.trans h2, (sa.2.1 2).trans h2a, (sa.2.1 4).trans h2b, (sa.2.2.1 0).trans h2c, (sa.2.2.1 1).trans h2d, (sa.2.2.1 3).trans h2e⟩, ⟨sl.1.trans h3, fun j => (sl.2.1 j).trans (h3a j)⟩, ?_, ⟨h6, h6a, h6b⟩, fun d hd => ?_, fun d e hd he hde => ?_⟩
  · show gT (sN M9 q (2, 0)) qa = _
    rw [gT_sN, if_neg nqc]
    exact h5
  · by_cases e : d = c
    · subst e
      dsimp only
      rw [if_pos rfl]
      exact ⟨by rw [gR_sR, if_pos ⟨rfl, rfl⟩], qu0_agr (q0_qu tq) (agr_sR agr_rf (fun e => nqc e.symm)), hMq, fun e => nqc e.symm, fun e => nql e.symm⟩
    · have hd' : d < c := by omega
      obtain ⟨g1, g2, g3, g4, g5⟩ := h7 d hd'
      dsimp only
      rw [if_neg e]
      refine ⟨?_, qu0_agr g2 (st _ (nqf d hd') g4), g3, g4, g5⟩
      rw [gR_sR, if_neg (fun z => e z.2)]
      have := (agr_q0 (a := q) (agr_sN (t := (2, 0)) (agr_rf (M := M9) (b := qa)) nqc) nqc).2.2.1 d
      rw [this]
      exact g1
  · dsimp only at hde
    by_cases e1 : d = c
    · by_cases e2 : e = c
      · omega
      · rw [if_pos e1, if_neg e2] at hde
        exact absurd hde.symm (nqf e (by omega))
    · by_cases e2 : e = c
      · rw [if_neg e1, if_pos e2] at hde
        exact absurd hde (nqf d (by omega))
      · rw [if_neg e1, if_neg e2] at hde
        exact h8 d e (by omega) (by omega) hde
theorem p_x4init {M : Mem} {a : Nat} (h : gT M a = some (4, 0)) {mc ms : Nat} (hb : 38 ≤ mc ∧ 114 ≤ ms) {post : Mem → Prop} (hp : ∀ M' la qa fq, wr0 M a la qa M' fq 36 → post M') : w_X4_init mc ms M a post := by
  have ha : gT M a ≠ none := by rw [h]; exact fun z => by cases z
  refine ⟨⟨by omega, by omega⟩, fun la hla M2 e2 => ?_⟩
  have nal : a ≠ la := fun e => ha (e ▸ hla)
  have t2 : gT M2 a = some (4, 0) := by rw [e2, gT_sN, if_neg nal]; exact h
  refine ⟨t2, fun M5 e5 => ⟨⟨by omega, by omega⟩, fun qa hqa M7 e7 => ?_⟩⟩
  have t5 : gT M5 a = some (4, 0) := by rw [e5]; exact t2
  have naq : a ≠ qa := fun e => by rw [e, hqa] at t5; cases t5
  have tl5 : gT M5 la = some (10, 6) := by rw [e5]; show gT M2 la = _; rw [e2, gT_sN, if_pos rfl]
  have nlq : la ≠ qa := fun e => by rw [e, hqa] at tl5; cases tl5
  have t7 : gT M7 a = some (4, 0) := by rw [e7, gT_sN, if_neg naq]; exact t5
  refine ⟨t7, fun M10 e10 => ?_⟩
  have t10 : gT M10 a = some (4, 0) := by rw [e10]; exact t7
  refine ⟨t10, fun M12 e12 => ?_⟩
  have t12 : gT M12 a = some (4, 0) := by rw [e12]; exact t10
  refine ⟨t12, fun M14 e14 => ?_⟩
  have t14 : gT M14 a = some (4, 0) := by rw [e14]; exact t12
  refine ⟨t14, fun M16 e16 => ?_⟩
  have hMq : gT M qa = none := by
    have : gT M2 qa = none := by rw [e5] at hqa; exact hqa
    rw [e2, gT_sN, if_neg (fun e => nlq e.symm)] at this
    exact this
  have start : wr0 M a la qa M16 (fun _ => 0) 0 := by
    refine ⟨fun b n1 n2 => ?_, ⟨?_, ?_, ?_, ?_, ?_, ?_⟩, ⟨?_, fun j => ?_⟩, ?_, ⟨hla, hMq, nlq⟩, fun d hd => by omega, fun d e hd => by omega⟩
    · rw [e16, e14, e12, e10, e7, e5, e2]
      exact agr_sI (agr_sR (agr_sI (agr_sR (agr_sN (agr_sR (agr_sN agr_rf (fun e => n2 (e ▸ hla))) n1) (fun e => n2 (e ▸ hMq))) n1) n1) n1) n1
    · rw [e16]; exact t14
    · rw [e16, gI_sI, if_neg (by omega), e14]
      show gI M12 a 2 = 0
      rw [e12, gI_sI, if_pos ⟨rfl, rfl⟩]
    · rw [e16, gI_sI, if_pos ⟨rfl, rfl⟩]
    · rw [e16]
      show gR M14 a 0 = _
      rw [e14, gR_sR, if_neg (by omega), e12]
      show gR M10 a 0 = _
      rw [e10, gR_sR, if_neg (by omega), e7, gR_sN, if_neg naq, e5, gR_sR, if_pos ⟨rfl, rfl⟩]
    · rw [e16]
      show gR M14 a 1 = _
      rw [e14, gR_sR, if_neg (by omega), e12]
      show gR M10 a 1 = _
      rw [e10, gR_sR, if_pos ⟨rfl, rfl⟩]
    · rw [e16]
      show gR M14 a 3 = _
      rw [e14, gR_sR, if_pos ⟨rfl, rfl⟩]
    · rw [e16, e14, e12, e10, e7]
      show gT (sN M5 qa (14, 36)) la = _
      rw [gT_sN, if_neg nlq]
      exact tl5
    · rw [e16, gI_sI, if_neg (fun z => nal z.1.symm), e14]
      show gI M12 la j = 0
      rw [e12, gI_sI, if_neg (fun z => nal z.1.symm), e10]
      show gI M7 la j = 0
      rw [e7, gI_sN, if_neg nlq, e5]
      show gI M2 la j = 0
      rw [e2, gI_sN, if_pos rfl]
    · rw [e16, e14, e12, e10, e7]
      show gT (sN M5 qa (14, 36)) qa = _
      rw [gT_sN, if_pos rfl]
  refine Lp_for 36 (fun c z => z.1 = nI c ∧ z.2.2.1 = 2 + c ∧ z.2.2.2 = 42 + 2 * c ∧ ∃ fc, wr0 M a la qa z.2.1 fc c) (fun z => z.1.toNatClampNeg) (fun c z hc hz => by rw [hz.1]; exact clN (by omega)) ⟨rfl, rfl, rfl, _, start⟩ ?_
  intro c z K hc hz hK x8 M9 k10 n11 ez
  subst ez
  obtain ⟨z1, z2, z3, fc, z4⟩ := hz
  have z1' : x8 = nI c := z1
  have z2 : k10 = 2 + c := z2
  have z3 : n11 = 42 + 2 * c := z3
  have z4 : wr0 M a la qa M9 fc c := z4
  subst z1'
  refine ⟨fun e => ?_, fun e => ?_⟩
  · have : 36 ≤ c := (le_nI (a := 36) (by omega) (by omega)).mp e
    have e4 : c = 36 := by omega
    subst e4
    exact hp _ _ _ _ z4
  have hlt : c < 36 := Nat.not_le.mp (fun h9 => e ((le_nI (a := 36) (by omega) (by omega)).mpr h9))
  refine ⟨z4.2.1.1, qa, z4.2.1.2.2.2.2.1, ⟨by omega, by omega⟩, fun q15 hq15 M16 e16 => ?_⟩
  subst e16
  have tq : gT (sN M9 q15 (2, 0)) q15 = some (2, 0) := by rw [gT_sN, if_pos rfl]
  have nq : qa ≠ q15 := fun e => by have := z4.2.2.2.1; rw [e, hq15] at this; cases this
  refine p_x2init tq ⟨tq, in_nI (N := 36) ?_ hlt (by omega), fun M19 e19 x21 e21 => hK _ hlt ⟨by show x21 = _; rw [e21, nI_1], by show k10 + 1 = _; omega, by show n11 + 2 = _; omega, (fun d => if d = c then q15 else fc d), ?_⟩⟩
  · show gT (sN M9 q15 (2, 0)) qa = _
    rw [gT_sN, if_neg nq]
    exact z4.2.2.2.1
  · show wr0 M a la qa M19 _ (c + 1)
    rw [e19, clN (by omega)]
    exact wr0_step ha z4 hq15
