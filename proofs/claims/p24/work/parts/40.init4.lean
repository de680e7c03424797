def aF (a0 va wi a3 a4 a5 dr la qa : Nat) (g fq : Nat → Nat) (i : Nat) : Nat := if i = 0 then a0 else if i = 1 then va else if i = 2 then wi else if i = 3 then a3 else if i = 4 then a4 else if i = 5 then a5 else if i = 6 then dr else if i = 7 then la else if i = 8 then qa else if i < 60 then g i else fq (i - 60)
theorem aF_g {a0 va wi a3 a4 a5 dr la qa : Nat} {g fq : Nat → Nat} {i : Nat} (h : 9 ≤ i ∧ i < 60) : aF a0 va wi a3 a4 a5 dr la qa g fq i = g i := by
  unfold aF
  rw [if_neg (by omega), if_neg (by omega), if_neg (by omega), if_neg (by omega), if_neg (by omega), if_neg (by omega), if_neg (by omega), if_neg (by omega), if_neg (by omega), if_pos h.2]
theorem aF_q {a0 va wi a3 a4 a5 dr la qa : Nat} {g fq : Nat → Nat} {w : Nat} : aF a0 va wi a3 a4 a5 dr la qa g fq (60 + w) = fq w := by
  unfold aF
  rw [if_neg (by omega), if_neg (by omega), if_neg (by omega), if_neg (by omega), if_neg (by omega), if_neg (by omega), if_neg (by omega), if_neg (by omega), if_neg (by omega), if_neg (by omega)]
  congr 1
  omega
/-- the empty state -/
def σ0 : Sg := (fun f _ => if f = 2 ∨ f = 3 ∨ f = 4 then -1 else 0, fun _ => 0, fun _ => [])
def sgF (i : Nat) : Nat := if i = 0 then 0 else if i = 1 then 1 else if i = 3 then 3 else if i = 4 then 4 else if i = 5 then 5 else if i = 6 then 6 else if 10 ≤ i ∧ i < 60 then 7 else 2
def nF (M M5 M13 M18 M23 M28 M38 Z : Mem) : Nat → Mem
  | 0 => M
  | 1 => M
  | 2 => M5
  | 3 => M13
  | 4 => M18
  | 5 => M23
  | 6 => M28
  | 7 => M38
  | _ => Z
theorem sg_eq : ∀ i j, vid i → vid j → sgF i = sgF j → i = j ∨ (sS 6 i ∧ sS 6 j) ∨ ((i = 2 ∨ i = 7 ∨ i = 8 ∨ (60 ≤ i ∧ i < 96)) ∧ (j = 2 ∨ j = 7 ∨ j = 8 ∨ (60 ≤ j ∧ j < 96))) := by
  intro i j hi hj h
  unfold vid at hi hj
  unfold sS
  unfold sgF at h
  (repeat' split at h) <;> omega
theorem ex_mono {M M' : Mem} {a : Nat} (h : ex M M' a) (ha : gT M' a = some (5, 0)) (b : Nat) (hb : gT M b ≠ none) : gT M' b ≠ none := by
  by_cases e : b = a
  · rw [e]; exact sm ha
  · rw [(h b e hb).1]; exact hb
theorem raw_rep {M Z : Mem} {a0 va wi a3 a4 a5 dr la qa : Nat} {g fq : Nat → Nat} {Fo : Nat → Prop} (h : gT M a0 = some (5, 0)) (hF : ∀ b, Fo b → gT M b ≠ none ∧ b ≠ a0) (hr : rawC M Z a0 va wi a3 a4 a5 dr la qa g fq) : RepC (aF a0 va wi a3 a4 a5 dr la qa g fq) Fo M Z σ0 (fset (fun _ => none) dr (some (1, 0, 0, 0, 0, 0))) := by
  obtain ⟨M5, M13, M18, M23, M28, M38, ⟨t5, t13, t18, t23, t28⟩, ⟨x5, x13, x18, x23, x28, x38⟩, ⟨hva, yva⟩, ⟨hwi, M11, hw, w13⟩, ⟨h3, y3, z3⟩, ⟨h4, y4, z4⟩, ⟨h5, y5, z5⟩, ⟨hdr, yd, d1, d2⟩, ⟨t38, r0, r1, r2, r3, r4, r5, i6, i7⟩, hv⟩ := hr
  obtain ⟨k1, ⟨k2, k3, k4, k5, k6, k7⟩, ⟨k8, k9⟩, k10, ⟨k11, k12, k13⟩, k14, k15⟩ := hw
  obtain ⟨v1, v2, v3, v4, v5⟩ := hv
  have n0va := nn h hva
  have nwi := nn t5 hwi
  have nvw : va ≠ wi := fun e => yva (e ▸ hwi)
  have tA : gT (sN M5 wi (4, 0)) a0 = some (5, 0) := by rw [gT_sN, if_neg nwi]; exact t5
  have tV : gT (sN M5 wi (4, 0)) va ≠ none := by rw [gT_sN, if_neg nvw]; exact yva
  have neV : ∀ b, gT (sN M5 wi (4, 0)) b = none → b ≠ va := fun b hb e => tV (e ▸ hb)
  have un : ∀ b, gT (sN M5 wi (4, 0)) b = none → gT M5 b = none ∧ b ≠ wi := by
    intro b hb
    rw [gT_sN] at hb
    by_cases e : b = wi
    · rw [if_pos e] at hb; cases hb
    · rw [if_neg e] at hb; exact ⟨hb, e⟩
  -- the paths to the end
  have p38 : ∀ b, b ≠ va → gT M38 b ≠ none → agr M38 Z b := v1
  have p28 : ∀ b, b ≠ a0 → b ≠ va → gT M28 b ≠ none → agr M28 Z b := fun b n1 n2 n3 => agr_tr (x38 b n1 n3) (p38 b n2 (by rw [(x38 b n1 n3).1]; exact n3))
  have p23 : ∀ b, b ≠ a0 → b ≠ va → gT M23 b ≠ none → agr M23 Z b := fun b n1 n2 n3 => agr_tr (x28 b n1 n3) (p28 b n1 n2 (by rw [(x28 b n1 n3).1]; exact n3))
  have p18 : ∀ b, b ≠ a0 → b ≠ va → gT M18 b ≠ none → agr M18 Z b := fun b n1 n2 n3 => agr_tr (x23 b n1 n3) (p23 b n1 n2 (by rw [(x23 b n1 n3).1]; exact n3))
  have p11 : ∀ b, b ≠ a0 → b ≠ va → gT M11 b ≠ none → agr M11 Z b := fun b n1 n2 n3 => by
    have q1 := w13 b n1
    have q2 : gT M13 b ≠ none := by rw [q1.1]; exact n3
    have q3 := x18 b n1 q2
    exact agr_tr q1 (agr_tr q3 (p18 b n1 n2 (by rw [q3.1]; exact q2)))
  -- va is there all along
  have va13 : gT M13 va ≠ none := by rw [(x13 va n0va.symm yva).1]; exact yva
  have va18 : gT M18 va ≠ none := by rw [(x18 va n0va.symm va13).1]; exact va13
  have va23 : gT M23 va ≠ none := by rw [(x23 va n0va.symm va18).1]; exact va18
  have va28 : gT M28 va ≠ none := by rw [(x28 va n0va.symm va23).1]; exact va23
  have pA := p38 a0 n0va (sm t38)
  have pW := p11 wi nwi.symm nvw.symm (sm k2)
  have pL := p11 la (nn tA k11).symm (neV _ k11) (sm k8)
  have pQ := p11 qa (nn tA k12).symm (neV _ k12) (sm k10)
  have pF : ∀ w, w < 36 → agr M11 Z (fq w) := fun w hw => p11 _ (nn tA (k14 w hw).2.2.1).symm (neV _ (k14 w hw).2.2.1) (sm (k14 w hw).2.1.1)
  have p3 := p18 a3 (nn t13 h3).symm (fun e => va13 (e ▸ h3)) (sm y3)
  have p4 := p23 a4 (nn t18 h4).symm (fun e => va18 (e ▸ h4)) (sm y4)
  have p5 := p28 a5 (nn t23 h5).symm (fun e => va23 (e ▸ h5)) (sm y5)
  have pD := p38 dr (fun e => va28 (e ▸ hdr)) (sm yd)
  -- the types
  have typ : ∀ i, vid i → gT Z (aF a0 va wi a3 a4 a5 dr la qa g fq i) = some (tyO i) := by
    intro i hi
    have e9 : i = 0 ∨ i = 1 ∨ i = 2 ∨ i = 3 ∨ i = 4 ∨ i = 5 ∨ i = 6 ∨ i = 7 ∨ i = 8 ∨ (10 ≤ i ∧ i < 16) ∨ (20 ≤ i ∧ i < 26) ∨ (30 ≤ i ∧ i < 54) ∨ (60 ≤ i ∧ i < 96) := by unfold vid at hi; omega
    rcases e9 with e | e | e | e | e | e | e | e | e | e | e | e | e
    · subst e; exact pA.1.trans t38
    · subst e; exact v2
    · subst e; exact pW.1.trans k2
    · subst e; exact p3.1.trans y3
    · subst e; exact p4.1.trans y4
    · subst e; exact p5.1.trans y5
    · subst e; exact pD.1.trans yd
    · subst e; exact pL.1.trans k8
    · subst e; exact pQ.1.trans k10
    · obtain ⟨s, hs, rfl⟩ : ∃ s, s < 6 ∧ i = 10 + s := ⟨i - 10, by omega, by omega⟩
      rw [aF_g (by omega), ty_v s hs]
      exact (v3 s hs).2.1
    · obtain ⟨s, hs, rfl⟩ : ∃ s, s < 6 ∧ i = 20 + s := ⟨i - 20, by omega, by omega⟩
      rw [aF_g (by omega), ty_c s hs]
      exact (v3 s hs).2.2.2.2.1
    · obtain ⟨s, d, hs, hd, rfl⟩ : ∃ s d, s < 6 ∧ d < 4 ∧ i = 30 + (s * 4 + d) := ⟨(i - 30) / 4, (i - 30) % 4, by omega, by omega, by omega⟩
      rw [aF_g (by omega), ty_i _ (by omega)]
      exact ((v3 s hs).2.2.2.2.2 d hd).2.1
    · obtain ⟨w, hw, rfl⟩ : ∃ w, w < 36 ∧ i = 60 + w := ⟨i - 60, by omega, by omega⟩
      rw [aF_q, ty_q w hw]
      exact (pF w hw).1.trans (k14 w hw).2.1.1
  have mono1 : ∀ k b, gT (nF M M5 M13 M18 M23 M28 M38 Z k) b ≠ none → gT (nF M M5 M13 M18 M23 M28 M38 Z (k + 1)) b ≠ none := by
    intro k b hb
    match k with
    | 0 => exact hb
    | 1 => exact ex_mono x5 t5 b hb
    | 2 => exact ex_mono x13 t13 b hb
    | 3 => exact ex_mono x18 t18 b hb
    | 4 => exact ex_mono x23 t23 b hb
    | 5 => exact ex_mono x28 t28 b hb
    | 6 => exact ex_mono x38 t38 b hb
    | 7 =>
      show gT Z b ≠ none
      by_cases e : b = va
      · rw [e]; exact sm v2
      · rw [(p38 b e hb).1]; exact hb
    | k + 8 => exact hb
  have mono : ∀ z k b, gT (nF M M5 M13 M18 M23 M28 M38 Z k) b ≠ none → gT (nF M M5 M13 M18 M23 M28 M38 Z (k + z)) b ≠ none := by
    intro z
    induction z with
    | zero => intro k b hb; exact hb
    | succ z ih => intro k b hb; exact mono1 (k + z) b (ih k b hb)
  have kf : ∀ i, vid i → (i ≠ 0 → gT (nF M M5 M13 M18 M23 M28 M38 Z (sgF i)) (aF a0 va wi a3 a4 a5 dr la qa g fq i) = none) ∧ gT (nF M M5 M13 M18 M23 M28 M38 Z (sgF i + 1)) (aF a0 va wi a3 a4 a5 dr la qa g fq i) ≠ none := by
    intro i hi
    have e9 : i = 0 ∨ i = 1 ∨ i = 2 ∨ i = 3 ∨ i = 4 ∨ i = 5 ∨ i = 6 ∨ i = 7 ∨ i = 8 ∨ sS 6 i ∨ (60 ≤ i ∧ i < 96) := by unfold vid at hi; unfold sS; omega
    rcases e9 with e | e | e | e | e | e | e | e | e | e | e
    · subst e; exact ⟨fun z => absurd rfl z, sm h⟩
    · subst e; exact ⟨fun _ => hva, yva⟩
    · subst e; exact ⟨fun _ => hwi, by show gT M13 wi ≠ none; rw [(w13 wi nwi.symm).1]; exact sm k2⟩
    · subst e; exact ⟨fun _ => h3, sm y3⟩
    · subst e; exact ⟨fun _ => h4, sm y4⟩
    · subst e; exact ⟨fun _ => h5, sm y5⟩
    · subst e; exact ⟨fun _ => hdr, sm yd⟩
    · subst e; exact ⟨fun _ => (un la k11).1, by show gT M13 la ≠ none; rw [(w13 la (nn tA k11).symm).1]; exact sm k8⟩
    · subst e; exact ⟨fun _ => (un qa k12).1, by show gT M13 qa ≠ none; rw [(w13 qa (nn tA k12).symm).1]; exact sm k10⟩
    · have hg : sgF i = 7 := by
        unfold sS at e
        unfold sgF
        rw [if_neg (by omega), if_neg (by omega), if_neg (by omega), if_neg (by omega), if_neg (by omega), if_neg (by omega), if_pos (by omega)]
      rw [hg, aF_g (by unfold sS at e; omega)]
      exact ⟨fun _ => (v4 i e).1, (v4 i e).2.1⟩
    · have hg : sgF i = 2 := by
        unfold sgF
        rw [if_neg (by omega), if_neg (by omega), if_neg (by omega), if_neg (by omega), if_neg (by omega), if_neg (by omega), if_neg (by omega)]
      obtain ⟨w, hw, rfl⟩ : ∃ w, w < 36 ∧ i = 60 + w := ⟨i - 60, by omega, by omega⟩
      rw [hg, aF_q]
      have q := k14 w hw
      exact ⟨fun _ => (un _ q.2.2.1).1, by show gT M13 (fq w) ≠ none; rw [(w13 _ (nn tA q.2.2.1).symm).1]; exact sm q.2.1.1⟩
  have sg0 : ∀ i, sgF i = 0 → i = 0 := by
    intro i hi
    unfold sgF at hi
    (repeat' split at hi) <;> omega
  have lt : ∀ i j, vid i → vid j → sgF i < sgF j → aF a0 va wi a3 a4 a5 dr la qa g fq i ≠ aF a0 va wi a3 a4 a5 dr la qa g fq j := by
    intro i j hi hj hlt e
    have a := mono (sgF j - (sgF i + 1)) _ _ (kf i hi).2
    rw [show sgF i + 1 + (sgF j - (sgF i + 1)) = sgF j by omega, e] at a
    exact a ((kf j hj).1 (fun z => by rw [z] at hlt; exact absurd hlt (Nat.not_lt_zero _)))
  have fresh : ∀ i, vid i → i ≠ 0 → gT M (aF a0 va wi a3 a4 a5 dr la qa g fq i) = none := by
    intro i hi hi0
    cases hg : gT M (aF a0 va wi a3 a4 a5 dr la qa g fq i) with
    | none => rfl
    | some t =>
      have h0 : sgF i ≠ 0 := fun z => hi0 (sg0 i z)
      have a := mono (sgF i - 1) 1 (aF a0 va wi a3 a4 a5 dr la qa g fq i) (sm hg)
      rw [show 1 + (sgF i - 1) = sgF i by omega] at a
      exact absurd ((kf i hi).1 hi0) a
  have inj : ∀ i j, vid i → vid j → aF a0 va wi a3 a4 a5 dr la qa g fq i = aF a0 va wi a3 a4 a5 dr la qa g fq j → i = j := by
    intro i j hi hj e
    rcases Nat.lt_trichotomy (sgF i) (sgF j) with hl | hl | hl
    · exact absurd e (lt i j hi hj hl)
    · rcases sg_eq i j hi hj hl with z | ⟨z1, z2⟩ | ⟨z1, z2⟩
      · exact z
      · rw [aF_g (by unfold sS at z1; omega), aF_g (by unfold sS at z2; omega)] at e
        exact v5 i j z1 z2 e
      · have f2 : aF a0 va wi a3 a4 a5 dr la qa g fq 2 = wi := rfl
        have f7 : aF a0 va wi a3 a4 a5 dr la qa g fq 7 = la := rfl
        have f8 : aF a0 va wi a3 a4 a5 dr la qa g fq 8 = qa := rfl
        have nl := (un la k11).2
        have nq := (un qa k12).2
        have cl : ∀ i, (60 ≤ i ∧ i < 96) → ∃ w, w < 36 ∧ i = 60 + w := fun i hi => ⟨i - 60, by omega, by omega⟩
        rcases z1 with z1 | z1 | z1 | z1
        · rcases z2 with z2 | z2 | z2 | z2
          · omega
          · rw [z1, z2, f2, f7] at e; exact absurd e.symm nl
          · rw [z1, z2, f2, f8] at e; exact absurd e.symm nq
          · obtain ⟨w, hw, y⟩ := cl j z2
            rw [z1, y, f2, aF_q] at e; exact absurd e.symm (un _ (k14 w hw).2.2.1).2
        · rcases z2 with z2 | z2 | z2 | z2
          · rw [z1, z2, f2, f7] at e; exact absurd e nl
          · omega
          · rw [z1, z2, f7, f8] at e; exact absurd e k13
          · obtain ⟨w, hw, y⟩ := cl j z2
            rw [z1, y, f7, aF_q] at e; exact absurd e.symm (k14 w hw).2.2.2.2
        · rcases z2 with z2 | z2 | z2 | z2
          · rw [z1, z2, f2, f8] at e; exact absurd e nq
          · rw [z1, z2, f7, f8] at e; exact absurd e.symm k13
          · omega
          · obtain ⟨w, hw, y⟩ := cl j z2
            rw [z1, y, f8, aF_q] at e; exact absurd e.symm (k14 w hw).2.2.2.1
        · obtain ⟨w, hw, y⟩ := cl i z1
          rcases z2 with z2 | z2 | z2 | z2
          · rw [y, z2, f2, aF_q] at e; exact absurd e (un _ (k14 w hw).2.2.1).2
          · rw [y, z2, f7, aF_q] at e; exact absurd e (k14 w hw).2.2.2.2
          · rw [y, z2, f8, aF_q] at e; exact absurd e (k14 w hw).2.2.2.1
          · obtain ⟨w2, hw2, y2⟩ := cl j z2
            rw [y, y2, aF_q, aF_q] at e
            have := k15 w w2 hw hw2 e
            omega
    · exact absurd e.symm (lt j i hj hi hl)
  have v0 : vid 6 := by unfold vid; omega
  refine ⟨⟨typ, inj, ⟨⟨(pA.2.2.1 0).trans r0, (pA.2.2.1 1).trans r1, (pA.2.2.1 2).trans r2, (pA.2.2.1 3).trans r3, (pA.2.2.1 4).trans r4, (pA.2.2.1 5).trans r5⟩, fun s hs => ?_, ⟨(pW.2.2.1 0).trans k5, (pW.2.2.1 1).trans k6⟩, fun s hs => ?_, fun s c hs hc => ?_, fun w hw => ?_⟩, fun i hi hfo => ?_, fun b hb => ?_⟩, ⟨fun f i hd => ?_, (pA.2.1 6).trans i6, (pA.2.1 7).trans i7⟩, ⟨fun _ => [], [], fun _ => 37, fun w hw => ?_, ⟨(pW.2.2.1 3).trans k7, trivial, List.nodup_nil, fun a ha => by cases ha⟩, fun a ln ha => ?_, ⟨(pW.2.1 2).trans k3, (pW.2.1 4).trans k4, rfl⟩⟩, ?_⟩
  · exact (v3 s hs).1.trans (by rw [aF_g (by omega)])
  · rw [aF_g (by omega), aF_g (by omega)]; exact (v3 s hs).2.2.2.1
  · rw [aF_g (by omega), aF_g (by omega)]; exact ((v3 s hs).2.2.2.2.2 c hc).1
  · rw [aF_q]; exact (pQ.2.2.1 w).trans (k14 w hw).1
  · obtain ⟨q1, q2⟩ := hF _ hfo
    by_cases e : i = 0
    · subst e; exact q2 rfl
    · exact q1 (fresh i hi e)
  · obtain ⟨q1, q2⟩ := hF b hb
    refine ⟨q1, ?_⟩
    have c1 := x5 b q2 q1
    have c2 := x13 b q2 (by rw [c1.1]; exact q1)
    have c12 := agr_tr c1 c2
    have c3 := x18 b q2 (by rw [c12.1]; exact q1)
    have c13 := agr_tr c12 c3
    exact agr_tr c13 (p18 b q2 (fun e => q1 (e ▸ hva)) (by rw [c13.1]; exact q1))
  · rcases dmn_c f i hd with ⟨rfl, hi, e1, e2⟩ | ⟨rfl, hi, e1, e2⟩ | ⟨hf1, hf2, hi, e1, e2⟩ | ⟨rfl, hi, e1, e2⟩ | ⟨rfl, hi, e1, e2⟩ | ⟨rfl, hi, e1, e2⟩
    · rw [e1, e2]; exact (pL.2.1 i).trans (k9 i)
    · rw [e1, e2, aF_g (by omega)]; exact (v3 i hi).2.2.1
    · rw [e1, e2, aF_g (by omega)]
      obtain ⟨s, d, hs, hd2, rfl⟩ : ∃ s d, s < 6 ∧ d < 4 ∧ i = s * 4 + d := ⟨i / 4, i % 4, by omega, by omega, by omega⟩
      obtain ⟨-, c1, c2, c3, c4⟩ := ((v3 s hs).2.2.2.2.2 d hd2).2
      have hf : f = 2 ∨ f = 3 ∨ f = 4 ∨ f = 5 := by omega
      rcases hf with rfl | rfl | rfl | rfl
      · exact c1
      · exact c2
      · exact c3
      · exact c4
    · rw [e1, e2]; exact (p4.2.1 i).trans (z4 i)
    · rw [e1, e2]; exact (p3.2.1 i).trans (z3 i)
    · rw [e1, e2]; exact (p5.2.1 i).trans (z5 i)
  · have q := k14 w hw
    have qa2 := qu0_agr q.2.1 (pF w hw)
    rw [aF_q]
    exact ⟨qa2.2.1, qa2.2.2, trivial, List.nodup_nil, trivial, fun a ha => by cases ha⟩
  · unfold fset at ha
    by_cases e : a = dr
    · rw [if_pos e] at ha
      cases ha
      subst e
      refine ⟨Nat.le_refl _, ⟨pD.1.trans yd, fun hfo => (hF _ hfo).1 (fresh 6 v0 (by decide))⟩, (pD.2.1 0).trans d1, fun _ => (pD.2.1 1).trans d2, fun z => absurd (Or.inr rfl) z, fun z => absurd z (by decide), fun z => absurd z (by decide), fun z => absurd z (by decide)⟩
    · rw [if_neg e] at ha; cases ha
  · show fset (fun _ => none) dr (some ((1, 0, 0, 0, 0, 0) : Ln)) dr ≠ none
    rw [fs_s]
    exact fun z => by cases z
theorem p_x5init {M : Mem} {a0 : Nat} {Fo : Nat → Prop} (h : gT M a0 = some (5, 0)) (hF : ∀ b, Fo b → gT M b ≠ none ∧ b ≠ a0) {mc ms : Nat} (hb : 80 ≤ mc ∧ 325 ≤ ms) {post : Mem → Prop} (hp : ∀ M' A hl, A 0 = a0 → RepC A Fo M M' σ0 hl → post M') : w_X5_init mc ms M a0 post :=
  p_x5raw h hb (fun M' va wi a3 a4 a5 dr la qa g fq hr => hp M' (aF a0 va wi a3 a4 a5 dr la qa g fq) _ rfl (raw_rep h hF hr))
