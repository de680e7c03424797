def aF (a0 va wi a3 a4 a5 dr la qa : Nat) (g fq : Nat → Nat) (i : Nat) : Nat := if i = 0 then a0 else if i = 1 then va else if i = 2 then wi else if i = 3 then a3 else if i = 4 then a4 else if i = 5 then a5 else if i = 6 then dr else if i = 7 then la else if i = 8 then qa else if i < 60 then g i else fq (i - 60)
theorem aF_g {a0 va wi a3 a4 a5 dr la qa : Nat} {g fq : Nat → Nat} {i : Nat} (h : 9 ≤ i ∧ i < 60) : aF a0 va wi a3 a4 a5 dr la qa g fq i = g i := by
  unfold aF
  rw [if_neg (by omega), if_neg (by omega), if_neg (by omega), if_neg (by omega), if_neg (by omega), if_neg (by omega), if_neg (by omega), if_neg (by omega), if_neg (by omega), if_pos h.2]
theorem aF_q {a0 va wi a3 a4 a5 dr la qa : Nat} {g fq : Nat → Nat} {w : Nat} : aF a0 va wi a3 a4 a5 dr la qa g fq (60 + w) = fq w := by
  unfold aF
  rw [if_neg (by omega), if_neg (by omega), if_neg (by omega), if_neg (by omega), if_neg (by omega), if_neg (by omega), if_neg (by omega), if_neg (by omega), if_neg (by omega), if_neg (by omega)]
  congr 1
  omega
/-- the empty state -/
def σ0 : Sg := (fun f _ => if f = 2 ∨ f = 3 ∨ f = 4 then -1 else 0, fun _ => 0, fun _ => [])
def sgF (i : Nat) : Nat := if i = 0 then 0 else if i = 1 then 1 else if i = 3 then 3 else if i = 4 then 4 else if i = 5 then 5 else if i = 6 then 6 else if 10 ≤ i ∧ i < 60 then 7 else 2
theorem raw_rep {M Z : Mem} {a0 va wi a3 a4 a5 dr la qa : Nat} {g fq : Nat → Nat} {Fo : Nat → Prop} (h : gT M a0 = some (5, 0)) (hF : ∀ b, Fo b → gT M b ≠ none ∧ b ≠ a0) (hr : rawC M Z a0 va wi a3 a4 a5 dr la qa g fq) : RepC (aF a0 va wi a3 a4 a5 dr la qa g fq) Fo M Z σ0 (fset (fun _ => none) dr (some (1, 0, 0, 0, 0, 0))) := by
  obtain ⟨M5, M13, M18, M23, M28, M38, ⟨t5, t13, t18, t23, t28⟩, ⟨x5, x13, x18, x23, x28, x38⟩, ⟨hva, yva⟩, ⟨hwi, M11, hw, w13⟩, ⟨h3, y3, z3⟩, ⟨h4, y4, z4⟩, ⟨h5, y5, z5⟩, ⟨hdr, yd, d1, d2⟩, ⟨t38, r0, r1, r2, r3, r4, r5, i6, i7⟩, hv⟩ := hr
  obtain ⟨k1, ⟨k2, k3, k4, k5, k6, k7⟩, ⟨k8, k9⟩, k10, ⟨k11, k12, k13⟩, k14, k15⟩ := hw
  obtain ⟨v1, v2, v3, v4, v5⟩ := hv
  have n0va := nn h hva
  have nwi := nn t5 hwi
  have nvw : va ≠ wi := fun e => yva (e ▸ hwi)
  have tA : gT (sN M5 wi (4, 0)) a0 = some (5, 0) := by rw [gT_sN, if_neg nwi]; exact t5
  have tV : gT (sN M5 wi (4, 0)) va ≠ none := by rw [gT_sN, if_neg nvw]; exact yva
  have neV : ∀ b, gT (sN M5 wi (4, 0)) b = none → b ≠ va := fun b hb e => tV (e ▸ hb)
  have un : ∀ b, gT (sN M5 wi (4, 0)) b = none → gT M5 b = none ∧ b ≠ wi := by
    intro b hb
    rw [gT_sN] at hb
    by_cases e : b = wi
    · rw [if_pos e] at hb; cases hb
    · rw [if_neg e] at hb; exact ⟨hb, e⟩
  -- the paths to the end
  have p38 : ∀ b, b ≠ va → gT M38 b ≠ none → agr M38 Z b := v1
  have p28 : ∀ b, b ≠ a0 → b ≠ va → gT M28 b ≠ none → agr M28 Z b := fun b n1 n2 n3 => agr_tr (x38 b n1 n3) (p38 b n2 (by rw [(x38 b n1 n3).1]; exact n3))
  have p23 : ∀ b, b ≠ a0 → b ≠ va → gT M23 b ≠ none → agr M23 Z b := fun b n1 n2 n3 => agr_tr (x28 b n1 n3) (p28 b n1 n2 (by rw [(x28 b n1 n3).1]; exact n3))
  have p18 : ∀ b, b ≠ a0 → b ≠ va → gT M18 b ≠ none → agr M18 Z b := fun b n1 n2 n3 => agr_tr (x23 b n1 n3) (p23 b n1 n2 (by rw [(x23 b n1 n3).1]; exact n3))
  have p11 : ∀ b, b ≠ a0 → b ≠ va → gT M11 b ≠ none → agr M11 Z b := fun b n1 n2 n3 => by
    have q1 := w13 b n1
    have q2 : gT M13 b ≠ none := by rw [q1.1]; exact n3
    have q3 := x18 b n1 q2
    exact agr_tr q1 (agr_tr q3 (p18 b n1 n2 (by rw [q3.1]; exact q2)))
  -- va is there all along
  have va13 : gT M13 va ≠ none := by rw [(x13 va n0va.symm yva).1]; exact yva
  have va18 : gT M18 va ≠ none := by rw [(x18 va n0va.symm va13).1]; exact va13
  have va23 : gT M23 va ≠ none := by rw [(x23 va n0va.symm va18).1]; exact va18
  have va28 : gT M28 va ≠ none := by rw [(x28 va n0va.symm va23).1]; exact va23
  have pA := p38 a0 n0va (sm t38)
  have pW := p11 wi nwi.symm nvw.symm (sm k2)
  have pL := p11 la (nn tA k11).symm (neV _ k11) (sm k8)
  have pQ := p11 qa (nn tA k12).symm (neV _ k12) (sm k10)
  have pF : ∀ w, w < 36 → agr M11 Z (fq w) := fun w hw => p11 _ (nn tA (k14 w hw).2.2.1).symm (neV _ (k14 w hw).2.2.1) (sm (k14 w hw).2.1.1)
  have p3 := p18 a3 (nn t13 h3).symm (fun e => va13 (e ▸ h3)) (sm y3)
  have p4 := p23 a4 (nn t18 h4).symm (fun e => va18 (e ▸ h4)) (sm y4)
  have p5 := p28 a5 (nn t23 h5).symm (fun e => va23 (e ▸ h5)) (sm y5)
  have pD := p38 dr (fun e => va28 (e ▸ hdr)) (sm yd)
  -- the types
  have typ : ∀ i, vid i → gT Z (aF a0 va wi a3 a4 a5 dr la qa g fq i) = some (tyO i) := by
    intro i hi
    have e9 : i = 0 ∨ i = 1 ∨ i = 2 ∨ i = 3 ∨ i = 4 ∨ i = 5 ∨ i = 6 ∨ i = 7 ∨ i = 8 ∨ (10 ≤ i ∧ i < 16) ∨ (20 ≤ i ∧ i < 26) ∨ (30 ≤ i ∧ i < 54) ∨ (60 ≤ i ∧ i < 96) := by unfold vid at hi; omega
    rcases e9 with e | e | e | e | e | e | e | e | e | e | e | e | e
    · subst e; exact pA.1.trans t38
    · subst e; exact v2
    · subst e; exact pW.1.trans k2
    · subst e; exact p3.1.trans y3
    · subst e; exact p4.1.trans y4
    · subst e; exact p5.1.trans y5
    · subst e; exact pD.1.trans yd
    · subst e; exact pL.1.trans k8
    · subst e; exact pQ.1.trans k10
    · obtain ⟨s, hs, rfl⟩ : ∃ s, s < 6 ∧ i = 10 + s := ⟨i - 10, by omega, by omega⟩
      rw [aF_g (by omega), ty_v s hs]
      exact (v3 s hs).2.1
    · obtain ⟨s, hs, rfl⟩ : ∃ s, s < 6 ∧ i = 20 + s := ⟨i - 20, by omega, by omega⟩
      rw [aF_g (by omega), ty_c s hs]
      exact (v3 s hs).2.2.2.2.1
    · obtain ⟨s, d, hs, hd, rfl⟩ : ∃ s d, s < 6 ∧ d < 4 ∧ i = 30 + (s * 4 + d) := ⟨(i - 30) / 4, (i - 30) % 4, by omega, by omega, by omega⟩
      rw [aF_g (by omega), ty_i _ (by omega)]
      exact ((v3 s hs).2.2.2.2.2 d hd).2.1
    · obtain ⟨w, hw, rfl⟩ : ∃ w, w < 36 ∧ i = 60 + w := ⟨i - 60, by omega, by omega⟩
      rw [aF_q, ty_q w hw]
      exact (pF w hw).1.trans (k14 w hw).2.1.1
  sorry
