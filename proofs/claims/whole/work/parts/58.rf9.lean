/-! THE REFERENCE'S CONSTRUCTOR -/
def al6 (M Mn : Mem) (a0 : Nat) (B : Nat → Nat) (D : Nat → Prop) : Prop := (∀ b, b ≠ a0 → gT M b ≠ none → agr M Mn b) ∧ gT Mn a0 = some (6, 0) ∧ (∀ j, gI Mn a0 j = 0) ∧ (∀ k, D k → gT M (B k) = none ∧ B k ≠ a0 ∧ gT Mn (B k) = some (10, szM k) ∧ gR Mn a0 k = some (B k) ∧ ∀ j, gI Mn (B k) j = 0) ∧ ∀ i j, D i → D j → B i = B j → i = j
theorem al6_step {M Mn : Mem} {a0 : Nat} {B : Nat → Nat} {D : Nat → Prop} (h : al6 M Mn a0 B D) {k q n : Nat} (hD : ¬ D k) (hn : szM k = n) (hq : gT Mn q = none) {M2 M5 : Mem} (e2 : M2 = sN Mn q (10, n)) (e5 : M5 = sR M2 a0 k (some q)) : al6 M M5 a0 (fset B k q) (fun j => D j ∨ j = k) := by
  obtain ⟨h1, h2, h3, h4, h5⟩ := h
  have hqa : q ≠ a0 := fun e => by rw [e, h2] at hq; cases hq
  have hqM : gT M q = none := by
    cases e : gT M q with
    | none => rfl
    | some t =>
      have := (h1 q hqa (by rw [e]; exact fun z => by cases z)).1
      rw [hq, e] at this
      cases this
  have hBq : ∀ j, D j → B j ≠ q := fun j hj e => by
    have := (h4 j hj).2.2.1
    rw [e, hq] at this
    cases this
  subst e2
  subst e5
  refine ⟨fun b hb hn2 => ?_, ?_, fun j => ?_, fun j hj => ?_, fun i j hi hj e => ?_⟩
  · have hbq : b ≠ q := fun e => hn2 (e ▸ hqM)
    exact agr_sR (agr_sN (h1 b hb hn2) hbq) hb
  · rw [gT_sR, gT_sN, if_neg hqa.symm]; exact h2
  · rw [gI_sR, gI_sN, if_neg hqa.symm]; exact h3 j
  · by_cases ej : j = k
    · subst ej
      rw [fs_s]
      refine ⟨hqM, hqa, ?_, ?_, fun i => ?_⟩
      · rw [gT_sR, gT_sN, if_pos rfl, hn]
      · rw [gR_sR, if_pos ⟨rfl, rfl⟩]
      · rw [gI_sR, gI_sN, if_pos rfl]
    · have hj2 : D j := hj.resolve_right ej
      obtain ⟨g1, g2, g3, g4, g5⟩ := h4 j hj2
      rw [fs_n _ _ ej]
      refine ⟨g1, g2, ?_, ?_, fun i => ?_⟩
      · rw [gT_sR, gT_sN, if_neg (hBq j hj2)]; exact g3
      · rw [gR_sR, if_neg (fun z => ej z.2), gR_sN, if_neg hqa.symm]; exact g4
      · rw [gI_sR, gI_sN, if_neg (hBq j hj2)]; exact g5 i
  · by_cases ei : i = k
    · by_cases ej : j = k
      · rw [ei, ej]
      · have hj2 : D j := hj.resolve_right ej
        rw [ei, fs_s, fs_n _ _ ej] at e
        exact absurd e.symm (hBq j hj2)
    · have hi2 : D i := hi.resolve_right ei
      by_cases ej : j = k
      · rw [ej, fs_s, fs_n _ _ ei] at e
        exact absurd e (hBq i hi2)
      · rw [fs_n _ _ ei, fs_n _ _ ej] at e
        exact h5 i j hi2 (hj.resolve_right ej) e
theorem rv_ext {B : Nat → Nat} {M0 M : Mem} {V V' : Vm} (h : RpV B M0 M V) (e : ∀ k, vm k → ∀ j, V k j = V' k j) : RpV B M0 M V' := ⟨h.1, fun k hk j => (h.2 k hk j).trans (e k hk j)⟩
theorem chM_rng {V : Vm} {N : Nat} : ∀ n a, a + n = N → (∀ j, a ≤ j → j < N → V 16 j = nI (j + 1)) → chM V (nI N) (List.range' a n)
  | 0, _, _, _ => trivial
  | n + 1, a, ha, h => by
    refine ⟨?_, chM_rng n (a + 1) (by omega) (fun j hj hj2 => h j (by omega) hj2)⟩
    rw [h a (Nat.le_refl _) (by omega)]
    cases n with
    | zero => show nI (a + 1) = nI N; rw [← ha]
    | succ n => rfl
/-- what the rows hold at first -/
def V6 (x y z : Nat) : Vm := fun k j => if k = 8 ∧ j < x then -1 else if k = 12 ∧ j < y then -1 else if k = 16 ∧ j < z then nI (j + 1) else 0
theorem v6_16 (x y z j : Nat) : V6 x y z 16 j = if j < z then nI (j + 1) else 0 := by
  unfold V6
  by_cases h : j < z
  · rw [if_neg (by omega), if_neg (by omega), if_pos ⟨rfl, h⟩, if_pos h]
  · rw [if_neg (by omega), if_neg (by omega), if_neg (fun e => h e.2), if_neg h]
theorem sim0 : SimM (V6 24 36 16384) σ0 none 0 := by
  refine ⟨fun f i hd hc => ?_, ⟨rfl, rfl, rfl⟩, ⟨fun _ => [], List.range' 0 16384, fun _ => 36, fun w hw => ⟨?_, (fun a ha => by cases ha), trivial, List.nodup_nil, trivial, (fun a ha => by cases ha)⟩, ⟨rfl, ?_, List.nodup_range', fun a ha => ⟨rfl, ?_⟩⟩, ⟨?_, rfl⟩⟩, fun ln e => by cases e⟩
  · have hs : ∀ g j, sgI σ0 g j = if g = 2 ∨ g = 3 ∨ g = 4 then -1 else 0 := fun g j => rfl
    have h8 := dmn_8 hd
    by_cases e34 : f = 3 ∨ f = 4
    · exact absurd (by rw [hs, if_pos (Or.inl rfl)]) (hc e34)
    · by_cases e2 : f = 2
      · subst e2
        have hi : i < 24 := hd
        show V6 24 36 16384 8 i = _
        unfold V6
        rw [if_pos ⟨rfl, hi⟩, hs, if_pos (Or.inl rfl)]
      · rw [hs, if_neg (by omega)]
        have hk : kid f ≠ 8 ∧ kid f ≠ 12 ∧ kid f ≠ 16 := by unfold kid; split <;> omega
        unfold V6
        rw [if_neg (fun z => hk.1 z.1), if_neg (fun z => hk.2.1 z.1), if_neg (fun z => hk.2.2 z.1)]
  · show V6 24 36 16384 12 w = -1
    unfold V6
    rw [if_neg (by omega), if_pos ⟨rfl, hw⟩]
  · refine chM_rng 16384 0 (by omega) (fun j _ hj => ?_)
    unfold V6
    rw [if_neg (by omega), if_neg (by omega), if_pos ⟨rfl, hj⟩]
  · rw [List.mem_range'_1] at ha
    omega
  · rw [List.length_range', zero_t]
theorem r_x6init {M : Mem} {a0 : Nat} (h : gT M a0 = some (6, 0)) (hz : ∀ j, gI M a0 j = 0) {mc ms : Nat} (hb : 18 ≤ mc ∧ 114928 ≤ ms) {post : Mem → Prop} (hp : ∀ M' B, B 0 = a0 → (∀ b, b ≠ a0 → gT M b ≠ none → agr M M' b) → (∀ k, vm k → k ≠ 0 → gT M (B k) = none) → RepM B M' M' σ0 none 0 → post M') : w_X6_init mc ms M a0 post := by
  have s0 : al6 M M a0 (fun _ => a0) (fun _ => False) := ⟨fun b _ _ => agr_rf, h, hz, fun k hk => hk.elim, fun i j hi => hi.elim⟩
  refine ⟨⟨by omega, by omega⟩, fun q1 hq1 M1 e1 => ⟨by rw [e1, gT_sN, if_neg (fun z => by rw [← z, s0.2.1] at hq1; cases hq1)]; exact s0.2.1, fun N1 f1 => ?_⟩⟩
  have s1 := al6_step s0 (k := 3) (n := 20) (by simp) rfl hq1 e1 f1
  refine ⟨⟨by omega, by omega⟩, fun q2 hq2 M2 e2 => ⟨by rw [e2, gT_sN, if_neg (fun z => by rw [← z, s1.2.1] at hq2; cases hq2)]; exact s1.2.1, fun N2 f2 => ?_⟩⟩
  have s2 := al6_step s1 (k := 4) (n := 20) (by simp) rfl hq2 e2 f2
  refine ⟨⟨by omega, by omega⟩, fun q3 hq3 M3 e3 => ⟨by rw [e3, gT_sN, if_neg (fun z => by rw [← z, s2.2.1] at hq3; cases hq3)]; exact s2.2.1, fun N3 f3 => ?_⟩⟩
  have s3 := al6_step s2 (k := 5) (n := 20) (by simp) rfl hq3 e3 f3
  refine ⟨⟨by omega, by omega⟩, fun q4 hq4 M4 e4 => ⟨by rw [e4, gT_sN, if_neg (fun z => by rw [← z, s3.2.1] at hq4; cases hq4)]; exact s3.2.1, fun N4 f4 => ?_⟩⟩
  have s4 := al6_step s3 (k := 6) (n := 6) (by simp) rfl hq4 e4 f4
  refine ⟨⟨by omega, by omega⟩, fun q5 hq5 M5 e5 => ⟨by rw [e5, gT_sN, if_neg (fun z => by rw [← z, s4.2.1] at hq5; cases hq5)]; exact s4.2.1, fun N5 f5 => ?_⟩⟩
  have s5 := al6_step s4 (k := 7) (n := 6) (by simp) rfl hq5 e5 f5
  refine ⟨⟨by omega, by omega⟩, fun q6 hq6 M6 e6 => ⟨by rw [e6, gT_sN, if_neg (fun z => by rw [← z, s5.2.1] at hq6; cases hq6)]; exact s5.2.1, fun N6 f6 => ?_⟩⟩
  have s6 := al6_step s5 (k := 8) (n := 24) (by simp) rfl hq6 e6 f6
  refine ⟨⟨by omega, by omega⟩, fun q7 hq7 M7 e7 => ⟨by rw [e7, gT_sN, if_neg (fun z => by rw [← z, s6.2.1] at hq7; cases hq7)]; exact s6.2.1, fun N7 f7 => ?_⟩⟩
  have s7 := al6_step s6 (k := 9) (n := 24) (by simp) rfl hq7 e7 f7
  refine ⟨⟨by omega, by omega⟩, fun q8 hq8 M8 e8 => ⟨by rw [e8, gT_sN, if_neg (fun z => by rw [← z, s7.2.1] at hq8; cases hq8)]; exact s7.2.1, fun N8 f8 => ?_⟩⟩
  have s8 := al6_step s7 (k := 10) (n := 24) (by simp) rfl hq8 e8 f8
  refine ⟨⟨by omega, by omega⟩, fun q9 hq9 M9 e9 => ⟨by rw [e9, gT_sN, if_neg (fun z => by rw [← z, s8.2.1] at hq9; cases hq9)]; exact s8.2.1, fun N9 f9 => ?_⟩⟩
  have s9 := al6_step s8 (k := 11) (n := 24) (by simp) rfl hq9 e9 f9
  refine ⟨⟨by omega, by omega⟩, fun q10 hq10 M10 e10 => ⟨by rw [e10, gT_sN, if_neg (fun z => by rw [← z, s9.2.1] at hq10; cases hq10)]; exact s9.2.1, fun N10 f10 => ?_⟩⟩
  have s10 := al6_step s9 (k := 12) (n := 36) (by simp) rfl hq10 e10 f10
  refine ⟨⟨by omega, by omega⟩, fun q11 hq11 M11 e11 => ⟨by rw [e11, gT_sN, if_neg (fun z => by rw [← z, s10.2.1] at hq11; cases hq11)]; exact s10.2.1, fun N11 f11 => ?_⟩⟩
  have s11 := al6_step s10 (k := 13) (n := 36) (by simp) rfl hq11 e11 f11
  refine ⟨⟨by omega, by omega⟩, fun q12 hq12 M12 e12 => ⟨by rw [e12, gT_sN, if_neg (fun z => by rw [← z, s11.2.1] at hq12; cases hq12)]; exact s11.2.1, fun N12 f12 => ?_⟩⟩
  have s12 := al6_step s11 (k := 16) (n := 16384) (by simp) rfl hq12 e12 f12
  refine ⟨⟨by omega, by omega⟩, fun q13 hq13 M13 e13 => ⟨by rw [e13, gT_sN, if_neg (fun z => by rw [← z, s12.2.1] at hq13; cases hq13)]; exact s12.2.1, fun N13 f13 => ?_⟩⟩
  have s13 := al6_step s12 (k := 17) (n := 16384) (by simp) rfl hq13 e13 f13
  refine ⟨⟨by omega, by omega⟩, fun q14 hq14 M14 e14 => ⟨by rw [e14, gT_sN, if_neg (fun z => by rw [← z, s13.2.1] at hq14; cases hq14)]; exact s13.2.1, fun N14 f14 => ?_⟩⟩
  have s14 := al6_step s13 (k := 18) (n := 16384) (by simp) rfl hq14 e14 f14
  refine ⟨⟨by omega, by omega⟩, fun q15 hq15 M15 e15 => ⟨by rw [e15, gT_sN, if_neg (fun z => by rw [← z, s14.2.1] at hq15; cases hq15)]; exact s14.2.1, fun N15 f15 => ?_⟩⟩
  have s15 := al6_step s14 (k := 19) (n := 16384) (by simp) rfl hq15 e15 f15
  refine ⟨⟨by omega, by omega⟩, fun q16 hq16 M16 e16 => ⟨by rw [e16, gT_sN, if_neg (fun z => by rw [← z, s15.2.1] at hq16; cases hq16)]; exact s15.2.1, fun N16 f16 => ?_⟩⟩
  have s16 := al6_step s15 (k := 20) (n := 16384) (by simp) rfl hq16 e16 f16
  refine ⟨⟨by omega, by omega⟩, fun q17 hq17 M17 e17 => ⟨by rw [e17, gT_sN, if_neg (fun z => by rw [← z, s16.2.1] at hq17; cases hq17)]; exact s16.2.1, fun N17 f17 => ?_⟩⟩
  have s17 := al6_step s16 (k := 21) (n := 16384) (by simp) rfl hq17 e17 f17
  refine ⟨⟨by omega, by omega⟩, fun q18 hq18 M18 e18 => ⟨by rw [e18, gT_sN, if_neg (fun z => by rw [← z, s17.2.1] at hq18; cases hq18)]; exact s17.2.1, fun N18 f18 => ?_⟩⟩
  have s18 := al6_step s17 (k := 22) (n := 16384) (by simp) rfl hq18 e18 f18
  -- all rows are there
  obtain ⟨B, hB0, hal⟩ : ∃ B : Nat → Nat, B 0 = a0 ∧ al6 M N18 a0 B (fun k => vm k ∧ k ≠ 0) := by
    refine ⟨_, ?_, s18.1, s18.2.1, s18.2.2.1, fun k hk => s18.2.2.2.1 k ?_, fun i j hi hj => s18.2.2.2.2 i j ?_ ?_⟩
    · rfl
    · obtain ⟨hk, h0⟩ := hk
      unfold vm at hk
      omega
    · obtain ⟨hk, h0⟩ := hi
      unfold vm at hk
      omega
    · obtain ⟨hk, h0⟩ := hj
      unfold vm at hk
      omega
  obtain ⟨a1, a2, a3, a4, a5⟩ := hal
  have hV0 : RpV B N18 N18 (V6 0 0 0) := by
    refine ⟨⟨fun k hk => ?_, fun k hk h0 => ?_, fun i j hi hj e => ?_, fun _ => rfl, fun _ _ => rfl, fun _ _ => rfl, fun _ _ _ => rfl⟩, fun k hk j => ?_⟩
    · by_cases h0 : k = 0
      · rw [h0, hB0]; exact a2
      · rw [(a4 k ⟨hk, h0⟩).2.2.1]
        unfold tyM
        rw [if_neg h0]
    · rw [hB0]; exact (a4 k ⟨hk, h0⟩).2.2.2.1
    · by_cases hi0 : i = 0
      · by_cases hj0 : j = 0
        · rw [hi0, hj0]
        · rw [hi0, hB0] at e
          exact absurd e.symm (a4 j ⟨hj, hj0⟩).2.1
      · by_cases hj0 : j = 0
        · rw [hj0, hB0] at e
          exact absurd e (a4 i ⟨hi, hi0⟩).2.1
        · exact a5 i j ⟨hi, hi0⟩ ⟨hj, hj0⟩ e
    · have hv : V6 0 0 0 k j = 0 := by
        unfold V6
        rw [if_neg (by omega), if_neg (by omega), if_neg (by omega)]
      rw [hv]
      by_cases h0 : k = 0
      · rw [h0, hB0]; exact a3 j
      · exact (a4 k ⟨hk, h0⟩).2.2.2.2 j
  subst hB0
  refine Lp_for 24 (fun k z => z.1 = nI k ∧ RpV B N18 z.2 (V6 k 0 0)) (fun z => z.1.toNatClampNeg) (fun c z hc hz => by rw [hz.1]; exact clN (by omega)) ⟨rfl, hV0⟩ ?_
  intro k z K hk hz2 hK x1 M1' ez
  subst ez
  obtain ⟨hz1, hz3⟩ := hz2
  have hz1 : x1 = nI k := hz1
  have hVk : RpV B N18 M1' (V6 k 0 0) := hz3
  clear hz3
  subst hz1
  refine ⟨fun e => ?_, fun e => ?_⟩
  · have : 24 ≤ k := (le_nI (a := 24) (by omega) (by omega)).mp e
    have e6 : k = 24 := by omega
    subst e6
    refine Lp_for 36 (fun k z => z.1 = nI k ∧ RpV B N18 z.2 (V6 24 k 0)) (fun z => z.1.toNatClampNeg) (fun c z hc hz => by rw [hz.1]; exact clN (by omega)) ⟨rfl, hVk⟩ ?_
    intro k z K hk hz2 hK x1 M2' ez
    subst ez
    obtain ⟨hz1, hz3⟩ := hz2
    have hz1 : x1 = nI k := hz1
    have hVk : RpV B N18 M2' (V6 24 k 0) := hz3
    clear hz3
    subst hz1
    refine ⟨fun e => ?_, fun e => ?_⟩
    · have : 36 ≤ k := (le_nI (a := 36) (by omega) (by omega)).mp e
      have e6 : k = 36 := by omega
      subst e6
      refine Lp_for 16384 (fun k z => z.1 = nI k ∧ RpV B N18 z.2 (V6 24 36 k)) (fun z => z.1.toNatClampNeg) (fun c z hc hz => by rw [hz.1]; exact clN (by omega)) ⟨rfl, hVk⟩ ?_
      intro k z K hk hz2 hK x1 M3' ez
      subst ez
      obtain ⟨hz1, hz3⟩ := hz2
      have hz1 : x1 = nI k := hz1
      have hVk : RpV B N18 M3' (V6 24 36 k) := hz3
      clear hz3
      subst hz1
      refine ⟨fun e => ?_, fun e => ?_⟩
      · have : 16384 ≤ k := (le_nI (a := 16384) (by omega) (by omega)).mp e
        have e6 : k = 16384 := by omega
        subst e6
        have hS := hVk.1
        refine hp M3' B rfl (fun b hb hn => ?_) (fun k hk h0 => (a4 k ⟨hk, h0⟩).1) ⟨_, ⟨⟨fun k hk => ?_, fun k hk h0 => ?_, hS.2.2.1, fun _ => rfl, fun _ _ => rfl, fun _ _ => rfl, fun _ _ _ => rfl⟩, hVk.2⟩, sim0⟩
        · have g := a1 b hb hn
          refine ⟨(hS.2.2.2.1 b).trans g.1, fun j => ?_, fun j => (hS.2.2.2.2.1 b j).trans (g.2.2.1 j), fun j => (hS.2.2.2.2.2.1 b j).trans (g.2.2.2 j)⟩
          refine (hS.2.2.2.2.2.2 b (fun k hk e => ?_) j).trans (g.2.1 j)
          by_cases h0 : k = 0
          · rw [h0] at e; exact hb e
          · rw [e] at hn; exact hn (a4 k ⟨hk, h0⟩).1
        · rw [hS.2.2.2.1]; exact hS.1 k hk
        · rw [hS.2.2.2.2.1]; exact hS.2.1 k hk h0
      · have hlt : k < 16384 := Nat.not_le.mp (fun h9 => e ((le_nI (a := 16384) (by omega) (by omega)).mpr h9))
        refine ⟨rv_0 hVk, _, rv_rf hVk vm16 (by decide), rv_in hVk vm16 (by decide) hlt, fun M4' e4 x5 e5 => hK _ hlt ⟨by show x5 = nI (k + 1); rw [e5, nI_1], ?_⟩⟩
        have h4 := rv_sn hVk vm16 (show k < 2 ^ 31 by omega) (nI (k + 1))
        show RpV B N18 M4' _
        rw [e4, nI_1]
        refine rv_ext h4 (fun f hf j => ?_)
        rw [up_rd]
        by_cases e1 : f = 16
        · subst e1
          rw [v6_16, v6_16]
          by_cases e2 : j = k
          · rw [if_pos ⟨rfl, e2⟩, if_pos (by omega), e2]
          · rw [if_neg (fun z => e2 z.2)]
            by_cases e3 : j < k
            · rw [if_pos e3, if_pos (by omega)]
            · rw [if_neg e3, if_neg (by omega)]
        · unfold V6
          rw [if_neg (fun z => e1 z.1), if_neg (c := f = 16 ∧ j < k) (fun z => e1 z.1), if_neg (c := f = 16 ∧ j < k + 1) (fun z => e1 z.1)]
    · have hlt : k < 36 := Nat.not_le.mp (fun h9 => e ((le_nI (a := 36) (by omega) (by omega)).mpr h9))
      refine ⟨rv_0 hVk, _, rv_rf hVk vm12 (by decide), rv_in hVk vm12 (by decide) hlt, fun M4' e4 x5 e5 => hK _ hlt ⟨by show x5 = nI (k + 1); rw [e5, nI_1], ?_⟩⟩
      have h4 := rv_sn hVk vm12 (show k < 2 ^ 31 by omega) (-1)
      show RpV B N18 M4' _
      rw [e4]
      refine rv_ext h4 (fun f hf j => ?_)
      rw [up_rd]
      unfold V6
      by_cases e1 : f = 12
      · subst e1
        by_cases e2 : j = k
        · rw [if_pos ⟨rfl, e2⟩, if_neg (by omega), if_pos ⟨rfl, by omega⟩]
        · rw [if_neg (fun z => e2 z.2), if_neg (by omega), if_neg (c := 12 = 8 ∧ j < 24) (by omega)]
          by_cases e3 : j < k
          · rw [if_pos ⟨rfl, e3⟩, if_pos ⟨rfl, by omega⟩]
          · rw [if_neg (fun z => e3 z.2), if_neg (c := 12 = 12 ∧ j < k + 1) (by omega)]
      · rw [if_neg (fun z => e1 z.1), if_neg (c := f = 12 ∧ j < k) (fun z => e1 z.1), if_neg (c := f = 12 ∧ j < k + 1) (fun z => e1 z.1)]
  · have hlt : k < 24 := Nat.not_le.mp (fun h9 => e ((le_nI (a := 24) (by omega) (by omega)).mpr h9))
    refine ⟨rv_0 hVk, _, rv_rf hVk vm8 (by decide), rv_in hVk vm8 (by decide) hlt, fun M4' e4 x5 e5 => hK _ hlt ⟨by show x5 = nI (k + 1); rw [e5, nI_1], ?_⟩⟩
    have h4 := rv_sn hVk vm8 (show k < 2 ^ 31 by omega) (-1)
    show RpV B N18 M4' _
    rw [e4]
    refine rv_ext h4 (fun f hf j => ?_)
    rw [up_rd]
    unfold V6
    by_cases e1 : f = 8
    · subst e1
      by_cases e2 : j = k
      · rw [if_pos ⟨rfl, e2⟩, if_pos ⟨rfl, by omega⟩]
      · rw [if_neg (fun z => e2 z.2)]
        by_cases e3 : j < k
        · rw [if_pos ⟨rfl, e3⟩, if_pos ⟨rfl, by omega⟩]
        · rw [if_neg (fun z => e3 z.2), if_neg (c := 8 = 8 ∧ j < k + 1) (by omega)]
    · rw [if_neg (fun z => e1 z.1), if_neg (c := f = 8 ∧ j < k) (fun z => e1 z.1), if_neg (c := f = 8 ∧ j < k + 1) (fun z => e1 z.1)]
