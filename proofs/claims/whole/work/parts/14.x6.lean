def w_X6_init (mc ms : Nat) (M : Mem) (a0 : Nat) (post : Mem → Prop) : Prop :=
  (0 + 1 ≤ mc ∧ 0 + 20 ≤ ms) ∧ ∀ q1, gT M q1 = none → ∀ M2, M2 = sN M q1 (10, 20) → gT M2 a0 = some (6, 0) ∧ ∀ M5, M5 = sR M2 a0 3 ((some q1)) → (0 + 1 + 1 ≤ mc ∧ 0 + 20 + 20 ≤ ms) ∧ ∀ q6, gT M5 q6 = none → ∀ M7, M7 = sN M5 q6 (10, 20) → gT M7 a0 = some (6, 0) ∧ ∀ M10, M10 = sR M7 a0 4 ((some q6)) → (0 + 1 + 1 + 1 ≤ mc ∧ 0 + 20 + 20 + 20 ≤ ms) ∧ ∀ q11, gT M10 q11 = none → ∀ M12, M12 = sN M10 q11 (10, 20) → gT M12 a0 = some (6, 0) ∧ ∀ M15, M15 = sR M12 a0 5 ((some q11)) → (0 + 1 + 1 + 1 + 1 ≤ mc ∧ 0 + 20 + 20 + 20 + 6 ≤ ms) ∧ ∀ q16, gT M15 q16 = none → ∀ M17, M17 = sN M15 q16 (10, 6) → gT M17 a0 = some (6, 0) ∧ ∀ M20, M20 = sR M17 a0 6 ((some q16)) → (0 + 1 + 1 + 1 + 1 + 1 ≤ mc ∧ 0 + 20 + 20 + 20 + 6 + 6 ≤ ms) ∧ ∀ q21, gT M20 q21 = none → ∀ M22, M22 = sN M20 q21 (10, 6) → gT M22 a0 = some (6, 0) ∧ ∀ M25, M25 = sR M22 a0 7 ((some q21)) → (0 + 1 + 1 + 1 + 1 + 1 + 1 ≤ mc ∧ 0 + 20 + 20 + 20 + 6 + 6 + 24 ≤ ms) ∧ ∀ q26, gT M25 q26 = none → ∀ M27, M27 = sN M25 q26 (10, 24) → gT M27 a0 = some (6, 0) ∧ ∀ M30, M30 = sR M27 a0 8 ((some q26)) → (0 + 1 + 1 + 1 + 1 + 1 + 1 + 1 ≤ mc ∧ 0 + 20 + 20 + 20 + 6 + 6 + 24 + 24 ≤ ms) ∧ ∀ q31, gT M30 q31 = none → ∀ M32, M32 = sN M30 q31 (10, 24) → gT M32 a0 = some (6, 0) ∧ ∀ M35, M35 = sR M32 a0 9 ((some q31)) → (0 + 1 + 1 + 1 + 1 + 1 + 1 + 1 + 1 ≤ mc ∧ 0 + 20 + 20 + 20 + 6 + 6 + 24 + 24 + 24 ≤ ms) ∧ ∀ q36, gT M35 q36 = none → ∀ M37, M37 = sN M35 q36 (10, 24) → gT M37 a0 = some (6, 0) ∧ ∀ M40, M40 = sR M37 a0 10 ((some q36)) → (0 + 1 + 1 + 1 + 1 + 1 + 1 + 1 + 1 + 1 ≤ mc ∧ 0 + 20 + 20 + 20 + 6 + 6 + 24 + 24 + 24 + 24 ≤ ms) ∧ ∀ q41, gT M40 q41 = none → ∀ M42, M42 = sN M40 q41 (10, 24) → gT M42 a0 = some (6, 0) ∧ ∀ M45, M45 = sR M42 a0 11 ((some q41)) → (0 + 1 + 1 + 1 + 1 + 1 + 1 + 1 + 1 + 1 + 1 ≤ mc ∧ 0 + 20 + 20 + 20 + 6 + 6 + 24 + 24 + 24 + 24 + 36 ≤ ms) ∧ ∀ q46, gT M45 q46 = none → ∀ M47, M47 = sN M45 q46 (10, 36) → gT M47 a0 = some (6, 0) ∧ ∀ M50, M50 = sR M47 a0 12 ((some q46)) → (0 + 1 + 1 + 1 + 1 + 1 + 1 + 1 + 1 + 1 + 1 + 1 ≤ mc ∧ 0 + 20 + 20 + 20 + 6 + 6 + 24 + 24 + 24 + 24 + 36 + 36 ≤ ms) ∧ ∀ q51, gT M50 q51 = none → ∀ M52, M52 = sN M50 q51 (10, 36) → gT M52 a0 = some (6, 0) ∧ ∀ M55, M55 = sR M52 a0 13 ((some q51)) → (0 + 1 + 1 + 1 + 1 + 1 + 1 + 1 + 1 + 1 + 1 + 1 + 1 ≤ mc ∧ 0 + 20 + 20 + 20 + 6 + 6 + 24 + 24 + 24 + 24 + 36 + 36 + 16384 ≤ ms) ∧ ∀ q56, gT M55 q56 = none → ∀ M57, M57 = sN M55 q56 (10, 16384) → gT M57 a0 = some (6, 0) ∧ ∀ M60, M60 = sR M57 a0 16 ((some q56)) → (0 + 1 + 1 + 1 + 1 + 1 + 1 + 1 + 1 + 1 + 1 + 1 + 1 + 1 ≤ mc ∧ 0 + 20 + 20 + 20 + 6 + 6 + 24 + 24 + 24 + 24 + 36 + 36 + 16384 + 16384 ≤ ms) ∧ ∀ q61, gT M60 q61 = none → ∀ M62, M62 = sN M60 q61 (10, 16384) → gT M62 a0 = some (6, 0) ∧ ∀ M65, M65 = sR M62 a0 17 ((some q61)) → (0 + 1 + 1 + 1 + 1 + 1 + 1 + 1 + 1 + 1 + 1 + 1 + 1 + 1 + 1 ≤ mc ∧ 0 + 20 + 20 + 20 + 6 + 6 + 24 + 24 + 24 + 24 + 36 + 36 + 16384 + 16384 + 16384 ≤ ms) ∧ ∀ q66, gT M65 q66 = none → ∀ M67, M67 = sN M65 q66 (10, 16384) → gT M67 a0 = some (6, 0) ∧ ∀ M70, M70 = sR M67 a0 18 ((some q66)) → (0 + 1 + 1 + 1 + 1 + 1 + 1 + 1 + 1 + 1 + 1 + 1 + 1 + 1 + 1 + 1 ≤ mc ∧ 0 + 20 + 20 + 20 + 6 + 6 + 24 + 24 + 24 + 24 + 36 + 36 + 16384 + 16384 + 16384 + 16384 ≤ ms) ∧ ∀ q71, gT M70 q71 = none → ∀ M72, M72 = sN M70 q71 (10, 16384) → gT M72 a0 = some (6, 0) ∧ ∀ M75, M75 = sR M72 a0 19 ((some q71)) → (0 + 1 + 1 + 1 + 1 + 1 + 1 + 1 + 1 + 1 + 1 + 1 + 1 + 1 + 1 + 1 + 1 ≤ mc ∧ 0 + 20 + 20 + 20 + 6 + 6 + 24 + 24 + 24 + 24 + 36 + 36 + 16384 + 16384 + 16384 + 16384 + 16384 ≤ ms) ∧ ∀ q76, gT M75 q76 = none → ∀ M77, M77 = sN M75 q76 (10, 16384) → gT M77 a0 = some (6, 0) ∧ ∀ M80, M80 = sR M77 a0 20 ((some q76)) → (0 + 1 + 1 + 1 + 1 + 1 + 1 + 1 + 1 + 1 + 1 + 1 + 1 + 1 + 1 + 1 + 1 + 1 ≤ mc ∧ 0 + 20 + 20 + 20 + 6 + 6 + 24 + 24 + 24 + 24 + 36 + 36 + 16384 + 16384 + 16384 + 16384 + 16384 + 16384 ≤ ms) ∧ ∀ q81, gT M80 q81 = none → ∀ M82, M82 = sN M80 q81 (10, 16384) → gT M82 a0 = some (6, 0) ∧ ∀ M85, M85 = sR M82 a0 21 ((some q81)) → (0 + 1 + 1 + 1 + 1 + 1 + 1 + 1 + 1 + 1 + 1 + 1 + 1 + 1 + 1 + 1 + 1 + 1 + 1 ≤ mc ∧ 0 + 20 + 20 + 20 + 6 + 6 + 24 + 24 + 24 + 24 + 36 + 36 + 16384 + 16384 + 16384 + 16384 + 16384 + 16384 + 16384 ≤ ms) ∧ ∀ q86, gT M85 q86 = none → ∀ M87, M87 = sN M85 q86 (10, 16384) → gT M87 a0 = some (6, 0) ∧ ∀ M90, M90 = sR M87 a0 22 ((some q86)) → Lp (fun (K93 : Int32 × Mem → Prop) (z : Int32 × Mem) => ∀ (x91 : Int32) (M92 : Mem), z = (x91, M92) → ((24 ≤ x91 → Lp (fun (K96 : Int32 × Mem → Prop) (z : Int32 × Mem) => ∀ (x94 : Int32) (M95 : Mem), z = (x94, M95) → ((36 ≤ x94 → Lp (fun (K99 : Int32 × Mem → Prop) (z : Int32 × Mem) => ∀ (x97 : Int32) (M98 : Mem), z = (x97, M98) → ((16384 ≤ x97 → post M98) ∧ (¬ (16384 ≤ x97) → gT M98 a0 = some (6, 0) ∧ ∃ b101, gR M98 a0 16 = some b101 ∧ inA M98 b101 10 x97 ∧ ∀ M102, M102 = sI M98 b101 (Int32.toNatClampNeg x97) (x97 + 1) → ∀ x104, x104 = x97 + 1 → K99 (x104, M102)))) (0, M95)) ∧ (¬ (36 ≤ x94) → gT M95 a0 = some (6, 0) ∧ ∃ b108, gR M95 a0 12 = some b108 ∧ inA M95 b108 10 x94 ∧ ∀ M109, M109 = sI M95 b108 (Int32.toNatClampNeg x94) ((-1)) → ∀ x111, x111 = x94 + 1 → K96 (x111, M109)))) (0, M92)) ∧ (¬ (24 ≤ x91) → gT M92 a0 = some (6, 0) ∧ ∃ b115, gR M92 a0 8 = some b115 ∧ inA M92 b115 10 x91 ∧ ∀ M116, M116 = sI M92 b115 (Int32.toNatClampNeg x91) ((-1)) → ∀ x118, x118 = x91 + 1 → K93 (x118, M116)))) (0, M90)
set_option maxRecDepth 100000 in
set_option maxHeartbeats 8000000 in
theorem s_X6_init (l : Launch) (D : va_G) (dA : Nat → ClassId) (htr : l.stackTraces = false) (mc ms : Nat) (M : Mem) (a0 : Nat) (post : Mem → Prop) (h : w_X6_init mc ms M a0 post) : CtN l D dA yX6_init cX6_init 2 (none) 2 [.ref a0] M mc ms (pV post) := by
  refine ct_ofN htr (by decide) (Nat.le_of_ble_eq_true rfl) ?_
  intro X hC hN hR
  show G X 2 M 0 0 0 [(0, .ref a0)] []
  unfold w_X6_init at h
  refine g_aload_n (r := (some a0)) hC 0 dX6_init_0 rfl ?_
  refine g_objInit hC wm_3_145 wm_1_22 wm_1_23 dX6_init_1 (Nat.le_of_ble_eq_true rfl) ?_
  refine g_aload_n (r := (some a0)) hC 0 dX6_init_4 rfl ?_
  refine g_bipush (v := 20) hC dX6_init_5 (by decide) ?_
  obtain ⟨hc3, h⟩ := h
  refine g_newa (at0 := .int) (ty := .int) (ck := 10) (N' := 20) hC rfl (by decide) wm_1_46 (by decide) (by decide +kernel) (by decide +kernel) dX6_init_7 hc3 (fun q1 hqq1 => ?_)
  obtain ⟨M2, eM2⟩ : ∃ w, w = sN M q1 (10, 20) := ⟨_, rfl⟩
  replace h := h q1 hqq1 M2 eM2
  rw [← eM2]
  obtain ⟨hc4, h⟩ := h
  refine g_putR (r := (some q1)) hC kc6 3 (by decide) wm_3_149 dX6_init_9 rfl (nar_a _) (Or.inr ⟨rfl, hN, rfl⟩) hc4 ?_
  obtain ⟨M5, eM5⟩ : ∃ w, w = sR M2 a0 3 ((some q1)) := ⟨_, rfl⟩
  replace h := h M5 eM5
  rw [← eM5]
  refine g_aload_n (r := (some a0)) hC 0 dX6_init_12 rfl ?_
  refine g_pc (pc' := 13) rfl ?_
  refine g_bipush (v := 20) hC dX6_init_13 (by decide) ?_
  obtain ⟨hc8, h⟩ := h
  refine g_newa (at0 := .int) (ty := .int) (ck := 10) (N' := 20) hC rfl (by decide) wm_1_46 (by decide) (by decide +kernel) (by decide +kernel) dX6_init_15 hc8 (fun q6 hqq6 => ?_)
  obtain ⟨M7, eM7⟩ : ∃ w, w = sN M5 q6 (10, 20) := ⟨_, rfl⟩
  replace h := h q6 hqq6 M7 eM7
  rw [← eM7]
  obtain ⟨hc9, h⟩ := h
  refine g_putR (r := (some q6)) hC kc6 4 (by decide) wm_3_150 dX6_init_17 rfl (nar_a _) (Or.inr ⟨rfl, hN, rfl⟩) hc9 ?_
  obtain ⟨M10, eM10⟩ : ∃ w, w = sR M7 a0 4 ((some q6)) := ⟨_, rfl⟩
  replace h := h M10 eM10
  rw [← eM10]
  refine g_aload_n (r := (some a0)) hC 0 dX6_init_20 rfl ?_
  refine g_bipush (v := 20) hC dX6_init_21 (by decide) ?_
  obtain ⟨hc13, h⟩ := h
  refine g_newa (at0 := .int) (ty := .int) (ck := 10) (N' := 20) hC rfl (by decide) wm_1_46 (by decide) (by decide +kernel) (by decide +kernel) dX6_init_23 hc13 (fun q11 hqq11 => ?_)
  obtain ⟨M12, eM12⟩ : ∃ w, w = sN M10 q11 (10, 20) := ⟨_, rfl⟩
  replace h := h q11 hqq11 M12 eM12
  rw [← eM12]
  obtain ⟨hc14, h⟩ := h
  refine g_putR (r := (some q11)) hC kc6 5 (by decide) wm_3_151 dX6_init_25 rfl (nar_a _) (Or.inr ⟨rfl, hN, rfl⟩) hc14 ?_
  obtain ⟨M15, eM15⟩ : ∃ w, w = sR M12 a0 5 ((some q11)) := ⟨_, rfl⟩
  replace h := h M15 eM15
  rw [← eM15]
  refine g_aload_n (r := (some a0)) hC 0 dX6_init_28 rfl ?_
  refine g_pc (pc' := 29) rfl ?_
  refine g_bipush (v := 6) hC dX6_init_29 (by decide) ?_
  obtain ⟨hc18, h⟩ := h
  refine g_newa (at0 := .int) (ty := .int) (ck := 10) (N' := 6) hC rfl (by decide) wm_1_46 (by decide) (by decide +kernel) (by decide +kernel) dX6_init_31 hc18 (fun q16 hqq16 => ?_)
  obtain ⟨M17, eM17⟩ : ∃ w, w = sN M15 q16 (10, 6) := ⟨_, rfl⟩
  replace h := h q16 hqq16 M17 eM17
  rw [← eM17]
  obtain ⟨hc19, h⟩ := h
  refine g_putR (r := (some q16)) hC kc6 6 (by decide) wm_3_152 dX6_init_33 rfl (nar_a _) (Or.inr ⟨rfl, hN, rfl⟩) hc19 ?_
  obtain ⟨M20, eM20⟩ : ∃ w, w = sR M17 a0 6 ((some q16)) := ⟨_, rfl⟩
  replace h := h M20 eM20
  rw [← eM20]
  refine g_aload_n (r := (some a0)) hC 0 dX6_init_36 rfl ?_
  refine g_bipush (v := 6) hC dX6_init_37 (by decide) ?_
  obtain ⟨hc23, h⟩ := h
  refine g_newa (at0 := .int) (ty := .int) (ck := 10) (N' := 6) hC rfl (by decide) wm_1_46 (by decide) (by decide +kernel) (by decide +kernel) dX6_init_39 hc23 (fun q21 hqq21 => ?_)
  obtain ⟨M22, eM22⟩ : ∃ w, w = sN M20 q21 (10, 6) := ⟨_, rfl⟩
  replace h := h q21 hqq21 M22 eM22
  rw [← eM22]
  obtain ⟨hc24, h⟩ := h
  refine g_putR (r := (some q21)) hC kc6 7 (by decide) wm_3_153 dX6_init_41 rfl (nar_a _) (Or.inr ⟨rfl, hN, rfl⟩) hc24 ?_
  obtain ⟨M25, eM25⟩ : ∃ w, w = sR M22 a0 7 ((some q21)) := ⟨_, rfl⟩
  replace h := h M25 eM25
  rw [← eM25]
  refine g_aload_n (r := (some a0)) hC 0 dX6_init_44 rfl ?_
  refine g_pc (pc' := 45) rfl ?_
  refine g_bipush (v := 24) hC dX6_init_45 (by decide) ?_
  obtain ⟨hc28, h⟩ := h
  refine g_newa (at0 := .int) (ty := .int) (ck := 10) (N' := 24) hC rfl (by decide) wm_1_46 (by decide) (by decide +kernel) (by decide +kernel) dX6_init_47 hc28 (fun q26 hqq26 => ?_)
  obtain ⟨M27, eM27⟩ : ∃ w, w = sN M25 q26 (10, 24) := ⟨_, rfl⟩
  replace h := h q26 hqq26 M27 eM27
  rw [← eM27]
  obtain ⟨hc29, h⟩ := h
  refine g_putR (r := (some q26)) hC kc6 8 (by decide) wm_3_154 dX6_init_49 rfl (nar_a _) (Or.inr ⟨rfl, hN, rfl⟩) hc29 ?_
  obtain ⟨M30, eM30⟩ : ∃ w, w = sR M27 a0 8 ((some q26)) := ⟨_, rfl⟩
  replace h := h M30 eM30
  rw [← eM30]
  refine g_aload_n (r := (some a0)) hC 0 dX6_init_52 rfl ?_
  refine g_bipush (v := 24) hC dX6_init_53 (by decide) ?_
  obtain ⟨hc33, h⟩ := h
  refine g_newa (at0 := .int) (ty := .int) (ck := 10) (N' := 24) hC rfl (by decide) wm_1_46 (by decide) (by decide +kernel) (by decide +kernel) dX6_init_55 hc33 (fun q31 hqq31 => ?_)
  obtain ⟨M32, eM32⟩ : ∃ w, w = sN M30 q31 (10, 24) := ⟨_, rfl⟩
  replace h := h q31 hqq31 M32 eM32
  rw [← eM32]
  obtain ⟨hc34, h⟩ := h
  refine g_putR (r := (some q31)) hC kc6 9 (by decide) wm_3_155 dX6_init_57 rfl (nar_a _) (Or.inr ⟨rfl, hN, rfl⟩) hc34 ?_
  obtain ⟨M35, eM35⟩ : ∃ w, w = sR M32 a0 9 ((some q31)) := ⟨_, rfl⟩
  replace h := h M35 eM35
  rw [← eM35]
  refine g_aload_n (r := (some a0)) hC 0 dX6_init_60 rfl ?_
  refine g_pc (pc' := 61) rfl ?_
  refine g_bipush (v := 24) hC dX6_init_61 (by decide) ?_
  obtain ⟨hc38, h⟩ := h
  refine g_newa (at0 := .int) (ty := .int) (ck := 10) (N' := 24) hC rfl (by decide) wm_1_46 (by decide) (by decide +kernel) (by decide +kernel) dX6_init_63 hc38 (fun q36 hqq36 => ?_)
  obtain ⟨M37, eM37⟩ : ∃ w, w = sN M35 q36 (10, 24) := ⟨_, rfl⟩
  replace h := h q36 hqq36 M37 eM37
  rw [← eM37]
  obtain ⟨hc39, h⟩ := h
  refine g_putR (r := (some q36)) hC kc6 10 (by decide) wm_3_156 dX6_init_65 rfl (nar_a _) (Or.inr ⟨rfl, hN, rfl⟩) hc39 ?_
  obtain ⟨M40, eM40⟩ : ∃ w, w = sR M37 a0 10 ((some q36)) := ⟨_, rfl⟩
  replace h := h M40 eM40
  rw [← eM40]
  refine g_aload_n (r := (some a0)) hC 0 dX6_init_68 rfl ?_
  refine g_bipush (v := 24) hC dX6_init_69 (by decide) ?_
  obtain ⟨hc43, h⟩ := h
  refine g_newa (at0 := .int) (ty := .int) (ck := 10) (N' := 24) hC rfl (by decide) wm_1_46 (by decide) (by decide +kernel) (by decide +kernel) dX6_init_71 hc43 (fun q41 hqq41 => ?_)
  obtain ⟨M42, eM42⟩ : ∃ w, w = sN M40 q41 (10, 24) := ⟨_, rfl⟩
  replace h := h q41 hqq41 M42 eM42
  rw [← eM42]
  obtain ⟨hc44, h⟩ := h
  refine g_putR (r := (some q41)) hC kc6 11 (by decide) wm_3_157 dX6_init_73 rfl (nar_a _) (Or.inr ⟨rfl, hN, rfl⟩) hc44 ?_
  obtain ⟨M45, eM45⟩ : ∃ w, w = sR M42 a0 11 ((some q41)) := ⟨_, rfl⟩
  replace h := h M45 eM45
  rw [← eM45]
  refine g_aload_n (r := (some a0)) hC 0 dX6_init_76 rfl ?_
  refine g_pc (pc' := 77) rfl ?_
  refine g_bipush (v := 36) hC dX6_init_77 (by decide) ?_
  obtain ⟨hc48, h⟩ := h
  refine g_newa (at0 := .int) (ty := .int) (ck := 10) (N' := 36) hC rfl (by decide) wm_1_46 (by decide) (by decide +kernel) (by decide +kernel) dX6_init_79 hc48 (fun q46 hqq46 => ?_)
  obtain ⟨M47, eM47⟩ : ∃ w, w = sN M45 q46 (10, 36) := ⟨_, rfl⟩
  replace h := h q46 hqq46 M47 eM47
  rw [← eM47]
  obtain ⟨hc49, h⟩ := h
  refine g_putR (r := (some q46)) hC kc6 12 (by decide) wm_3_158 dX6_init_81 rfl (nar_a _) (Or.inr ⟨rfl, hN, rfl⟩) hc49 ?_
  obtain ⟨M50, eM50⟩ : ∃ w, w = sR M47 a0 12 ((some q46)) := ⟨_, rfl⟩
  replace h := h M50 eM50
  rw [← eM50]
  refine g_aload_n (r := (some a0)) hC 0 dX6_init_84 rfl ?_
  refine g_bipush (v := 36) hC dX6_init_85 (by decide) ?_
  obtain ⟨hc53, h⟩ := h
  refine g_newa (at0 := .int) (ty := .int) (ck := 10) (N' := 36) hC rfl (by decide) wm_1_46 (by decide) (by decide +kernel) (by decide +kernel) dX6_init_87 hc53 (fun q51 hqq51 => ?_)
  obtain ⟨M52, eM52⟩ : ∃ w, w = sN M50 q51 (10, 36) := ⟨_, rfl⟩
  replace h := h q51 hqq51 M52 eM52
  rw [← eM52]
  obtain ⟨hc54, h⟩ := h
  refine g_putR (r := (some q51)) hC kc6 13 (by decide) wm_3_159 dX6_init_89 rfl (nar_a _) (Or.inr ⟨rfl, hN, rfl⟩) hc54 ?_
  obtain ⟨M55, eM55⟩ : ∃ w, w = sR M52 a0 13 ((some q51)) := ⟨_, rfl⟩
  replace h := h M55 eM55
  rw [← eM55]
  refine g_aload_n (r := (some a0)) hC 0 dX6_init_92 rfl ?_
  refine g_pc (pc' := 93) rfl ?_
  refine g_sipush (v := 16384) hC dX6_init_93 (by decide) ?_
  obtain ⟨hc58, h⟩ := h
  refine g_newa (at0 := .int) (ty := .int) (ck := 10) (N' := 16384) hC rfl (by decide) wm_1_46 (by decide) (by decide +kernel) (by decide +kernel) dX6_init_96 hc58 (fun q56 hqq56 => ?_)
  obtain ⟨M57, eM57⟩ : ∃ w, w = sN M55 q56 (10, 16384) := ⟨_, rfl⟩
  replace h := h q56 hqq56 M57 eM57
  rw [← eM57]
  obtain ⟨hc59, h⟩ := h
  refine g_putR (r := (some q56)) hC kc6 16 (by decide) wm_3_162 dX6_init_98 rfl (nar_a _) (Or.inr ⟨rfl, hN, rfl⟩) hc59 ?_
  obtain ⟨M60, eM60⟩ : ∃ w, w = sR M57 a0 16 ((some q56)) := ⟨_, rfl⟩
  replace h := h M60 eM60
  rw [← eM60]
  refine g_aload_n (r := (some a0)) hC 0 dX6_init_101 rfl ?_
  refine g_sipush (v := 16384) hC dX6_init_102 (by decide) ?_
  obtain ⟨hc63, h⟩ := h
  refine g_newa (at0 := .int) (ty := .int) (ck := 10) (N' := 16384) hC rfl (by decide) wm_1_46 (by decide) (by decide +kernel) (by decide +kernel) dX6_init_105 hc63 (fun q61 hqq61 => ?_)
  obtain ⟨M62, eM62⟩ : ∃ w, w = sN M60 q61 (10, 16384) := ⟨_, rfl⟩
  replace h := h q61 hqq61 M62 eM62
  rw [← eM62]
  obtain ⟨hc64, h⟩ := h
  refine g_putR (r := (some q61)) hC kc6 17 (by decide) wm_3_163 dX6_init_107 rfl (nar_a _) (Or.inr ⟨rfl, hN, rfl⟩) hc64 ?_
  obtain ⟨M65, eM65⟩ : ∃ w, w = sR M62 a0 17 ((some q61)) := ⟨_, rfl⟩
  replace h := h M65 eM65
  rw [← eM65]
  refine g_aload_n (r := (some a0)) hC 0 dX6_init_110 rfl ?_
  refine g_pc (pc' := 111) rfl ?_
  refine g_sipush (v := 16384) hC dX6_init_111 (by decide) ?_
  obtain ⟨hc68, h⟩ := h
  refine g_newa (at0 := .int) (ty := .int) (ck := 10) (N' := 16384) hC rfl (by decide) wm_1_46 (by decide) (by decide +kernel) (by decide +kernel) dX6_init_114 hc68 (fun q66 hqq66 => ?_)
  obtain ⟨M67, eM67⟩ : ∃ w, w = sN M65 q66 (10, 16384) := ⟨_, rfl⟩
  replace h := h q66 hqq66 M67 eM67
  rw [← eM67]
  obtain ⟨hc69, h⟩ := h
  refine g_putR (r := (some q66)) hC kc6 18 (by decide) wm_3_164 dX6_init_116 rfl (nar_a _) (Or.inr ⟨rfl, hN, rfl⟩) hc69 ?_
  obtain ⟨M70, eM70⟩ : ∃ w, w = sR M67 a0 18 ((some q66)) := ⟨_, rfl⟩
  replace h := h M70 eM70
  rw [← eM70]
  refine g_aload_n (r := (some a0)) hC 0 dX6_init_119 rfl ?_
  refine g_sipush (v := 16384) hC dX6_init_120 (by decide) ?_
  obtain ⟨hc73, h⟩ := h
  refine g_newa (at0 := .int) (ty := .int) (ck := 10) (N' := 16384) hC rfl (by decide) wm_1_46 (by decide) (by decide +kernel) (by decide +kernel) dX6_init_123 hc73 (fun q71 hqq71 => ?_)
  obtain ⟨M72, eM72⟩ : ∃ w, w = sN M70 q71 (10, 16384) := ⟨_, rfl⟩
  replace h := h q71 hqq71 M72 eM72
  rw [← eM72]
  obtain ⟨hc74, h⟩ := h
  refine g_putR (r := (some q71)) hC kc6 19 (by decide) wm_3_165 dX6_init_125 rfl (nar_a _) (Or.inr ⟨rfl, hN, rfl⟩) hc74 ?_
  obtain ⟨M75, eM75⟩ : ∃ w, w = sR M72 a0 19 ((some q71)) := ⟨_, rfl⟩
  replace h := h M75 eM75
  rw [← eM75]
  refine g_aload_n (r := (some a0)) hC 0 dX6_init_128 rfl ?_
  refine g_pc (pc' := 129) rfl ?_
  refine g_sipush (v := 16384) hC dX6_init_129 (by decide) ?_
  obtain ⟨hc78, h⟩ := h
  refine g_newa (at0 := .int) (ty := .int) (ck := 10) (N' := 16384) hC rfl (by decide) wm_1_46 (by decide) (by decide +kernel) (by decide +kernel) dX6_init_132 hc78 (fun q76 hqq76 => ?_)
  obtain ⟨M77, eM77⟩ : ∃ w, w = sN M75 q76 (10, 16384) := ⟨_, rfl⟩
  replace h := h q76 hqq76 M77 eM77
  rw [← eM77]
  obtain ⟨hc79, h⟩ := h
  refine g_putR (r := (some q76)) hC kc6 20 (by decide) wm_3_166 dX6_init_134 rfl (nar_a _) (Or.inr ⟨rfl, hN, rfl⟩) hc79 ?_
  obtain ⟨M80, eM80⟩ : ∃ w, w = sR M77 a0 20 ((some q76)) := ⟨_, rfl⟩
  replace h := h M80 eM80
  rw [← eM80]
  refine g_aload_n (r := (some a0)) hC 0 dX6_init_137 rfl ?_
  refine g_sipush (v := 16384) hC dX6_init_138 (by decide) ?_
  obtain ⟨hc83, h⟩ := h
  refine g_newa (at0 := .int) (ty := .int) (ck := 10) (N' := 16384) hC rfl (by decide) wm_1_46 (by decide) (by decide +kernel) (by decide +kernel) dX6_init_141 hc83 (fun q81 hqq81 => ?_)
  obtain ⟨M82, eM82⟩ : ∃ w, w = sN M80 q81 (10, 16384) := ⟨_, rfl⟩
  replace h := h q81 hqq81 M82 eM82
  rw [← eM82]
  obtain ⟨hc84, h⟩ := h
  refine g_putR (r := (some q81)) hC kc6 21 (by decide) wm_3_167 dX6_init_143 rfl (nar_a _) (Or.inr ⟨rfl, hN, rfl⟩) hc84 ?_
  obtain ⟨M85, eM85⟩ : ∃ w, w = sR M82 a0 21 ((some q81)) := ⟨_, rfl⟩
  replace h := h M85 eM85
  rw [← eM85]
  refine g_aload_n (r := (some a0)) hC 0 dX6_init_146 rfl ?_
  refine g_pc (pc' := 147) rfl ?_
  refine g_sipush (v := 16384) hC dX6_init_147 (by decide) ?_
  obtain ⟨hc88, h⟩ := h
  refine g_newa (at0 := .int) (ty := .int) (ck := 10) (N' := 16384) hC rfl (by decide) wm_1_46 (by decide) (by decide +kernel) (by decide +kernel) dX6_init_150 hc88 (fun q86 hqq86 => ?_)
  obtain ⟨M87, eM87⟩ : ∃ w, w = sN M85 q86 (10, 16384) := ⟨_, rfl⟩
  replace h := h q86 hqq86 M87 eM87
  rw [← eM87]
  obtain ⟨hc89, h⟩ := h
  refine g_putR (r := (some q86)) hC kc6 22 (by decide) wm_3_168 dX6_init_152 rfl (nar_a _) (Or.inr ⟨rfl, hN, rfl⟩) hc89 ?_
  obtain ⟨M90, eM90⟩ : ∃ w, w = sR M87 a0 22 ((some q86)) := ⟨_, rfl⟩
  replace h := h M90 eM90
  rw [← eM90]
  refine g_iconst (v := 0) hC dX6_init_155 (by decide) ?_
  refine g_istore_n (lv' := [(1, .int 0), (0, .ref a0)]) hC dX6_init_156 (by decide) rfl ?_
  refine g_sub [1, 0] (lv' := [(0, .ref a0), (1, .int 0)]) rfl ?_
  refine Lp_use (fun (z120 : Int32 × Mem) => G X 2 z120.2 (0 + 1 + 1 + 1 + 1 + 1 + 1 + 1 + 1 + 1 + 1 + 1 + 1 + 1 + 1 + 1 + 1 + 1 + 1) (0 + 20 + 20 + 20 + 6 + 6 + 24 + 24 + 24 + 24 + 36 + 36 + 16384 + 16384 + 16384 + 16384 + 16384 + 16384 + 16384) 157 [(0, .ref a0), (1, .int z120.1)] []) h ?_
  intro K93 z hK_K93 h
  obtain ⟨x91, M92⟩ := z
  replace h := h _ _ rfl
  show G X 2 M92 (0 + 1 + 1 + 1 + 1 + 1 + 1 + 1 + 1 + 1 + 1 + 1 + 1 + 1 + 1 + 1 + 1 + 1 + 1) (0 + 20 + 20 + 20 + 6 + 6 + 24 + 24 + 24 + 24 + 36 + 36 + 16384 + 16384 + 16384 + 16384 + 16384 + 16384 + 16384) 157 [(0, .ref a0), (1, .int x91)] []
  refine g_iload_n hC 1 dX6_init_157 rfl ?_
  refine g_bipush (v := 24) hC dX6_init_158 (by decide) ?_
  refine g_icmp_ge hC 176 dX6_init_160 (by decide) (fun c119 => ?_) (fun c119 => ?_)
  · replace h := h.1 c119
    refine g_pc (pc' := 176) rfl ?_
    refine g_iconst (v := 0) hC dX6_init_176 (by decide) ?_
    refine g_istore_n (lv' := [(1, .int 0), (0, .ref a0)]) hC dX6_init_177 (by decide) rfl ?_
    refine g_sub [1, 0] (lv' := [(0, .ref a0), (1, .int 0)]) rfl ?_
    refine Lp_use (fun (z113 : Int32 × Mem) => G X 2 z113.2 (0 + 1 + 1 + 1 + 1 + 1 + 1 + 1 + 1 + 1 + 1 + 1 + 1 + 1 + 1 + 1 + 1 + 1 + 1) (0 + 20 + 20 + 20 + 6 + 6 + 24 + 24 + 24 + 24 + 36 + 36 + 16384 + 16384 + 16384 + 16384 + 16384 + 16384 + 16384) 178 [(0, .ref a0), (1, .int z113.1)] []) h ?_
    intro K96 z hK_K96 h
    obtain ⟨x94, M95⟩ := z
    replace h := h _ _ rfl
    show G X 2 M95 (0 + 1 + 1 + 1 + 1 + 1 + 1 + 1 + 1 + 1 + 1 + 1 + 1 + 1 + 1 + 1 + 1 + 1 + 1) (0 + 20 + 20 + 20 + 6 + 6 + 24 + 24 + 24 + 24 + 36 + 36 + 16384 + 16384 + 16384 + 16384 + 16384 + 16384 + 16384) 178 [(0, .ref a0), (1, .int x94)] []
    refine g_iload_n hC 1 dX6_init_178 rfl ?_
    refine g_bipush (v := 36) hC dX6_init_179 (by decide) ?_
    refine g_icmp_ge hC 197 dX6_init_181 (by decide) (fun c112 => ?_) (fun c112 => ?_)
    · replace h := h.1 c112
      refine g_iconst (v := 0) hC dX6_init_197 (by decide) ?_
      refine g_istore_n (lv' := [(1, .int 0), (0, .ref a0)]) hC dX6_init_198 (by decide) rfl ?_
      refine g_sub [1, 0] (lv' := [(0, .ref a0), (1, .int 0)]) rfl ?_
      refine Lp_use (fun (z106 : Int32 × Mem) => G X 2 z106.2 (0 + 1 + 1 + 1 + 1 + 1 + 1 + 1 + 1 + 1 + 1 + 1 + 1 + 1 + 1 + 1 + 1 + 1 + 1) (0 + 20 + 20 + 20 + 6 + 6 + 24 + 24 + 24 + 24 + 36 + 36 + 16384 + 16384 + 16384 + 16384 + 16384 + 16384 + 16384) 199 [(0, .ref a0), (1, .int z106.1)] []) h ?_
      intro K99 z hK_K99 h
      obtain ⟨x97, M98⟩ := z
      replace h := h _ _ rfl
      show G X 2 M98 (0 + 1 + 1 + 1 + 1 + 1 + 1 + 1 + 1 + 1 + 1 + 1 + 1 + 1 + 1 + 1 + 1 + 1 + 1) (0 + 20 + 20 + 20 + 6 + 6 + 24 + 24 + 24 + 24 + 36 + 36 + 16384 + 16384 + 16384 + 16384 + 16384 + 16384 + 16384) 199 [(0, .ref a0), (1, .int x97)] []
      refine g_iload_n hC 1 dX6_init_199 rfl ?_
      refine g_pc (pc' := 200) rfl ?_
      refine g_sipush (v := 16384) hC dX6_init_200 (by decide) ?_
      refine g_icmp_ge hC 221 dX6_init_203 (by decide) (fun c105 => ?_) (fun c105 => ?_)
      · replace h := h.1 c105
        exact hR.1 rfl _ _ _ _ _ dX6_init_221 ⟨rfl, h⟩
      · replace h := h.2 c105
        refine g_aload_n (r := (some a0)) hC 0 dX6_init_206 rfl ?_
        obtain ⟨hc100, h⟩ := h
        obtain ⟨b101, eb101, h⟩ := h
        refine g_getA hC kc6 16 (by decide) wm_3_162 dX6_init_207 rfl hc100 eb101 ?_
        refine g_iload_n hC 1 dX6_init_210 rfl ?_
        refine g_iload_n hC 1 dX6_init_211 rfl ?_
        refine g_iconst (v := 1) hC dX6_init_212 (by decide) ?_
        refine g_iadd hC dX6_init_213 ?_
        obtain ⟨hc103, h⟩ := h
        refine g_pc (pc' := 214) rfl ?_
        refine g_iastA hC dX6_init_214 hc103 ?_
        obtain ⟨M102, eM102⟩ : ∃ w, w = sI M98 b101 (Int32.toNatClampNeg x97) (x97 + 1) := ⟨_, rfl⟩
        replace h := h M102 eM102
        rw [← eM102]
        obtain ⟨x104, ex104⟩ : ∃ w, w = x97 + 1 := ⟨_, rfl⟩
        replace h := h x104 ex104
        refine g_iinc (v := x104) (lv' := [(1, .int x104), (0, .ref a0)]) hC 1 dX6_init_215 rfl (by rw [ex104]; rfl) (by decide) rfl ?_
        refine g_goto hC 199 dX6_init_218 (by decide) ?_
        refine g_sub [1, 0] (lv' := [(0, .ref a0), (1, .int x104)]) rfl ?_
        exact hK_K99 _ h
    · replace h := h.2 c112
      refine g_aload_n (r := (some a0)) hC 0 dX6_init_184 rfl ?_
      obtain ⟨hc107, h⟩ := h
      obtain ⟨b108, eb108, h⟩ := h
      refine g_getA hC kc6 12 (by decide) wm_3_158 dX6_init_185 rfl hc107 eb108 ?_
      refine g_iload_n hC 1 dX6_init_188 rfl ?_
      refine g_pc (pc' := 189) rfl ?_
      refine g_iconst (v := (-1)) hC dX6_init_189 (by decide) ?_
      obtain ⟨hc110, h⟩ := h
      refine g_iastA hC dX6_init_190 hc110 ?_
      obtain ⟨M109, eM109⟩ : ∃ w, w = sI M95 b108 (Int32.toNatClampNeg x94) ((-1)) := ⟨_, rfl⟩
      replace h := h M109 eM109
      rw [← eM109]
      obtain ⟨x111, ex111⟩ : ∃ w, w = x94 + 1 := ⟨_, rfl⟩
      replace h := h x111 ex111
      refine g_iinc (v := x111) (lv' := [(1, .int x111), (0, .ref a0)]) hC 1 dX6_init_191 rfl (by rw [ex111]; rfl) (by decide) rfl ?_
      refine g_goto hC 178 dX6_init_194 (by decide) ?_
      refine g_sub [1, 0] (lv' := [(0, .ref a0), (1, .int x111)]) rfl ?_
      exact hK_K96 _ h
  · replace h := h.2 c119
    refine g_pc (pc' := 163) rfl ?_
    refine g_aload_n (r := (some a0)) hC 0 dX6_init_163 rfl ?_
    obtain ⟨hc114, h⟩ := h
    obtain ⟨b115, eb115, h⟩ := h
    refine g_getA hC kc6 8 (by decide) wm_3_154 dX6_init_164 rfl hc114 eb115 ?_
    refine g_iload_n hC 1 dX6_init_167 rfl ?_
    refine g_iconst (v := (-1)) hC dX6_init_168 (by decide) ?_
    obtain ⟨hc117, h⟩ := h
    refine g_iastA hC dX6_init_169 hc117 ?_
    obtain ⟨M116, eM116⟩ : ∃ w, w = sI M92 b115 (Int32.toNatClampNeg x91) ((-1)) := ⟨_, rfl⟩
    replace h := h M116 eM116
    rw [← eM116]
    obtain ⟨x118, ex118⟩ : ∃ w, w = x91 + 1 := ⟨_, rfl⟩
    replace h := h x118 ex118
    refine g_iinc (v := x118) (lv' := [(1, .int x118), (0, .ref a0)]) hC 1 dX6_init_170 rfl (by rw [ex118]; rfl) (by decide) rfl ?_
    refine g_goto hC 157 dX6_init_173 (by decide) ?_
    refine g_sub [1, 0] (lv' := [(0, .ref a0), (1, .int x118)]) rfl ?_
    exact hK_K93 _ h

def w_X6_thrown (M : Mem) (a0 : Nat) (post : Int32 → Prop) : Prop :=
  gT M a0 = some (6, 0) ∧ post (gI M a0 0)
set_option maxRecDepth 100000 in
set_option maxHeartbeats 8000000 in
theorem s_X6_thrown (l : Launch) (D : va_G) (dA : Nat → ClassId) (htr : l.stackTraces = false) (M : Mem) (a0 : Nat) (post : Int32 → Prop) (h : w_X6_thrown M a0 post) : CtN l D dA yX6_thrown cX6_thrown 1 (some .int) 1 [.ref a0] M 0 0 (pI (fun M' r => M' = M ∧ post r)) := by
  refine ct_ofN htr (by decide) (Nat.le_of_ble_eq_true rfl) ?_
  intro X hC hN hR
  show G X 1 M 0 0 0 [(0, .ref a0)] []
  unfold w_X6_thrown at h
  refine g_aload_n (r := (some a0)) hC 0 dX6_thrown_0 rfl ?_
  obtain ⟨hc1, h⟩ := h
  refine g_getI hC kc6 0 (by decide) wm_3_146 dX6_thrown_1 rfl hc1 ?_
  exact hR.2.1 rfl _ _ _ _ _ _ dX6_thrown_4 ⟨_, rfl, rfl, h⟩

def w_X6_holds (M : Mem) (a0 : Nat) (p0 : Int32) (post : Mem → Int32 → Prop) : Prop :=
  gT M a0 = some (6, 0) ∧ ∀ M2, M2 = sI M a0 0 p0 → ∀ J4 : Int32 → Prop, (∀ (x3 : Int32), (((x3 : Int32) = 0 ∨ (x3 : Int32) = 1) ∧ post M2 x3) → J4 x3) → ((p0 = 0 → J4 1) ∧ (¬ (p0 = 0) → J4 0))
set_option maxRecDepth 100000 in
set_option maxHeartbeats 8000000 in
theorem s_X6_holds (l : Launch) (D : va_G) (dA : Nat → ClassId) (htr : l.stackTraces = false) (M : Mem) (a0 : Nat) (p0 : Int32) (post : Mem → Int32 → Prop) (h : w_X6_holds M a0 p0 post) : CtN l D dA yX6_holds cX6_holds 2 (some .boolean) 1 [.ref a0, .int p0] M 0 0 (pI post) := by
  refine ct_ofN htr (by decide) (Nat.le_of_ble_eq_true rfl) ?_
  intro X hC hN hR
  show G X 2 M 0 0 0 [(0, .ref a0), (1, .int p0)] []
  unfold w_X6_holds at h
  refine g_aload_n (r := (some a0)) hC 0 dX6_holds_0 rfl ?_
  refine g_iload_n hC 1 dX6_holds_1 rfl ?_
  obtain ⟨hc1, h⟩ := h
  refine g_putI hC kc6 0 (by decide) wm_3_146 dX6_holds_2 rfl rfl (Or.inl rfl) hc1 ?_
  obtain ⟨M2, eM2⟩ : ∃ w, w = sI M a0 0 p0 := ⟨_, rfl⟩
  replace h := h M2 eM2
  rw [← eM2]
  refine g_iload_n hC 1 dX6_holds_5 rfl ?_
  replace h := h (fun (x3 : Int32) => G X 2 M2 0 0 14 [(0, .ref a0), (1, .int p0)] [.int x3]) (by
    intro x3 h
    show G X 2 M2 0 0 14 [(0, .ref a0), (1, .int p0)] [.int x3]
    exact hR.2.2.1 rfl _ _ _ _ _ _ dX6_holds_14 ⟨h.1, ⟨_, rfl, h.2⟩⟩)
  refine g_if_ne hC 13 dX6_holds_6 (by decide) (fun c5 => ?_) (fun c5 => ?_)
  · replace h := h.2 c5
    refine g_iconst (v := 0) hC dX6_holds_13 (by decide) ?_
    exact h
  · replace h := h.1 c5
    refine g_iconst (v := 1) hC dX6_holds_9 (by decide) ?_
    refine g_goto hC 14 dX6_holds_10 (by decide) ?_
    exact h

def w_X6_isServer (M : Mem) (p0 : Int32) (post : Int32 → Prop) : Prop :=
  ∀ J2 : Int32 → Prop, (∀ (x1 : Int32), (((x1 : Int32) = 0 ∨ (x1 : Int32) = 1) ∧ post x1) → J2 x1) → (∀ J3 : Prop, ((J2 0) → J3) → ((p0 < 0 → J3) ∧ (¬ (p0 < 0) → (6 ≤ p0 → J3) ∧ (¬ (6 ≤ p0) → J2 1))))
set_option maxRecDepth 100000 in
set_option maxHeartbeats 8000000 in
theorem s_X6_isServer (l : Launch) (D : va_G) (dA : Nat → ClassId) (htr : l.stackTraces = false) (M : Mem) (p0 : Int32) (post : Int32 → Prop) (h : w_X6_isServer M p0 post) : CtN l D dA yX6_isServer cX6_isServer 1 (some .boolean) 1 [.int p0] M 0 0 (pI (fun M' r => M' = M ∧ post r)) := by
  refine ct_ofN htr (by decide) (Nat.le_of_ble_eq_true rfl) ?_
  intro X hC hN hR
  show G X 1 M 0 0 0 [(0, .int p0)] []
  unfold w_X6_isServer at h
  refine g_iload_n hC 0 dX6_isServer_0 rfl ?_
  replace h := h (fun (x1 : Int32) => G X 1 M 0 0 15 [(0, .int p0)] [.int x1]) (by
    intro x1 h
    show G X 1 M 0 0 15 [(0, .int p0)] [.int x1]
    exact hR.2.2.1 rfl _ _ _ _ _ _ dX6_isServer_15 ⟨h.1, ⟨_, rfl, rfl, h.2⟩⟩)
  replace h := h (G X 1 M 0 0 14 [(0, .int p0)] []) (by
    intro h
    refine g_iconst (v := 0) hC dX6_isServer_14 (by decide) ?_
    exact h)
  refine g_if_lt hC 14 dX6_isServer_1 (by decide) (fun c5 => ?_) (fun c5 => ?_)
  · replace h := h.1 c5
    exact h
  · replace h := h.2 c5
    refine g_iload_n hC 0 dX6_isServer_4 rfl ?_
    refine g_bipush (v := 6) hC dX6_isServer_5 (by decide) ?_
    refine g_icmp_ge hC 14 dX6_isServer_7 (by decide) (fun c4 => ?_) (fun c4 => ?_)
    · replace h := h.1 c4
      exact h
    · replace h := h.2 c4
      refine g_iconst (v := 1) hC dX6_isServer_10 (by decide) ?_
      refine g_goto hC 15 dX6_isServer_11 (by decide) ?_
      exact h

def w_X6_isChannel (M : Mem) (p0 : Int32) (post : Int32 → Prop) : Prop :=
  ∀ J2 : Int32 → Prop, (∀ (x1 : Int32), (((x1 : Int32) = 0 ∨ (x1 : Int32) = 1) ∧ post x1) → J2 x1) → (∀ J3 : Prop, ((J2 0) → J3) → ((p0 < 0 → J3) ∧ (¬ (p0 < 0) → (4 ≤ p0 → J3) ∧ (¬ (4 ≤ p0) → J2 1))))
set_option maxRecDepth 100000 in
set_option maxHeartbeats 8000000 in
theorem s_X6_isChannel (l : Launch) (D : va_G) (dA : Nat → ClassId) (htr : l.stackTraces = false) (M : Mem) (p0 : Int32) (post : Int32 → Prop) (h : w_X6_isChannel M p0 post) : CtN l D dA yX6_isChannel cX6_isChannel 1 (some .boolean) 1 [.int p0] M 0 0 (pI (fun M' r => M' = M ∧ post r)) := by
  refine ct_ofN htr (by decide) (Nat.le_of_ble_eq_true rfl) ?_
  intro X hC hN hR
  show G X 1 M 0 0 0 [(0, .int p0)] []
  unfold w_X6_isChannel at h
  refine g_iload_n hC 0 dX6_isChannel_0 rfl ?_
  replace h := h (fun (x1 : Int32) => G X 1 M 0 0 14 [(0, .int p0)] [.int x1]) (by
    intro x1 h
    show G X 1 M 0 0 14 [(0, .int p0)] [.int x1]
    exact hR.2.2.1 rfl _ _ _ _ _ _ dX6_isChannel_14 ⟨h.1, ⟨_, rfl, rfl, h.2⟩⟩)
  replace h := h (G X 1 M 0 0 13 [(0, .int p0)] []) (by
    intro h
    refine g_iconst (v := 0) hC dX6_isChannel_13 (by decide) ?_
    exact h)
  refine g_if_lt hC 13 dX6_isChannel_1 (by decide) (fun c5 => ?_) (fun c5 => ?_)
  · replace h := h.1 c5
    exact h
  · replace h := h.2 c5
    refine g_iload_n hC 0 dX6_isChannel_4 rfl ?_
    refine g_iconst (v := 4) hC dX6_isChannel_5 (by decide) ?_
    refine g_icmp_ge hC 13 dX6_isChannel_6 (by decide) (fun c4 => ?_) (fun c4 => ?_)
    · replace h := h.1 c4
      exact h
    · replace h := h.2 c4
      refine g_iconst (v := 1) hC dX6_isChannel_9 (by decide) ?_
      refine g_goto hC 14 dX6_isChannel_10 (by decide) ?_
      exact h

def w_X6_has (M : Mem) (p0 : Int32) (p1 : Int32) (post : Int32 → Prop) : Prop :=
  ∀ J2 : Int32 → Prop, (∀ (x1 : Int32), (((x1 : Int32) = 0 ∨ (x1 : Int32) = 1) ∧ post x1) → J2 x1) → (((p0 >>> (p1 &&& 31)) &&& 1 = 1 → J2 1) ∧ (¬ ((p0 >>> (p1 &&& 31)) &&& 1 = 1) → J2 0))
set_option maxRecDepth 100000 in
set_option maxHeartbeats 8000000 in
theorem s_X6_has (l : Launch) (D : va_G) (dA : Nat → ClassId) (htr : l.stackTraces = false) (M : Mem) (p0 : Int32) (p1 : Int32) (post : Int32 → Prop) (h : w_X6_has M p0 p1 post) : CtN l D dA yX6_has cX6_has 2 (some .boolean) 1 [.int p0, .int p1] M 0 0 (pI (fun M' r => M' = M ∧ post r)) := by
  refine ct_ofN htr (by decide) (Nat.le_of_ble_eq_true rfl) ?_
  intro X hC hN hR
  show G X 2 M 0 0 0 [(0, .int p0), (1, .int p1)] []
  unfold w_X6_has at h
  refine g_iload_n hC 0 dX6_has_0 rfl ?_
  refine g_iload_n hC 1 dX6_has_1 rfl ?_
  refine g_ishr hC dX6_has_2 ?_
  refine g_iconst (v := 1) hC dX6_has_3 (by decide) ?_
  refine g_iand hC dX6_has_4 ?_
  refine g_iconst (v := 1) hC dX6_has_5 (by decide) ?_
  replace h := h (fun (x1 : Int32) => G X 2 M 0 0 14 [(0, .int p0), (1, .int p1)] [.int x1]) (by
    intro x1 h
    show G X 2 M 0 0 14 [(0, .int p0), (1, .int p1)] [.int x1]
    exact hR.2.2.1 rfl _ _ _ _ _ _ dX6_has_14 ⟨h.1, ⟨_, rfl, rfl, h.2⟩⟩)
  refine g_icmp_ne hC 13 dX6_has_6 (by decide) (fun c3 => ?_) (fun c3 => ?_)
  · replace h := h.2 c3
    refine g_pc (pc' := 13) rfl ?_
    refine g_iconst (v := 0) hC dX6_has_13 (by decide) ?_
    exact h
  · replace h := h.1 c3
    refine g_pc (pc' := 9) rfl ?_
    refine g_iconst (v := 1) hC dX6_has_9 (by decide) ?_
    refine g_goto hC 14 dX6_has_10 (by decide) ?_
    exact h

def w_X6_at (M : Mem) (p0 : Int32) (p1 : Int32) (post : Int32 → Prop) : Prop :=
  post ((4 * p0) + p1)
set_option maxRecDepth 100000 in
set_option maxHeartbeats 8000000 in
theorem s_X6_at (l : Launch) (D : va_G) (dA : Nat → ClassId) (htr : l.stackTraces = false) (M : Mem) (p0 : Int32) (p1 : Int32) (post : Int32 → Prop) (h : w_X6_at M p0 p1 post) : CtN l D dA yX6_at cX6_at 2 (some .int) 1 [.int p0, .int p1] M 0 0 (pI (fun M' r => M' = M ∧ post r)) := by
  refine ct_ofN htr (by decide) (Nat.le_of_ble_eq_true rfl) ?_
  intro X hC hN hR
  show G X 2 M 0 0 0 [(0, .int p0), (1, .int p1)] []
  unfold w_X6_at at h
  refine g_iconst (v := 4) hC dX6_at_0 (by decide) ?_
  refine g_iload_n hC 0 dX6_at_1 rfl ?_
  refine g_imul hC dX6_at_2 ?_
  refine g_iload_n hC 1 dX6_at_3 rfl ?_
  refine g_iadd hC dX6_at_4 ?_
  exact hR.2.1 rfl _ _ _ _ _ _ dX6_at_5 ⟨_, rfl, rfl, h⟩

def w_X6_makes (M : Mem) (a0 : Nat) (p0 : Int32) (p1 : Int32) (p2 : Int32) (post : Mem → Prop) : Prop :=
  gT M a0 = some (6, 0) ∧ ∀ M2, M2 = sI M a0 23 p0 → gT M2 a0 = some (6, 0) ∧ ∀ M4, M4 = sI M2 a0 24 p1 → gT M4 a0 = some (6, 0) ∧ ∀ M6, M6 = sI M4 a0 25 p2 → post M6
set_option maxRecDepth 100000 in
set_option maxHeartbeats 8000000 in
theorem s_X6_makes (l : Launch) (D : va_G) (dA : Nat → ClassId) (htr : l.stackTraces = false) (M : Mem) (a0 : Nat) (p0 : Int32) (p1 : Int32) (p2 : Int32) (post : Mem → Prop) (h : w_X6_makes M a0 p0 p1 p2 post) : CtN l D dA yX6_makes cX6_makes 4 (none) 1 [.ref a0, .int p0, .int p1, .int p2] M 0 0 (pV post) := by
  refine ct_ofN htr (by decide) (Nat.le_of_ble_eq_true rfl) ?_
  intro X hC hN hR
  show G X 4 M 0 0 0 [(0, .ref a0), (1, .int p0), (2, .int p1), (3, .int p2)] []
  unfold w_X6_makes at h
  refine g_aload_n (r := (some a0)) hC 0 dX6_makes_0 rfl ?_
  refine g_iload_n hC 1 dX6_makes_1 rfl ?_
  obtain ⟨hc1, h⟩ := h
  refine g_putI hC kc6 23 (by decide) wm_3_169 dX6_makes_2 rfl rfl (Or.inl rfl) hc1 ?_
  obtain ⟨M2, eM2⟩ : ∃ w, w = sI M a0 23 p0 := ⟨_, rfl⟩
  replace h := h M2 eM2
  rw [← eM2]
  refine g_aload_n (r := (some a0)) hC 0 dX6_makes_5 rfl ?_
  refine g_iload_n hC 2 dX6_makes_6 rfl ?_
  obtain ⟨hc3, h⟩ := h
  refine g_putI hC kc6 24 (by decide) wm_3_170 dX6_makes_7 rfl rfl (Or.inl rfl) hc3 ?_
  obtain ⟨M4, eM4⟩ : ∃ w, w = sI M2 a0 24 p1 := ⟨_, rfl⟩
  replace h := h M4 eM4
  rw [← eM4]
  refine g_aload_n (r := (some a0)) hC 0 dX6_makes_10 rfl ?_
  refine g_pc (pc' := 11) rfl ?_
  refine g_iload_n hC 3 dX6_makes_11 rfl ?_
  obtain ⟨hc5, h⟩ := h
  refine g_putI hC kc6 25 (by decide) wm_3_171 dX6_makes_12 rfl rfl (Or.inl rfl) hc5 ?_
  obtain ⟨M6, eM6⟩ : ∃ w, w = sI M4 a0 25 p2 := ⟨_, rfl⟩
  replace h := h M6 eM6
  rw [← eM6]
  exact hR.1 rfl _ _ _ _ _ dX6_makes_15 ⟨rfl, h⟩

def w_X6_tells (M : Mem) (a0 : Nat) (p0 : Int32) (p1 : Int32) (p2 : Int32) (p3 : Int32) (post : Mem → Prop) : Prop :=
  gT M a0 = some (6, 0) ∧ w_X6_makes M a0 p0 p2 p3 (fun M2 => gT M2 a0 = some (6, 0) ∧ ∃ b4, gR M2 a0 8 = some b4 ∧ w_X6_at M2 p1 p2 (fun x5 => inA M2 b4 10 x5 ∧ gT M2 a0 = some (6, 0) ∧ ∀ M8, M8 = sI M2 a0 26 (gI M2 b4 (Int32.toNatClampNeg x5)) → gT M8 a0 = some (6, 0) ∧ ∃ b10, gR M8 a0 9 = some b10 ∧ w_X6_at M8 p1 p2 (fun x11 => inA M8 b10 10 x11 ∧ gT M8 a0 = some (6, 0) ∧ ∀ M14, M14 = sI M8 a0 27 (gI M8 b10 (Int32.toNatClampNeg x11)) → gT M14 a0 = some (6, 0) ∧ ∃ b16, gR M14 a0 10 = some b16 ∧ w_X6_at M14 p1 p2 (fun x17 => inA M14 b16 10 x17 ∧ gT M14 a0 = some (6, 0) ∧ ∀ M20, M20 = sI M14 a0 28 (gI M14 b16 (Int32.toNatClampNeg x17)) → post M20))))
set_option maxRecDepth 100000 in
set_option maxHeartbeats 8000000 in
theorem s_X6_tells (l : Launch) (D : va_G) (dA : Nat → ClassId) (htr : l.stackTraces = false) (M : Mem) (a0 : Nat) (p0 : Int32) (p1 : Int32) (p2 : Int32) (p3 : Int32) (post : Mem → Prop) (h : w_X6_tells M a0 p0 p1 p2 p3 post) : CtN l D dA yX6_tells cX6_tells 5 (none) 2 [.ref a0, .int p0, .int p1, .int p2, .int p3] M 0 0 (pV post) := by
  refine ct_ofN htr (by decide) (Nat.le_of_ble_eq_true rfl) ?_
  intro X hC hN hR
  show G X 5 M 0 0 0 [(0, .ref a0), (1, .int p0), (2, .int p1), (3, .int p2), (4, .int p3)] []
  unfold w_X6_tells at h
  refine g_aload_n (r := (some a0)) hC 0 dX6_tells_0 rfl ?_
  refine g_iload_n hC 1 dX6_tells_1 rfl ?_
  refine g_iload_n hC 3 dX6_tells_2 rfl ?_
  refine g_iload hC 4 dX6_tells_3 rfl ?_
  obtain ⟨hc1, h⟩ := h
  refine g_callV hC (As := [.int p0, .int p2, .int p3]) (fun l D dA ht => s_X6_makes l D dA ht _ _ _ _ _ _ h) wm_4_23 wm_4_20 wm_4_22 wm_0_19 wm_1_7 (by decide +kernel : plainY yX6_makes 3) kc6.1 kc6.2.1 dX6_tells_5 (by decide) (Nat.le_of_ble_eq_true rfl) hc1 (Or.inl ⟨rfl, rfl⟩) ?_
  intro M9 v9 h
  obtain ⟨rfl, h⟩ := h
  generalize M9 = M2 at h ⊢
  show G X 5 M2 0 0 8 [(0, .ref a0), (1, .int p0), (2, .int p1), (3, .int p2), (4, .int p3)] []
  refine g_aload_n (r := (some a0)) hC 0 dX6_tells_8 rfl ?_
  refine g_aload_n (r := (some a0)) hC 0 dX6_tells_9 rfl ?_
  obtain ⟨hc3, h⟩ := h
  obtain ⟨b4, eb4, h⟩ := h
  refine g_pc (pc' := 10) rfl ?_
  refine g_getA hC kc6 8 (by decide) wm_3_154 dX6_tells_10 rfl hc3 eb4 ?_
  refine g_iload_n hC 2 dX6_tells_13 rfl ?_
  refine g_iload_n hC 3 dX6_tells_14 rfl ?_
  refine g_callS hC (As := [.int p1, .int p2]) (fun l D dA ht => s_X6_at l D dA ht _ _ _ _ h) wm_4_30 wm_4_28 wm_4_29 wm_1_7 (by decide +kernel : plainY yX6_at 2) dX6_tells_15 (by decide) (Nat.le_of_ble_eq_true rfl) (Or.inl ⟨rfl, rfl⟩) ?_
  intro M9 v9 h
  obtain ⟨x5, rfl, h⟩ := h
  obtain ⟨hM9, h⟩ := h
  rw [hM9]
  show G X 5 M2 0 0 18 [(0, .ref a0), (1, .int p0), (2, .int p1), (3, .int p2), (4, .int p3)] [.int x5, .ref b4, .ref a0]
  obtain ⟨hc6, h⟩ := h
  refine g_ialdA hC dX6_tells_18 hc6 ?_
  obtain ⟨hc7, h⟩ := h
  refine g_putI hC kc6 26 (by decide) wm_3_172 dX6_tells_19 rfl rfl (Or.inl rfl) hc7 ?_
  obtain ⟨M8, eM8⟩ : ∃ w, w = sI M2 a0 26 (gI M2 b4 (Int32.toNatClampNeg x5)) := ⟨_, rfl⟩
  replace h := h M8 eM8
  rw [← eM8]
  refine g_aload_n (r := (some a0)) hC 0 dX6_tells_22 rfl ?_
  refine g_aload_n (r := (some a0)) hC 0 dX6_tells_23 rfl ?_
  obtain ⟨hc9, h⟩ := h
  obtain ⟨b10, eb10, h⟩ := h
  refine g_pc (pc' := 24) rfl ?_
  refine g_getA hC kc6 9 (by decide) wm_3_155 dX6_tells_24 rfl hc9 eb10 ?_
  refine g_iload_n hC 2 dX6_tells_27 rfl ?_
  refine g_iload_n hC 3 dX6_tells_28 rfl ?_
  refine g_callS hC (As := [.int p1, .int p2]) (fun l D dA ht => s_X6_at l D dA ht _ _ _ _ h) wm_4_30 wm_4_28 wm_4_29 wm_1_7 (by decide +kernel : plainY yX6_at 2) dX6_tells_29 (by decide) (Nat.le_of_ble_eq_true rfl) (Or.inl ⟨rfl, rfl⟩) ?_
  intro M9 v9 h
  obtain ⟨x11, rfl, h⟩ := h
  obtain ⟨hM9, h⟩ := h
  rw [hM9]
  show G X 5 M8 0 0 32 [(0, .ref a0), (1, .int p0), (2, .int p1), (3, .int p2), (4, .int p3)] [.int x11, .ref b10, .ref a0]
  obtain ⟨hc12, h⟩ := h
  refine g_ialdA hC dX6_tells_32 hc12 ?_
  obtain ⟨hc13, h⟩ := h
  refine g_putI hC kc6 27 (by decide) wm_3_173 dX6_tells_33 rfl rfl (Or.inl rfl) hc13 ?_
  obtain ⟨M14, eM14⟩ : ∃ w, w = sI M8 a0 27 (gI M8 b10 (Int32.toNatClampNeg x11)) := ⟨_, rfl⟩
  replace h := h M14 eM14
  rw [← eM14]
  refine g_aload_n (r := (some a0)) hC 0 dX6_tells_36 rfl ?_
  refine g_aload_n (r := (some a0)) hC 0 dX6_tells_37 rfl ?_
  obtain ⟨hc15, h⟩ := h
  obtain ⟨b16, eb16, h⟩ := h
  refine g_pc (pc' := 38) rfl ?_
  refine g_getA hC kc6 10 (by decide) wm_3_156 dX6_tells_38 rfl hc15 eb16 ?_
  refine g_iload_n hC 2 dX6_tells_41 rfl ?_
  refine g_iload_n hC 3 dX6_tells_42 rfl ?_
  refine g_callS hC (As := [.int p1, .int p2]) (fun l D dA ht => s_X6_at l D dA ht _ _ _ _ h) wm_4_30 wm_4_28 wm_4_29 wm_1_7 (by decide +kernel : plainY yX6_at 2) dX6_tells_43 (by decide) (Nat.le_of_ble_eq_true rfl) (Or.inl ⟨rfl, rfl⟩) ?_
  intro M9 v9 h
  obtain ⟨x17, rfl, h⟩ := h
  obtain ⟨hM9, h⟩ := h
  rw [hM9]
  show G X 5 M14 0 0 46 [(0, .ref a0), (1, .int p0), (2, .int p1), (3, .int p2), (4, .int p3)] [.int x17, .ref b16, .ref a0]
  obtain ⟨hc18, h⟩ := h
  refine g_ialdA hC dX6_tells_46 hc18 ?_
  obtain ⟨hc19, h⟩ := h
  refine g_putI hC kc6 28 (by decide) wm_3_174 dX6_tells_47 rfl rfl (Or.inl rfl) hc19 ?_
  obtain ⟨M20, eM20⟩ : ∃ w, w = sI M14 a0 28 (gI M14 b16 (Int32.toNatClampNeg x17)) := ⟨_, rfl⟩
  replace h := h M20 eM20
  rw [← eM20]
  exact hR.1 rfl _ _ _ _ _ dX6_tells_50 ⟨rfl, h⟩

def w_X6_puts (M : Mem) (a0 : Nat) (p0 : Int32) (p1 : Int32) (post : Mem → Prop) : Prop :=
  gT M a0 = some (6, 0) ∧ ∀ x2, x2 = gI M a0 15 → ∀ x3, x3 = (6 * p0) + p1 → gT M a0 = some (6, 0) ∧ ∃ b5, gR M a0 16 = some b5 ∧ inA M b5 10 x2 ∧ gT M a0 = some (6, 0) ∧ ∀ M8, M8 = sI M a0 15 (gI M b5 (Int32.toNatClampNeg x2)) → gT M8 a0 = some (6, 0) ∧ ∃ b10, gR M8 a0 16 = some b10 ∧ inA M8 b10 10 x2 ∧ ∀ M11, M11 = sI M8 b10 (Int32.toNatClampNeg x2) ((-1)) → gT M11 a0 = some (6, 0) ∧ ∃ b14, gR M11 a0 17 = some b14 ∧ gT M11 a0 = some (6, 0) ∧ inA M11 b14 10 x2 ∧ ∀ M16, M16 = sI M11 b14 (Int32.toNatClampNeg x2) (gI M11 a0 23) → gT M16 a0 = some (6, 0) ∧ ∃ b19, gR M16 a0 18 = some b19 ∧ gT M16 a0 = some (6, 0) ∧ inA M16 b19 10 x2 ∧ ∀ M21, M21 = sI M16 b19 (Int32.toNatClampNeg x2) (gI M16 a0 24) → gT M21 a0 = some (6, 0) ∧ ∃ b24, gR M21 a0 19 = some b24 ∧ gT M21 a0 = some (6, 0) ∧ inA M21 b24 10 x2 ∧ ∀ M26, M26 = sI M21 b24 (Int32.toNatClampNeg x2) (gI M21 a0 25) → gT M26 a0 = some (6, 0) ∧ ∃ b29, gR M26 a0 20 = some b29 ∧ gT M26 a0 = some (6, 0) ∧ inA M26 b29 10 x2 ∧ ∀ M31, M31 = sI M26 b29 (Int32.toNatClampNeg x2) (gI M26 a0 26) → gT M31 a0 = some (6, 0) ∧ ∃ b34, gR M31 a0 21 = some b34 ∧ gT M31 a0 = some (6, 0) ∧ inA M31 b34 10 x2 ∧ ∀ M36, M36 = sI M31 b34 (Int32.toNatClampNeg x2) (gI M31 a0 27) → gT M36 a0 = some (6, 0) ∧ ∃ b39, gR M36 a0 22 = some b39 ∧ gT M36 a0 = some (6, 0) ∧ inA M36 b39 10 x2 ∧ ∀ M41, M41 = sI M36 b39 (Int32.toNatClampNeg x2) (gI M36 a0 28) → gT M41 a0 = some (6, 0) ∧ ∃ b44, gR M41 a0 12 = some b44 ∧ inA M41 b44 10 x3 ∧ ∀ J47 : Mem → Prop, (∀ (M46 : Mem), (gT M46 a0 = some (6, 0) ∧ ∃ b49, gR M46 a0 13 = some b49 ∧ inA M46 b49 10 x3 ∧ ∀ M50, M50 = sI M46 b49 (Int32.toNatClampNeg x3) x2 → gT M50 a0 = some (6, 0) ∧ gT M50 a0 = some (6, 0) ∧ ∀ M54, M54 = sI M50 a0 14 ((gI M50 a0 14) + 1) → post M54) → J47 M46) → ((gI M41 b44 (Int32.toNatClampNeg x3) = (-1) → gT M41 a0 = some (6, 0) ∧ ∃ b63, gR M41 a0 12 = some b63 ∧ inA M41 b63 10 x3 ∧ ∀ M64, M64 = sI M41 b63 (Int32.toNatClampNeg x3) x2 → J47 M64) ∧ (¬ (gI M41 b44 (Int32.toNatClampNeg x3) = (-1)) → gT M41 a0 = some (6, 0) ∧ ∃ b56, gR M41 a0 16 = some b56 ∧ gT M41 a0 = some (6, 0) ∧ ∃ b58, gR M41 a0 13 = some b58 ∧ inA M41 b58 10 x3 ∧ inA M41 b56 10 (gI M41 b58 (Int32.toNatClampNeg x3)) ∧ ∀ M60, M60 = sI M41 b56 (Int32.toNatClampNeg (gI M41 b58 (Int32.toNatClampNeg x3))) x2 → J47 M60))
set_option maxRecDepth 100000 in
set_option maxHeartbeats 8000000 in
theorem s_X6_puts (l : Launch) (D : va_G) (dA : Nat → ClassId) (htr : l.stackTraces = false) (M : Mem) (a0 : Nat) (p0 : Int32) (p1 : Int32) (post : Mem → Prop) (h : w_X6_puts M a0 p0 p1 post) : CtN l D dA yX6_puts cX6_puts 5 (none) 1 [.ref a0, .int p0, .int p1] M 0 0 (pV post) := by
  refine ct_ofN htr (by decide) (Nat.le_of_ble_eq_true rfl) ?_
  intro X hC hN hR
  show G X 5 M 0 0 0 [(0, .ref a0), (1, .int p0), (2, .int p1)] []
  unfold w_X6_puts at h
  refine g_aload_n (r := (some a0)) hC 0 dX6_puts_0 rfl ?_
  obtain ⟨hc1, h⟩ := h
  refine g_getI hC kc6 15 (by decide) wm_3_161 dX6_puts_1 rfl hc1 ?_
  obtain ⟨x2, ex2⟩ : ∃ w, w = gI M a0 15 := ⟨_, rfl⟩
  replace h := h x2 ex2
  rw [← ex2]
  refine g_istore_n (lv' := [(3, .int x2), (0, .ref a0), (1, .int p0), (2, .int p1)]) hC dX6_puts_4 (by decide) rfl ?_
  refine g_bipush (v := 6) hC dX6_puts_5 (by decide) ?_
  refine g_iload_n hC 2 dX6_puts_7 rfl ?_
  refine g_imul hC dX6_puts_8 ?_
  refine g_iload_n hC 3 dX6_puts_9 rfl ?_
  refine g_pc (pc' := 10) rfl ?_
  refine g_iadd hC dX6_puts_10 ?_
  obtain ⟨x3, ex3⟩ : ∃ w, w = (6 * p0) + p1 := ⟨_, rfl⟩
  replace h := h x3 ex3
  rw [← ex3]
  refine g_istore (lv' := [(4, .int x3), (3, .int x2), (0, .ref a0), (1, .int p0), (2, .int p1)]) hC dX6_puts_11 (by decide) rfl ?_
  refine g_aload_n (r := (some a0)) hC 2 dX6_puts_13 rfl ?_
  refine g_aload_n (r := (some a0)) hC 2 dX6_puts_14 rfl ?_
  obtain ⟨hc4, h⟩ := h
  obtain ⟨b5, eb5, h⟩ := h
  refine g_getA hC kc6 16 (by decide) wm_3_162 dX6_puts_15 rfl hc4 eb5 ?_
  refine g_iload_n hC 1 dX6_puts_18 rfl ?_
  obtain ⟨hc6, h⟩ := h
  refine g_ialdA hC dX6_puts_19 hc6 ?_
  obtain ⟨hc7, h⟩ := h
  refine g_putI hC kc6 15 (by decide) wm_3_161 dX6_puts_20 rfl rfl (Or.inl rfl) hc7 ?_
  obtain ⟨M8, eM8⟩ : ∃ w, w = sI M a0 15 (gI M b5 (Int32.toNatClampNeg x2)) := ⟨_, rfl⟩
  replace h := h M8 eM8
  rw [← eM8]
  refine g_pc (pc' := 23) rfl ?_
  refine g_aload_n (r := (some a0)) hC 2 dX6_puts_23 rfl ?_
  obtain ⟨hc9, h⟩ := h
  obtain ⟨b10, eb10, h⟩ := h
  refine g_getA hC kc6 16 (by decide) wm_3_162 dX6_puts_24 rfl hc9 eb10 ?_
  refine g_iload_n hC 1 dX6_puts_27 rfl ?_
  refine g_iconst (v := (-1)) hC dX6_puts_28 (by decide) ?_
  obtain ⟨hc12, h⟩ := h
  refine g_iastA hC dX6_puts_29 hc12 ?_
  obtain ⟨M11, eM11⟩ : ∃ w, w = sI M8 b10 (Int32.toNatClampNeg x2) ((-1)) := ⟨_, rfl⟩
  replace h := h M11 eM11
  rw [← eM11]
  refine g_aload_n (r := (some a0)) hC 2 dX6_puts_30 rfl ?_
  obtain ⟨hc13, h⟩ := h
  obtain ⟨b14, eb14, h⟩ := h
  refine g_getA hC kc6 17 (by decide) wm_3_163 dX6_puts_31 rfl hc13 eb14 ?_
  refine g_iload_n hC 1 dX6_puts_34 rfl ?_
  refine g_pc (pc' := 35) rfl ?_
  refine g_aload_n (r := (some a0)) hC 2 dX6_puts_35 rfl ?_
  obtain ⟨hc15, h⟩ := h
  refine g_getI hC kc6 23 (by decide) wm_3_169 dX6_puts_36 rfl hc15 ?_
  obtain ⟨hc17, h⟩ := h
  refine g_iastA hC dX6_puts_39 hc17 ?_
  obtain ⟨M16, eM16⟩ : ∃ w, w = sI M11 b14 (Int32.toNatClampNeg x2) (gI M11 a0 23) := ⟨_, rfl⟩
  replace h := h M16 eM16
  rw [← eM16]
  refine g_aload_n (r := (some a0)) hC 2 dX6_puts_40 rfl ?_
  obtain ⟨hc18, h⟩ := h
  obtain ⟨b19, eb19, h⟩ := h
  refine g_getA hC kc6 18 (by decide) wm_3_164 dX6_puts_41 rfl hc18 eb19 ?_
  refine g_iload_n hC 1 dX6_puts_44 rfl ?_
  refine g_aload_n (r := (some a0)) hC 2 dX6_puts_45 rfl ?_
  obtain ⟨hc20, h⟩ := h
  refine g_getI hC kc6 24 (by decide) wm_3_170 dX6_puts_46 rfl hc20 ?_
  obtain ⟨hc22, h⟩ := h
  refine g_pc (pc' := 49) rfl ?_
  refine g_iastA hC dX6_puts_49 hc22 ?_
  obtain ⟨M21, eM21⟩ : ∃ w, w = sI M16 b19 (Int32.toNatClampNeg x2) (gI M16 a0 24) := ⟨_, rfl⟩
  replace h := h M21 eM21
  rw [← eM21]
  refine g_aload_n (r := (some a0)) hC 2 dX6_puts_50 rfl ?_
  obtain ⟨hc23, h⟩ := h
  obtain ⟨b24, eb24, h⟩ := h
  refine g_getA hC kc6 19 (by decide) wm_3_165 dX6_puts_51 rfl hc23 eb24 ?_
  refine g_iload_n hC 1 dX6_puts_54 rfl ?_
  refine g_aload_n (r := (some a0)) hC 2 dX6_puts_55 rfl ?_
  obtain ⟨hc25, h⟩ := h
  refine g_getI hC kc6 25 (by decide) wm_3_171 dX6_puts_56 rfl hc25 ?_
  obtain ⟨hc27, h⟩ := h
  refine g_iastA hC dX6_puts_59 hc27 ?_
  obtain ⟨M26, eM26⟩ : ∃ w, w = sI M21 b24 (Int32.toNatClampNeg x2) (gI M21 a0 25) := ⟨_, rfl⟩
  replace h := h M26 eM26
  rw [← eM26]
  refine g_aload_n (r := (some a0)) hC 2 dX6_puts_60 rfl ?_
  obtain ⟨hc28, h⟩ := h
  obtain ⟨b29, eb29, h⟩ := h
  refine g_pc (pc' := 61) rfl ?_
  refine g_getA hC kc6 20 (by decide) wm_3_166 dX6_puts_61 rfl hc28 eb29 ?_
  refine g_iload_n hC 1 dX6_puts_64 rfl ?_
  refine g_aload_n (r := (some a0)) hC 2 dX6_puts_65 rfl ?_
  obtain ⟨hc30, h⟩ := h
  refine g_getI hC kc6 26 (by decide) wm_3_172 dX6_puts_66 rfl hc30 ?_
  obtain ⟨hc32, h⟩ := h
  refine g_iastA hC dX6_puts_69 hc32 ?_
  obtain ⟨M31, eM31⟩ : ∃ w, w = sI M26 b29 (Int32.toNatClampNeg x2) (gI M26 a0 26) := ⟨_, rfl⟩
  replace h := h M31 eM31
  rw [← eM31]
  refine g_aload_n (r := (some a0)) hC 2 dX6_puts_70 rfl ?_
  obtain ⟨hc33, h⟩ := h
  obtain ⟨b34, eb34, h⟩ := h
  refine g_getA hC kc6 21 (by decide) wm_3_167 dX6_puts_71 rfl hc33 eb34 ?_
  refine g_iload_n hC 1 dX6_puts_74 rfl ?_
  refine g_pc (pc' := 75) rfl ?_
  refine g_aload_n (r := (some a0)) hC 2 dX6_puts_75 rfl ?_
  obtain ⟨hc35, h⟩ := h
  refine g_getI hC kc6 27 (by decide) wm_3_173 dX6_puts_76 rfl hc35 ?_
  obtain ⟨hc37, h⟩ := h
  refine g_iastA hC dX6_puts_79 hc37 ?_
  obtain ⟨M36, eM36⟩ : ∃ w, w = sI M31 b34 (Int32.toNatClampNeg x2) (gI M31 a0 27) := ⟨_, rfl⟩
  replace h := h M36 eM36
  rw [← eM36]
  refine g_aload_n (r := (some a0)) hC 2 dX6_puts_80 rfl ?_
  obtain ⟨hc38, h⟩ := h
  obtain ⟨b39, eb39, h⟩ := h
  refine g_getA hC kc6 22 (by decide) wm_3_168 dX6_puts_81 rfl hc38 eb39 ?_
  refine g_iload_n hC 1 dX6_puts_84 rfl ?_
  refine g_aload_n (r := (some a0)) hC 2 dX6_puts_85 rfl ?_
  obtain ⟨hc40, h⟩ := h
  refine g_getI hC kc6 28 (by decide) wm_3_174 dX6_puts_86 rfl hc40 ?_
  obtain ⟨hc42, h⟩ := h
  refine g_pc (pc' := 89) rfl ?_
  refine g_iastA hC dX6_puts_89 hc42 ?_
  obtain ⟨M41, eM41⟩ : ∃ w, w = sI M36 b39 (Int32.toNatClampNeg x2) (gI M36 a0 28) := ⟨_, rfl⟩
  replace h := h M41 eM41
  rw [← eM41]
  refine g_aload_n (r := (some a0)) hC 2 dX6_puts_90 rfl ?_
  obtain ⟨hc43, h⟩ := h
  obtain ⟨b44, eb44, h⟩ := h
  refine g_getA hC kc6 12 (by decide) wm_3_158 dX6_puts_91 rfl hc43 eb44 ?_
  refine g_iload hC 0 dX6_puts_94 rfl ?_
  obtain ⟨hc45, h⟩ := h
  refine g_ialdA hC dX6_puts_96 hc45 ?_
  refine g_iconst (v := (-1)) hC dX6_puts_97 (by decide) ?_
  replace h := h (fun (M46 : Mem) => G X 5 M46 0 0 125 [(0, .ref a0), (1, .int p0), (2, .int p1), (3, .int x2), (4, .int x3)] []) (by
    intro M46 h
    show G X 5 M46 0 0 125 [(0, .ref a0), (1, .int p0), (2, .int p1), (3, .int x2), (4, .int x3)] []
    refine g_aload_n (r := (some a0)) hC 0 dX6_puts_125 rfl ?_
    obtain ⟨hc48, h⟩ := h
    obtain ⟨b49, eb49, h⟩ := h
    refine g_getA hC kc6 13 (by decide) wm_3_159 dX6_puts_126 rfl hc48 eb49 ?_
    refine g_pc (pc' := 129) rfl ?_
    refine g_iload hC 4 dX6_puts_129 rfl ?_
    refine g_iload_n hC 3 dX6_puts_131 rfl ?_
    obtain ⟨hc51, h⟩ := h
    refine g_iastA hC dX6_puts_132 hc51 ?_
    obtain ⟨M50, eM50⟩ : ∃ w, w = sI M46 b49 (Int32.toNatClampNeg x3) x2 := ⟨_, rfl⟩
    replace h := h M50 eM50
    rw [← eM50]
    refine g_aload_n (r := (some a0)) hC 0 dX6_puts_133 rfl ?_
    refine g_dup hC dX6_puts_134 rfl ?_
    obtain ⟨hc52, h⟩ := h
    refine g_getI hC kc6 14 (by decide) wm_3_160 dX6_puts_135 rfl hc52 ?_
    refine g_iconst (v := 1) hC dX6_puts_138 (by decide) ?_
    refine g_iadd hC dX6_puts_139 ?_
    obtain ⟨hc53, h⟩ := h
    refine g_pc (pc' := 140) rfl ?_
    refine g_putI hC kc6 14 (by decide) wm_3_160 dX6_puts_140 rfl rfl (Or.inl rfl) hc53 ?_
    obtain ⟨M54, eM54⟩ : ∃ w, w = sI M50 a0 14 ((gI M50 a0 14) + 1) := ⟨_, rfl⟩
    replace h := h M54 eM54
    rw [← eM54]
    exact hR.1 rfl _ _ _ _ _ dX6_puts_143 ⟨rfl, h⟩)
  refine g_icmp_ne hC 112 dX6_puts_98 (by decide) (fun c66 => ?_) (fun c66 => ?_)
  · replace h := h.2 c66
    refine g_aload_n (r := (some a0)) hC 2 dX6_puts_112 rfl ?_
    obtain ⟨hc55, h⟩ := h
    obtain ⟨b56, eb56, h⟩ := h
    refine g_pc (pc' := 113) rfl ?_
    refine g_getA hC kc6 16 (by decide) wm_3_162 dX6_puts_113 rfl hc55 eb56 ?_
    refine g_aload_n (r := (some a0)) hC 2 dX6_puts_116 rfl ?_
    obtain ⟨hc57, h⟩ := h
    obtain ⟨b58, eb58, h⟩ := h
    refine g_getA hC kc6 13 (by decide) wm_3_159 dX6_puts_117 rfl hc57 eb58 ?_
    refine g_iload hC 0 dX6_puts_120 rfl ?_
    obtain ⟨hc59, h⟩ := h
    refine g_ialdA hC dX6_puts_122 hc59 ?_
    refine g_iload_n hC 1 dX6_puts_123 rfl ?_
    obtain ⟨hc61, h⟩ := h
    refine g_iastA hC dX6_puts_124 hc61 ?_
    obtain ⟨M60, eM60⟩ : ∃ w, w = sI M41 b56 (Int32.toNatClampNeg (gI M41 b58 (Int32.toNatClampNeg x3))) x2 := ⟨_, rfl⟩
    replace h := h M60 eM60
    rw [← eM60]
    refine g_sub [2, 3, 4, 1, 0] (lv' := [(0, .ref a0), (1, .int p0), (2, .int p1), (3, .int x2), (4, .int x3)]) rfl ?_
    exact h
  · replace h := h.1 c66
    refine g_aload_n (r := (some a0)) hC 2 dX6_puts_101 rfl ?_
    obtain ⟨hc62, h⟩ := h
    obtain ⟨b63, eb63, h⟩ := h
    refine g_pc (pc' := 102) rfl ?_
    refine g_getA hC kc6 12 (by decide) wm_3_158 dX6_puts_102 rfl hc62 eb63 ?_
    refine g_iload hC 0 dX6_puts_105 rfl ?_
    refine g_iload_n hC 1 dX6_puts_107 rfl ?_
    obtain ⟨hc65, h⟩ := h
    refine g_iastA hC dX6_puts_108 hc65 ?_
    obtain ⟨M64, eM64⟩ : ∃ w, w = sI M41 b63 (Int32.toNatClampNeg x3) x2 := ⟨_, rfl⟩
    replace h := h M64 eM64
    rw [← eM64]
    refine g_goto hC 125 dX6_puts_109 (by decide) ?_
    refine g_sub [2, 3, 4, 1, 0] (lv' := [(0, .ref a0), (1, .int p0), (2, .int p1), (3, .int x2), (4, .int x3)]) rfl ?_
    exact h

def w_X6_sends (M : Mem) (a0 : Nat) (p0 : Int32) (p1 : Int32) (post : Mem → Prop) : Prop :=
  Lp (fun (K3 : Int32 × Mem → Prop) (z : Int32 × Mem) => ∀ (x1 : Int32) (M2 : Mem), z = (x1, M2) → ((6 ≤ x1 → post M2) ∧ (¬ (6 ≤ x1) → gT M2 a0 = some (6, 0) ∧ ∃ b5, gR M2 a0 6 = some b5 ∧ inA M2 b5 10 p0 ∧ w_X6_has M2 (gI M2 b5 (Int32.toNatClampNeg p0)) x1 (fun x7 => ∀ J9 : Mem → Prop, (∀ (M8 : Mem), (∀ x10, x10 = x1 + 1 → K3 (x10, M8)) → J9 M8) → ((x7 = 0 → J9 M2) ∧ (¬ (x7 = 0) → (x1 = p1 → J9 M2) ∧ (¬ (x1 = p1) → gT M2 a0 = some (6, 0) ∧ w_X6_puts M2 a0 p0 x1 (fun M12 => J9 M12)))))))) (0, M)
set_option maxRecDepth 100000 in
set_option maxHeartbeats 8000000 in
theorem s_X6_sends (l : Launch) (D : va_G) (dA : Nat → ClassId) (htr : l.stackTraces = false) (M : Mem) (a0 : Nat) (p0 : Int32) (p1 : Int32) (post : Mem → Prop) (h : w_X6_sends M a0 p0 p1 post) : CtN l D dA yX6_sends cX6_sends 4 (none) 2 [.ref a0, .int p0, .int p1] M 0 0 (pV post) := by
  refine ct_ofN htr (by decide) (Nat.le_of_ble_eq_true rfl) ?_
  intro X hC hN hR
  show G X 4 M 0 0 0 [(0, .ref a0), (1, .int p0), (2, .int p1)] []
  unfold w_X6_sends at h
  refine g_iconst (v := 0) hC dX6_sends_0 (by decide) ?_
  refine g_istore_n (lv' := [(3, .int 0), (0, .ref a0), (1, .int p0), (2, .int p1)]) hC dX6_sends_1 (by decide) rfl ?_
  refine g_sub [1, 2, 3, 0] (lv' := [(0, .ref a0), (1, .int p0), (2, .int p1), (3, .int 0)]) rfl ?_
  refine Lp_use (fun (z16 : Int32 × Mem) => G X 4 z16.2 0 0 2 [(0, .ref a0), (1, .int p0), (2, .int p1), (3, .int z16.1)] []) h ?_
  intro K3 z hK_K3 h
  obtain ⟨x1, M2⟩ := z
  replace h := h _ _ rfl
  show G X 4 M2 0 0 2 [(0, .ref a0), (1, .int p0), (2, .int p1), (3, .int x1)] []
  refine g_iload_n hC 3 dX6_sends_2 rfl ?_
  refine g_bipush (v := 6) hC dX6_sends_3 (by decide) ?_
  refine g_icmp_ge hC 38 dX6_sends_5 (by decide) (fun c15 => ?_) (fun c15 => ?_)
  · replace h := h.1 c15
    exact hR.1 rfl _ _ _ _ _ dX6_sends_38 ⟨rfl, h⟩
  · replace h := h.2 c15
    refine g_aload_n (r := (some a0)) hC 0 dX6_sends_8 rfl ?_
    obtain ⟨hc4, h⟩ := h
    obtain ⟨b5, eb5, h⟩ := h
    refine g_getA hC kc6 6 (by decide) wm_3_152 dX6_sends_9 rfl hc4 eb5 ?_
    refine g_pc (pc' := 12) rfl ?_
    refine g_iload_n hC 1 dX6_sends_12 rfl ?_
    obtain ⟨hc6, h⟩ := h
    refine g_ialdA hC dX6_sends_13 hc6 ?_
    refine g_iload_n hC 3 dX6_sends_14 rfl ?_
    refine g_callS hC (As := [.int (gI M2 b5 (Int32.toNatClampNeg p0)), .int x1]) (fun l D dA ht => s_X6_has l D dA ht _ _ _ _ h) wm_4_11 wm_4_9 wm_4_10 wm_1_7 (by decide +kernel : plainY yX6_has 2) dX6_sends_15 (by decide) (Nat.le_of_ble_eq_true rfl) (Or.inl ⟨rfl, rfl⟩) ?_
    intro M9 v9 h
    obtain ⟨x7, rfl, h⟩ := h
    obtain ⟨hM9, h⟩ := h
    rw [hM9]
    show G X 4 M2 0 0 18 [(0, .ref a0), (1, .int p0), (2, .int p1), (3, .int x1)] [.int x7]
    replace h := h (fun (M8 : Mem) => G X 4 M8 0 0 32 [(0, .ref a0), (1, .int p0), (2, .int p1), (3, .int x1)] []) (by
      intro M8 h
      show G X 4 M8 0 0 32 [(0, .ref a0), (1, .int p0), (2, .int p1), (3, .int x1)] []
      obtain ⟨x10, ex10⟩ : ∃ w, w = x1 + 1 := ⟨_, rfl⟩
      replace h := h x10 ex10
      refine g_iinc (v := x10) (lv' := [(3, .int x10), (0, .ref a0), (1, .int p0), (2, .int p1)]) hC 3 dX6_sends_32 rfl (by rw [ex10]; rfl) (by decide) rfl ?_
      refine g_goto hC 2 dX6_sends_35 (by decide) ?_
      refine g_sub [1, 2, 3, 0] (lv' := [(0, .ref a0), (1, .int p0), (2, .int p1), (3, .int x10)]) rfl ?_
      exact hK_K3 _ h)
    refine g_if_eq hC 32 dX6_sends_18 (by decide) (fun c14 => ?_) (fun c14 => ?_)
    · replace h := h.1 c14
      exact h
    · replace h := h.2 c14
      refine g_iload_n hC 3 dX6_sends_21 rfl ?_
      refine g_iload_n hC 2 dX6_sends_22 rfl ?_
      refine g_icmp_eq hC 32 dX6_sends_23 (by decide) (fun c13 => ?_) (fun c13 => ?_)
      · replace h := h.1 c13
        exact h
      · replace h := h.2 c13
        refine g_pc (pc' := 26) rfl ?_
        refine g_aload_n (r := (some a0)) hC 0 dX6_sends_26 rfl ?_
        refine g_iload_n hC 1 dX6_sends_27 rfl ?_
        refine g_iload_n hC 3 dX6_sends_28 rfl ?_
        obtain ⟨hc11, h⟩ := h
        refine g_callV hC (As := [.int p0, .int x1]) (fun l D dA ht => s_X6_puts l D dA ht _ _ _ _ _ h) wm_4_27 wm_4_24 wm_4_26 wm_0_20 wm_1_7 (by decide +kernel : plainY yX6_puts 2) kc6.1 kc6.2.1 dX6_sends_29 (by decide) (Nat.le_of_ble_eq_true rfl) hc11 (Or.inl ⟨rfl, rfl⟩) ?_
        intro M9 v9 h
        obtain ⟨rfl, h⟩ := h
        generalize M9 = M12 at h ⊢
        show G X 4 M12 0 0 32 [(0, .ref a0), (1, .int p0), (2, .int p1), (3, .int x1)] []
        exact h

def w_X6_takes (M : Mem) (a0 : Nat) (p0 : Int32) (post : Mem → Prop) : Prop :=
  gT M a0 = some (6, 0) ∧ ∃ b2, gR M a0 12 = some b2 ∧ inA M b2 10 p0 ∧ ∀ x4, x4 = gI M b2 (Int32.toNatClampNeg p0) → gT M a0 = some (6, 0) ∧ ∃ b6, gR M a0 12 = some b6 ∧ gT M a0 = some (6, 0) ∧ ∃ b8, gR M a0 16 = some b8 ∧ inA M b8 10 x4 ∧ inA M b6 10 p0 ∧ ∀ M10, M10 = sI M b6 (Int32.toNatClampNeg p0) (gI M b8 (Int32.toNatClampNeg x4)) → gT M10 a0 = some (6, 0) ∧ ∃ b13, gR M10 a0 17 = some b13 ∧ inA M10 b13 10 x4 ∧ gT M10 a0 = some (6, 0) ∧ ∀ M16, M16 = sI M10 a0 23 (gI M10 b13 (Int32.toNatClampNeg x4)) → gT M16 a0 = some (6, 0) ∧ ∃ b18, gR M16 a0 18 = some b18 ∧ inA M16 b18 10 x4 ∧ gT M16 a0 = some (6, 0) ∧ ∀ M21, M21 = sI M16 a0 24 (gI M16 b18 (Int32.toNatClampNeg x4)) → gT M21 a0 = some (6, 0) ∧ ∃ b23, gR M21 a0 19 = some b23 ∧ inA M21 b23 10 x4 ∧ gT M21 a0 = some (6, 0) ∧ ∀ M26, M26 = sI M21 a0 25 (gI M21 b23 (Int32.toNatClampNeg x4)) → gT M26 a0 = some (6, 0) ∧ ∃ b28, gR M26 a0 20 = some b28 ∧ inA M26 b28 10 x4 ∧ gT M26 a0 = some (6, 0) ∧ ∀ M31, M31 = sI M26 a0 26 (gI M26 b28 (Int32.toNatClampNeg x4)) → gT M31 a0 = some (6, 0) ∧ ∃ b33, gR M31 a0 21 = some b33 ∧ inA M31 b33 10 x4 ∧ gT M31 a0 = some (6, 0) ∧ ∀ M36, M36 = sI M31 a0 27 (gI M31 b33 (Int32.toNatClampNeg x4)) → gT M36 a0 = some (6, 0) ∧ ∃ b38, gR M36 a0 22 = some b38 ∧ inA M36 b38 10 x4 ∧ gT M36 a0 = some (6, 0) ∧ ∀ M41, M41 = sI M36 a0 28 (gI M36 b38 (Int32.toNatClampNeg x4)) → gT M41 a0 = some (6, 0) ∧ ∃ b43, gR M41 a0 16 = some b43 ∧ gT M41 a0 = some (6, 0) ∧ inA M41 b43 10 x4 ∧ ∀ M45, M45 = sI M41 b43 (Int32.toNatClampNeg x4) (gI M41 a0 15) → gT M45 a0 = some (6, 0) ∧ ∀ M48, M48 = sI M45 a0 15 x4 → gT M48 a0 = some (6, 0) ∧ gT M48 a0 = some (6, 0) ∧ ∀ M51, M51 = sI M48 a0 14 ((gI M48 a0 14) - 1) → post M51
set_option maxRecDepth 100000 in
set_option maxHeartbeats 8000000 in
theorem s_X6_takes (l : Launch) (D : va_G) (dA : Nat → ClassId) (htr : l.stackTraces = false) (M : Mem) (a0 : Nat) (p0 : Int32) (post : Mem → Prop) (h : w_X6_takes M a0 p0 post) : CtN l D dA yX6_takes cX6_takes 3 (none) 1 [.ref a0, .int p0] M 0 0 (pV post) := by
  refine ct_ofN htr (by decide) (Nat.le_of_ble_eq_true rfl) ?_
  intro X hC hN hR
  show G X 3 M 0 0 0 [(0, .ref a0), (1, .int p0)] []
  unfold w_X6_takes at h
  refine g_aload_n (r := (some a0)) hC 0 dX6_takes_0 rfl ?_
  obtain ⟨hc1, h⟩ := h
  obtain ⟨b2, eb2, h⟩ := h
  refine g_getA hC kc6 12 (by decide) wm_3_158 dX6_takes_1 rfl hc1 eb2 ?_
  refine g_iload_n hC 1 dX6_takes_4 rfl ?_
  obtain ⟨hc3, h⟩ := h
  refine g_ialdA hC dX6_takes_5 hc3 ?_
  obtain ⟨x4, ex4⟩ : ∃ w, w = gI M b2 (Int32.toNatClampNeg p0) := ⟨_, rfl⟩
  replace h := h x4 ex4
  rw [← ex4]
  refine g_istore_n (lv' := [(2, .int x4), (0, .ref a0), (1, .int p0)]) hC dX6_takes_6 (by decide) rfl ?_
  refine g_aload_n (r := (some a0)) hC 1 dX6_takes_7 rfl ?_
  obtain ⟨hc5, h⟩ := h
  obtain ⟨b6, eb6, h⟩ := h
  refine g_getA hC kc6 12 (by decide) wm_3_158 dX6_takes_8 rfl hc5 eb6 ?_
  refine g_pc (pc' := 11) rfl ?_
  refine g_iload_n hC 2 dX6_takes_11 rfl ?_
  refine g_aload_n (r := (some a0)) hC 1 dX6_takes_12 rfl ?_
  obtain ⟨hc7, h⟩ := h
  obtain ⟨b8, eb8, h⟩ := h
  refine g_getA hC kc6 16 (by decide) wm_3_162 dX6_takes_13 rfl hc7 eb8 ?_
  refine g_iload_n hC 0 dX6_takes_16 rfl ?_
  obtain ⟨hc9, h⟩ := h
  refine g_ialdA hC dX6_takes_17 hc9 ?_
  obtain ⟨hc11, h⟩ := h
  refine g_iastA hC dX6_takes_18 hc11 ?_
  obtain ⟨M10, eM10⟩ : ∃ w, w = sI M b6 (Int32.toNatClampNeg p0) (gI M b8 (Int32.toNatClampNeg x4)) := ⟨_, rfl⟩
  replace h := h M10 eM10
  rw [← eM10]
  refine g_aload_n (r := (some a0)) hC 1 dX6_takes_19 rfl ?_
  refine g_aload_n (r := (some a0)) hC 1 dX6_takes_20 rfl ?_
  obtain ⟨hc12, h⟩ := h
  obtain ⟨b13, eb13, h⟩ := h
  refine g_pc (pc' := 21) rfl ?_
  refine g_getA hC kc6 17 (by decide) wm_3_163 dX6_takes_21 rfl hc12 eb13 ?_
  refine g_iload_n hC 0 dX6_takes_24 rfl ?_
  obtain ⟨hc14, h⟩ := h
  refine g_ialdA hC dX6_takes_25 hc14 ?_
  obtain ⟨hc15, h⟩ := h
  refine g_putI hC kc6 23 (by decide) wm_3_169 dX6_takes_26 rfl rfl (Or.inl rfl) hc15 ?_
  obtain ⟨M16, eM16⟩ : ∃ w, w = sI M10 a0 23 (gI M10 b13 (Int32.toNatClampNeg x4)) := ⟨_, rfl⟩
  replace h := h M16 eM16
  rw [← eM16]
  refine g_aload_n (r := (some a0)) hC 1 dX6_takes_29 rfl ?_
  refine g_aload_n (r := (some a0)) hC 1 dX6_takes_30 rfl ?_
  obtain ⟨hc17, h⟩ := h
  obtain ⟨b18, eb18, h⟩ := h
  refine g_getA hC kc6 18 (by decide) wm_3_164 dX6_takes_31 rfl hc17 eb18 ?_
  refine g_iload_n hC 0 dX6_takes_34 rfl ?_
  obtain ⟨hc19, h⟩ := h
  refine g_pc (pc' := 35) rfl ?_
  refine g_ialdA hC dX6_takes_35 hc19 ?_
  obtain ⟨hc20, h⟩ := h
  refine g_putI hC kc6 24 (by decide) wm_3_170 dX6_takes_36 rfl rfl (Or.inl rfl) hc20 ?_
  obtain ⟨M21, eM21⟩ : ∃ w, w = sI M16 a0 24 (gI M16 b18 (Int32.toNatClampNeg x4)) := ⟨_, rfl⟩
  replace h := h M21 eM21
  rw [← eM21]
  refine g_aload_n (r := (some a0)) hC 1 dX6_takes_39 rfl ?_
  refine g_aload_n (r := (some a0)) hC 1 dX6_takes_40 rfl ?_
  obtain ⟨hc22, h⟩ := h
  obtain ⟨b23, eb23, h⟩ := h
  refine g_getA hC kc6 19 (by decide) wm_3_165 dX6_takes_41 rfl hc22 eb23 ?_
  refine g_iload_n hC 0 dX6_takes_44 rfl ?_
  obtain ⟨hc24, h⟩ := h
  refine g_ialdA hC dX6_takes_45 hc24 ?_
  obtain ⟨hc25, h⟩ := h
  refine g_putI hC kc6 25 (by decide) wm_3_171 dX6_takes_46 rfl rfl (Or.inl rfl) hc25 ?_
  obtain ⟨M26, eM26⟩ : ∃ w, w = sI M21 a0 25 (gI M21 b23 (Int32.toNatClampNeg x4)) := ⟨_, rfl⟩
  replace h := h M26 eM26
  rw [← eM26]
  refine g_pc (pc' := 49) rfl ?_
  refine g_aload_n (r := (some a0)) hC 1 dX6_takes_49 rfl ?_
  refine g_aload_n (r := (some a0)) hC 1 dX6_takes_50 rfl ?_
  obtain ⟨hc27, h⟩ := h
  obtain ⟨b28, eb28, h⟩ := h
  refine g_getA hC kc6 20 (by decide) wm_3_166 dX6_takes_51 rfl hc27 eb28 ?_
  refine g_iload_n hC 0 dX6_takes_54 rfl ?_
  obtain ⟨hc29, h⟩ := h
  refine g_ialdA hC dX6_takes_55 hc29 ?_
  obtain ⟨hc30, h⟩ := h
  refine g_putI hC kc6 26 (by decide) wm_3_172 dX6_takes_56 rfl rfl (Or.inl rfl) hc30 ?_
  obtain ⟨M31, eM31⟩ : ∃ w, w = sI M26 a0 26 (gI M26 b28 (Int32.toNatClampNeg x4)) := ⟨_, rfl⟩
  replace h := h M31 eM31
  rw [← eM31]
  refine g_aload_n (r := (some a0)) hC 1 dX6_takes_59 rfl ?_
  refine g_aload_n (r := (some a0)) hC 1 dX6_takes_60 rfl ?_
  obtain ⟨hc32, h⟩ := h
  obtain ⟨b33, eb33, h⟩ := h
  refine g_pc (pc' := 61) rfl ?_
  refine g_getA hC kc6 21 (by decide) wm_3_167 dX6_takes_61 rfl hc32 eb33 ?_
  refine g_iload_n hC 0 dX6_takes_64 rfl ?_
  obtain ⟨hc34, h⟩ := h
  refine g_ialdA hC dX6_takes_65 hc34 ?_
  obtain ⟨hc35, h⟩ := h
  refine g_putI hC kc6 27 (by decide) wm_3_173 dX6_takes_66 rfl rfl (Or.inl rfl) hc35 ?_
  obtain ⟨M36, eM36⟩ : ∃ w, w = sI M31 a0 27 (gI M31 b33 (Int32.toNatClampNeg x4)) := ⟨_, rfl⟩
  replace h := h M36 eM36
  rw [← eM36]
  refine g_aload_n (r := (some a0)) hC 1 dX6_takes_69 rfl ?_
  refine g_aload_n (r := (some a0)) hC 1 dX6_takes_70 rfl ?_
  obtain ⟨hc37, h⟩ := h
  obtain ⟨b38, eb38, h⟩ := h
  refine g_getA hC kc6 22 (by decide) wm_3_168 dX6_takes_71 rfl hc37 eb38 ?_
  refine g_iload_n hC 0 dX6_takes_74 rfl ?_
  obtain ⟨hc39, h⟩ := h
  refine g_pc (pc' := 75) rfl ?_
  refine g_ialdA hC dX6_takes_75 hc39 ?_
  obtain ⟨hc40, h⟩ := h
  refine g_putI hC kc6 28 (by decide) wm_3_174 dX6_takes_76 rfl rfl (Or.inl rfl) hc40 ?_
  obtain ⟨M41, eM41⟩ : ∃ w, w = sI M36 a0 28 (gI M36 b38 (Int32.toNatClampNeg x4)) := ⟨_, rfl⟩
  replace h := h M41 eM41
  rw [← eM41]
  refine g_aload_n (r := (some a0)) hC 1 dX6_takes_79 rfl ?_
  obtain ⟨hc42, h⟩ := h
  obtain ⟨b43, eb43, h⟩ := h
  refine g_getA hC kc6 16 (by decide) wm_3_162 dX6_takes_80 rfl hc42 eb43 ?_
  refine g_iload_n hC 0 dX6_takes_83 rfl ?_
  refine g_aload_n (r := (some a0)) hC 1 dX6_takes_84 rfl ?_
  obtain ⟨hc44, h⟩ := h
  refine g_getI hC kc6 15 (by decide) wm_3_161 dX6_takes_85 rfl hc44 ?_
  obtain ⟨hc46, h⟩ := h
  refine g_iastA hC dX6_takes_88 hc46 ?_
  obtain ⟨M45, eM45⟩ : ∃ w, w = sI M41 b43 (Int32.toNatClampNeg x4) (gI M41 a0 15) := ⟨_, rfl⟩
  replace h := h M45 eM45
  rw [← eM45]
  refine g_pc (pc' := 89) rfl ?_
  refine g_aload_n (r := (some a0)) hC 1 dX6_takes_89 rfl ?_
  refine g_iload_n hC 0 dX6_takes_90 rfl ?_
  obtain ⟨hc47, h⟩ := h
  refine g_putI hC kc6 15 (by decide) wm_3_161 dX6_takes_91 rfl rfl (Or.inl rfl) hc47 ?_
  obtain ⟨M48, eM48⟩ : ∃ w, w = sI M45 a0 15 x4 := ⟨_, rfl⟩
  replace h := h M48 eM48
  rw [← eM48]
  refine g_aload_n (r := (some a0)) hC 1 dX6_takes_94 rfl ?_
  refine g_dup hC dX6_takes_95 rfl ?_
  obtain ⟨hc49, h⟩ := h
  refine g_getI hC kc6 14 (by decide) wm_3_160 dX6_takes_96 rfl hc49 ?_
  refine g_iconst (v := 1) hC dX6_takes_99 (by decide) ?_
  refine g_isub hC dX6_takes_100 ?_
  obtain ⟨hc50, h⟩ := h
  refine g_pc (pc' := 101) rfl ?_
  refine g_putI hC kc6 14 (by decide) wm_3_160 dX6_takes_101 rfl rfl (Or.inl rfl) hc50 ?_
  obtain ⟨M51, eM51⟩ : ∃ w, w = sI M48 a0 14 ((gI M48 a0 14) - 1) := ⟨_, rfl⟩
  replace h := h M51 eM51
  rw [← eM51]
  exact hR.1 rfl _ _ _ _ _ dX6_takes_104 ⟨rfl, h⟩

def w_X6_treeOf (M : Mem) (a0 : Nat) (p0 : Int32) (post : Int32 → Prop) : Prop :=
  ∀ x1, x1 = 1 <<< (p0 &&& 31) → Lp (fun (K4 : Int32 × Int32 → Prop) (z : Int32 × Int32) => ∀ (x2 : Int32) (x3 : Int32), z = (x2, x3) → ((x2 = x3 → post x2) ∧ (¬ (x2 = x3) → Lp (fun (K7 : Int32 × Int32 → Prop) (z : Int32 × Int32) => ∀ (x5 : Int32) (x6 : Int32), z = (x5, x6) → ((6 ≤ x6 → K4 (x5, x2)) ∧ (¬ (6 ≤ x6) → w_X6_has M x5 x6 (fun x8 => ∀ J10 : Int32 → Prop, (∀ (x9 : Int32), (∀ x11, x11 = x5 ||| x9 → ∀ x12, x12 = x6 + 1 → K7 (x11, x12)) → J10 x9) → ((x8 = 0 → J10 0) ∧ (¬ (x8 = 0) → gT M a0 = some (6, 0) ∧ ∃ b14, gR M a0 6 = some b14 ∧ inA M b14 10 x6 ∧ J10 (gI M b14 (Int32.toNatClampNeg x6)))))))) (x2, 0)))) (x1, 0)
set_option maxRecDepth 100000 in
set_option maxHeartbeats 8000000 in
theorem s_X6_treeOf (l : Launch) (D : va_G) (dA : Nat → ClassId) (htr : l.stackTraces = false) (M : Mem) (a0 : Nat) (p0 : Int32) (post : Int32 → Prop) (h : w_X6_treeOf M a0 p0 post) : CtN l D dA yX6_treeOf cX6_treeOf 5 (some .int) 2 [.ref a0, .int p0] M 0 0 (pI (fun M' r => M' = M ∧ post r)) := by
  refine ct_ofN htr (by decide) (Nat.le_of_ble_eq_true rfl) ?_
  intro X hC hN hR
  show G X 5 M 0 0 0 [(0, .ref a0), (1, .int p0)] []
  unfold w_X6_treeOf at h
  refine g_iconst (v := 1) hC dX6_treeOf_0 (by decide) ?_
  refine g_iload_n hC 1 dX6_treeOf_1 rfl ?_
  refine g_ishl hC dX6_treeOf_2 ?_
  obtain ⟨x1, ex1⟩ : ∃ w, w = 1 <<< (p0 &&& 31) := ⟨_, rfl⟩
  replace h := h x1 ex1
  rw [← ex1]
  refine g_istore_n (lv' := [(2, .int x1), (0, .ref a0), (1, .int p0)]) hC dX6_treeOf_3 (by decide) rfl ?_
  refine g_iconst (v := 0) hC dX6_treeOf_4 (by decide) ?_
  refine g_istore_n (lv' := [(3, .int 0), (2, .int x1), (0, .ref a0), (1, .int p0)]) hC dX6_treeOf_5 (by decide) rfl ?_
  refine g_sub [2, 3, 1, 0] (lv' := [(0, .ref a0), (1, .int p0), (2, .int x1), (3, .int 0)]) rfl ?_
  refine Lp_use (fun (z20 : Int32 × Int32) => G X 5 M 0 0 6 [(0, .ref a0), (1, .int p0), (2, .int z20.1), (3, .int z20.2)] []) h ?_
  intro K4 z hK_K4 h
  obtain ⟨x2, x3⟩ := z
  replace h := h _ _ rfl
  show G X 5 M 0 0 6 [(0, .ref a0), (1, .int p0), (2, .int x2), (3, .int x3)] []
  refine g_iload_n hC 2 dX6_treeOf_6 rfl ?_
  refine g_pc (pc' := 7) rfl ?_
  refine g_iload_n hC 3 dX6_treeOf_7 rfl ?_
  refine g_icmp_eq hC 55 dX6_treeOf_8 (by decide) (fun c19 => ?_) (fun c19 => ?_)
  · replace h := h.1 c19
    refine g_iload_n hC 2 dX6_treeOf_55 rfl ?_
    exact hR.2.1 rfl _ _ _ _ _ _ dX6_treeOf_56 ⟨_, rfl, rfl, h⟩
  · replace h := h.2 c19
    refine g_iload_n hC 2 dX6_treeOf_11 rfl ?_
    refine g_istore_n (lv' := [(3, .int x2), (0, .ref a0), (1, .int p0), (2, .int x2)]) hC dX6_treeOf_12 (by decide) rfl ?_
    refine g_iconst (v := 0) hC dX6_treeOf_13 (by decide) ?_
    refine g_istore (lv' := [(4, .int 0), (3, .int x2), (0, .ref a0), (1, .int p0), (2, .int x2)]) hC dX6_treeOf_14 (by decide) rfl ?_
    refine g_sub [2, 3, 4, 1, 0] (lv' := [(0, .ref a0), (1, .int p0), (2, .int x2), (3, .int x2), (4, .int 0)]) rfl ?_
    refine Lp_use (fun (z18 : Int32 × Int32) => G X 5 M 0 0 16 [(0, .ref a0), (1, .int p0), (2, .int z18.1), (3, .int x2), (4, .int z18.2)] []) h ?_
    intro K7 z hK_K7 h
    obtain ⟨x5, x6⟩ := z
    replace h := h _ _ rfl
    show G X 5 M 0 0 16 [(0, .ref a0), (1, .int p0), (2, .int x5), (3, .int x2), (4, .int x6)] []
    refine g_iload hC 4 dX6_treeOf_16 rfl ?_
    refine g_bipush (v := 6) hC dX6_treeOf_18 (by decide) ?_
    refine g_pc (pc' := 20) rfl ?_
    refine g_icmp_ge hC 52 dX6_treeOf_20 (by decide) (fun c17 => ?_) (fun c17 => ?_)
    · replace h := h.1 c17
      refine g_goto hC 6 dX6_treeOf_52 (by decide) ?_
      refine g_sub [0, 1, 2, 3] (lv' := [(0, .ref a0), (1, .int p0), (2, .int x5), (3, .int x2)]) rfl ?_
      exact hK_K4 _ h
    · replace h := h.2 c17
      refine g_iload_n hC 2 dX6_treeOf_23 rfl ?_
      refine g_iload_n hC 2 dX6_treeOf_24 rfl ?_
      refine g_iload hC 4 dX6_treeOf_25 rfl ?_
      refine g_callS hC (As := [.int x5, .int x6]) (fun l D dA ht => s_X6_has l D dA ht _ _ _ _ h) wm_4_11 wm_4_9 wm_4_10 wm_1_7 (by decide +kernel : plainY yX6_has 2) dX6_treeOf_27 (by decide) (Nat.le_of_ble_eq_true rfl) (Or.inl ⟨rfl, rfl⟩) ?_
      intro M9 v9 h
      obtain ⟨x8, rfl, h⟩ := h
      obtain ⟨hM9, h⟩ := h
      rw [hM9]
      show G X 5 M 0 0 30 [(0, .ref a0), (1, .int p0), (2, .int x5), (3, .int x2), (4, .int x6)] [.int x8, .int x5]
      replace h := h (fun (x9 : Int32) => G X 5 M 0 0 44 [(0, .ref a0), (1, .int p0), (2, .int x5), (3, .int x2), (4, .int x6)] [.int x9, .int x5]) (by
        intro x9 h
        show G X 5 M 0 0 44 [(0, .ref a0), (1, .int p0), (2, .int x5), (3, .int x2), (4, .int x6)] [.int x9, .int x5]
        refine g_ior hC dX6_treeOf_44 ?_
        obtain ⟨x11, ex11⟩ : ∃ w, w = x5 ||| x9 := ⟨_, rfl⟩
        replace h := h x11 ex11
        rw [← ex11]
        refine g_istore_n (lv' := [(2, .int x11), (0, .ref a0), (1, .int p0), (3, .int x2), (4, .int x6)]) hC dX6_treeOf_45 (by decide) rfl ?_
        obtain ⟨x12, ex12⟩ : ∃ w, w = x6 + 1 := ⟨_, rfl⟩
        replace h := h x12 ex12
        refine g_iinc (v := x12) (lv' := [(4, .int x12), (2, .int x11), (0, .ref a0), (1, .int p0), (3, .int x2)]) hC 4 dX6_treeOf_46 rfl (by rw [ex12]; rfl) (by decide) rfl ?_
        refine g_pc (pc' := 49) rfl ?_
        refine g_goto hC 16 dX6_treeOf_49 (by decide) ?_
        refine g_sub [2, 3, 1, 4, 0] (lv' := [(0, .ref a0), (1, .int p0), (2, .int x11), (3, .int x2), (4, .int x12)]) rfl ?_
        exact hK_K7 _ h)
      refine g_if_eq hC 43 dX6_treeOf_30 (by decide) (fun c16 => ?_) (fun c16 => ?_)
      · replace h := h.1 c16
        refine g_iconst (v := 0) hC dX6_treeOf_43 (by decide) ?_
        exact h
      · replace h := h.2 c16
        refine g_aload_n (r := (some a0)) hC 0 dX6_treeOf_33 rfl ?_
        obtain ⟨hc13, h⟩ := h
        obtain ⟨b14, eb14, h⟩ := h
        refine g_getA hC kc6 6 (by decide) wm_3_152 dX6_treeOf_34 rfl hc13 eb14 ?_
        refine g_pc (pc' := 37) rfl ?_
        refine g_iload hC 4 dX6_treeOf_37 rfl ?_
        obtain ⟨hc15, h⟩ := h
        refine g_ialdA hC dX6_treeOf_39 hc15 ?_
        refine g_goto hC 44 dX6_treeOf_40 (by decide) ?_
        exact h

def w_X6_leaves (M : Mem) (a0 : Nat) (p0 : Int32) (p1 : Int32) (p2 : Int32) (post : Mem → Prop) : Prop :=
  w_X6_at M p0 p1 (fun x1 => gT M a0 = some (6, 0) ∧ ∃ b3, gR M a0 11 = some b3 ∧ inA M b3 10 x1 ∧ inA M b3 10 x1 ∧ ∀ M5, M5 = sI M b3 (Int32.toNatClampNeg x1) ((gI M b3 (Int32.toNatClampNeg x1)) &&& ((1 <<< (p2 &&& 31)) ^^^ ((-1)))) → gT M5 a0 = some (6, 0) ∧ ∃ b8, gR M5 a0 8 = some b8 ∧ gT M5 a0 = some (6, 0) ∧ ∃ b10, gR M5 a0 11 = some b10 ∧ inA M5 b10 10 x1 ∧ ∀ J13 : Int32 → Prop, (∀ (x12 : Int32), (inA M5 b8 10 x1 ∧ ∀ M14, M14 = sI M5 b8 (Int32.toNatClampNeg x1) x12 → post M14) → J13 x12) → ((gI M5 b10 (Int32.toNatClampNeg x1) = 0 → J13 ((-1))) ∧ (¬ (gI M5 b10 (Int32.toNatClampNeg x1) = 0) → gT M5 a0 = some (6, 0) ∧ ∃ b17, gR M5 a0 8 = some b17 ∧ inA M5 b17 10 x1 ∧ J13 (gI M5 b17 (Int32.toNatClampNeg x1)))))
set_option maxRecDepth 100000 in
set_option maxHeartbeats 8000000 in
theorem s_X6_leaves (l : Launch) (D : va_G) (dA : Nat → ClassId) (htr : l.stackTraces = false) (M : Mem) (a0 : Nat) (p0 : Int32) (p1 : Int32) (p2 : Int32) (post : Mem → Prop) (h : w_X6_leaves M a0 p0 p1 p2 post) : CtN l D dA yX6_leaves cX6_leaves 5 (none) 2 [.ref a0, .int p0, .int p1, .int p2] M 0 0 (pV post) := by
  refine ct_ofN htr (by decide) (Nat.le_of_ble_eq_true rfl) ?_
  intro X hC hN hR
  show G X 5 M 0 0 0 [(0, .ref a0), (1, .int p0), (2, .int p1), (3, .int p2)] []
  unfold w_X6_leaves at h
  refine g_iload_n hC 1 dX6_leaves_0 rfl ?_
  refine g_iload_n hC 2 dX6_leaves_1 rfl ?_
  refine g_callS hC (As := [.int p0, .int p1]) (fun l D dA ht => s_X6_at l D dA ht _ _ _ _ h) wm_4_30 wm_4_28 wm_4_29 wm_1_7 (by decide +kernel : plainY yX6_at 2) dX6_leaves_2 (by decide) (Nat.le_of_ble_eq_true rfl) (Or.inl ⟨rfl, rfl⟩) ?_
  intro M9 v9 h
  obtain ⟨x1, rfl, h⟩ := h
  obtain ⟨hM9, h⟩ := h
  rw [hM9]
  show G X 5 M 0 0 5 [(0, .ref a0), (1, .int p0), (2, .int p1), (3, .int p2)] [.int x1]
  refine g_istore (lv' := [(4, .int x1), (0, .ref a0), (1, .int p0), (2, .int p1), (3, .int p2)]) hC dX6_leaves_5 (by decide) rfl ?_
  refine g_aload_n (r := (some a0)) hC 1 dX6_leaves_7 rfl ?_
  obtain ⟨hc2, h⟩ := h
  obtain ⟨b3, eb3, h⟩ := h
  refine g_getA hC kc6 11 (by decide) wm_3_157 dX6_leaves_8 rfl hc2 eb3 ?_
  refine g_iload hC 0 dX6_leaves_11 rfl ?_
  refine g_pc (pc' := 13) rfl ?_
  refine g_dup2 hC dX6_leaves_13 rfl rfl ?_
  obtain ⟨hc4, h⟩ := h
  refine g_ialdA hC dX6_leaves_14 hc4 ?_
  refine g_iconst (v := 1) hC dX6_leaves_15 (by decide) ?_
  refine g_iload_n hC 4 dX6_leaves_16 rfl ?_
  refine g_ishl hC dX6_leaves_17 ?_
  refine g_iconst (v := (-1)) hC dX6_leaves_18 (by decide) ?_
  refine g_ixor hC dX6_leaves_19 ?_
  refine g_iand hC dX6_leaves_20 ?_
  obtain ⟨hc6, h⟩ := h
  refine g_pc (pc' := 21) rfl ?_
  refine g_iastA hC dX6_leaves_21 hc6 ?_
  obtain ⟨M5, eM5⟩ : ∃ w, w = sI M b3 (Int32.toNatClampNeg x1) ((gI M b3 (Int32.toNatClampNeg x1)) &&& ((1 <<< (p2 &&& 31)) ^^^ ((-1)))) := ⟨_, rfl⟩
  replace h := h M5 eM5
  rw [← eM5]
  refine g_aload_n (r := (some a0)) hC 1 dX6_leaves_22 rfl ?_
  obtain ⟨hc7, h⟩ := h
  obtain ⟨b8, eb8, h⟩ := h
  refine g_getA hC kc6 8 (by decide) wm_3_154 dX6_leaves_23 rfl hc7 eb8 ?_
  refine g_iload hC 0 dX6_leaves_26 rfl ?_
  refine g_aload_n (r := (some a0)) hC 1 dX6_leaves_28 rfl ?_
  obtain ⟨hc9, h⟩ := h
  obtain ⟨b10, eb10, h⟩ := h
  refine g_getA hC kc6 11 (by decide) wm_3_157 dX6_leaves_29 rfl hc9 eb10 ?_
  refine g_iload hC 0 dX6_leaves_32 rfl ?_
  obtain ⟨hc11, h⟩ := h
  refine g_ialdA hC dX6_leaves_34 hc11 ?_
  replace h := h (fun (x12 : Int32) => G X 5 M5 0 0 49 [(0, .ref a0), (1, .int p0), (2, .int p1), (3, .int p2), (4, .int x1)] [.int x12, .int x1, .ref b8]) (by
    intro x12 h
    show G X 5 M5 0 0 49 [(0, .ref a0), (1, .int p0), (2, .int p1), (3, .int p2), (4, .int x1)] [.int x12, .int x1, .ref b8]
    obtain ⟨hc15, h⟩ := h
    refine g_pc (pc' := 49) rfl ?_
    refine g_iastA hC dX6_leaves_49 hc15 ?_
    obtain ⟨M14, eM14⟩ : ∃ w, w = sI M5 b8 (Int32.toNatClampNeg x1) x12 := ⟨_, rfl⟩
    replace h := h M14 eM14
    rw [← eM14]
    exact hR.1 rfl _ _ _ _ _ dX6_leaves_50 ⟨rfl, h⟩)
  refine g_pc (pc' := 35) rfl ?_
  refine g_if_ne hC 42 dX6_leaves_35 (by decide) (fun c19 => ?_) (fun c19 => ?_)
  · replace h := h.2 c19
    refine g_aload_n (r := (some a0)) hC 1 dX6_leaves_42 rfl ?_
    obtain ⟨hc16, h⟩ := h
    obtain ⟨b17, eb17, h⟩ := h
    refine g_getA hC kc6 8 (by decide) wm_3_154 dX6_leaves_43 rfl hc16 eb17 ?_
    refine g_iload hC 0 dX6_leaves_46 rfl ?_
    obtain ⟨hc18, h⟩ := h
    refine g_ialdA hC dX6_leaves_48 hc18 ?_
    refine g_sub [1, 2, 3, 4, 0] (lv' := [(0, .ref a0), (1, .int p0), (2, .int p1), (3, .int p2), (4, .int x1)]) rfl ?_
    exact h
  · replace h := h.1 c19
    refine g_iconst (v := (-1)) hC dX6_leaves_38 (by decide) ?_
    refine g_goto hC 49 dX6_leaves_39 (by decide) ?_
    refine g_sub [1, 2, 3, 4, 0] (lv' := [(0, .ref a0), (1, .int p0), (2, .int p1), (3, .int p2), (4, .int x1)]) rfl ?_
    exact h

def w_X6_quits (M : Mem) (a0 : Nat) (p0 : Int32) (p1 : Int32) (post : Mem → Prop) : Prop :=
  gT M a0 = some (6, 0) ∧ ∃ b2, gR M a0 7 = some b2 ∧ inA M b2 10 p0 ∧ inA M b2 10 p0 ∧ ∀ M4, M4 = sI M b2 (Int32.toNatClampNeg p0) ((gI M b2 (Int32.toNatClampNeg p0)) &&& ((1 <<< (p1 &&& 31)) ^^^ ((-1)))) → Lp (fun (K8 : Int32 × Mem → Prop) (z : Int32 × Mem) => ∀ (x6 : Int32) (M7 : Mem), z = (x6, M7) → ((4 ≤ x6 → post M7) ∧ (¬ (4 ≤ x6) → gT M7 a0 = some (6, 0) ∧ w_X6_leaves M7 a0 p0 x6 p1 (fun M10 => ∀ x11, x11 = x6 + 1 → K8 (x11, M10))))) (0, M4)
set_option maxRecDepth 100000 in
set_option maxHeartbeats 8000000 in
theorem s_X6_quits (l : Launch) (D : va_G) (dA : Nat → ClassId) (htr : l.stackTraces = false) (M : Mem) (a0 : Nat) (p0 : Int32) (p1 : Int32) (post : Mem → Prop) (h : w_X6_quits M a0 p0 p1 post) : CtN l D dA yX6_quits cX6_quits 4 (none) 3 [.ref a0, .int p0, .int p1] M 0 0 (pV post) := by
  refine ct_ofN htr (by decide) (Nat.le_of_ble_eq_true rfl) ?_
  intro X hC hN hR
  show G X 4 M 0 0 0 [(0, .ref a0), (1, .int p0), (2, .int p1)] []
  unfold w_X6_quits at h
  refine g_aload_n (r := (some a0)) hC 0 dX6_quits_0 rfl ?_
  obtain ⟨hc1, h⟩ := h
  obtain ⟨b2, eb2, h⟩ := h
  refine g_getA hC kc6 7 (by decide) wm_3_153 dX6_quits_1 rfl hc1 eb2 ?_
  refine g_iload_n hC 1 dX6_quits_4 rfl ?_
  refine g_dup2 hC dX6_quits_5 rfl rfl ?_
  obtain ⟨hc3, h⟩ := h
  refine g_ialdA hC dX6_quits_6 hc3 ?_
  refine g_iconst (v := 1) hC dX6_quits_7 (by decide) ?_
  refine g_iload_n hC 2 dX6_quits_8 rfl ?_
  refine g_pc (pc' := 9) rfl ?_
  refine g_ishl hC dX6_quits_9 ?_
  refine g_iconst (v := (-1)) hC dX6_quits_10 (by decide) ?_
  refine g_ixor hC dX6_quits_11 ?_
  refine g_iand hC dX6_quits_12 ?_
  obtain ⟨hc5, h⟩ := h
  refine g_iastA hC dX6_quits_13 hc5 ?_
  obtain ⟨M4, eM4⟩ : ∃ w, w = sI M b2 (Int32.toNatClampNeg p0) ((gI M b2 (Int32.toNatClampNeg p0)) &&& ((1 <<< (p1 &&& 31)) ^^^ ((-1)))) := ⟨_, rfl⟩
  replace h := h M4 eM4
  rw [← eM4]
  refine g_iconst (v := 0) hC dX6_quits_14 (by decide) ?_
  refine g_istore_n (lv' := [(3, .int 0), (0, .ref a0), (1, .int p0), (2, .int p1)]) hC dX6_quits_15 (by decide) rfl ?_
  refine g_sub [1, 2, 3, 0] (lv' := [(0, .ref a0), (1, .int p0), (2, .int p1), (3, .int 0)]) rfl ?_
  refine Lp_use (fun (z13 : Int32 × Mem) => G X 4 z13.2 0 0 16 [(0, .ref a0), (1, .int p0), (2, .int p1), (3, .int z13.1)] []) h ?_
  intro K8 z hK_K8 h
  obtain ⟨x6, M7⟩ := z
  replace h := h _ _ rfl
  show G X 4 M7 0 0 16 [(0, .ref a0), (1, .int p0), (2, .int p1), (3, .int x6)] []
  refine g_iload_n hC 3 dX6_quits_16 rfl ?_
  refine g_pc (pc' := 17) rfl ?_
  refine g_iconst (v := 4) hC dX6_quits_17 (by decide) ?_
  refine g_icmp_ge hC 34 dX6_quits_18 (by decide) (fun c12 => ?_) (fun c12 => ?_)
  · replace h := h.1 c12
    exact hR.1 rfl _ _ _ _ _ dX6_quits_34 ⟨rfl, h⟩
  · replace h := h.2 c12
    refine g_aload_n (r := (some a0)) hC 0 dX6_quits_21 rfl ?_
    refine g_iload_n hC 1 dX6_quits_22 rfl ?_
    refine g_iload_n hC 3 dX6_quits_23 rfl ?_
    refine g_iload_n hC 2 dX6_quits_24 rfl ?_
    obtain ⟨hc9, h⟩ := h
    refine g_callV hC (As := [.int p0, .int x6, .int p1]) (fun l D dA ht => s_X6_leaves l D dA ht _ _ _ _ _ _ h) wm_4_54 wm_4_51 wm_4_53 wm_0_25 wm_1_7 (by decide +kernel : plainY yX6_leaves 3) kc6.1 kc6.2.1 dX6_quits_25 (by decide) (Nat.le_of_ble_eq_true rfl) hc9 (Or.inl ⟨rfl, rfl⟩) ?_
    intro M9 v9 h
    obtain ⟨rfl, h⟩ := h
    generalize M9 = M10 at h ⊢
    show G X 4 M10 0 0 28 [(0, .ref a0), (1, .int p0), (2, .int p1), (3, .int x6)] []
    obtain ⟨x11, ex11⟩ : ∃ w, w = x6 + 1 := ⟨_, rfl⟩
    replace h := h x11 ex11
    refine g_iinc (v := x11) (lv' := [(3, .int x11), (0, .ref a0), (1, .int p0), (2, .int p1)]) hC 3 dX6_quits_28 rfl (by rw [ex11]; rfl) (by decide) rfl ?_
    refine g_pc (pc' := 31) rfl ?_
    refine g_goto hC 16 dX6_quits_31 (by decide) ?_
    refine g_sub [1, 2, 3, 0] (lv' := [(0, .ref a0), (1, .int p0), (2, .int p1), (3, .int x11)]) rfl ?_
    exact hK_K8 _ h

def w_X6_namesake (M : Mem) (a0 : Nat) (p0 : Int32) (p1 : Int32) (p2 : Int32) (post : Int32 → Prop) : Prop :=
  Lp (fun (K3 : Int32 × Int32 → Prop) (z : Int32 × Int32) => ∀ (x1 : Int32) (x2 : Int32), z = (x1, x2) → (gT M a0 = some (6, 0) ∧ ((gI M a0 2) ≤ x2 → post x1) ∧ (¬ ((gI M a0 2) ≤ x2) → gT M a0 = some (6, 0) ∧ ∃ b6, gR M a0 7 = some b6 ∧ inA M b6 10 p0 ∧ w_X6_has M (gI M b6 (Int32.toNatClampNeg p0)) x2 (fun x8 => ∀ J10 : Int32 → Prop, (∀ (x9 : Int32), (∀ x11, x11 = x2 + 1 → K3 (x9, x11)) → J10 x9) → (∀ J12 : Prop, ((J10 x1) → J12) → ((x8 = 0 → J12) ∧ (¬ (x8 = 0) → gT M a0 = some (6, 0) ∧ ∃ b14, gR M a0 3 = some b14 ∧ inA M b14 10 x2 ∧ (gI M b14 (Int32.toNatClampNeg x2) = p1 → (x2 = p2 → J12) ∧ (¬ (x2 = p2) → J10 x2)) ∧ (¬ (gI M b14 (Int32.toNatClampNeg x2) = p1) → J12)))))))) ((-1), 0)
set_option maxRecDepth 100000 in
set_option maxHeartbeats 8000000 in
theorem s_X6_namesake (l : Launch) (D : va_G) (dA : Nat → ClassId) (htr : l.stackTraces = false) (M : Mem) (a0 : Nat) (p0 : Int32) (p1 : Int32) (p2 : Int32) (post : Int32 → Prop) (h : w_X6_namesake M a0 p0 p1 p2 post) : CtN l D dA yX6_namesake cX6_namesake 6 (some .int) 2 [.ref a0, .int p0, .int p1, .int p2] M 0 0 (pI (fun M' r => M' = M ∧ post r)) := by
  refine ct_ofN htr (by decide) (Nat.le_of_ble_eq_true rfl) ?_
  intro X hC hN hR
  show G X 6 M 0 0 0 [(0, .ref a0), (1, .int p0), (2, .int p1), (3, .int p2)] []
  unfold w_X6_namesake at h
  refine g_iconst (v := (-1)) hC dX6_namesake_0 (by decide) ?_
  refine g_istore (lv' := [(4, .int ((-1))), (0, .ref a0), (1, .int p0), (2, .int p1), (3, .int p2)]) hC dX6_namesake_1 (by decide) rfl ?_
  refine g_iconst (v := 0) hC dX6_namesake_3 (by decide) ?_
  refine g_istore (lv' := [(5, .int 0), (4, .int ((-1))), (0, .ref a0), (1, .int p0), (2, .int p1), (3, .int p2)]) hC dX6_namesake_4 (by decide) rfl ?_
  refine g_sub [2, 3, 4, 5, 1, 0] (lv' := [(0, .ref a0), (1, .int p0), (2, .int p1), (3, .int p2), (4, .int ((-1))), (5, .int 0)]) rfl ?_
  refine Lp_use (fun (z20 : Int32 × Int32) => G X 6 M 0 0 6 [(0, .ref a0), (1, .int p0), (2, .int p1), (3, .int p2), (4, .int z20.1), (5, .int z20.2)] []) h ?_
  intro K3 z hK_K3 h
  obtain ⟨x1, x2⟩ := z
  replace h := h _ _ rfl
  show G X 6 M 0 0 6 [(0, .ref a0), (1, .int p0), (2, .int p1), (3, .int p2), (4, .int x1), (5, .int x2)] []
  refine g_iload hC 5 dX6_namesake_6 rfl ?_
  refine g_aload_n (r := (some a0)) hC 0 dX6_namesake_8 rfl ?_
  obtain ⟨hc4, h⟩ := h
  refine g_getI hC kc6 2 (by decide) wm_3_148 dX6_namesake_9 rfl hc4 ?_
  refine g_pc (pc' := 12) rfl ?_
  refine g_icmp_ge hC 61 dX6_namesake_12 (by decide) (fun c19 => ?_) (fun c19 => ?_)
  · replace h := h.1 c19
    refine g_iload hC 4 dX6_namesake_61 rfl ?_
    exact hR.2.1 rfl _ _ _ _ _ _ dX6_namesake_63 ⟨_, rfl, rfl, h⟩
  · replace h := h.2 c19
    refine g_aload_n (r := (some a0)) hC 0 dX6_namesake_15 rfl ?_
    obtain ⟨hc5, h⟩ := h
    obtain ⟨b6, eb6, h⟩ := h
    refine g_getA hC kc6 7 (by decide) wm_3_153 dX6_namesake_16 rfl hc5 eb6 ?_
    refine g_iload_n hC 1 dX6_namesake_19 rfl ?_
    obtain ⟨hc7, h⟩ := h
    refine g_ialdA hC dX6_namesake_20 hc7 ?_
    refine g_iload hC 5 dX6_namesake_21 rfl ?_
    refine g_callS hC (As := [.int (gI M b6 (Int32.toNatClampNeg p0)), .int x2]) (fun l D dA ht => s_X6_has l D dA ht _ _ _ _ h) wm_4_11 wm_4_9 wm_4_10 wm_1_7 (by decide +kernel : plainY yX6_has 2) dX6_namesake_23 (by decide) (Nat.le_of_ble_eq_true rfl) (Or.inl ⟨rfl, rfl⟩) ?_
    intro M9 v9 h
    obtain ⟨x8, rfl, h⟩ := h
    obtain ⟨hM9, h⟩ := h
    rw [hM9]
    show G X 6 M 0 0 26 [(0, .ref a0), (1, .int p0), (2, .int p1), (3, .int p2), (4, .int x1), (5, .int x2)] [.int x8]
    replace h := h (fun (x9 : Int32) => G X 6 M 0 0 53 [(0, .ref a0), (1, .int p0), (2, .int p1), (3, .int p2), (4, .int x1), (5, .int x2)] [.int x9]) (by
      intro x9 h
      show G X 6 M 0 0 53 [(0, .ref a0), (1, .int p0), (2, .int p1), (3, .int p2), (4, .int x1), (5, .int x2)] [.int x9]
      refine g_istore (lv' := [(4, .int x9), (0, .ref a0), (1, .int p0), (2, .int p1), (3, .int p2), (5, .int x2)]) hC dX6_namesake_53 (by decide) rfl ?_
      obtain ⟨x11, ex11⟩ : ∃ w, w = x2 + 1 := ⟨_, rfl⟩
      replace h := h x11 ex11
      refine g_pc (pc' := 55) rfl ?_
      refine g_iinc (v := x11) (lv' := [(5, .int x11), (4, .int x9), (0, .ref a0), (1, .int p0), (2, .int p1), (3, .int p2)]) hC 5 dX6_namesake_55 rfl (by rw [ex11]; rfl) (by decide) rfl ?_
      refine g_goto hC 6 dX6_namesake_58 (by decide) ?_
      refine g_sub [2, 3, 4, 5, 1, 0] (lv' := [(0, .ref a0), (1, .int p0), (2, .int p1), (3, .int p2), (4, .int x9), (5, .int x11)]) rfl ?_
      exact hK_K3 _ h)
    replace h := h (G X 6 M 0 0 51 [(0, .ref a0), (1, .int p0), (2, .int p1), (3, .int p2), (4, .int x1), (5, .int x2)] []) (by
      intro h
      refine g_iload hC 4 dX6_namesake_51 rfl ?_
      exact h)
    refine g_if_eq hC 51 dX6_namesake_26 (by decide) (fun c18 => ?_) (fun c18 => ?_)
    · replace h := h.1 c18
      exact h
    · replace h := h.2 c18
      refine g_pc (pc' := 29) rfl ?_
      refine g_aload_n (r := (some a0)) hC 0 dX6_namesake_29 rfl ?_
      obtain ⟨hc13, h⟩ := h
      obtain ⟨b14, eb14, h⟩ := h
      refine g_getA hC kc6 3 (by decide) wm_3_149 dX6_namesake_30 rfl hc13 eb14 ?_
      refine g_iload hC 5 dX6_namesake_33 rfl ?_
      obtain ⟨hc15, h⟩ := h
      refine g_ialdA hC dX6_namesake_35 hc15 ?_
      refine g_iload_n hC 2 dX6_namesake_36 rfl ?_
      refine g_icmp_ne hC 51 dX6_namesake_37 (by decide) (fun c17 => ?_) (fun c17 => ?_)
      · replace h := h.2 c17
        exact h
      · replace h := h.1 c17
        refine g_iload hC 5 dX6_namesake_40 rfl ?_
        refine g_iload_n hC 3 dX6_namesake_42 rfl ?_
        refine g_pc (pc' := 43) rfl ?_
        refine g_icmp_eq hC 51 dX6_namesake_43 (by decide) (fun c16 => ?_) (fun c16 => ?_)
        · replace h := h.1 c16
          exact h
        · replace h := h.2 c16
          refine g_iload hC 5 dX6_namesake_46 rfl ?_
          refine g_goto hC 53 dX6_namesake_48 (by decide) ?_
          exact h

def w_X6_getsUser (M : Mem) (a0 : Nat) (p0 : Int32) (p1 : Int32) (post : Mem → Prop) : Prop :=
  gT M a0 = some (6, 0) ∧ ∀ x2, x2 = gI M a0 24 → gT M a0 = some (6, 0) ∧ w_X6_treeOf M a0 p0 (fun x4 => gT M a0 = some (6, 0) ∧ ∃ b6, gR M a0 4 = some b6 ∧ inA M b6 10 x2 ∧ w_X6_has M x4 (gI M b6 (Int32.toNatClampNeg x2)) (fun x8 => (x8 = 0 → post M) ∧ (¬ (x8 = 0) → gT M a0 = some (6, 0) ∧ ∃ b10, gR M a0 3 = some b10 ∧ inA M b10 10 x2 ∧ gT M a0 = some (6, 0) ∧ w_X6_namesake M a0 p0 (gI M b10 (Int32.toNatClampNeg x2)) x2 (fun x13 => ∀ J14 : Prop, ((∀ J16 : Mem → Prop, (∀ (M15 : Mem), (gT M15 a0 = some (6, 0) ∧ ∃ b18, gR M15 a0 7 = some b18 ∧ inA M15 b18 10 p0 ∧ inA M15 b18 10 p0 ∧ ∀ M20, M20 = sI M15 b18 (Int32.toNatClampNeg p0) ((gI M15 b18 (Int32.toNatClampNeg p0)) ||| (1 <<< (x2 &&& 31))) → gT M20 a0 = some (6, 0) ∧ w_X6_makes M20 a0 0 x2 0 (fun M23 => gT M23 a0 = some (6, 0) ∧ w_X6_sends M23 a0 p0 p1 (fun M25 => post M25))) → J16 M15) → ((x13 = (-1) → J16 M) ∧ (¬ (x13 = (-1)) → gT M a0 = some (6, 0) ∧ w_X6_quits M a0 p0 x13 (fun M27 => gT M27 a0 = some (6, 0) ∧ w_X6_makes M27 a0 1 x13 0 (fun M29 => gT M29 a0 = some (6, 0) ∧ w_X6_sends M29 a0 p0 ((-1)) (fun M31 => J16 M31)))))) → J14) → ((x13 = (-1) → J14) ∧ (¬ (x13 = (-1)) → gT M a0 = some (6, 0) ∧ ∃ b34, gR M a0 5 = some b34 ∧ inA M b34 10 x13 ∧ gT M a0 = some (6, 0) ∧ ∃ b37, gR M a0 5 = some b37 ∧ inA M b37 10 x2 ∧ ((gI M b37 (Int32.toNatClampNeg x2)) ≤ (gI M b34 (Int32.toNatClampNeg x13)) → J14) ∧ (¬ ((gI M b37 (Int32.toNatClampNeg x2)) ≤ (gI M b34 (Int32.toNatClampNeg x13))) → gT M a0 = some (6, 0) ∧ w_X6_makes M a0 1 x2 0 (fun M40 => gT M40 a0 = some (6, 0) ∧ w_X6_puts M40 a0 p0 p1 (fun M42 => post M42)))))))))
set_option maxRecDepth 100000 in
set_option maxHeartbeats 8000000 in
theorem s_X6_getsUser (l : Launch) (D : va_G) (dA : Nat → ClassId) (htr : l.stackTraces = false) (M : Mem) (a0 : Nat) (p0 : Int32) (p1 : Int32) (post : Mem → Prop) (h : w_X6_getsUser M a0 p0 p1 post) : CtN l D dA yX6_getsUser cX6_getsUser 5 (none) 4 [.ref a0, .int p0, .int p1] M 0 0 (pV post) := by
  refine ct_ofN htr (by decide) (Nat.le_of_ble_eq_true rfl) ?_
  intro X hC hN hR
  show G X 5 M 0 0 0 [(0, .ref a0), (1, .int p0), (2, .int p1)] []
  unfold w_X6_getsUser at h
  refine g_aload_n (r := (some a0)) hC 0 dX6_getsUser_0 rfl ?_
  obtain ⟨hc1, h⟩ := h
  refine g_getI hC kc6 24 (by decide) wm_3_170 dX6_getsUser_1 rfl hc1 ?_
  obtain ⟨x2, ex2⟩ : ∃ w, w = gI M a0 24 := ⟨_, rfl⟩
  replace h := h x2 ex2
  rw [← ex2]
  refine g_istore_n (lv' := [(3, .int x2), (0, .ref a0), (1, .int p0), (2, .int p1)]) hC dX6_getsUser_4 (by decide) rfl ?_
  refine g_aload_n (r := (some a0)) hC 1 dX6_getsUser_5 rfl ?_
  refine g_iload_n hC 2 dX6_getsUser_6 rfl ?_
  obtain ⟨hc3, h⟩ := h
  refine g_callV hC (As := [.int p0]) (fun l D dA ht => s_X6_treeOf l D dA ht _ _ _ _ h) wm_4_8 wm_4_5 wm_4_7 wm_0_16 wm_1_7 (by decide +kernel : plainY yX6_treeOf 1) kc6.1 kc6.2.1 dX6_getsUser_7 (by decide) (Nat.le_of_ble_eq_true rfl) hc3 (Or.inl ⟨rfl, rfl⟩) ?_
  intro M9 v9 h
  obtain ⟨x4, rfl, h⟩ := h
  obtain ⟨hM9, h⟩ := h
  rw [hM9]
  show G X 5 M 0 0 10 [(3, .int x2), (0, .ref a0), (1, .int p0), (2, .int p1)] [.int x4]
  refine g_aload_n (r := (some a0)) hC 1 dX6_getsUser_10 rfl ?_
  obtain ⟨hc5, h⟩ := h
  obtain ⟨b6, eb6, h⟩ := h
  refine g_pc (pc' := 11) rfl ?_
  refine g_getA hC kc6 4 (by decide) wm_3_150 dX6_getsUser_11 rfl hc5 eb6 ?_
  refine g_iload_n hC 0 dX6_getsUser_14 rfl ?_
  obtain ⟨hc7, h⟩ := h
  refine g_ialdA hC dX6_getsUser_15 hc7 ?_
  refine g_callS hC (As := [.int x4, .int (gI M b6 (Int32.toNatClampNeg x2))]) (fun l D dA ht => s_X6_has l D dA ht _ _ _ _ h) wm_4_11 wm_4_9 wm_4_10 wm_1_7 (by decide +kernel : plainY yX6_has 2) dX6_getsUser_16 (by decide) (Nat.le_of_ble_eq_true rfl) (Or.inl ⟨rfl, rfl⟩) ?_
  intro M9 v9 h
  obtain ⟨x8, rfl, h⟩ := h
  obtain ⟨hM9, h⟩ := h
  rw [hM9]
  show G X 5 M 0 0 19 [(3, .int x2), (0, .ref a0), (1, .int p0), (2, .int p1)] [.int x8]
  refine g_if_ne hC 23 dX6_getsUser_19 (by decide) (fun c45 => ?_) (fun c45 => ?_)
  · replace h := h.2 c45
    refine g_aload_n (r := (some a0)) hC 1 dX6_getsUser_23 rfl ?_
    refine g_iload_n hC 2 dX6_getsUser_24 rfl ?_
    refine g_aload_n (r := (some a0)) hC 1 dX6_getsUser_25 rfl ?_
    obtain ⟨hc9, h⟩ := h
    obtain ⟨b10, eb10, h⟩ := h
    refine g_pc (pc' := 26) rfl ?_
    refine g_getA hC kc6 3 (by decide) wm_3_149 dX6_getsUser_26 rfl hc9 eb10 ?_
    refine g_iload_n hC 0 dX6_getsUser_29 rfl ?_
    obtain ⟨hc11, h⟩ := h
    refine g_ialdA hC dX6_getsUser_30 hc11 ?_
    refine g_iload_n hC 0 dX6_getsUser_31 rfl ?_
    obtain ⟨hc12, h⟩ := h
    refine g_callV hC (As := [.int p0, .int (gI M b10 (Int32.toNatClampNeg x2)), .int x2]) (fun l D dA ht => s_X6_namesake l D dA ht _ _ _ _ _ _ h) wm_4_78 wm_4_75 wm_4_77 wm_0_30 wm_1_7 (by decide +kernel : plainY yX6_namesake 3) kc6.1 kc6.2.1 dX6_getsUser_32 (by decide) (Nat.le_of_ble_eq_true rfl) hc12 (Or.inl ⟨rfl, rfl⟩) ?_
    intro M9 v9 h
    obtain ⟨x13, rfl, h⟩ := h
    obtain ⟨hM9, h⟩ := h
    rw [hM9]
    show G X 5 M 0 0 35 [(3, .int x2), (0, .ref a0), (1, .int p0), (2, .int p1)] [.int x13]
    refine g_istore (lv' := [(4, .int x13), (3, .int x2), (0, .ref a0), (1, .int p0), (2, .int p1)]) hC dX6_getsUser_35 (by decide) rfl ?_
    refine g_iload hC 0 dX6_getsUser_37 rfl ?_
    refine g_iconst (v := (-1)) hC dX6_getsUser_39 (by decide) ?_
    replace h := h (G X 5 M 0 0 73 [(0, .ref a0), (1, .int p0), (2, .int p1), (3, .int x2), (4, .int x13)] []) (by
      intro h
      refine g_pc (pc' := 73) rfl ?_
      refine g_iload hC 4 dX6_getsUser_73 rfl ?_
      refine g_iconst (v := (-1)) hC dX6_getsUser_75 (by decide) ?_
      replace h := h (fun (M15 : Mem) => G X 5 M15 0 0 100 [(0, .ref a0), (1, .int p0), (2, .int p1), (3, .int x2), (4, .int x13)] []) (by
        intro M15 h
        show G X 5 M15 0 0 100 [(0, .ref a0), (1, .int p0), (2, .int p1), (3, .int x2), (4, .int x13)] []
        refine g_aload_n (r := (some a0)) hC 0 dX6_getsUser_100 rfl ?_
        obtain ⟨hc17, h⟩ := h
        obtain ⟨b18, eb18, h⟩ := h
        refine g_getA hC kc6 7 (by decide) wm_3_153 dX6_getsUser_101 rfl hc17 eb18 ?_
        refine g_iload_n hC 1 dX6_getsUser_104 rfl ?_
        refine g_dup2 hC dX6_getsUser_105 rfl rfl ?_
        obtain ⟨hc19, h⟩ := h
        refine g_ialdA hC dX6_getsUser_106 hc19 ?_
        refine g_iconst (v := 1) hC dX6_getsUser_107 (by decide) ?_
        refine g_pc (pc' := 108) rfl ?_
        refine g_iload_n hC 3 dX6_getsUser_108 rfl ?_
        refine g_ishl hC dX6_getsUser_109 ?_
        refine g_ior hC dX6_getsUser_110 ?_
        obtain ⟨hc21, h⟩ := h
        refine g_iastA hC dX6_getsUser_111 hc21 ?_
        obtain ⟨M20, eM20⟩ : ∃ w, w = sI M15 b18 (Int32.toNatClampNeg p0) ((gI M15 b18 (Int32.toNatClampNeg p0)) ||| (1 <<< (x2 &&& 31))) := ⟨_, rfl⟩
        replace h := h M20 eM20
        rw [← eM20]
        refine g_aload_n (r := (some a0)) hC 0 dX6_getsUser_112 rfl ?_
        refine g_iconst (v := 0) hC dX6_getsUser_113 (by decide) ?_
        refine g_iload_n hC 3 dX6_getsUser_114 rfl ?_
        refine g_iconst (v := 0) hC dX6_getsUser_115 (by decide) ?_
        refine g_pc (pc' := 116) rfl ?_
        obtain ⟨hc22, h⟩ := h
        refine g_callV hC (As := [.int 0, .int x2, .int 0]) (fun l D dA ht => s_X6_makes l D dA ht _ _ _ _ _ _ h) wm_4_23 wm_4_20 wm_4_22 wm_0_19 wm_1_7 (by decide +kernel : plainY yX6_makes 3) kc6.1 kc6.2.1 dX6_getsUser_116 (by decide) (Nat.le_of_ble_eq_true rfl) hc22 (Or.inl ⟨rfl, rfl⟩) ?_
        intro M9 v9 h
        obtain ⟨rfl, h⟩ := h
        generalize M9 = M23 at h ⊢
        show G X 5 M23 0 0 119 [(0, .ref a0), (1, .int p0), (2, .int p1), (3, .int x2), (4, .int x13)] []
        refine g_aload_n (r := (some a0)) hC 0 dX6_getsUser_119 rfl ?_
        refine g_iload_n hC 1 dX6_getsUser_120 rfl ?_
        refine g_iload_n hC 2 dX6_getsUser_121 rfl ?_
        obtain ⟨hc24, h⟩ := h
        refine g_callV hC (As := [.int p0, .int p1]) (fun l D dA ht => s_X6_sends l D dA ht _ _ _ _ _ h) wm_4_82 wm_4_79 wm_4_81 wm_0_31 wm_1_7 (by decide +kernel : plainY yX6_sends 2) kc6.1 kc6.2.1 dX6_getsUser_122 (by decide) (Nat.le_of_ble_eq_true rfl) hc24 (Or.inl ⟨rfl, rfl⟩) ?_
        intro M9 v9 h
        obtain ⟨rfl, h⟩ := h
        generalize M9 = M25 at h ⊢
        show G X 5 M25 0 0 125 [(0, .ref a0), (1, .int p0), (2, .int p1), (3, .int x2), (4, .int x13)] []
        exact hR.1 rfl _ _ _ _ _ dX6_getsUser_125 ⟨rfl, h⟩)
      refine g_icmp_eq hC 100 dX6_getsUser_76 (by decide) (fun c32 => ?_) (fun c32 => ?_)
      · replace h := h.1 c32
        exact h
      · replace h := h.2 c32
        refine g_aload_n (r := (some a0)) hC 0 dX6_getsUser_79 rfl ?_
        refine g_iload_n hC 1 dX6_getsUser_80 rfl ?_
        refine g_iload hC 4 dX6_getsUser_81 rfl ?_
        obtain ⟨hc26, h⟩ := h
        refine g_callV hC (As := [.int p0, .int x13]) (fun l D dA ht => s_X6_quits l D dA ht _ _ _ _ _ h) wm_4_50 wm_4_47 wm_4_49 wm_0_24 wm_1_7 (by decide +kernel : plainY yX6_quits 2) kc6.1 kc6.2.1 dX6_getsUser_83 (by decide) (Nat.le_of_ble_eq_true rfl) hc26 (Or.inl ⟨rfl, rfl⟩) ?_
        intro M9 v9 h
        obtain ⟨rfl, h⟩ := h
        generalize M9 = M27 at h ⊢
        show G X 5 M27 0 0 86 [(0, .ref a0), (1, .int p0), (2, .int p1), (3, .int x2), (4, .int x13)] []
        refine g_aload_n (r := (some a0)) hC 0 dX6_getsUser_86 rfl ?_
        refine g_pc (pc' := 87) rfl ?_
        refine g_iconst (v := 1) hC dX6_getsUser_87 (by decide) ?_
        refine g_iload hC 4 dX6_getsUser_88 rfl ?_
        refine g_iconst (v := 0) hC dX6_getsUser_90 (by decide) ?_
        obtain ⟨hc28, h⟩ := h
        refine g_callV hC (As := [.int 1, .int x13, .int 0]) (fun l D dA ht => s_X6_makes l D dA ht _ _ _ _ _ _ h) wm_4_23 wm_4_20 wm_4_22 wm_0_19 wm_1_7 (by decide +kernel : plainY yX6_makes 3) kc6.1 kc6.2.1 dX6_getsUser_91 (by decide) (Nat.le_of_ble_eq_true rfl) hc28 (Or.inl ⟨rfl, rfl⟩) ?_
        intro M9 v9 h
        obtain ⟨rfl, h⟩ := h
        generalize M9 = M29 at h ⊢
        show G X 5 M29 0 0 94 [(0, .ref a0), (1, .int p0), (2, .int p1), (3, .int x2), (4, .int x13)] []
        refine g_aload_n (r := (some a0)) hC 0 dX6_getsUser_94 rfl ?_
        refine g_iload_n hC 1 dX6_getsUser_95 rfl ?_
        refine g_iconst (v := (-1)) hC dX6_getsUser_96 (by decide) ?_
        obtain ⟨hc30, h⟩ := h
        refine g_callV hC (As := [.int p0, .int ((-1))]) (fun l D dA ht => s_X6_sends l D dA ht _ _ _ _ _ h) wm_4_82 wm_4_79 wm_4_81 wm_0_31 wm_1_7 (by decide +kernel : plainY yX6_sends 2) kc6.1 kc6.2.1 dX6_getsUser_97 (by decide) (Nat.le_of_ble_eq_true rfl) hc30 (Or.inl ⟨rfl, rfl⟩) ?_
        intro M9 v9 h
        obtain ⟨rfl, h⟩ := h
        generalize M9 = M31 at h ⊢
        show G X 5 M31 0 0 100 [(0, .ref a0), (1, .int p0), (2, .int p1), (3, .int x2), (4, .int x13)] []
        exact h)
    refine g_pc (pc' := 40) rfl ?_
    refine g_icmp_eq hC 73 dX6_getsUser_40 (by decide) (fun c44 => ?_) (fun c44 => ?_)
    · replace h := h.1 c44
      refine g_sub [2, 3, 4, 1, 0] (lv' := [(0, .ref a0), (1, .int p0), (2, .int p1), (3, .int x2), (4, .int x13)]) rfl ?_
      exact h
    · replace h := h.2 c44
      refine g_aload_n (r := (some a0)) hC 2 dX6_getsUser_43 rfl ?_
      obtain ⟨hc33, h⟩ := h
      obtain ⟨b34, eb34, h⟩ := h
      refine g_getA hC kc6 5 (by decide) wm_3_151 dX6_getsUser_44 rfl hc33 eb34 ?_
      refine g_iload hC 0 dX6_getsUser_47 rfl ?_
      obtain ⟨hc35, h⟩ := h
      refine g_ialdA hC dX6_getsUser_49 hc35 ?_
      refine g_aload_n (r := (some a0)) hC 2 dX6_getsUser_50 rfl ?_
      obtain ⟨hc36, h⟩ := h
      obtain ⟨b37, eb37, h⟩ := h
      refine g_getA hC kc6 5 (by decide) wm_3_151 dX6_getsUser_51 rfl hc36 eb37 ?_
      refine g_iload_n hC 1 dX6_getsUser_54 rfl ?_
      obtain ⟨hc38, h⟩ := h
      refine g_pc (pc' := 55) rfl ?_
      refine g_ialdA hC dX6_getsUser_55 hc38 ?_
      refine g_icmp_ge hC 73 dX6_getsUser_56 (by decide) (fun c43 => ?_) (fun c43 => ?_)
      · replace h := h.1 c43
        refine g_sub [2, 3, 4, 1, 0] (lv' := [(0, .ref a0), (1, .int p0), (2, .int p1), (3, .int x2), (4, .int x13)]) rfl ?_
        exact h
      · replace h := h.2 c43
        refine g_aload_n (r := (some a0)) hC 2 dX6_getsUser_59 rfl ?_
        refine g_iconst (v := 1) hC dX6_getsUser_60 (by decide) ?_
        refine g_iload_n hC 1 dX6_getsUser_61 rfl ?_
        refine g_iconst (v := 0) hC dX6_getsUser_62 (by decide) ?_
        obtain ⟨hc39, h⟩ := h
        refine g_callV hC (As := [.int 1, .int x2, .int 0]) (fun l D dA ht => s_X6_makes l D dA ht _ _ _ _ _ _ h) wm_4_23 wm_4_20 wm_4_22 wm_0_19 wm_1_7 (by decide +kernel : plainY yX6_makes 3) kc6.1 kc6.2.1 dX6_getsUser_63 (by decide) (Nat.le_of_ble_eq_true rfl) hc39 (Or.inl ⟨rfl, rfl⟩) ?_
        intro M9 v9 h
        obtain ⟨rfl, h⟩ := h
        generalize M9 = M40 at h ⊢
        show G X 5 M40 0 0 66 [(4, .int x13), (3, .int x2), (0, .ref a0), (1, .int p0), (2, .int p1)] []
        refine g_aload_n (r := (some a0)) hC 2 dX6_getsUser_66 rfl ?_
        refine g_pc (pc' := 67) rfl ?_
        refine g_iload_n hC 3 dX6_getsUser_67 rfl ?_
        refine g_iload_n hC 4 dX6_getsUser_68 rfl ?_
        obtain ⟨hc41, h⟩ := h
        refine g_callV hC (As := [.int p0, .int p1]) (fun l D dA ht => s_X6_puts l D dA ht _ _ _ _ _ h) wm_4_27 wm_4_24 wm_4_26 wm_0_20 wm_1_7 (by decide +kernel : plainY yX6_puts 2) kc6.1 kc6.2.1 dX6_getsUser_69 (by decide) (Nat.le_of_ble_eq_true rfl) hc41 (Or.inl ⟨rfl, rfl⟩) ?_
        intro M9 v9 h
        obtain ⟨rfl, h⟩ := h
        generalize M9 = M42 at h ⊢
        show G X 5 M42 0 0 72 [(4, .int x13), (3, .int x2), (0, .ref a0), (1, .int p0), (2, .int p1)] []
        exact hR.1 rfl _ _ _ _ _ dX6_getsUser_72 ⟨rfl, h⟩
  · replace h := h.1 c45
    exact hR.1 rfl _ _ _ _ _ dX6_getsUser_22 ⟨rfl, h⟩

def w_X6_getsChannel (M : Mem) (a0 : Nat) (p0 : Int32) (post : Mem → Prop) : Prop :=
  gT M a0 = some (6, 0) ∧ w_X6_at M p0 (gI M a0 24) (fun x2 => gT M a0 = some (6, 0) ∧ gT M a0 = some (6, 0) ∧ ∃ b5, gR M a0 7 = some b5 ∧ inA M b5 10 p0 ∧ ∀ x7, x7 = (gI M a0 25) &&& (gI M b5 (Int32.toNatClampNeg p0)) → (x7 = 0 → post M) ∧ (¬ (x7 = 0) → gT M a0 = some (6, 0) ∧ ∃ b9, gR M a0 8 = some b9 ∧ inA M b9 10 x2 ∧ ∀ J12 : Int32 → Prop, (∀ (x11 : Int32), (∀ J14 : Int32 → Prop, (∀ (x13 : Int32), (∀ J16 : Int32 → Prop, (∀ (x15 : Int32), (gT M a0 = some (6, 0) ∧ ∃ b18, gR M a0 9 = some b18 ∧ ∀ J20 : Int32 → Prop, (∀ (x19 : Int32), (inA M b18 10 x2 ∧ ∀ M21, M21 = sI M b18 (Int32.toNatClampNeg x2) x19 → gT M21 a0 = some (6, 0) ∧ ∃ b24, gR M21 a0 10 = some b24 ∧ ∀ J26 : Int32 → Prop, (∀ (x25 : Int32), (inA M21 b24 10 x2 ∧ ∀ M27, M27 = sI M21 b24 (Int32.toNatClampNeg x2) x25 → gT M27 a0 = some (6, 0) ∧ ∃ b30, gR M27 a0 8 = some b30 ∧ ∀ J32 : Int32 → Prop, (∀ (x31 : Int32), (inA M27 b30 10 x2 ∧ ∀ M33, M33 = sI M27 b30 (Int32.toNatClampNeg x2) x31 → gT M33 a0 = some (6, 0) ∧ ∃ b36, gR M33 a0 11 = some b36 ∧ ∀ J38 : Int32 → Prop, (∀ (x37 : Int32), (inA M33 b36 10 x2 ∧ ∀ M39, M39 = sI M33 b36 (Int32.toNatClampNeg x2) x37 → post M39) → J38 x37) → ((x11 = 0 → gT M33 a0 = some (6, 0) ∧ ∃ b42, gR M33 a0 11 = some b42 ∧ inA M33 b42 10 x2 ∧ J38 ((gI M33 b42 (Int32.toNatClampNeg x2)) ||| x7)) ∧ (¬ (x11 = 0) → J38 x7))) → J32 x31) → ((x13 = 0 → gT M27 a0 = some (6, 0) ∧ ∃ b46, gR M27 a0 8 = some b46 ∧ inA M27 b46 10 x2 ∧ J32 (gI M27 b46 (Int32.toNatClampNeg x2))) ∧ (¬ (x13 = 0) → gT M27 a0 = some (6, 0) ∧ J32 (gI M27 a0 26)))) → J26 x25) → ((x13 = 0 → (x15 = 0 → gT M21 a0 = some (6, 0) ∧ ∃ b51, gR M21 a0 10 = some b51 ∧ inA M21 b51 10 x2 ∧ J26 (gI M21 b51 (Int32.toNatClampNeg x2))) ∧ (¬ (x15 = 0) → gT M21 a0 = some (6, 0) ∧ ∃ b54, gR M21 a0 10 = some b54 ∧ inA M21 b54 10 x2 ∧ gT M21 a0 = some (6, 0) ∧ J26 ((gI M21 b54 (Int32.toNatClampNeg x2)) ||| (gI M21 a0 28)))) ∧ (¬ (x13 = 0) → gT M21 a0 = some (6, 0) ∧ J26 (gI M21 a0 28)))) → J20 x19) → ((x13 = 0 → (x15 = 0 → gT M a0 = some (6, 0) ∧ ∃ b61, gR M a0 9 = some b61 ∧ inA M b61 10 x2 ∧ J20 (gI M b61 (Int32.toNatClampNeg x2))) ∧ (¬ (x15 = 0) → gT M a0 = some (6, 0) ∧ ∃ b64, gR M a0 9 = some b64 ∧ inA M b64 10 x2 ∧ gT M a0 = some (6, 0) ∧ J20 ((gI M b64 (Int32.toNatClampNeg x2)) ||| (gI M a0 27)))) ∧ (¬ (x13 = 0) → gT M a0 = some (6, 0) ∧ J20 (gI M a0 27)))) → J16 x15) → (∀ J70 : Prop, ((J16 0) → J70) → ((x11 = 0 → gT M a0 = some (6, 0) ∧ gT M a0 = some (6, 0) ∧ ∃ b73, gR M a0 8 = some b73 ∧ inA M b73 10 x2 ∧ (gI M a0 26 = gI M b73 (Int32.toNatClampNeg x2) → J16 1) ∧ (¬ (gI M a0 26 = gI M b73 (Int32.toNatClampNeg x2)) → J70)) ∧ (¬ (x11 = 0) → J70)))) → J14 x13) → (∀ J77 : Prop, ((J14 1) → J77) → ((x11 = 0 → gT M a0 = some (6, 0) ∧ gT M a0 = some (6, 0) ∧ ∃ b80, gR M a0 8 = some b80 ∧ inA M b80 10 x2 ∧ ((gI M b80 (Int32.toNatClampNeg x2)) ≤ (gI M a0 26) → J14 0) ∧ (¬ ((gI M b80 (Int32.toNatClampNeg x2)) ≤ (gI M a0 26)) → J77)) ∧ (¬ (x11 = 0) → J77)))) → J12 x11) → ((gI M b9 (Int32.toNatClampNeg x2) = (-1) → J12 1) ∧ (¬ (gI M b9 (Int32.toNatClampNeg x2) = (-1)) → J12 0))))
set_option maxRecDepth 100000 in
set_option maxHeartbeats 8000000 in
theorem s_X6_getsChannel (l : Launch) (D : va_G) (dA : Nat → ClassId) (htr : l.stackTraces = false) (M : Mem) (a0 : Nat) (p0 : Int32) (post : Mem → Prop) (h : w_X6_getsChannel M a0 p0 post) : CtN l D dA yX6_getsChannel cX6_getsChannel 7 (none) 2 [.ref a0, .int p0] M 0 0 (pV post) := by
  refine ct_ofN htr (by decide) (Nat.le_of_ble_eq_true rfl) ?_
  intro X hC hN hR
  show G X 7 M 0 0 0 [(0, .ref a0), (1, .int p0)] []
  unfold w_X6_getsChannel at h
  refine g_iload_n hC 1 dX6_getsChannel_0 rfl ?_
  refine g_aload_n (r := (some a0)) hC 0 dX6_getsChannel_1 rfl ?_
  obtain ⟨hc1, h⟩ := h
  refine g_getI hC kc6 24 (by decide) wm_3_170 dX6_getsChannel_2 rfl hc1 ?_
  refine g_callS hC (As := [.int p0, .int (gI M a0 24)]) (fun l D dA ht => s_X6_at l D dA ht _ _ _ _ h) wm_4_30 wm_4_28 wm_4_29 wm_1_7 (by decide +kernel : plainY yX6_at 2) dX6_getsChannel_5 (by decide) (Nat.le_of_ble_eq_true rfl) (Or.inl ⟨rfl, rfl⟩) ?_
  intro M9 v9 h
  obtain ⟨x2, rfl, h⟩ := h
  obtain ⟨hM9, h⟩ := h
  rw [hM9]
  show G X 7 M 0 0 8 [(0, .ref a0), (1, .int p0)] [.int x2]
  refine g_istore_n (lv' := [(2, .int x2), (0, .ref a0), (1, .int p0)]) hC dX6_getsChannel_8 (by decide) rfl ?_
  refine g_aload_n (r := (some a0)) hC 1 dX6_getsChannel_9 rfl ?_
  obtain ⟨hc3, h⟩ := h
  refine g_getI hC kc6 25 (by decide) wm_3_171 dX6_getsChannel_10 rfl hc3 ?_
  refine g_pc (pc' := 13) rfl ?_
  refine g_aload_n (r := (some a0)) hC 1 dX6_getsChannel_13 rfl ?_
  obtain ⟨hc4, h⟩ := h
  obtain ⟨b5, eb5, h⟩ := h
  refine g_getA hC kc6 7 (by decide) wm_3_153 dX6_getsChannel_14 rfl hc4 eb5 ?_
  refine g_iload_n hC 2 dX6_getsChannel_17 rfl ?_
  obtain ⟨hc6, h⟩ := h
  refine g_ialdA hC dX6_getsChannel_18 hc6 ?_
  refine g_iand hC dX6_getsChannel_19 ?_
  obtain ⟨x7, ex7⟩ : ∃ w, w = (gI M a0 25) &&& (gI M b5 (Int32.toNatClampNeg p0)) := ⟨_, rfl⟩
  replace h := h x7 ex7
  rw [← ex7]
  refine g_istore_n (lv' := [(3, .int x7), (2, .int x2), (0, .ref a0), (1, .int p0)]) hC dX6_getsChannel_20 (by decide) rfl ?_
  refine g_iload_n hC 0 dX6_getsChannel_21 rfl ?_
  refine g_if_ne hC 26 dX6_getsChannel_22 (by decide) (fun c85 => ?_) (fun c85 => ?_)
  · replace h := h.2 c85
    refine g_pc (pc' := 26) rfl ?_
    refine g_aload_n (r := (some a0)) hC 2 dX6_getsChannel_26 rfl ?_
    obtain ⟨hc8, h⟩ := h
    obtain ⟨b9, eb9, h⟩ := h
    refine g_getA hC kc6 8 (by decide) wm_3_154 dX6_getsChannel_27 rfl hc8 eb9 ?_
    refine g_iload_n hC 1 dX6_getsChannel_30 rfl ?_
    obtain ⟨hc10, h⟩ := h
    refine g_ialdA hC dX6_getsChannel_31 hc10 ?_
    refine g_iconst (v := (-1)) hC dX6_getsChannel_32 (by decide) ?_
    replace h := h (fun (x11 : Int32) => G X 7 M 0 0 41 [(0, .ref a0), (1, .int p0), (2, .int x2), (3, .int x7)] [.int x11]) (by
      intro x11 h
      show G X 7 M 0 0 41 [(0, .ref a0), (1, .int p0), (2, .int x2), (3, .int x7)] [.int x11]
      refine g_istore (lv' := [(4, .int x11), (0, .ref a0), (1, .int p0), (2, .int x2), (3, .int x7)]) hC dX6_getsChannel_41 (by decide) rfl ?_
      refine g_iload hC 0 dX6_getsChannel_43 rfl ?_
      replace h := h (fun (x13 : Int32) => G X 7 M 0 0 66 [(0, .ref a0), (1, .int p0), (2, .int x2), (3, .int x7), (4, .int x11)] [.int x13]) (by
        intro x13 h
        show G X 7 M 0 0 66 [(0, .ref a0), (1, .int p0), (2, .int x2), (3, .int x7), (4, .int x11)] [.int x13]
        refine g_istore (lv' := [(5, .int x13), (0, .ref a0), (1, .int p0), (2, .int x2), (3, .int x7), (4, .int x11)]) hC dX6_getsChannel_66 (by decide) rfl ?_
        refine g_pc (pc' := 68) rfl ?_
        refine g_iload hC 5 dX6_getsChannel_68 rfl ?_
        replace h := h (fun (x15 : Int32) => G X 7 M 0 0 91 [(0, .ref a0), (1, .int p0), (2, .int x2), (3, .int x7), (4, .int x11), (5, .int x13)] [.int x15]) (by
          intro x15 h
          show G X 7 M 0 0 91 [(0, .ref a0), (1, .int p0), (2, .int x2), (3, .int x7), (4, .int x11), (5, .int x13)] [.int x15]
          refine g_istore (lv' := [(6, .int x15), (0, .ref a0), (1, .int p0), (2, .int x2), (3, .int x7), (4, .int x11), (5, .int x13)]) hC dX6_getsChannel_91 (by decide) rfl ?_
          refine g_aload_n (r := (some a0)) hC 1 dX6_getsChannel_93 rfl ?_
          obtain ⟨hc17, h⟩ := h
          obtain ⟨b18, eb18, h⟩ := h
          refine g_getA hC kc6 9 (by decide) wm_3_155 dX6_getsChannel_94 rfl hc17 eb18 ?_
          refine g_iload_n hC 3 dX6_getsChannel_97 rfl ?_
          refine g_iload hC 6 dX6_getsChannel_98 rfl ?_
          replace h := h (fun (x19 : Int32) => G X 7 M 0 0 135 [(0, .ref a0), (1, .int p0), (2, .int x2), (3, .int x7), (4, .int x11), (5, .int x13), (6, .int x15)] [.int x19, .int x2, .ref b18]) (by
            intro x19 h
            show G X 7 M 0 0 135 [(0, .ref a0), (1, .int p0), (2, .int x2), (3, .int x7), (4, .int x11), (5, .int x13), (6, .int x15)] [.int x19, .int x2, .ref b18]
            obtain ⟨hc22, h⟩ := h
            refine g_iastA hC dX6_getsChannel_135 hc22 ?_
            obtain ⟨M21, eM21⟩ : ∃ w, w = sI M b18 (Int32.toNatClampNeg x2) x19 := ⟨_, rfl⟩
            replace h := h M21 eM21
            rw [← eM21]
            refine g_aload_n (r := (some a0)) hC 0 dX6_getsChannel_136 rfl ?_
            obtain ⟨hc23, h⟩ := h
            obtain ⟨b24, eb24, h⟩ := h
            refine g_pc (pc' := 137) rfl ?_
            refine g_getA hC kc6 10 (by decide) wm_3_156 dX6_getsChannel_137 rfl hc23 eb24 ?_
            refine g_iload_n hC 2 dX6_getsChannel_140 rfl ?_
            refine g_iload hC 5 dX6_getsChannel_141 rfl ?_
            replace h := h (fun (x25 : Int32) => G X 7 M21 0 0 178 [(0, .ref a0), (1, .int p0), (2, .int x2), (3, .int x7), (4, .int x11), (5, .int x13), (6, .int x15)] [.int x25, .int x2, .ref b24]) (by
              intro x25 h
              show G X 7 M21 0 0 178 [(0, .ref a0), (1, .int p0), (2, .int x2), (3, .int x7), (4, .int x11), (5, .int x13), (6, .int x15)] [.int x25, .int x2, .ref b24]
              obtain ⟨hc28, h⟩ := h
              refine g_iastA hC dX6_getsChannel_178 hc28 ?_
              obtain ⟨M27, eM27⟩ : ∃ w, w = sI M21 b24 (Int32.toNatClampNeg x2) x25 := ⟨_, rfl⟩
              replace h := h M27 eM27
              rw [← eM27]
              refine g_aload_n (r := (some a0)) hC 0 dX6_getsChannel_179 rfl ?_
              obtain ⟨hc29, h⟩ := h
              obtain ⟨b30, eb30, h⟩ := h
              refine g_getA hC kc6 8 (by decide) wm_3_154 dX6_getsChannel_180 rfl hc29 eb30 ?_
              refine g_iload_n hC 2 dX6_getsChannel_183 rfl ?_
              refine g_iload hC 5 dX6_getsChannel_184 rfl ?_
              replace h := h (fun (x31 : Int32) => G X 7 M27 0 0 202 [(0, .ref a0), (1, .int p0), (2, .int x2), (3, .int x7), (4, .int x11), (5, .int x13), (6, .int x15)] [.int x31, .int x2, .ref b30]) (by
                intro x31 h
                show G X 7 M27 0 0 202 [(0, .ref a0), (1, .int p0), (2, .int x2), (3, .int x7), (4, .int x11), (5, .int x13), (6, .int x15)] [.int x31, .int x2, .ref b30]
                obtain ⟨hc34, h⟩ := h
                refine g_pc (pc' := 202) rfl ?_
                refine g_iastA hC dX6_getsChannel_202 hc34 ?_
                obtain ⟨M33, eM33⟩ : ∃ w, w = sI M27 b30 (Int32.toNatClampNeg x2) x31 := ⟨_, rfl⟩
                replace h := h M33 eM33
                rw [← eM33]
                refine g_aload_n (r := (some a0)) hC 0 dX6_getsChannel_203 rfl ?_
                obtain ⟨hc35, h⟩ := h
                obtain ⟨b36, eb36, h⟩ := h
                refine g_getA hC kc6 11 (by decide) wm_3_157 dX6_getsChannel_204 rfl hc35 eb36 ?_
                refine g_iload_n hC 2 dX6_getsChannel_207 rfl ?_
                refine g_iload hC 4 dX6_getsChannel_208 rfl ?_
                replace h := h (fun (x37 : Int32) => G X 7 M33 0 0 225 [(0, .ref a0), (1, .int p0), (2, .int x2), (3, .int x7), (4, .int x11), (5, .int x13), (6, .int x15)] [.int x37, .int x2, .ref b36]) (by
                  intro x37 h
                  show G X 7 M33 0 0 225 [(0, .ref a0), (1, .int p0), (2, .int x2), (3, .int x7), (4, .int x11), (5, .int x13), (6, .int x15)] [.int x37, .int x2, .ref b36]
                  obtain ⟨hc40, h⟩ := h
                  refine g_iastA hC dX6_getsChannel_225 hc40 ?_
                  obtain ⟨M39, eM39⟩ : ∃ w, w = sI M33 b36 (Int32.toNatClampNeg x2) x37 := ⟨_, rfl⟩
                  replace h := h M39 eM39
                  rw [← eM39]
                  exact hR.1 rfl _ _ _ _ _ dX6_getsChannel_226 ⟨rfl, h⟩)
                refine g_if_eq hC 217 dX6_getsChannel_210 (by decide) (fun c44 => ?_) (fun c44 => ?_)
                · replace h := h.1 c44
                  refine g_aload_n (r := (some a0)) hC 0 dX6_getsChannel_217 rfl ?_
                  obtain ⟨hc41, h⟩ := h
                  obtain ⟨b42, eb42, h⟩ := h
                  refine g_getA hC kc6 11 (by decide) wm_3_157 dX6_getsChannel_218 rfl hc41 eb42 ?_
                  refine g_pc (pc' := 221) rfl ?_
                  refine g_iload_n hC 2 dX6_getsChannel_221 rfl ?_
                  obtain ⟨hc43, h⟩ := h
                  refine g_ialdA hC dX6_getsChannel_222 hc43 ?_
                  refine g_iload_n hC 3 dX6_getsChannel_223 rfl ?_
                  refine g_ior hC dX6_getsChannel_224 ?_
                  exact h
                · replace h := h.2 c44
                  refine g_iload_n hC 3 dX6_getsChannel_213 rfl ?_
                  refine g_goto hC 225 dX6_getsChannel_214 (by decide) ?_
                  exact h)
              refine g_pc (pc' := 186) rfl ?_
              refine g_if_eq hC 196 dX6_getsChannel_186 (by decide) (fun c49 => ?_) (fun c49 => ?_)
              · replace h := h.1 c49
                refine g_aload_n (r := (some a0)) hC 0 dX6_getsChannel_196 rfl ?_
                obtain ⟨hc45, h⟩ := h
                obtain ⟨b46, eb46, h⟩ := h
                refine g_getA hC kc6 8 (by decide) wm_3_154 dX6_getsChannel_197 rfl hc45 eb46 ?_
                refine g_iload_n hC 2 dX6_getsChannel_200 rfl ?_
                obtain ⟨hc47, h⟩ := h
                refine g_ialdA hC dX6_getsChannel_201 hc47 ?_
                exact h
              · replace h := h.2 c49
                refine g_aload_n (r := (some a0)) hC 0 dX6_getsChannel_189 rfl ?_
                obtain ⟨hc48, h⟩ := h
                refine g_getI hC kc6 26 (by decide) wm_3_172 dX6_getsChannel_190 rfl hc48 ?_
                refine g_goto hC 202 dX6_getsChannel_193 (by decide) ?_
                exact h)
            refine g_if_eq hC 153 dX6_getsChannel_143 (by decide) (fun c59 => ?_) (fun c59 => ?_)
            · replace h := h.1 c59
              refine g_iload hC 6 dX6_getsChannel_153 rfl ?_
              refine g_if_eq hC 172 dX6_getsChannel_155 (by decide) (fun c57 => ?_) (fun c57 => ?_)
              · replace h := h.1 c57
                refine g_aload_n (r := (some a0)) hC 0 dX6_getsChannel_172 rfl ?_
                obtain ⟨hc50, h⟩ := h
                obtain ⟨b51, eb51, h⟩ := h
                refine g_getA hC kc6 10 (by decide) wm_3_156 dX6_getsChannel_173 rfl hc50 eb51 ?_
                refine g_pc (pc' := 176) rfl ?_
                refine g_iload_n hC 2 dX6_getsChannel_176 rfl ?_
                obtain ⟨hc52, h⟩ := h
                refine g_ialdA hC dX6_getsChannel_177 hc52 ?_
                exact h
              · replace h := h.2 c57
                refine g_aload_n (r := (some a0)) hC 0 dX6_getsChannel_158 rfl ?_
                obtain ⟨hc53, h⟩ := h
                obtain ⟨b54, eb54, h⟩ := h
                refine g_getA hC kc6 10 (by decide) wm_3_156 dX6_getsChannel_159 rfl hc53 eb54 ?_
                refine g_pc (pc' := 162) rfl ?_
                refine g_iload_n hC 2 dX6_getsChannel_162 rfl ?_
                obtain ⟨hc55, h⟩ := h
                refine g_ialdA hC dX6_getsChannel_163 hc55 ?_
                refine g_aload_n (r := (some a0)) hC 0 dX6_getsChannel_164 rfl ?_
                obtain ⟨hc56, h⟩ := h
                refine g_getI hC kc6 28 (by decide) wm_3_174 dX6_getsChannel_165 rfl hc56 ?_
                refine g_ior hC dX6_getsChannel_168 ?_
                refine g_goto hC 178 dX6_getsChannel_169 (by decide) ?_
                exact h
            · replace h := h.2 c59
              refine g_aload_n (r := (some a0)) hC 0 dX6_getsChannel_146 rfl ?_
              obtain ⟨hc58, h⟩ := h
              refine g_getI hC kc6 28 (by decide) wm_3_174 dX6_getsChannel_147 rfl hc58 ?_
              refine g_goto hC 178 dX6_getsChannel_150 (by decide) ?_
              exact h)
          refine g_if_eq hC 110 dX6_getsChannel_100 (by decide) (fun c69 => ?_) (fun c69 => ?_)
          · replace h := h.1 c69
            refine g_iload hC 0 dX6_getsChannel_110 rfl ?_
            refine g_pc (pc' := 112) rfl ?_
            refine g_if_eq hC 129 dX6_getsChannel_112 (by decide) (fun c67 => ?_) (fun c67 => ?_)
            · replace h := h.1 c67
              refine g_aload_n (r := (some a0)) hC 1 dX6_getsChannel_129 rfl ?_
              obtain ⟨hc60, h⟩ := h
              obtain ⟨b61, eb61, h⟩ := h
              refine g_getA hC kc6 9 (by decide) wm_3_155 dX6_getsChannel_130 rfl hc60 eb61 ?_
              refine g_iload_n hC 3 dX6_getsChannel_133 rfl ?_
              obtain ⟨hc62, h⟩ := h
              refine g_ialdA hC dX6_getsChannel_134 hc62 ?_
              refine g_sub [1, 2, 3, 4, 5, 6, 0] (lv' := [(0, .ref a0), (1, .int p0), (2, .int x2), (3, .int x7), (4, .int x11), (5, .int x13), (6, .int x15)]) rfl ?_
              exact h
            · replace h := h.2 c67
              refine g_aload_n (r := (some a0)) hC 1 dX6_getsChannel_115 rfl ?_
              obtain ⟨hc63, h⟩ := h
              obtain ⟨b64, eb64, h⟩ := h
              refine g_getA hC kc6 9 (by decide) wm_3_155 dX6_getsChannel_116 rfl hc63 eb64 ?_
              refine g_iload_n hC 3 dX6_getsChannel_119 rfl ?_
              obtain ⟨hc65, h⟩ := h
              refine g_ialdA hC dX6_getsChannel_120 hc65 ?_
              refine g_aload_n (r := (some a0)) hC 1 dX6_getsChannel_121 rfl ?_
              obtain ⟨hc66, h⟩ := h
              refine g_getI hC kc6 27 (by decide) wm_3_173 dX6_getsChannel_122 rfl hc66 ?_
              refine g_ior hC dX6_getsChannel_125 ?_
              refine g_pc (pc' := 126) rfl ?_
              refine g_goto hC 135 dX6_getsChannel_126 (by decide) ?_
              refine g_sub [1, 2, 3, 4, 5, 6, 0] (lv' := [(0, .ref a0), (1, .int p0), (2, .int x2), (3, .int x7), (4, .int x11), (5, .int x13), (6, .int x15)]) rfl ?_
              exact h
          · replace h := h.2 c69
            refine g_aload_n (r := (some a0)) hC 1 dX6_getsChannel_103 rfl ?_
            obtain ⟨hc68, h⟩ := h
            refine g_pc (pc' := 104) rfl ?_
            refine g_getI hC kc6 27 (by decide) wm_3_173 dX6_getsChannel_104 rfl hc68 ?_
            refine g_goto hC 135 dX6_getsChannel_107 (by decide) ?_
            refine g_sub [1, 2, 3, 4, 5, 6, 0] (lv' := [(0, .ref a0), (1, .int p0), (2, .int x2), (3, .int x7), (4, .int x11), (5, .int x13), (6, .int x15)]) rfl ?_
            exact h)
        replace h := h (G X 7 M 0 0 90 [(0, .ref a0), (1, .int p0), (2, .int x2), (3, .int x7), (4, .int x11), (5, .int x13)] []) (by
          intro h
          refine g_iconst (v := 0) hC dX6_getsChannel_90 (by decide) ?_
          exact h)
        refine g_if_ne hC 90 dX6_getsChannel_70 (by decide) (fun c76 => ?_) (fun c76 => ?_)
        · replace h := h.2 c76
          refine g_sub [1, 2, 3, 4, 5, 0] (lv' := [(0, .ref a0), (1, .int p0), (2, .int x2), (3, .int x7), (4, .int x11), (5, .int x13)]) rfl ?_
          exact h
        · replace h := h.1 c76
          refine g_aload_n (r := (some a0)) hC 1 dX6_getsChannel_73 rfl ?_
          obtain ⟨hc71, h⟩ := h
          refine g_getI hC kc6 26 (by decide) wm_3_172 dX6_getsChannel_74 rfl hc71 ?_
          refine g_aload_n (r := (some a0)) hC 1 dX6_getsChannel_77 rfl ?_
          obtain ⟨hc72, h⟩ := h
          obtain ⟨b73, eb73, h⟩ := h
          refine g_getA hC kc6 8 (by decide) wm_3_154 dX6_getsChannel_78 rfl hc72 eb73 ?_
          refine g_iload_n hC 3 dX6_getsChannel_81 rfl ?_
          obtain ⟨hc74, h⟩ := h
          refine g_ialdA hC dX6_getsChannel_82 hc74 ?_
          refine g_pc (pc' := 83) rfl ?_
          refine g_icmp_ne hC 90 dX6_getsChannel_83 (by decide) (fun c75 => ?_) (fun c75 => ?_)
          · replace h := h.2 c75
            refine g_sub [1, 2, 3, 4, 5, 0] (lv' := [(0, .ref a0), (1, .int p0), (2, .int x2), (3, .int x7), (4, .int x11), (5, .int x13)]) rfl ?_
            exact h
          · replace h := h.1 c75
            refine g_iconst (v := 1) hC dX6_getsChannel_86 (by decide) ?_
            refine g_goto hC 91 dX6_getsChannel_87 (by decide) ?_
            refine g_sub [1, 2, 3, 4, 5, 0] (lv' := [(0, .ref a0), (1, .int p0), (2, .int x2), (3, .int x7), (4, .int x11), (5, .int x13)]) rfl ?_
            exact h)
      replace h := h (G X 7 M 0 0 61 [(0, .ref a0), (1, .int p0), (2, .int x2), (3, .int x7), (4, .int x11)] []) (by
        intro h
        refine g_iconst (v := 1) hC dX6_getsChannel_61 (by decide) ?_
        refine g_pc (pc' := 62) rfl ?_
        refine g_goto hC 66 dX6_getsChannel_62 (by decide) ?_
        exact h)
      refine g_if_ne hC 61 dX6_getsChannel_45 (by decide) (fun c83 => ?_) (fun c83 => ?_)
      · replace h := h.2 c83
        refine g_sub [1, 2, 3, 4, 0] (lv' := [(0, .ref a0), (1, .int p0), (2, .int x2), (3, .int x7), (4, .int x11)]) rfl ?_
        exact h
      · replace h := h.1 c83
        refine g_pc (pc' := 48) rfl ?_
        refine g_aload_n (r := (some a0)) hC 1 dX6_getsChannel_48 rfl ?_
        obtain ⟨hc78, h⟩ := h
        refine g_getI hC kc6 26 (by decide) wm_3_172 dX6_getsChannel_49 rfl hc78 ?_
        refine g_aload_n (r := (some a0)) hC 1 dX6_getsChannel_52 rfl ?_
        obtain ⟨hc79, h⟩ := h
        obtain ⟨b80, eb80, h⟩ := h
        refine g_getA hC kc6 8 (by decide) wm_3_154 dX6_getsChannel_53 rfl hc79 eb80 ?_
        refine g_iload_n hC 3 dX6_getsChannel_56 rfl ?_
        obtain ⟨hc81, h⟩ := h
        refine g_ialdA hC dX6_getsChannel_57 hc81 ?_
        refine g_icmp_ge hC 65 dX6_getsChannel_58 (by decide) (fun c82 => ?_) (fun c82 => ?_)
        · replace h := h.1 c82
          refine g_iconst (v := 0) hC dX6_getsChannel_65 (by decide) ?_
          refine g_sub [1, 2, 3, 4, 0] (lv' := [(0, .ref a0), (1, .int p0), (2, .int x2), (3, .int x7), (4, .int x11)]) rfl ?_
          exact h
        · replace h := h.2 c82
          refine g_sub [1, 2, 3, 4, 0] (lv' := [(0, .ref a0), (1, .int p0), (2, .int x2), (3, .int x7), (4, .int x11)]) rfl ?_
          exact h)
    refine g_icmp_ne hC 40 dX6_getsChannel_33 (by decide) (fun c84 => ?_) (fun c84 => ?_)
    · replace h := h.2 c84
      refine g_iconst (v := 0) hC dX6_getsChannel_40 (by decide) ?_
      refine g_sub [2, 3, 1, 0] (lv' := [(0, .ref a0), (1, .int p0), (2, .int x2), (3, .int x7)]) rfl ?_
      exact h
    · replace h := h.1 c84
      refine g_iconst (v := 1) hC dX6_getsChannel_36 (by decide) ?_
      refine g_goto hC 41 dX6_getsChannel_37 (by decide) ?_
      refine g_sub [2, 3, 1, 0] (lv' := [(0, .ref a0), (1, .int p0), (2, .int x2), (3, .int x7)]) rfl ?_
      exact h
  · replace h := h.1 c85
    refine g_pc (pc' := 25) rfl ?_
    exact hR.1 rfl _ _ _ _ _ dX6_getsChannel_25 ⟨rfl, h⟩

def w_X6_gets (M : Mem) (a0 : Nat) (p0 : Int32) (p1 : Int32) (post : Mem → Prop) : Prop :=
  gT M a0 = some (6, 0) ∧ ∀ J3 : Mem → Prop, (∀ (M2 : Mem), (post M2) → J3 M2) → ((gI M a0 23 = 0 → gT M a0 = some (6, 0) ∧ w_X6_getsUser M a0 p0 p1 (fun M70 => J3 M70)) ∧ (¬ (gI M a0 23 = 0) → gT M a0 = some (6, 0) ∧ (gI M a0 23 = 1 → gT M a0 = some (6, 0) ∧ ∃ b58, gR M a0 7 = some b58 ∧ inA M b58 10 p0 ∧ gT M a0 = some (6, 0) ∧ w_X6_has M (gI M b58 (Int32.toNatClampNeg p0)) (gI M a0 24) (fun x61 => (x61 = 0 → J3 M) ∧ (¬ (x61 = 0) → gT M a0 = some (6, 0) ∧ gT M a0 = some (6, 0) ∧ w_X6_quits M a0 p0 (gI M a0 24) (fun M64 => gT M64 a0 = some (6, 0) ∧ w_X6_sends M64 a0 p0 p1 (fun M66 => J3 M66))))) ∧ (¬ (gI M a0 23 = 1) → gT M a0 = some (6, 0) ∧ ∀ J7 : Mem → Prop, (∀ (M6 : Mem), (gT M6 a0 = some (6, 0) ∧ w_X6_sends M6 a0 p0 p1 (fun M9 => J3 M9)) → J7 M6) → ((gI M a0 23 = 2 → gT M a0 = some (6, 0) ∧ w_X6_getsChannel M a0 p0 (fun M55 => J7 M55)) ∧ (¬ (gI M a0 23 = 2) → gT M a0 = some (6, 0) ∧ ∀ J11 : Prop, ((gT M a0 = some (6, 0) ∧ (gI M a0 23 = 4 → gT M a0 = some (6, 0) ∧ ∃ b14, gR M a0 8 = some b14 ∧ gT M a0 = some (6, 0) ∧ w_X6_at M p0 (gI M a0 24) (fun x16 => inA M b14 10 x16 ∧ gT M a0 = some (6, 0) ∧ (gI M b14 (Int32.toNatClampNeg x16) = gI M a0 26 → gT M a0 = some (6, 0) ∧ ∃ b20, gR M a0 9 = some b20 ∧ gT M a0 = some (6, 0) ∧ w_X6_at M p0 (gI M a0 24) (fun x22 => gT M a0 = some (6, 0) ∧ inA M b20 10 x22 ∧ ∀ M24, M24 = sI M b20 (Int32.toNatClampNeg x22) (gI M a0 27) → gT M24 a0 = some (6, 0) ∧ ∃ b27, gR M24 a0 10 = some b27 ∧ gT M24 a0 = some (6, 0) ∧ w_X6_at M24 p0 (gI M24 a0 24) (fun x29 => gT M24 a0 = some (6, 0) ∧ inA M24 b27 10 x29 ∧ ∀ M31, M31 = sI M24 b27 (Int32.toNatClampNeg x29) (gI M24 a0 28) → J7 M31))) ∧ (¬ (gI M b14 (Int32.toNatClampNeg x16) = gI M a0 26) → J7 M))) ∧ (¬ (gI M a0 23 = 4) → J7 M)) → J11) → ((gI M a0 23 = 3 → gT M a0 = some (6, 0) ∧ ∃ b36, gR M a0 11 = some b36 ∧ gT M a0 = some (6, 0) ∧ w_X6_at M p0 (gI M a0 24) (fun x38 => inA M b36 10 x38 ∧ gT M a0 = some (6, 0) ∧ w_X6_has M (gI M b36 (Int32.toNatClampNeg x38)) (gI M a0 25) (fun x41 => (x41 = 0 → J11) ∧ (¬ (x41 = 0) → gT M a0 = some (6, 0) ∧ ∃ b43, gR M a0 8 = some b43 ∧ gT M a0 = some (6, 0) ∧ w_X6_at M p0 (gI M a0 24) (fun x45 => inA M b43 10 x45 ∧ (gI M b43 (Int32.toNatClampNeg x45) = (-1) → J11) ∧ (¬ (gI M b43 (Int32.toNatClampNeg x45) = (-1)) → gT M a0 = some (6, 0) ∧ gT M a0 = some (6, 0) ∧ gT M a0 = some (6, 0) ∧ w_X6_leaves M a0 p0 (gI M a0 24) (gI M a0 25) (fun M50 => J7 M50))))))) ∧ (¬ (gI M a0 23 = 3) → J11)))))))
set_option maxRecDepth 100000 in
set_option maxHeartbeats 8000000 in
theorem s_X6_gets (l : Launch) (D : va_G) (dA : Nat → ClassId) (htr : l.stackTraces = false) (M : Mem) (a0 : Nat) (p0 : Int32) (p1 : Int32) (post : Mem → Prop) (h : w_X6_gets M a0 p0 p1 post) : CtN l D dA yX6_gets cX6_gets 3 (none) 5 [.ref a0, .int p0, .int p1] M 0 0 (pV post) := by
  refine ct_ofN htr (by decide) (Nat.le_of_ble_eq_true rfl) ?_
  intro X hC hN hR
  show G X 3 M 0 0 0 [(0, .ref a0), (1, .int p0), (2, .int p1)] []
  unfold w_X6_gets at h
  refine g_aload_n (r := (some a0)) hC 0 dX6_gets_0 rfl ?_
  obtain ⟨hc1, h⟩ := h
  refine g_getI hC kc6 23 (by decide) wm_3_169 dX6_gets_1 rfl hc1 ?_
  replace h := h (fun (M2 : Mem) => G X 3 M2 0 0 206 [(0, .ref a0), (1, .int p0), (2, .int p1)] []) (by
    intro M2 h
    show G X 3 M2 0 0 206 [(0, .ref a0), (1, .int p0), (2, .int p1)] []
    exact hR.1 rfl _ _ _ _ _ dX6_gets_206 ⟨rfl, h⟩)
  refine g_if_ne hC 16 dX6_gets_4 (by decide) (fun c71 => ?_) (fun c71 => ?_)
  · replace h := h.2 c71
    refine g_aload_n (r := (some a0)) hC 0 dX6_gets_16 rfl ?_
    obtain ⟨hc4, h⟩ := h
    refine g_getI hC kc6 23 (by decide) wm_3_169 dX6_gets_17 rfl hc4 ?_
    refine g_iconst (v := 1) hC dX6_gets_20 (by decide) ?_
    refine g_icmp_ne hC 58 dX6_gets_21 (by decide) (fun c68 => ?_) (fun c68 => ?_)
    · replace h := h.2 c68
      refine g_pc (pc' := 58) rfl ?_
      refine g_aload_n (r := (some a0)) hC 0 dX6_gets_58 rfl ?_
      obtain ⟨hc5, h⟩ := h
      refine g_getI hC kc6 23 (by decide) wm_3_169 dX6_gets_59 rfl hc5 ?_
      refine g_iconst (v := 2) hC dX6_gets_62 (by decide) ?_
      replace h := h (fun (M6 : Mem) => G X 3 M6 0 0 200 [(0, .ref a0), (1, .int p0), (2, .int p1)] []) (by
        intro M6 h
        show G X 3 M6 0 0 200 [(0, .ref a0), (1, .int p0), (2, .int p1)] []
        refine g_aload_n (r := (some a0)) hC 0 dX6_gets_200 rfl ?_
        refine g_iload_n hC 1 dX6_gets_201 rfl ?_
        refine g_iload_n hC 2 dX6_gets_202 rfl ?_
        obtain ⟨hc8, h⟩ := h
        refine g_callV hC (As := [.int p0, .int p1]) (fun l D dA ht => s_X6_sends l D dA ht _ _ _ _ _ h) wm_4_82 wm_4_79 wm_4_81 wm_0_31 wm_1_7 (by decide +kernel : plainY yX6_sends 2) kc6.1 kc6.2.1 dX6_gets_203 (by decide) (Nat.le_of_ble_eq_true rfl) hc8 (Or.inl ⟨rfl, rfl⟩) ?_
        intro M9 v9 h
        obtain ⟨rfl, h⟩ := h
        generalize M9 = M9 at h ⊢
        show G X 3 M9 0 0 206 [(0, .ref a0), (1, .int p0), (2, .int p1)] []
        exact h)
      refine g_icmp_ne hC 74 dX6_gets_63 (by decide) (fun c56 => ?_) (fun c56 => ?_)
      · replace h := h.2 c56
        refine g_aload_n (r := (some a0)) hC 0 dX6_gets_74 rfl ?_
        obtain ⟨hc10, h⟩ := h
        refine g_getI hC kc6 23 (by decide) wm_3_169 dX6_gets_75 rfl hc10 ?_
        refine g_iconst (v := 3) hC dX6_gets_78 (by decide) ?_
        replace h := h (G X 3 M 0 0 138 [(0, .ref a0), (1, .int p0), (2, .int p1)] []) (by
          intro h
          refine g_aload_n (r := (some a0)) hC 0 dX6_gets_138 rfl ?_
          obtain ⟨hc12, h⟩ := h
          refine g_pc (pc' := 139) rfl ?_
          refine g_getI hC kc6 23 (by decide) wm_3_169 dX6_gets_139 rfl hc12 ?_
          refine g_iconst (v := 4) hC dX6_gets_142 (by decide) ?_
          refine g_icmp_ne hC 200 dX6_gets_143 (by decide) (fun c34 => ?_) (fun c34 => ?_)
          · replace h := h.2 c34
            exact h
          · replace h := h.1 c34
            refine g_aload_n (r := (some a0)) hC 0 dX6_gets_146 rfl ?_
            obtain ⟨hc13, h⟩ := h
            obtain ⟨b14, eb14, h⟩ := h
            refine g_getA hC kc6 8 (by decide) wm_3_154 dX6_gets_147 rfl hc13 eb14 ?_
            refine g_iload_n hC 1 dX6_gets_150 rfl ?_
            refine g_aload_n (r := (some a0)) hC 0 dX6_gets_151 rfl ?_
            obtain ⟨hc15, h⟩ := h
            refine g_getI hC kc6 24 (by decide) wm_3_170 dX6_gets_152 rfl hc15 ?_
            refine g_pc (pc' := 155) rfl ?_
            refine g_callS hC (As := [.int p0, .int (gI M a0 24)]) (fun l D dA ht => s_X6_at l D dA ht _ _ _ _ h) wm_4_30 wm_4_28 wm_4_29 wm_1_7 (by decide +kernel : plainY yX6_at 2) dX6_gets_155 (by decide) (Nat.le_of_ble_eq_true rfl) (Or.inl ⟨rfl, rfl⟩) ?_
            intro M9 v9 h
            obtain ⟨x16, rfl, h⟩ := h
            obtain ⟨hM9, h⟩ := h
            rw [hM9]
            show G X 3 M 0 0 158 [(0, .ref a0), (1, .int p0), (2, .int p1)] [.int x16, .ref b14]
            obtain ⟨hc17, h⟩ := h
            refine g_ialdA hC dX6_gets_158 hc17 ?_
            refine g_aload_n (r := (some a0)) hC 0 dX6_gets_159 rfl ?_
            obtain ⟨hc18, h⟩ := h
            refine g_getI hC kc6 26 (by decide) wm_3_172 dX6_gets_160 rfl hc18 ?_
            refine g_icmp_ne hC 200 dX6_gets_163 (by decide) (fun c33 => ?_) (fun c33 => ?_)
            · replace h := h.2 c33
              exact h
            · replace h := h.1 c33
              refine g_aload_n (r := (some a0)) hC 0 dX6_gets_166 rfl ?_
              obtain ⟨hc19, h⟩ := h
              obtain ⟨b20, eb20, h⟩ := h
              refine g_getA hC kc6 9 (by decide) wm_3_155 dX6_gets_167 rfl hc19 eb20 ?_
              refine g_iload_n hC 1 dX6_gets_170 rfl ?_
              refine g_pc (pc' := 171) rfl ?_
              refine g_aload_n (r := (some a0)) hC 0 dX6_gets_171 rfl ?_
              obtain ⟨hc21, h⟩ := h
              refine g_getI hC kc6 24 (by decide) wm_3_170 dX6_gets_172 rfl hc21 ?_
              refine g_callS hC (As := [.int p0, .int (gI M a0 24)]) (fun l D dA ht => s_X6_at l D dA ht _ _ _ _ h) wm_4_30 wm_4_28 wm_4_29 wm_1_7 (by decide +kernel : plainY yX6_at 2) dX6_gets_175 (by decide) (Nat.le_of_ble_eq_true rfl) (Or.inl ⟨rfl, rfl⟩) ?_
              intro M9 v9 h
              obtain ⟨x22, rfl, h⟩ := h
              obtain ⟨hM9, h⟩ := h
              rw [hM9]
              show G X 3 M 0 0 178 [(0, .ref a0), (1, .int p0), (2, .int p1)] [.int x22, .ref b20]
              refine g_aload_n (r := (some a0)) hC 0 dX6_gets_178 rfl ?_
              obtain ⟨hc23, h⟩ := h
              refine g_getI hC kc6 27 (by decide) wm_3_173 dX6_gets_179 rfl hc23 ?_
              obtain ⟨hc25, h⟩ := h
              refine g_iastA hC dX6_gets_182 hc25 ?_
              obtain ⟨M24, eM24⟩ : ∃ w, w = sI M b20 (Int32.toNatClampNeg x22) (gI M a0 27) := ⟨_, rfl⟩
              replace h := h M24 eM24
              rw [← eM24]
              refine g_aload_n (r := (some a0)) hC 0 dX6_gets_183 rfl ?_
              obtain ⟨hc26, h⟩ := h
              obtain ⟨b27, eb27, h⟩ := h
              refine g_getA hC kc6 10 (by decide) wm_3_156 dX6_gets_184 rfl hc26 eb27 ?_
              refine g_pc (pc' := 187) rfl ?_
              refine g_iload_n hC 1 dX6_gets_187 rfl ?_
              refine g_aload_n (r := (some a0)) hC 0 dX6_gets_188 rfl ?_
              obtain ⟨hc28, h⟩ := h
              refine g_getI hC kc6 24 (by decide) wm_3_170 dX6_gets_189 rfl hc28 ?_
              refine g_callS hC (As := [.int p0, .int (gI M24 a0 24)]) (fun l D dA ht => s_X6_at l D dA ht _ _ _ _ h) wm_4_30 wm_4_28 wm_4_29 wm_1_7 (by decide +kernel : plainY yX6_at 2) dX6_gets_192 (by decide) (Nat.le_of_ble_eq_true rfl) (Or.inl ⟨rfl, rfl⟩) ?_
              intro M9 v9 h
              obtain ⟨x29, rfl, h⟩ := h
              obtain ⟨hM9, h⟩ := h
              rw [hM9]
              show G X 3 M24 0 0 195 [(0, .ref a0), (1, .int p0), (2, .int p1)] [.int x29, .ref b27]
              refine g_aload_n (r := (some a0)) hC 0 dX6_gets_195 rfl ?_
              obtain ⟨hc30, h⟩ := h
              refine g_getI hC kc6 28 (by decide) wm_3_174 dX6_gets_196 rfl hc30 ?_
              obtain ⟨hc32, h⟩ := h
              refine g_iastA hC dX6_gets_199 hc32 ?_
              obtain ⟨M31, eM31⟩ : ∃ w, w = sI M24 b27 (Int32.toNatClampNeg x29) (gI M24 a0 28) := ⟨_, rfl⟩
              replace h := h M31 eM31
              rw [← eM31]
              exact h)
        refine g_icmp_ne hC 138 dX6_gets_79 (by decide) (fun c53 => ?_) (fun c53 => ?_)
        · replace h := h.2 c53
          exact h
        · replace h := h.1 c53
          refine g_pc (pc' := 82) rfl ?_
          refine g_aload_n (r := (some a0)) hC 0 dX6_gets_82 rfl ?_
          obtain ⟨hc35, h⟩ := h
          obtain ⟨b36, eb36, h⟩ := h
          refine g_getA hC kc6 11 (by decide) wm_3_157 dX6_gets_83 rfl hc35 eb36 ?_
          refine g_iload_n hC 1 dX6_gets_86 rfl ?_
          refine g_aload_n (r := (some a0)) hC 0 dX6_gets_87 rfl ?_
          obtain ⟨hc37, h⟩ := h
          refine g_getI hC kc6 24 (by decide) wm_3_170 dX6_gets_88 rfl hc37 ?_
          refine g_callS hC (As := [.int p0, .int (gI M a0 24)]) (fun l D dA ht => s_X6_at l D dA ht _ _ _ _ h) wm_4_30 wm_4_28 wm_4_29 wm_1_7 (by decide +kernel : plainY yX6_at 2) dX6_gets_91 (by decide) (Nat.le_of_ble_eq_true rfl) (Or.inl ⟨rfl, rfl⟩) ?_
          intro M9 v9 h
          obtain ⟨x38, rfl, h⟩ := h
          obtain ⟨hM9, h⟩ := h
          rw [hM9]
          show G X 3 M 0 0 94 [(0, .ref a0), (1, .int p0), (2, .int p1)] [.int x38, .ref b36]
          obtain ⟨hc39, h⟩ := h
          refine g_ialdA hC dX6_gets_94 hc39 ?_
          refine g_aload_n (r := (some a0)) hC 0 dX6_gets_95 rfl ?_
          obtain ⟨hc40, h⟩ := h
          refine g_pc (pc' := 96) rfl ?_
          refine g_getI hC kc6 25 (by decide) wm_3_171 dX6_gets_96 rfl hc40 ?_
          refine g_callS hC (As := [.int (gI M b36 (Int32.toNatClampNeg x38)), .int (gI M a0 25)]) (fun l D dA ht => s_X6_has l D dA ht _ _ _ _ h) wm_4_11 wm_4_9 wm_4_10 wm_1_7 (by decide +kernel : plainY yX6_has 2) dX6_gets_99 (by decide) (Nat.le_of_ble_eq_true rfl) (Or.inl ⟨rfl, rfl⟩) ?_
          intro M9 v9 h
          obtain ⟨x41, rfl, h⟩ := h
          obtain ⟨hM9, h⟩ := h
          rw [hM9]
          show G X 3 M 0 0 102 [(0, .ref a0), (1, .int p0), (2, .int p1)] [.int x41]
          refine g_if_eq hC 138 dX6_gets_102 (by decide) (fun c52 => ?_) (fun c52 => ?_)
          · replace h := h.1 c52
            exact h
          · replace h := h.2 c52
            refine g_aload_n (r := (some a0)) hC 0 dX6_gets_105 rfl ?_
            obtain ⟨hc42, h⟩ := h
            obtain ⟨b43, eb43, h⟩ := h
            refine g_getA hC kc6 8 (by decide) wm_3_154 dX6_gets_106 rfl hc42 eb43 ?_
            refine g_iload_n hC 1 dX6_gets_109 rfl ?_
            refine g_aload_n (r := (some a0)) hC 0 dX6_gets_110 rfl ?_
            obtain ⟨hc44, h⟩ := h
            refine g_getI hC kc6 24 (by decide) wm_3_170 dX6_gets_111 rfl hc44 ?_
            refine g_pc (pc' := 114) rfl ?_
            refine g_callS hC (As := [.int p0, .int (gI M a0 24)]) (fun l D dA ht => s_X6_at l D dA ht _ _ _ _ h) wm_4_30 wm_4_28 wm_4_29 wm_1_7 (by decide +kernel : plainY yX6_at 2) dX6_gets_114 (by decide) (Nat.le_of_ble_eq_true rfl) (Or.inl ⟨rfl, rfl⟩) ?_
            intro M9 v9 h
            obtain ⟨x45, rfl, h⟩ := h
            obtain ⟨hM9, h⟩ := h
            rw [hM9]
            show G X 3 M 0 0 117 [(0, .ref a0), (1, .int p0), (2, .int p1)] [.int x45, .ref b43]
            obtain ⟨hc46, h⟩ := h
            refine g_ialdA hC dX6_gets_117 hc46 ?_
            refine g_iconst (v := (-1)) hC dX6_gets_118 (by decide) ?_
            refine g_icmp_eq hC 138 dX6_gets_119 (by decide) (fun c51 => ?_) (fun c51 => ?_)
            · replace h := h.1 c51
              exact h
            · replace h := h.2 c51
              refine g_aload_n (r := (some a0)) hC 0 dX6_gets_122 rfl ?_
              refine g_iload_n hC 1 dX6_gets_123 rfl ?_
              refine g_aload_n (r := (some a0)) hC 0 dX6_gets_124 rfl ?_
              obtain ⟨hc47, h⟩ := h
              refine g_getI hC kc6 24 (by decide) wm_3_170 dX6_gets_125 rfl hc47 ?_
              refine g_pc (pc' := 128) rfl ?_
              refine g_aload_n (r := (some a0)) hC 0 dX6_gets_128 rfl ?_
              obtain ⟨hc48, h⟩ := h
              refine g_getI hC kc6 25 (by decide) wm_3_171 dX6_gets_129 rfl hc48 ?_
              obtain ⟨hc49, h⟩ := h
              refine g_callV hC (As := [.int p0, .int (gI M a0 24), .int (gI M a0 25)]) (fun l D dA ht => s_X6_leaves l D dA ht _ _ _ _ _ _ h) wm_4_54 wm_4_51 wm_4_53 wm_0_25 wm_1_7 (by decide +kernel : plainY yX6_leaves 3) kc6.1 kc6.2.1 dX6_gets_132 (by decide) (Nat.le_of_ble_eq_true rfl) hc49 (Or.inl ⟨rfl, rfl⟩) ?_
              intro M9 v9 h
              obtain ⟨rfl, h⟩ := h
              generalize M9 = M50 at h ⊢
              show G X 3 M50 0 0 135 [(0, .ref a0), (1, .int p0), (2, .int p1)] []
              refine g_goto hC 200 dX6_gets_135 (by decide) ?_
              exact h
      · replace h := h.1 c56
        refine g_aload_n (r := (some a0)) hC 0 dX6_gets_66 rfl ?_
        refine g_iload_n hC 1 dX6_gets_67 rfl ?_
        obtain ⟨hc54, h⟩ := h
        refine g_callV hC (As := [.int p0]) (fun l D dA ht => s_X6_getsChannel l D dA ht _ _ _ _ h) wm_4_86 wm_4_83 wm_4_85 wm_0_32 wm_1_7 (by decide +kernel : plainY yX6_getsChannel 1) kc6.1 kc6.2.1 dX6_gets_68 (by decide) (Nat.le_of_ble_eq_true rfl) hc54 (Or.inl ⟨rfl, rfl⟩) ?_
        intro M9 v9 h
        obtain ⟨rfl, h⟩ := h
        generalize M9 = M55 at h ⊢
        show G X 3 M55 0 0 71 [(0, .ref a0), (1, .int p0), (2, .int p1)] []
        refine g_goto hC 200 dX6_gets_71 (by decide) ?_
        exact h
    · replace h := h.1 c68
      refine g_pc (pc' := 24) rfl ?_
      refine g_aload_n (r := (some a0)) hC 0 dX6_gets_24 rfl ?_
      obtain ⟨hc57, h⟩ := h
      obtain ⟨b58, eb58, h⟩ := h
      refine g_getA hC kc6 7 (by decide) wm_3_153 dX6_gets_25 rfl hc57 eb58 ?_
      refine g_iload_n hC 1 dX6_gets_28 rfl ?_
      obtain ⟨hc59, h⟩ := h
      refine g_ialdA hC dX6_gets_29 hc59 ?_
      refine g_aload_n (r := (some a0)) hC 0 dX6_gets_30 rfl ?_
      obtain ⟨hc60, h⟩ := h
      refine g_getI hC kc6 24 (by decide) wm_3_170 dX6_gets_31 rfl hc60 ?_
      refine g_callS hC (As := [.int (gI M b58 (Int32.toNatClampNeg p0)), .int (gI M a0 24)]) (fun l D dA ht => s_X6_has l D dA ht _ _ _ _ h) wm_4_11 wm_4_9 wm_4_10 wm_1_7 (by decide +kernel : plainY yX6_has 2) dX6_gets_34 (by decide) (Nat.le_of_ble_eq_true rfl) (Or.inl ⟨rfl, rfl⟩) ?_
      intro M9 v9 h
      obtain ⟨x61, rfl, h⟩ := h
      obtain ⟨hM9, h⟩ := h
      rw [hM9]
      show G X 3 M 0 0 37 [(0, .ref a0), (1, .int p0), (2, .int p1)] [.int x61]
      refine g_if_eq hC 206 dX6_gets_37 (by decide) (fun c67 => ?_) (fun c67 => ?_)
      · replace h := h.1 c67
        exact h
      · replace h := h.2 c67
        refine g_pc (pc' := 40) rfl ?_
        refine g_aload_n (r := (some a0)) hC 0 dX6_gets_40 rfl ?_
        refine g_iload_n hC 1 dX6_gets_41 rfl ?_
        refine g_aload_n (r := (some a0)) hC 0 dX6_gets_42 rfl ?_
        obtain ⟨hc62, h⟩ := h
        refine g_getI hC kc6 24 (by decide) wm_3_170 dX6_gets_43 rfl hc62 ?_
        obtain ⟨hc63, h⟩ := h
        refine g_callV hC (As := [.int p0, .int (gI M a0 24)]) (fun l D dA ht => s_X6_quits l D dA ht _ _ _ _ _ h) wm_4_50 wm_4_47 wm_4_49 wm_0_24 wm_1_7 (by decide +kernel : plainY yX6_quits 2) kc6.1 kc6.2.1 dX6_gets_46 (by decide) (Nat.le_of_ble_eq_true rfl) hc63 (Or.inl ⟨rfl, rfl⟩) ?_
        intro M9 v9 h
        obtain ⟨rfl, h⟩ := h
        generalize M9 = M64 at h ⊢
        show G X 3 M64 0 0 49 [(0, .ref a0), (1, .int p0), (2, .int p1)] []
        refine g_aload_n (r := (some a0)) hC 0 dX6_gets_49 rfl ?_
        refine g_iload_n hC 1 dX6_gets_50 rfl ?_
        refine g_iload_n hC 2 dX6_gets_51 rfl ?_
        refine g_pc (pc' := 52) rfl ?_
        obtain ⟨hc65, h⟩ := h
        refine g_callV hC (As := [.int p0, .int p1]) (fun l D dA ht => s_X6_sends l D dA ht _ _ _ _ _ h) wm_4_82 wm_4_79 wm_4_81 wm_0_31 wm_1_7 (by decide +kernel : plainY yX6_sends 2) kc6.1 kc6.2.1 dX6_gets_52 (by decide) (Nat.le_of_ble_eq_true rfl) hc65 (Or.inl ⟨rfl, rfl⟩) ?_
        intro M9 v9 h
        obtain ⟨rfl, h⟩ := h
        generalize M9 = M66 at h ⊢
        show G X 3 M66 0 0 55 [(0, .ref a0), (1, .int p0), (2, .int p1)] []
        refine g_goto hC 206 dX6_gets_55 (by decide) ?_
        exact h
  · replace h := h.1 c71
    refine g_aload_n (r := (some a0)) hC 0 dX6_gets_7 rfl ?_
    refine g_iload_n hC 1 dX6_gets_8 rfl ?_
    refine g_iload_n hC 2 dX6_gets_9 rfl ?_
    obtain ⟨hc69, h⟩ := h
    refine g_callV hC (As := [.int p0, .int p1]) (fun l D dA ht => s_X6_getsUser l D dA ht _ _ _ _ _ h) wm_4_74 wm_4_71 wm_4_73 wm_0_29 wm_1_7 (by decide +kernel : plainY yX6_getsUser 2) kc6.1 kc6.2.1 dX6_gets_10 (by decide) (Nat.le_of_ble_eq_true rfl) hc69 (Or.inl ⟨rfl, rfl⟩) ?_
    intro M9 v9 h
    obtain ⟨rfl, h⟩ := h
    generalize M9 = M70 at h ⊢
    show G X 3 M70 0 0 13 [(0, .ref a0), (1, .int p0), (2, .int p1)] []
    refine g_pc (pc' := 13) rfl ?_
    refine g_goto hC 206 dX6_gets_13 (by decide) ?_
    exact h

def w_X6_bursts (M : Mem) (a0 : Nat) (p0 : Int32) (p1 : Int32) (post : Mem → Prop) : Prop :=
  Lp (fun (K3 : Int32 × Mem → Prop) (z : Int32 × Mem) => ∀ (x1 : Int32) (M2 : Mem), z = (x1, M2) → (gT M2 a0 = some (6, 0) ∧ ((gI M2 a0 2) ≤ x1 → Lp (fun (K7 : Int32 × Mem → Prop) (z : Int32 × Mem) => ∀ (x5 : Int32) (M6 : Mem), z = (x5, M6) → ((4 ≤ x5 → post M6) ∧ (¬ (4 ≤ x5) → gT M6 a0 = some (6, 0) ∧ ∃ b9, gR M6 a0 8 = some b9 ∧ w_X6_at M6 p0 x5 (fun x10 => inA M6 b9 10 x10 ∧ ∀ J13 : Mem → Prop, (∀ (M12 : Mem), (∀ x14, x14 = x5 + 1 → K7 (x14, M12)) → J13 M12) → ((gI M6 b9 (Int32.toNatClampNeg x10) = (-1) → J13 M6) ∧ (¬ (gI M6 b9 (Int32.toNatClampNeg x10) = (-1)) → gT M6 a0 = some (6, 0) ∧ ∃ b16, gR M6 a0 11 = some b16 ∧ w_X6_at M6 p0 x5 (fun x17 => inA M6 b16 10 x17 ∧ gT M6 a0 = some (6, 0) ∧ w_X6_tells M6 a0 2 p0 x5 (gI M6 b16 (Int32.toNatClampNeg x17)) (fun M20 => gT M20 a0 = some (6, 0) ∧ w_X6_puts M20 a0 p0 p1 (fun M22 => J13 M22))))))))) (0, M2)) ∧ (¬ ((gI M2 a0 2) ≤ x1) → gT M2 a0 = some (6, 0) ∧ ∃ b27, gR M2 a0 7 = some b27 ∧ inA M2 b27 10 p0 ∧ w_X6_has M2 (gI M2 b27 (Int32.toNatClampNeg p0)) x1 (fun x29 => ∀ J31 : Mem → Prop, (∀ (M30 : Mem), (∀ x32, x32 = x1 + 1 → K3 (x32, M30)) → J31 M30) → ((x29 = 0 → J31 M2) ∧ (¬ (x29 = 0) → gT M2 a0 = some (6, 0) ∧ w_X6_makes M2 a0 0 x1 0 (fun M34 => gT M34 a0 = some (6, 0) ∧ w_X6_puts M34 a0 p0 p1 (fun M36 => J31 M36)))))))) (0, M)
set_option maxRecDepth 100000 in
set_option maxHeartbeats 8000000 in
theorem s_X6_bursts (l : Launch) (D : va_G) (dA : Nat → ClassId) (htr : l.stackTraces = false) (M : Mem) (a0 : Nat) (p0 : Int32) (p1 : Int32) (post : Mem → Prop) (h : w_X6_bursts M a0 p0 p1 post) : CtN l D dA yX6_bursts cX6_bursts 4 (none) 3 [.ref a0, .int p0, .int p1] M 0 0 (pV post) := by
  refine ct_ofN htr (by decide) (Nat.le_of_ble_eq_true rfl) ?_
  intro X hC hN hR
  show G X 4 M 0 0 0 [(0, .ref a0), (1, .int p0), (2, .int p1)] []
  unfold w_X6_bursts at h
  refine g_iconst (v := 0) hC dX6_bursts_0 (by decide) ?_
  refine g_istore_n (lv' := [(3, .int 0), (0, .ref a0), (1, .int p0), (2, .int p1)]) hC dX6_bursts_1 (by decide) rfl ?_
  refine g_sub [1, 2, 3, 0] (lv' := [(0, .ref a0), (1, .int p0), (2, .int p1), (3, .int 0)]) rfl ?_
  refine Lp_use (fun (z39 : Int32 × Mem) => G X 4 z39.2 0 0 2 [(0, .ref a0), (1, .int p0), (2, .int p1), (3, .int z39.1)] []) h ?_
  intro K3 z hK_K3 h
  obtain ⟨x1, M2⟩ := z
  replace h := h _ _ rfl
  show G X 4 M2 0 0 2 [(0, .ref a0), (1, .int p0), (2, .int p1), (3, .int x1)] []
  refine g_iload_n hC 3 dX6_bursts_2 rfl ?_
  refine g_aload_n (r := (some a0)) hC 0 dX6_bursts_3 rfl ?_
  obtain ⟨hc4, h⟩ := h
  refine g_getI hC kc6 2 (by decide) wm_3_148 dX6_bursts_4 rfl hc4 ?_
  refine g_icmp_ge hC 42 dX6_bursts_7 (by decide) (fun c38 => ?_) (fun c38 => ?_)
  · replace h := h.1 c38
    refine g_iconst (v := 0) hC dX6_bursts_42 (by decide) ?_
    refine g_pc (pc' := 43) rfl ?_
    refine g_istore_n (lv' := [(3, .int 0), (0, .ref a0), (1, .int p0), (2, .int p1)]) hC dX6_bursts_43 (by decide) rfl ?_
    refine g_sub [1, 2, 3, 0] (lv' := [(0, .ref a0), (1, .int p0), (2, .int p1), (3, .int 0)]) rfl ?_
    refine Lp_use (fun (z25 : Int32 × Mem) => G X 4 z25.2 0 0 44 [(0, .ref a0), (1, .int p0), (2, .int p1), (3, .int z25.1)] []) h ?_
    intro K7 z hK_K7 h
    obtain ⟨x5, M6⟩ := z
    replace h := h _ _ rfl
    show G X 4 M6 0 0 44 [(0, .ref a0), (1, .int p0), (2, .int p1), (3, .int x5)] []
    refine g_iload_n hC 3 dX6_bursts_44 rfl ?_
    refine g_iconst (v := 4) hC dX6_bursts_45 (by decide) ?_
    refine g_icmp_ge hC 92 dX6_bursts_46 (by decide) (fun c24 => ?_) (fun c24 => ?_)
    · replace h := h.1 c24
      exact hR.1 rfl _ _ _ _ _ dX6_bursts_92 ⟨rfl, h⟩
    · replace h := h.2 c24
      refine g_aload_n (r := (some a0)) hC 0 dX6_bursts_49 rfl ?_
      obtain ⟨hc8, h⟩ := h
      obtain ⟨b9, eb9, h⟩ := h
      refine g_getA hC kc6 8 (by decide) wm_3_154 dX6_bursts_50 rfl hc8 eb9 ?_
      refine g_iload_n hC 1 dX6_bursts_53 rfl ?_
      refine g_iload_n hC 3 dX6_bursts_54 rfl ?_
      refine g_pc (pc' := 55) rfl ?_
      refine g_callS hC (As := [.int p0, .int x5]) (fun l D dA ht => s_X6_at l D dA ht _ _ _ _ h) wm_4_30 wm_4_28 wm_4_29 wm_1_7 (by decide +kernel : plainY yX6_at 2) dX6_bursts_55 (by decide) (Nat.le_of_ble_eq_true rfl) (Or.inl ⟨rfl, rfl⟩) ?_
      intro M9 v9 h
      obtain ⟨x10, rfl, h⟩ := h
      obtain ⟨hM9, h⟩ := h
      rw [hM9]
      show G X 4 M6 0 0 58 [(0, .ref a0), (1, .int p0), (2, .int p1), (3, .int x5)] [.int x10, .ref b9]
      obtain ⟨hc11, h⟩ := h
      refine g_ialdA hC dX6_bursts_58 hc11 ?_
      refine g_iconst (v := (-1)) hC dX6_bursts_59 (by decide) ?_
      replace h := h (fun (M12 : Mem) => G X 4 M12 0 0 86 [(0, .ref a0), (1, .int p0), (2, .int p1), (3, .int x5)] []) (by
        intro M12 h
        show G X 4 M12 0 0 86 [(0, .ref a0), (1, .int p0), (2, .int p1), (3, .int x5)] []
        obtain ⟨x14, ex14⟩ : ∃ w, w = x5 + 1 := ⟨_, rfl⟩
        replace h := h x14 ex14
        refine g_iinc (v := x14) (lv' := [(3, .int x14), (0, .ref a0), (1, .int p0), (2, .int p1)]) hC 3 dX6_bursts_86 rfl (by rw [ex14]; rfl) (by decide) rfl ?_
        refine g_goto hC 44 dX6_bursts_89 (by decide) ?_
        refine g_sub [1, 2, 3, 0] (lv' := [(0, .ref a0), (1, .int p0), (2, .int p1), (3, .int x14)]) rfl ?_
        exact hK_K7 _ h)
      refine g_icmp_eq hC 86 dX6_bursts_60 (by decide) (fun c23 => ?_) (fun c23 => ?_)
      · replace h := h.1 c23
        exact h
      · replace h := h.2 c23
        refine g_aload_n (r := (some a0)) hC 0 dX6_bursts_63 rfl ?_
        refine g_iconst (v := 2) hC dX6_bursts_64 (by decide) ?_
        refine g_iload_n hC 1 dX6_bursts_65 rfl ?_
        refine g_iload_n hC 3 dX6_bursts_66 rfl ?_
        refine g_pc (pc' := 67) rfl ?_
        refine g_aload_n (r := (some a0)) hC 0 dX6_bursts_67 rfl ?_
        obtain ⟨hc15, h⟩ := h
        obtain ⟨b16, eb16, h⟩ := h
        refine g_getA hC kc6 11 (by decide) wm_3_157 dX6_bursts_68 rfl hc15 eb16 ?_
        refine g_iload_n hC 1 dX6_bursts_71 rfl ?_
        refine g_iload_n hC 3 dX6_bursts_72 rfl ?_
        refine g_callS hC (As := [.int p0, .int x5]) (fun l D dA ht => s_X6_at l D dA ht _ _ _ _ h) wm_4_30 wm_4_28 wm_4_29 wm_1_7 (by decide +kernel : plainY yX6_at 2) dX6_bursts_73 (by decide) (Nat.le_of_ble_eq_true rfl) (Or.inl ⟨rfl, rfl⟩) ?_
        intro M9 v9 h
        obtain ⟨x17, rfl, h⟩ := h
        obtain ⟨hM9, h⟩ := h
        rw [hM9]
        show G X 4 M6 0 0 76 [(0, .ref a0), (1, .int p0), (2, .int p1), (3, .int x5)] [.int x17, .ref b16, .int x5, .int p0, .int 2, .ref a0]
        obtain ⟨hc18, h⟩ := h
        refine g_ialdA hC dX6_bursts_76 hc18 ?_
        obtain ⟨hc19, h⟩ := h
        refine g_callV hC (As := [.int 2, .int p0, .int x5, .int (gI M6 b16 (Int32.toNatClampNeg x17))]) (fun l D dA ht => s_X6_tells l D dA ht _ _ _ _ _ _ _ h) wm_4_34 wm_4_31 wm_4_33 wm_0_21 wm_1_7 (by decide +kernel : plainY yX6_tells 4) kc6.1 kc6.2.1 dX6_bursts_77 (by decide) (Nat.le_of_ble_eq_true rfl) hc19 (Or.inl ⟨rfl, rfl⟩) ?_
        intro M9 v9 h
        obtain ⟨rfl, h⟩ := h
        generalize M9 = M20 at h ⊢
        show G X 4 M20 0 0 80 [(0, .ref a0), (1, .int p0), (2, .int p1), (3, .int x5)] []
        refine g_aload_n (r := (some a0)) hC 0 dX6_bursts_80 rfl ?_
        refine g_pc (pc' := 81) rfl ?_
        refine g_iload_n hC 1 dX6_bursts_81 rfl ?_
        refine g_iload_n hC 2 dX6_bursts_82 rfl ?_
        obtain ⟨hc21, h⟩ := h
        refine g_callV hC (As := [.int p0, .int p1]) (fun l D dA ht => s_X6_puts l D dA ht _ _ _ _ _ h) wm_4_27 wm_4_24 wm_4_26 wm_0_20 wm_1_7 (by decide +kernel : plainY yX6_puts 2) kc6.1 kc6.2.1 dX6_bursts_83 (by decide) (Nat.le_of_ble_eq_true rfl) hc21 (Or.inl ⟨rfl, rfl⟩) ?_
        intro M9 v9 h
        obtain ⟨rfl, h⟩ := h
        generalize M9 = M22 at h ⊢
        show G X 4 M22 0 0 86 [(0, .ref a0), (1, .int p0), (2, .int p1), (3, .int x5)] []
        exact h
  · replace h := h.2 c38
    refine g_aload_n (r := (some a0)) hC 0 dX6_bursts_10 rfl ?_
    obtain ⟨hc26, h⟩ := h
    obtain ⟨b27, eb27, h⟩ := h
    refine g_pc (pc' := 11) rfl ?_
    refine g_getA hC kc6 7 (by decide) wm_3_153 dX6_bursts_11 rfl hc26 eb27 ?_
    refine g_iload_n hC 1 dX6_bursts_14 rfl ?_
    obtain ⟨hc28, h⟩ := h
    refine g_ialdA hC dX6_bursts_15 hc28 ?_
    refine g_iload_n hC 3 dX6_bursts_16 rfl ?_
    refine g_callS hC (As := [.int (gI M2 b27 (Int32.toNatClampNeg p0)), .int x1]) (fun l D dA ht => s_X6_has l D dA ht _ _ _ _ h) wm_4_11 wm_4_9 wm_4_10 wm_1_7 (by decide +kernel : plainY yX6_has 2) dX6_bursts_17 (by decide) (Nat.le_of_ble_eq_true rfl) (Or.inl ⟨rfl, rfl⟩) ?_
    intro M9 v9 h
    obtain ⟨x29, rfl, h⟩ := h
    obtain ⟨hM9, h⟩ := h
    rw [hM9]
    show G X 4 M2 0 0 20 [(0, .ref a0), (1, .int p0), (2, .int p1), (3, .int x1)] [.int x29]
    replace h := h (fun (M30 : Mem) => G X 4 M30 0 0 36 [(0, .ref a0), (1, .int p0), (2, .int p1), (3, .int x1)] []) (by
      intro M30 h
      show G X 4 M30 0 0 36 [(0, .ref a0), (1, .int p0), (2, .int p1), (3, .int x1)] []
      obtain ⟨x32, ex32⟩ : ∃ w, w = x1 + 1 := ⟨_, rfl⟩
      replace h := h x32 ex32
      refine g_iinc (v := x32) (lv' := [(3, .int x32), (0, .ref a0), (1, .int p0), (2, .int p1)]) hC 3 dX6_bursts_36 rfl (by rw [ex32]; rfl) (by decide) rfl ?_
      refine g_goto hC 2 dX6_bursts_39 (by decide) ?_
      refine g_sub [1, 2, 3, 0] (lv' := [(0, .ref a0), (1, .int p0), (2, .int p1), (3, .int x32)]) rfl ?_
      exact hK_K3 _ h)
    refine g_if_eq hC 36 dX6_bursts_20 (by decide) (fun c37 => ?_) (fun c37 => ?_)
    · replace h := h.1 c37
      exact h
    · replace h := h.2 c37
      refine g_aload_n (r := (some a0)) hC 0 dX6_bursts_23 rfl ?_
      refine g_iconst (v := 0) hC dX6_bursts_24 (by decide) ?_
      refine g_pc (pc' := 25) rfl ?_
      refine g_iload_n hC 3 dX6_bursts_25 rfl ?_
      refine g_iconst (v := 0) hC dX6_bursts_26 (by decide) ?_
      obtain ⟨hc33, h⟩ := h
      refine g_callV hC (As := [.int 0, .int x1, .int 0]) (fun l D dA ht => s_X6_makes l D dA ht _ _ _ _ _ _ h) wm_4_23 wm_4_20 wm_4_22 wm_0_19 wm_1_7 (by decide +kernel : plainY yX6_makes 3) kc6.1 kc6.2.1 dX6_bursts_27 (by decide) (Nat.le_of_ble_eq_true rfl) hc33 (Or.inl ⟨rfl, rfl⟩) ?_
      intro M9 v9 h
      obtain ⟨rfl, h⟩ := h
      generalize M9 = M34 at h ⊢
      show G X 4 M34 0 0 30 [(0, .ref a0), (1, .int p0), (2, .int p1), (3, .int x1)] []
      refine g_aload_n (r := (some a0)) hC 0 dX6_bursts_30 rfl ?_
      refine g_iload_n hC 1 dX6_bursts_31 rfl ?_
      refine g_iload_n hC 2 dX6_bursts_32 rfl ?_
      obtain ⟨hc35, h⟩ := h
      refine g_callV hC (As := [.int p0, .int p1]) (fun l D dA ht => s_X6_puts l D dA ht _ _ _ _ _ h) wm_4_27 wm_4_24 wm_4_26 wm_0_20 wm_1_7 (by decide +kernel : plainY yX6_puts 2) kc6.1 kc6.2.1 dX6_bursts_33 (by decide) (Nat.le_of_ble_eq_true rfl) hc35 (Or.inl ⟨rfl, rfl⟩) ?_
      intro M9 v9 h
      obtain ⟨rfl, h⟩ := h
      generalize M9 = M36 at h ⊢
      show G X 4 M36 0 0 36 [(0, .ref a0), (1, .int p0), (2, .int p1), (3, .int x1)] []
      exact h

def w_X6_link (M : Mem) (a0 : Nat) (p0 : Int32) (p1 : Int32) (post : Mem → Int32 → Prop) : Prop :=
  w_X6_isServer M p0 (fun x1 => ∀ J3 : Int32 → Prop, (∀ (x2 : Int32), (∀ J5 : Int32 → Prop, (∀ (x4 : Int32), (gT M a0 = some (6, 0) ∧ w_X6_holds M a0 x4 (fun M7 x8 => (x8 = 0 → post M7 0) ∧ (¬ (x8 = 0) → gT M7 a0 = some (6, 0) ∧ ∀ x10, x10 = gI M7 a0 14 → gT M7 a0 = some (6, 0) ∧ ∃ b12, gR M7 a0 6 = some b12 ∧ inA M7 b12 10 p0 ∧ inA M7 b12 10 p0 ∧ ∀ M14, M14 = sI M7 b12 (Int32.toNatClampNeg p0) ((gI M7 b12 (Int32.toNatClampNeg p0)) ||| (1 <<< (p1 &&& 31))) → gT M14 a0 = some (6, 0) ∧ ∃ b17, gR M14 a0 6 = some b17 ∧ inA M14 b17 10 p1 ∧ inA M14 b17 10 p1 ∧ ∀ M19, M19 = sI M14 b17 (Int32.toNatClampNeg p1) ((gI M14 b17 (Int32.toNatClampNeg p1)) ||| (1 <<< (p0 &&& 31))) → gT M19 a0 = some (6, 0) ∧ w_X6_bursts M19 a0 p0 p1 (fun M22 => gT M22 a0 = some (6, 0) ∧ w_X6_bursts M22 a0 p1 p0 (fun M24 => gT M24 a0 = some (6, 0) ∧ gT M24 a0 = some (6, 0) ∧ ∀ M27, M27 = sI M24 a0 1 ((gI M24 a0 1) + 1) → gT M27 a0 = some (6, 0) ∧ post M27 ((gI M27 a0 14) - x10)))))) → J5 x4) → ((x2 = 0 → J5 1) ∧ (¬ (x2 = 0) → gT M a0 = some (6, 0) ∧ w_X6_treeOf M a0 p0 (fun x31 => w_X6_has M x31 p1 (fun x32 => (x32 = 0 → J5 0) ∧ (¬ (x32 = 0) → J5 2)))))) → J3 x2) → (∀ J35 : Prop, ((J3 0) → J35) → ((x1 = 0 → J35) ∧ (¬ (x1 = 0) → w_X6_isServer M p1 (fun x36 => (x36 = 0 → J35) ∧ (¬ (x36 = 0) → J3 1))))))
set_option maxRecDepth 100000 in
set_option maxHeartbeats 8000000 in
theorem s_X6_link (l : Launch) (D : va_G) (dA : Nat → ClassId) (htr : l.stackTraces = false) (M : Mem) (a0 : Nat) (p0 : Int32) (p1 : Int32) (post : Mem → Int32 → Prop) (h : w_X6_link M a0 p0 p1 post) : CtN l D dA yX6_link cX6_link 5 (some .int) 4 [.ref a0, .int p0, .int p1] M 0 0 (pI post) := by
  refine ct_ofN htr (by decide) (Nat.le_of_ble_eq_true rfl) ?_
  intro X hC hN hR
  show G X 5 M 0 0 0 [(0, .ref a0), (1, .int p0), (2, .int p1)] []
  unfold w_X6_link at h
  refine g_iload_n hC 1 dX6_link_0 rfl ?_
  refine g_callS hC (As := [.int p0]) (fun l D dA ht => s_X6_isServer l D dA ht _ _ _ h) wm_4_4 wm_4_2 wm_4_3 wm_1_7 (by decide +kernel : plainY yX6_isServer 1) dX6_link_1 (by decide) (Nat.le_of_ble_eq_true rfl) (Or.inl ⟨rfl, rfl⟩) ?_
  intro M9 v9 h
  obtain ⟨x1, rfl, h⟩ := h
  obtain ⟨hM9, h⟩ := h
  rw [hM9]
  show G X 5 M 0 0 4 [(0, .ref a0), (1, .int p0), (2, .int p1)] [.int x1]
  replace h := h (fun (x2 : Int32) => G X 5 M 0 0 19 [(0, .ref a0), (1, .int p0), (2, .int p1)] [.int x2]) (by
    intro x2 h
    show G X 5 M 0 0 19 [(0, .ref a0), (1, .int p0), (2, .int p1)] [.int x2]
    refine g_istore_n (lv' := [(3, .int x2), (0, .ref a0), (1, .int p0), (2, .int p1)]) hC dX6_link_19 (by decide) rfl ?_
    refine g_aload_n (r := (some a0)) hC 1 dX6_link_20 rfl ?_
    refine g_iload_n hC 0 dX6_link_21 rfl ?_
    replace h := h (fun (x4 : Int32) => G X 5 M 0 0 46 [(0, .ref a0), (1, .int p0), (2, .int p1), (3, .int x2)] [.int x4, .ref a0]) (by
      intro x4 h
      show G X 5 M 0 0 46 [(0, .ref a0), (1, .int p0), (2, .int p1), (3, .int x2)] [.int x4, .ref a0]
      obtain ⟨hc6, h⟩ := h
      refine g_callV hC (As := [.int x4]) (fun l D dA ht => s_X6_holds l D dA ht _ _ _ _ h) wm_4_15 wm_4_12 wm_4_14 wm_0_17 wm_1_7 (by decide +kernel : plainY yX6_holds 1) kc6.1 kc6.2.1 dX6_link_46 (by decide) (Nat.le_of_ble_eq_true rfl) hc6 (Or.inl ⟨rfl, rfl⟩) ?_
      intro M9 v9 h
      obtain ⟨x8, rfl, h⟩ := h
      generalize M9 = M7 at h ⊢
      show G X 5 M7 0 0 49 [(0, .ref a0), (1, .int p0), (2, .int p1), (3, .int x2)] [.int x8]
      refine g_if_ne hC 54 dX6_link_49 (by decide) (fun c29 => ?_) (fun c29 => ?_)
      · replace h := h.2 c29
        refine g_pc (pc' := 54) rfl ?_
        refine g_aload_n (r := (some a0)) hC 0 dX6_link_54 rfl ?_
        obtain ⟨hc9, h⟩ := h
        refine g_getI hC kc6 14 (by decide) wm_3_160 dX6_link_55 rfl hc9 ?_
        obtain ⟨x10, ex10⟩ : ∃ w, w = gI M7 a0 14 := ⟨_, rfl⟩
        replace h := h x10 ex10
        rw [← ex10]
        refine g_istore (lv' := [(4, .int x10), (0, .ref a0), (1, .int p0), (2, .int p1), (3, .int x2)]) hC dX6_link_58 (by decide) rfl ?_
        refine g_aload_n (r := (some a0)) hC 1 dX6_link_60 rfl ?_
        obtain ⟨hc11, h⟩ := h
        obtain ⟨b12, eb12, h⟩ := h
        refine g_getA hC kc6 6 (by decide) wm_3_152 dX6_link_61 rfl hc11 eb12 ?_
        refine g_iload_n hC 2 dX6_link_64 rfl ?_
        refine g_dup2 hC dX6_link_65 rfl rfl ?_
        obtain ⟨hc13, h⟩ := h
        refine g_ialdA hC dX6_link_66 hc13 ?_
        refine g_pc (pc' := 67) rfl ?_
        refine g_iconst (v := 1) hC dX6_link_67 (by decide) ?_
        refine g_iload_n hC 3 dX6_link_68 rfl ?_
        refine g_ishl hC dX6_link_69 ?_
        refine g_ior hC dX6_link_70 ?_
        obtain ⟨hc15, h⟩ := h
        refine g_iastA hC dX6_link_71 hc15 ?_
        obtain ⟨M14, eM14⟩ : ∃ w, w = sI M7 b12 (Int32.toNatClampNeg p0) ((gI M7 b12 (Int32.toNatClampNeg p0)) ||| (1 <<< (p1 &&& 31))) := ⟨_, rfl⟩
        replace h := h M14 eM14
        rw [← eM14]
        refine g_aload_n (r := (some a0)) hC 1 dX6_link_72 rfl ?_
        obtain ⟨hc16, h⟩ := h
        obtain ⟨b17, eb17, h⟩ := h
        refine g_getA hC kc6 6 (by decide) wm_3_152 dX6_link_73 rfl hc16 eb17 ?_
        refine g_iload_n hC 3 dX6_link_76 rfl ?_
        refine g_pc (pc' := 77) rfl ?_
        refine g_dup2 hC dX6_link_77 rfl rfl ?_
        obtain ⟨hc18, h⟩ := h
        refine g_ialdA hC dX6_link_78 hc18 ?_
        refine g_iconst (v := 1) hC dX6_link_79 (by decide) ?_
        refine g_iload_n hC 2 dX6_link_80 rfl ?_
        refine g_ishl hC dX6_link_81 ?_
        refine g_ior hC dX6_link_82 ?_
        obtain ⟨hc20, h⟩ := h
        refine g_iastA hC dX6_link_83 hc20 ?_
        obtain ⟨M19, eM19⟩ : ∃ w, w = sI M14 b17 (Int32.toNatClampNeg p1) ((gI M14 b17 (Int32.toNatClampNeg p1)) ||| (1 <<< (p0 &&& 31))) := ⟨_, rfl⟩
        replace h := h M19 eM19
        rw [← eM19]
        refine g_aload_n (r := (some a0)) hC 1 dX6_link_84 rfl ?_
        refine g_pc (pc' := 85) rfl ?_
        refine g_iload_n hC 2 dX6_link_85 rfl ?_
        refine g_iload_n hC 3 dX6_link_86 rfl ?_
        obtain ⟨hc21, h⟩ := h
        refine g_callV hC (As := [.int p0, .int p1]) (fun l D dA ht => s_X6_bursts l D dA ht _ _ _ _ _ h) wm_4_19 wm_4_16 wm_4_18 wm_0_18 wm_1_7 (by decide +kernel : plainY yX6_bursts 2) kc6.1 kc6.2.1 dX6_link_87 (by decide) (Nat.le_of_ble_eq_true rfl) hc21 (Or.inl ⟨rfl, rfl⟩) ?_
        intro M9 v9 h
        obtain ⟨rfl, h⟩ := h
        generalize M9 = M22 at h ⊢
        show G X 5 M22 0 0 90 [(4, .int x10), (0, .ref a0), (1, .int p0), (2, .int p1), (3, .int x2)] []
        refine g_aload_n (r := (some a0)) hC 1 dX6_link_90 rfl ?_
        refine g_iload_n hC 3 dX6_link_91 rfl ?_
        refine g_iload_n hC 2 dX6_link_92 rfl ?_
        obtain ⟨hc23, h⟩ := h
        refine g_callV hC (As := [.int p1, .int p0]) (fun l D dA ht => s_X6_bursts l D dA ht _ _ _ _ _ h) wm_4_19 wm_4_16 wm_4_18 wm_0_18 wm_1_7 (by decide +kernel : plainY yX6_bursts 2) kc6.1 kc6.2.1 dX6_link_93 (by decide) (Nat.le_of_ble_eq_true rfl) hc23 (Or.inl ⟨rfl, rfl⟩) ?_
        intro M9 v9 h
        obtain ⟨rfl, h⟩ := h
        generalize M9 = M24 at h ⊢
        show G X 5 M24 0 0 96 [(4, .int x10), (0, .ref a0), (1, .int p0), (2, .int p1), (3, .int x2)] []
        refine g_aload_n (r := (some a0)) hC 1 dX6_link_96 rfl ?_
        refine g_pc (pc' := 97) rfl ?_
        refine g_dup hC dX6_link_97 rfl ?_
        obtain ⟨hc25, h⟩ := h
        refine g_getI hC kc6 1 (by decide) wm_3_147 dX6_link_98 rfl hc25 ?_
        refine g_iconst (v := 1) hC dX6_link_101 (by decide) ?_
        refine g_iadd hC dX6_link_102 ?_
        obtain ⟨hc26, h⟩ := h
        refine g_putI hC kc6 1 (by decide) wm_3_147 dX6_link_103 rfl rfl (Or.inl rfl) hc26 ?_
        obtain ⟨M27, eM27⟩ : ∃ w, w = sI M24 a0 1 ((gI M24 a0 1) + 1) := ⟨_, rfl⟩
        replace h := h M27 eM27
        rw [← eM27]
        refine g_aload_n (r := (some a0)) hC 1 dX6_link_106 rfl ?_
        obtain ⟨hc28, h⟩ := h
        refine g_getI hC kc6 14 (by decide) wm_3_160 dX6_link_107 rfl hc28 ?_
        refine g_iload hC 0 dX6_link_110 rfl ?_
        refine g_pc (pc' := 112) rfl ?_
        refine g_isub hC dX6_link_112 ?_
        exact hR.2.1 rfl _ _ _ _ _ _ dX6_link_113 ⟨_, rfl, h⟩
      · replace h := h.1 c29
        refine g_pc (pc' := 52) rfl ?_
        refine g_iconst (v := 0) hC dX6_link_52 (by decide) ?_
        exact hR.2.1 rfl _ _ _ _ _ _ dX6_link_53 ⟨_, rfl, h⟩)
    refine g_if_ne hC 29 dX6_link_22 (by decide) (fun c34 => ?_) (fun c34 => ?_)
    · replace h := h.2 c34
      refine g_aload_n (r := (some a0)) hC 1 dX6_link_29 rfl ?_
      refine g_pc (pc' := 30) rfl ?_
      refine g_iload_n hC 2 dX6_link_30 rfl ?_
      obtain ⟨hc30, h⟩ := h
      refine g_callV hC (As := [.int p0]) (fun l D dA ht => s_X6_treeOf l D dA ht _ _ _ _ h) wm_4_8 wm_4_5 wm_4_7 wm_0_16 wm_1_7 (by decide +kernel : plainY yX6_treeOf 1) kc6.1 kc6.2.1 dX6_link_31 (by decide) (Nat.le_of_ble_eq_true rfl) hc30 (Or.inl ⟨rfl, rfl⟩) ?_
      intro M9 v9 h
      obtain ⟨x31, rfl, h⟩ := h
      obtain ⟨hM9, h⟩ := h
      rw [hM9]
      show G X 5 M 0 0 34 [(3, .int x2), (0, .ref a0), (1, .int p0), (2, .int p1)] [.int x31, .ref a0]
      refine g_iload_n hC 3 dX6_link_34 rfl ?_
      refine g_callS hC (As := [.int x31, .int p1]) (fun l D dA ht => s_X6_has l D dA ht _ _ _ _ h) wm_4_11 wm_4_9 wm_4_10 wm_1_7 (by decide +kernel : plainY yX6_has 2) dX6_link_35 (by decide) (Nat.le_of_ble_eq_true rfl) (Or.inl ⟨rfl, rfl⟩) ?_
      intro M9 v9 h
      obtain ⟨x32, rfl, h⟩ := h
      obtain ⟨hM9, h⟩ := h
      rw [hM9]
      show G X 5 M 0 0 38 [(3, .int x2), (0, .ref a0), (1, .int p0), (2, .int p1)] [.int x32, .ref a0]
      refine g_if_eq hC 45 dX6_link_38 (by decide) (fun c33 => ?_) (fun c33 => ?_)
      · replace h := h.1 c33
        refine g_iconst (v := 0) hC dX6_link_45 (by decide) ?_
        refine g_sub [1, 2, 3, 0] (lv' := [(0, .ref a0), (1, .int p0), (2, .int p1), (3, .int x2)]) rfl ?_
        exact h
      · replace h := h.2 c33
        refine g_iconst (v := 2) hC dX6_link_41 (by decide) ?_
        refine g_goto hC 46 dX6_link_42 (by decide) ?_
        refine g_sub [1, 2, 3, 0] (lv' := [(0, .ref a0), (1, .int p0), (2, .int p1), (3, .int x2)]) rfl ?_
        exact h
    · replace h := h.1 c34
      refine g_iconst (v := 1) hC dX6_link_25 (by decide) ?_
      refine g_pc (pc' := 26) rfl ?_
      refine g_goto hC 46 dX6_link_26 (by decide) ?_
      refine g_sub [1, 2, 3, 0] (lv' := [(0, .ref a0), (1, .int p0), (2, .int p1), (3, .int x2)]) rfl ?_
      exact h)
  replace h := h (G X 5 M 0 0 18 [(0, .ref a0), (1, .int p0), (2, .int p1)] []) (by
    intro h
    refine g_iconst (v := 0) hC dX6_link_18 (by decide) ?_
    exact h)
  refine g_if_eq hC 18 dX6_link_4 (by decide) (fun c38 => ?_) (fun c38 => ?_)
  · replace h := h.1 c38
    exact h
  · replace h := h.2 c38
    refine g_iload_n hC 2 dX6_link_7 rfl ?_
    refine g_callS hC (As := [.int p1]) (fun l D dA ht => s_X6_isServer l D dA ht _ _ _ h) wm_4_4 wm_4_2 wm_4_3 wm_1_7 (by decide +kernel : plainY yX6_isServer 1) dX6_link_8 (by decide) (Nat.le_of_ble_eq_true rfl) (Or.inl ⟨rfl, rfl⟩) ?_
    intro M9 v9 h
    obtain ⟨x36, rfl, h⟩ := h
    obtain ⟨hM9, h⟩ := h
    rw [hM9]
    show G X 5 M 0 0 11 [(0, .ref a0), (1, .int p0), (2, .int p1)] [.int x36]
    refine g_if_eq hC 18 dX6_link_11 (by decide) (fun c37 => ?_) (fun c37 => ?_)
    · replace h := h.1 c37
      exact h
    · replace h := h.2 c37
      refine g_iconst (v := 1) hC dX6_link_14 (by decide) ?_
      refine g_pc (pc' := 15) rfl ?_
      refine g_goto hC 19 dX6_link_15 (by decide) ?_
      exact h

def w_X6_forgets (M : Mem) (a0 : Nat) (post : Mem → Prop) : Prop :=
  Lp (fun (K3 : Int32 × Mem → Prop) (z : Int32 × Mem) => ∀ (x1 : Int32) (M2 : Mem), z = (x1, M2) → ((6 ≤ x1 → post M2) ∧ (¬ (6 ≤ x1) → gT M2 a0 = some (6, 0) ∧ w_X6_treeOf M2 a0 x1 (fun x5 => Lp (fun (K8 : Int32 × Mem → Prop) (z : Int32 × Mem) => ∀ (x6 : Int32) (M7 : Mem), z = (x6, M7) → (gT M7 a0 = some (6, 0) ∧ ((gI M7 a0 2) ≤ x6 → ∀ x10, x10 = x1 + 1 → K3 (x10, M7)) ∧ (¬ ((gI M7 a0 2) ≤ x6) → gT M7 a0 = some (6, 0) ∧ ∃ b12, gR M7 a0 7 = some b12 ∧ inA M7 b12 10 x1 ∧ w_X6_has M7 (gI M7 b12 (Int32.toNatClampNeg x1)) x6 (fun x14 => ∀ J16 : Mem → Prop, (∀ (M15 : Mem), (∀ x17, x17 = x6 + 1 → K8 (x17, M15)) → J16 M15) → ((x14 = 0 → J16 M7) ∧ (¬ (x14 = 0) → gT M7 a0 = some (6, 0) ∧ ∃ b19, gR M7 a0 4 = some b19 ∧ inA M7 b19 10 x6 ∧ w_X6_has M7 x5 (gI M7 b19 (Int32.toNatClampNeg x6)) (fun x21 => (x21 = 0 → gT M7 a0 = some (6, 0) ∧ w_X6_quits M7 a0 x1 x6 (fun M23 => J16 M23)) ∧ (¬ (x21 = 0) → J16 M7)))))))) (0, M2))))) (0, M)
set_option maxRecDepth 100000 in
set_option maxHeartbeats 8000000 in
theorem s_X6_forgets (l : Launch) (D : va_G) (dA : Nat → ClassId) (htr : l.stackTraces = false) (M : Mem) (a0 : Nat) (post : Mem → Prop) (h : w_X6_forgets M a0 post) : CtN l D dA yX6_forgets cX6_forgets 4 (none) 4 [.ref a0] M 0 0 (pV post) := by
  refine ct_ofN htr (by decide) (Nat.le_of_ble_eq_true rfl) ?_
  intro X hC hN hR
  show G X 4 M 0 0 0 [(0, .ref a0)] []
  unfold w_X6_forgets at h
  refine g_iconst (v := 0) hC dX6_forgets_0 (by decide) ?_
  refine g_istore_n (lv' := [(1, .int 0), (0, .ref a0)]) hC dX6_forgets_1 (by decide) rfl ?_
  refine g_sub [1, 0] (lv' := [(0, .ref a0), (1, .int 0)]) rfl ?_
  refine Lp_use (fun (z29 : Int32 × Mem) => G X 4 z29.2 0 0 2 [(0, .ref a0), (1, .int z29.1)] []) h ?_
  intro K3 z hK_K3 h
  obtain ⟨x1, M2⟩ := z
  replace h := h _ _ rfl
  show G X 4 M2 0 0 2 [(0, .ref a0), (1, .int x1)] []
  refine g_iload_n hC 1 dX6_forgets_2 rfl ?_
  refine g_bipush (v := 6) hC dX6_forgets_3 (by decide) ?_
  refine g_icmp_ge hC 68 dX6_forgets_5 (by decide) (fun c28 => ?_) (fun c28 => ?_)
  · replace h := h.1 c28
    exact hR.1 rfl _ _ _ _ _ dX6_forgets_68 ⟨rfl, h⟩
  · replace h := h.2 c28
    refine g_aload_n (r := (some a0)) hC 0 dX6_forgets_8 rfl ?_
    refine g_iload_n hC 1 dX6_forgets_9 rfl ?_
    refine g_pc (pc' := 10) rfl ?_
    obtain ⟨hc4, h⟩ := h
    refine g_callV hC (As := [.int x1]) (fun l D dA ht => s_X6_treeOf l D dA ht _ _ _ _ h) wm_4_8 wm_4_5 wm_4_7 wm_0_16 wm_1_7 (by decide +kernel : plainY yX6_treeOf 1) kc6.1 kc6.2.1 dX6_forgets_10 (by decide) (Nat.le_of_ble_eq_true rfl) hc4 (Or.inl ⟨rfl, rfl⟩) ?_
    intro M9 v9 h
    obtain ⟨x5, rfl, h⟩ := h
    obtain ⟨hM9, h⟩ := h
    rw [hM9]
    show G X 4 M2 0 0 13 [(0, .ref a0), (1, .int x1)] [.int x5]
    refine g_istore_n (lv' := [(2, .int x5), (0, .ref a0), (1, .int x1)]) hC dX6_forgets_13 (by decide) rfl ?_
    refine g_iconst (v := 0) hC dX6_forgets_14 (by decide) ?_
    refine g_istore_n (lv' := [(3, .int 0), (2, .int x5), (0, .ref a0), (1, .int x1)]) hC dX6_forgets_15 (by decide) rfl ?_
    refine g_sub [2, 3, 1, 0] (lv' := [(0, .ref a0), (1, .int x1), (2, .int x5), (3, .int 0)]) rfl ?_
    refine Lp_use (fun (z27 : Int32 × Mem) => G X 4 z27.2 0 0 16 [(0, .ref a0), (1, .int x1), (2, .int x5), (3, .int z27.1)] []) h ?_
    intro K8 z hK_K8 h
    obtain ⟨x6, M7⟩ := z
    replace h := h _ _ rfl
    show G X 4 M7 0 0 16 [(0, .ref a0), (1, .int x1), (2, .int x5), (3, .int x6)] []
    refine g_iload_n hC 3 dX6_forgets_16 rfl ?_
    refine g_aload_n (r := (some a0)) hC 0 dX6_forgets_17 rfl ?_
    obtain ⟨hc9, h⟩ := h
    refine g_getI hC kc6 2 (by decide) wm_3_148 dX6_forgets_18 rfl hc9 ?_
    refine g_icmp_ge hC 62 dX6_forgets_21 (by decide) (fun c26 => ?_) (fun c26 => ?_)
    · replace h := h.1 c26
      obtain ⟨x10, ex10⟩ : ∃ w, w = x1 + 1 := ⟨_, rfl⟩
      replace h := h x10 ex10
      refine g_pc (pc' := 62) rfl ?_
      refine g_iinc (v := x10) (lv' := [(1, .int x10), (0, .ref a0), (2, .int x5), (3, .int x6)]) hC 1 dX6_forgets_62 rfl (by rw [ex10]; rfl) (by decide) rfl ?_
      refine g_goto hC 2 dX6_forgets_65 (by decide) ?_
      refine g_sub [1, 0] (lv' := [(0, .ref a0), (1, .int x10)]) rfl ?_
      exact hK_K3 _ h
    · replace h := h.2 c26
      refine g_pc (pc' := 24) rfl ?_
      refine g_aload_n (r := (some a0)) hC 0 dX6_forgets_24 rfl ?_
      obtain ⟨hc11, h⟩ := h
      obtain ⟨b12, eb12, h⟩ := h
      refine g_getA hC kc6 7 (by decide) wm_3_153 dX6_forgets_25 rfl hc11 eb12 ?_
      refine g_iload_n hC 1 dX6_forgets_28 rfl ?_
      obtain ⟨hc13, h⟩ := h
      refine g_ialdA hC dX6_forgets_29 hc13 ?_
      refine g_iload_n hC 3 dX6_forgets_30 rfl ?_
      refine g_callS hC (As := [.int (gI M7 b12 (Int32.toNatClampNeg x1)), .int x6]) (fun l D dA ht => s_X6_has l D dA ht _ _ _ _ h) wm_4_11 wm_4_9 wm_4_10 wm_1_7 (by decide +kernel : plainY yX6_has 2) dX6_forgets_31 (by decide) (Nat.le_of_ble_eq_true rfl) (Or.inl ⟨rfl, rfl⟩) ?_
      intro M9 v9 h
      obtain ⟨x14, rfl, h⟩ := h
      obtain ⟨hM9, h⟩ := h
      rw [hM9]
      show G X 4 M7 0 0 34 [(0, .ref a0), (1, .int x1), (2, .int x5), (3, .int x6)] [.int x14]
      replace h := h (fun (M15 : Mem) => G X 4 M15 0 0 56 [(0, .ref a0), (1, .int x1), (2, .int x5), (3, .int x6)] []) (by
        intro M15 h
        show G X 4 M15 0 0 56 [(0, .ref a0), (1, .int x1), (2, .int x5), (3, .int x6)] []
        obtain ⟨x17, ex17⟩ : ∃ w, w = x6 + 1 := ⟨_, rfl⟩
        replace h := h x17 ex17
        refine g_iinc (v := x17) (lv' := [(3, .int x17), (0, .ref a0), (1, .int x1), (2, .int x5)]) hC 3 dX6_forgets_56 rfl (by rw [ex17]; rfl) (by decide) rfl ?_
        refine g_goto hC 16 dX6_forgets_59 (by decide) ?_
        refine g_sub [1, 2, 3, 0] (lv' := [(0, .ref a0), (1, .int x1), (2, .int x5), (3, .int x17)]) rfl ?_
        exact hK_K8 _ h)
      refine g_if_eq hC 56 dX6_forgets_34 (by decide) (fun c25 => ?_) (fun c25 => ?_)
      · replace h := h.1 c25
        exact h
      · replace h := h.2 c25
        refine g_iload_n hC 2 dX6_forgets_37 rfl ?_
        refine g_pc (pc' := 38) rfl ?_
        refine g_aload_n (r := (some a0)) hC 0 dX6_forgets_38 rfl ?_
        obtain ⟨hc18, h⟩ := h
        obtain ⟨b19, eb19, h⟩ := h
        refine g_getA hC kc6 4 (by decide) wm_3_150 dX6_forgets_39 rfl hc18 eb19 ?_
        refine g_iload_n hC 3 dX6_forgets_42 rfl ?_
        obtain ⟨hc20, h⟩ := h
        refine g_ialdA hC dX6_forgets_43 hc20 ?_
        refine g_callS hC (As := [.int x5, .int (gI M7 b19 (Int32.toNatClampNeg x6))]) (fun l D dA ht => s_X6_has l D dA ht _ _ _ _ h) wm_4_11 wm_4_9 wm_4_10 wm_1_7 (by decide +kernel : plainY yX6_has 2) dX6_forgets_44 (by decide) (Nat.le_of_ble_eq_true rfl) (Or.inl ⟨rfl, rfl⟩) ?_
        intro M9 v9 h
        obtain ⟨x21, rfl, h⟩ := h
        obtain ⟨hM9, h⟩ := h
        rw [hM9]
        show G X 4 M7 0 0 47 [(0, .ref a0), (1, .int x1), (2, .int x5), (3, .int x6)] [.int x21]
        refine g_if_ne hC 56 dX6_forgets_47 (by decide) (fun c24 => ?_) (fun c24 => ?_)
        · replace h := h.2 c24
          exact h
        · replace h := h.1 c24
          refine g_aload_n (r := (some a0)) hC 0 dX6_forgets_50 rfl ?_
          refine g_iload_n hC 1 dX6_forgets_51 rfl ?_
          refine g_pc (pc' := 52) rfl ?_
          refine g_iload_n hC 3 dX6_forgets_52 rfl ?_
          obtain ⟨hc22, h⟩ := h
          refine g_callV hC (As := [.int x1, .int x6]) (fun l D dA ht => s_X6_quits l D dA ht _ _ _ _ _ h) wm_4_50 wm_4_47 wm_4_49 wm_0_24 wm_1_7 (by decide +kernel : plainY yX6_quits 2) kc6.1 kc6.2.1 dX6_forgets_53 (by decide) (Nat.le_of_ble_eq_true rfl) hc22 (Or.inl ⟨rfl, rfl⟩) ?_
          intro M9 v9 h
          obtain ⟨rfl, h⟩ := h
          generalize M9 = M23 at h ⊢
          show G X 4 M23 0 0 56 [(0, .ref a0), (1, .int x1), (2, .int x5), (3, .int x6)] []
          exact h

def w_X6_split (M : Mem) (a0 : Nat) (p0 : Int32) (p1 : Int32) (post : Mem → Int32 → Prop) : Prop :=
  w_X6_isServer M p0 (fun x1 => ∀ J3 : Int32 → Prop, (∀ (x2 : Int32), (∀ J5 : Int32 → Prop, (∀ (x4 : Int32), (gT M a0 = some (6, 0) ∧ w_X6_holds M a0 x4 (fun M7 x8 => (x8 = 0 → post M7 0) ∧ (¬ (x8 = 0) → gT M7 a0 = some (6, 0) ∧ ∀ x10, x10 = gI M7 a0 14 → Lp (fun (K12 : Mem → Prop) (z : Mem) => ∀ (M11 : Mem), z = M11 → (gT M11 a0 = some (6, 0) ∧ ∃ b14, gR M11 a0 12 = some b14 ∧ inA M11 b14 10 ((6 * p0) + p1) ∧ (gI M11 b14 (Int32.toNatClampNeg ((6 * p0) + p1)) = (-1) → Lp (fun (K17 : Mem → Prop) (z : Mem) => ∀ (M16 : Mem), z = M16 → (gT M16 a0 = some (6, 0) ∧ ∃ b19, gR M16 a0 12 = some b19 ∧ inA M16 b19 10 ((6 * p1) + p0) ∧ (gI M16 b19 (Int32.toNatClampNeg ((6 * p1) + p0)) = (-1) → gT M16 a0 = some (6, 0) ∧ ∃ b22, gR M16 a0 6 = some b22 ∧ inA M16 b22 10 p0 ∧ inA M16 b22 10 p0 ∧ ∀ M24, M24 = sI M16 b22 (Int32.toNatClampNeg p0) ((gI M16 b22 (Int32.toNatClampNeg p0)) &&& ((1 <<< (p1 &&& 31)) ^^^ ((-1)))) → gT M24 a0 = some (6, 0) ∧ ∃ b27, gR M24 a0 6 = some b27 ∧ inA M24 b27 10 p1 ∧ inA M24 b27 10 p1 ∧ ∀ M29, M29 = sI M24 b27 (Int32.toNatClampNeg p1) ((gI M24 b27 (Int32.toNatClampNeg p1)) &&& ((1 <<< (p0 &&& 31)) ^^^ ((-1)))) → gT M29 a0 = some (6, 0) ∧ w_X6_forgets M29 a0 (fun M32 => gT M32 a0 = some (6, 0) ∧ gT M32 a0 = some (6, 0) ∧ ∀ M35, M35 = sI M32 a0 1 ((gI M32 a0 1) + 1) → gT M35 a0 = some (6, 0) ∧ post M35 (x10 - (gI M35 a0 14)))) ∧ (¬ (gI M16 b19 (Int32.toNatClampNeg ((6 * p1) + p0)) = (-1)) → gT M16 a0 = some (6, 0) ∧ w_X6_takes M16 a0 ((6 * p1) + p0) (fun M38 => K17 M38)))) M11) ∧ (¬ (gI M11 b14 (Int32.toNatClampNeg ((6 * p0) + p1)) = (-1)) → gT M11 a0 = some (6, 0) ∧ w_X6_takes M11 a0 ((6 * p0) + p1) (fun M42 => K12 M42)))) M7))) → J5 x4) → ((x2 = 0 → J5 1) ∧ (¬ (x2 = 0) → gT M a0 = some (6, 0) ∧ ∃ b47, gR M a0 6 = some b47 ∧ inA M b47 10 p0 ∧ w_X6_has M (gI M b47 (Int32.toNatClampNeg p0)) p1 (fun x49 => (x49 = 0 → J5 2) ∧ (¬ (x49 = 0) → J5 0))))) → J3 x2) → (∀ J52 : Prop, ((J3 0) → J52) → ((x1 = 0 → J52) ∧ (¬ (x1 = 0) → w_X6_isServer M p1 (fun x53 => (x53 = 0 → J52) ∧ (¬ (x53 = 0) → J3 1))))))
set_option maxRecDepth 100000 in
set_option maxHeartbeats 8000000 in
theorem s_X6_split (l : Launch) (D : va_G) (dA : Nat → ClassId) (htr : l.stackTraces = false) (M : Mem) (a0 : Nat) (p0 : Int32) (p1 : Int32) (post : Mem → Int32 → Prop) (h : w_X6_split M a0 p0 p1 post) : CtN l D dA yX6_split cX6_split 5 (some .int) 5 [.ref a0, .int p0, .int p1] M 0 0 (pI post) := by
  refine ct_ofN htr (by decide) (Nat.le_of_ble_eq_true rfl) ?_
  intro X hC hN hR
  show G X 5 M 0 0 0 [(0, .ref a0), (1, .int p0), (2, .int p1)] []
  unfold w_X6_split at h
  refine g_iload_n hC 1 dX6_split_0 rfl ?_
  refine g_callS hC (As := [.int p0]) (fun l D dA ht => s_X6_isServer l D dA ht _ _ _ h) wm_4_4 wm_4_2 wm_4_3 wm_1_7 (by decide +kernel : plainY yX6_isServer 1) dX6_split_1 (by decide) (Nat.le_of_ble_eq_true rfl) (Or.inl ⟨rfl, rfl⟩) ?_
  intro M9 v9 h
  obtain ⟨x1, rfl, h⟩ := h
  obtain ⟨hM9, h⟩ := h
  rw [hM9]
  show G X 5 M 0 0 4 [(0, .ref a0), (1, .int p0), (2, .int p1)] [.int x1]
  replace h := h (fun (x2 : Int32) => G X 5 M 0 0 19 [(0, .ref a0), (1, .int p0), (2, .int p1)] [.int x2]) (by
    intro x2 h
    show G X 5 M 0 0 19 [(0, .ref a0), (1, .int p0), (2, .int p1)] [.int x2]
    refine g_istore_n (lv' := [(3, .int x2), (0, .ref a0), (1, .int p0), (2, .int p1)]) hC dX6_split_19 (by decide) rfl ?_
    refine g_aload_n (r := (some a0)) hC 1 dX6_split_20 rfl ?_
    refine g_iload_n hC 0 dX6_split_21 rfl ?_
    replace h := h (fun (x4 : Int32) => G X 5 M 0 0 47 [(0, .ref a0), (1, .int p0), (2, .int p1), (3, .int x2)] [.int x4, .ref a0]) (by
      intro x4 h
      show G X 5 M 0 0 47 [(0, .ref a0), (1, .int p0), (2, .int p1), (3, .int x2)] [.int x4, .ref a0]
      obtain ⟨hc6, h⟩ := h
      refine g_callV hC (As := [.int x4]) (fun l D dA ht => s_X6_holds l D dA ht _ _ _ _ h) wm_4_15 wm_4_12 wm_4_14 wm_0_17 wm_1_7 (by decide +kernel : plainY yX6_holds 1) kc6.1 kc6.2.1 dX6_split_47 (by decide) (Nat.le_of_ble_eq_true rfl) hc6 (Or.inl ⟨rfl, rfl⟩) ?_
      intro M9 v9 h
      obtain ⟨x8, rfl, h⟩ := h
      generalize M9 = M7 at h ⊢
      show G X 5 M7 0 0 50 [(0, .ref a0), (1, .int p0), (2, .int p1), (3, .int x2)] [.int x8]
      refine g_if_ne hC 55 dX6_split_50 (by decide) (fun c45 => ?_) (fun c45 => ?_)
      · replace h := h.2 c45
        refine g_pc (pc' := 55) rfl ?_
        refine g_aload_n (r := (some a0)) hC 0 dX6_split_55 rfl ?_
        obtain ⟨hc9, h⟩ := h
        refine g_getI hC kc6 14 (by decide) wm_3_160 dX6_split_56 rfl hc9 ?_
        obtain ⟨x10, ex10⟩ : ∃ w, w = gI M7 a0 14 := ⟨_, rfl⟩
        replace h := h x10 ex10
        rw [← ex10]
        refine g_istore (lv' := [(4, .int x10), (0, .ref a0), (1, .int p0), (2, .int p1), (3, .int x2)]) hC dX6_split_59 (by decide) rfl ?_
        refine g_sub [1, 2, 3, 4, 0] (lv' := [(0, .ref a0), (1, .int p0), (2, .int p1), (3, .int x2), (4, .int x10)]) rfl ?_
        refine Lp_use (fun (z44 : Mem) => G X 5 z44 0 0 61 [(0, .ref a0), (1, .int p0), (2, .int p1), (3, .int x2), (4, .int x10)] []) h ?_
        intro K12 z hK_K12 h
        obtain ⟨M11, hz⟩ : ∃ w, w = z := ⟨_, rfl⟩; subst hz
        replace h := h _ rfl
        show G X 5 M11 0 0 61 [(0, .ref a0), (1, .int p0), (2, .int p1), (3, .int x2), (4, .int x10)] []
        refine g_aload_n (r := (some a0)) hC 0 dX6_split_61 rfl ?_
        obtain ⟨hc13, h⟩ := h
        obtain ⟨b14, eb14, h⟩ := h
        refine g_getA hC kc6 12 (by decide) wm_3_158 dX6_split_62 rfl hc13 eb14 ?_
        refine g_bipush (v := 6) hC dX6_split_65 (by decide) ?_
        refine g_iload_n hC 1 dX6_split_67 rfl ?_
        refine g_imul hC dX6_split_68 ?_
        refine g_pc (pc' := 69) rfl ?_
        refine g_iload_n hC 2 dX6_split_69 rfl ?_
        refine g_iadd hC dX6_split_70 ?_
        obtain ⟨hc15, h⟩ := h
        refine g_ialdA hC dX6_split_71 hc15 ?_
        refine g_iconst (v := (-1)) hC dX6_split_72 (by decide) ?_
        refine g_icmp_eq hC 89 dX6_split_73 (by decide) (fun c43 => ?_) (fun c43 => ?_)
        · replace h := h.1 c43
          refine Lp_use (fun (z40 : Mem) => G X 5 z40 0 0 89 [(0, .ref a0), (1, .int p0), (2, .int p1), (3, .int x2), (4, .int x10)] []) h ?_
          intro K17 z hK_K17 h
          obtain ⟨M16, hz⟩ : ∃ w, w = z := ⟨_, rfl⟩; subst hz
          replace h := h _ rfl
          show G X 5 M16 0 0 89 [(0, .ref a0), (1, .int p0), (2, .int p1), (3, .int x2), (4, .int x10)] []
          refine g_aload_n (r := (some a0)) hC 0 dX6_split_89 rfl ?_
          obtain ⟨hc18, h⟩ := h
          obtain ⟨b19, eb19, h⟩ := h
          refine g_getA hC kc6 12 (by decide) wm_3_158 dX6_split_90 rfl hc18 eb19 ?_
          refine g_bipush (v := 6) hC dX6_split_93 (by decide) ?_
          refine g_pc (pc' := 95) rfl ?_
          refine g_iload_n hC 2 dX6_split_95 rfl ?_
          refine g_imul hC dX6_split_96 ?_
          refine g_iload_n hC 1 dX6_split_97 rfl ?_
          refine g_iadd hC dX6_split_98 ?_
          obtain ⟨hc20, h⟩ := h
          refine g_ialdA hC dX6_split_99 hc20 ?_
          refine g_iconst (v := (-1)) hC dX6_split_100 (by decide) ?_
          refine g_icmp_eq hC 117 dX6_split_101 (by decide) (fun c39 => ?_) (fun c39 => ?_)
          · replace h := h.1 c39
            refine g_aload_n (r := (some a0)) hC 0 dX6_split_117 rfl ?_
            obtain ⟨hc21, h⟩ := h
            obtain ⟨b22, eb22, h⟩ := h
            refine g_pc (pc' := 118) rfl ?_
            refine g_getA hC kc6 6 (by decide) wm_3_152 dX6_split_118 rfl hc21 eb22 ?_
            refine g_iload_n hC 1 dX6_split_121 rfl ?_
            refine g_dup2 hC dX6_split_122 rfl rfl ?_
            obtain ⟨hc23, h⟩ := h
            refine g_ialdA hC dX6_split_123 hc23 ?_
            refine g_iconst (v := 1) hC dX6_split_124 (by decide) ?_
            refine g_iload_n hC 2 dX6_split_125 rfl ?_
            refine g_ishl hC dX6_split_126 ?_
            refine g_iconst (v := (-1)) hC dX6_split_127 (by decide) ?_
            refine g_pc (pc' := 128) rfl ?_
            refine g_ixor hC dX6_split_128 ?_
            refine g_iand hC dX6_split_129 ?_
            obtain ⟨hc25, h⟩ := h
            refine g_iastA hC dX6_split_130 hc25 ?_
            obtain ⟨M24, eM24⟩ : ∃ w, w = sI M16 b22 (Int32.toNatClampNeg p0) ((gI M16 b22 (Int32.toNatClampNeg p0)) &&& ((1 <<< (p1 &&& 31)) ^^^ ((-1)))) := ⟨_, rfl⟩
            replace h := h M24 eM24
            rw [← eM24]
            refine g_aload_n (r := (some a0)) hC 0 dX6_split_131 rfl ?_
            obtain ⟨hc26, h⟩ := h
            obtain ⟨b27, eb27, h⟩ := h
            refine g_getA hC kc6 6 (by decide) wm_3_152 dX6_split_132 rfl hc26 eb27 ?_
            refine g_iload_n hC 2 dX6_split_135 rfl ?_
            refine g_dup2 hC dX6_split_136 rfl rfl ?_
            obtain ⟨hc28, h⟩ := h
            refine g_ialdA hC dX6_split_137 hc28 ?_
            refine g_pc (pc' := 138) rfl ?_
            refine g_iconst (v := 1) hC dX6_split_138 (by decide) ?_
            refine g_iload_n hC 1 dX6_split_139 rfl ?_
            refine g_ishl hC dX6_split_140 ?_
            refine g_iconst (v := (-1)) hC dX6_split_141 (by decide) ?_
            refine g_ixor hC dX6_split_142 ?_
            refine g_iand hC dX6_split_143 ?_
            obtain ⟨hc30, h⟩ := h
            refine g_iastA hC dX6_split_144 hc30 ?_
            obtain ⟨M29, eM29⟩ : ∃ w, w = sI M24 b27 (Int32.toNatClampNeg p1) ((gI M24 b27 (Int32.toNatClampNeg p1)) &&& ((1 <<< (p0 &&& 31)) ^^^ ((-1)))) := ⟨_, rfl⟩
            replace h := h M29 eM29
            rw [← eM29]
            refine g_aload_n (r := (some a0)) hC 0 dX6_split_145 rfl ?_
            refine g_pc (pc' := 146) rfl ?_
            obtain ⟨hc31, h⟩ := h
            refine g_callV hC (As := []) (fun l D dA ht => s_X6_forgets l D dA ht _ _ _ h) wm_4_46 wm_4_43 wm_4_45 wm_0_23 wm_1_7 (by decide +kernel : plainY yX6_forgets 0) kc6.1 kc6.2.1 dX6_split_146 (by decide) (Nat.le_of_ble_eq_true rfl) hc31 (Or.inl ⟨rfl, rfl⟩) ?_
            intro M9 v9 h
            obtain ⟨rfl, h⟩ := h
            generalize M9 = M32 at h ⊢
            show G X 5 M32 0 0 149 [(0, .ref a0), (1, .int p0), (2, .int p1), (3, .int x2), (4, .int x10)] []
            refine g_aload_n (r := (some a0)) hC 0 dX6_split_149 rfl ?_
            refine g_dup hC dX6_split_150 rfl ?_
            obtain ⟨hc33, h⟩ := h
            refine g_getI hC kc6 1 (by decide) wm_3_147 dX6_split_151 rfl hc33 ?_
            refine g_iconst (v := 1) hC dX6_split_154 (by decide) ?_
            refine g_iadd hC dX6_split_155 ?_
            obtain ⟨hc34, h⟩ := h
            refine g_putI hC kc6 1 (by decide) wm_3_147 dX6_split_156 rfl rfl (Or.inl rfl) hc34 ?_
            obtain ⟨M35, eM35⟩ : ∃ w, w = sI M32 a0 1 ((gI M32 a0 1) + 1) := ⟨_, rfl⟩
            replace h := h M35 eM35
            rw [← eM35]
            refine g_iload hC 4 dX6_split_159 rfl ?_
            refine g_pc (pc' := 161) rfl ?_
            refine g_aload_n (r := (some a0)) hC 0 dX6_split_161 rfl ?_
            obtain ⟨hc36, h⟩ := h
            refine g_getI hC kc6 14 (by decide) wm_3_160 dX6_split_162 rfl hc36 ?_
            refine g_isub hC dX6_split_165 ?_
            exact hR.2.1 rfl _ _ _ _ _ _ dX6_split_166 ⟨_, rfl, h⟩
          · replace h := h.2 c39
            refine g_aload_n (r := (some a0)) hC 0 dX6_split_104 rfl ?_
            refine g_pc (pc' := 105) rfl ?_
            refine g_bipush (v := 6) hC dX6_split_105 (by decide) ?_
            refine g_iload_n hC 2 dX6_split_107 rfl ?_
            refine g_imul hC dX6_split_108 ?_
            refine g_iload_n hC 1 dX6_split_109 rfl ?_
            refine g_iadd hC dX6_split_110 ?_
            obtain ⟨hc37, h⟩ := h
            refine g_callV hC (As := [.int ((6 * p1) + p0)]) (fun l D dA ht => s_X6_takes l D dA ht _ _ _ _ h) wm_4_42 wm_4_39 wm_4_41 wm_0_22 wm_1_7 (by decide +kernel : plainY yX6_takes 1) kc6.1 kc6.2.1 dX6_split_111 (by decide) (Nat.le_of_ble_eq_true rfl) hc37 (Or.inl ⟨rfl, rfl⟩) ?_
            intro M9 v9 h
            obtain ⟨rfl, h⟩ := h
            generalize M9 = M38 at h ⊢
            show G X 5 M38 0 0 114 [(0, .ref a0), (1, .int p0), (2, .int p1), (3, .int x2), (4, .int x10)] []
            refine g_goto hC 89 dX6_split_114 (by decide) ?_
            exact hK_K17 _ h
        · replace h := h.2 c43
          refine g_aload_n (r := (some a0)) hC 0 dX6_split_76 rfl ?_
          refine g_bipush (v := 6) hC dX6_split_77 (by decide) ?_
          refine g_iload_n hC 1 dX6_split_79 rfl ?_
          refine g_pc (pc' := 80) rfl ?_
          refine g_imul hC dX6_split_80 ?_
          refine g_iload_n hC 2 dX6_split_81 rfl ?_
          refine g_iadd hC dX6_split_82 ?_
          obtain ⟨hc41, h⟩ := h
          refine g_callV hC (As := [.int ((6 * p0) + p1)]) (fun l D dA ht => s_X6_takes l D dA ht _ _ _ _ h) wm_4_42 wm_4_39 wm_4_41 wm_0_22 wm_1_7 (by decide +kernel : plainY yX6_takes 1) kc6.1 kc6.2.1 dX6_split_83 (by decide) (Nat.le_of_ble_eq_true rfl) hc41 (Or.inl ⟨rfl, rfl⟩) ?_
          intro M9 v9 h
          obtain ⟨rfl, h⟩ := h
          generalize M9 = M42 at h ⊢
          show G X 5 M42 0 0 86 [(0, .ref a0), (1, .int p0), (2, .int p1), (3, .int x2), (4, .int x10)] []
          refine g_goto hC 61 dX6_split_86 (by decide) ?_
          exact hK_K12 _ h
      · replace h := h.1 c45
        refine g_pc (pc' := 53) rfl ?_
        refine g_iconst (v := 0) hC dX6_split_53 (by decide) ?_
        exact hR.2.1 rfl _ _ _ _ _ _ dX6_split_54 ⟨_, rfl, h⟩)
    refine g_if_ne hC 29 dX6_split_22 (by decide) (fun c51 => ?_) (fun c51 => ?_)
    · replace h := h.2 c51
      refine g_aload_n (r := (some a0)) hC 1 dX6_split_29 rfl ?_
      obtain ⟨hc46, h⟩ := h
      obtain ⟨b47, eb47, h⟩ := h
      refine g_pc (pc' := 30) rfl ?_
      refine g_getA hC kc6 6 (by decide) wm_3_152 dX6_split_30 rfl hc46 eb47 ?_
      refine g_iload_n hC 2 dX6_split_33 rfl ?_
      obtain ⟨hc48, h⟩ := h
      refine g_ialdA hC dX6_split_34 hc48 ?_
      refine g_iload_n hC 3 dX6_split_35 rfl ?_
      refine g_callS hC (As := [.int (gI M b47 (Int32.toNatClampNeg p0)), .int p1]) (fun l D dA ht => s_X6_has l D dA ht _ _ _ _ h) wm_4_11 wm_4_9 wm_4_10 wm_1_7 (by decide +kernel : plainY yX6_has 2) dX6_split_36 (by decide) (Nat.le_of_ble_eq_true rfl) (Or.inl ⟨rfl, rfl⟩) ?_
      intro M9 v9 h
      obtain ⟨x49, rfl, h⟩ := h
      obtain ⟨hM9, h⟩ := h
      rw [hM9]
      show G X 5 M 0 0 39 [(3, .int x2), (0, .ref a0), (1, .int p0), (2, .int p1)] [.int x49, .ref a0]
      refine g_if_eq hC 46 dX6_split_39 (by decide) (fun c50 => ?_) (fun c50 => ?_)
      · replace h := h.1 c50
        refine g_iconst (v := 2) hC dX6_split_46 (by decide) ?_
        refine g_sub [1, 2, 3, 0] (lv' := [(0, .ref a0), (1, .int p0), (2, .int p1), (3, .int x2)]) rfl ?_
        exact h
      · replace h := h.2 c50
        refine g_iconst (v := 0) hC dX6_split_42 (by decide) ?_
        refine g_goto hC 47 dX6_split_43 (by decide) ?_
        refine g_sub [1, 2, 3, 0] (lv' := [(0, .ref a0), (1, .int p0), (2, .int p1), (3, .int x2)]) rfl ?_
        exact h
    · replace h := h.1 c51
      refine g_iconst (v := 1) hC dX6_split_25 (by decide) ?_
      refine g_pc (pc' := 26) rfl ?_
      refine g_goto hC 47 dX6_split_26 (by decide) ?_
      refine g_sub [1, 2, 3, 0] (lv' := [(0, .ref a0), (1, .int p0), (2, .int p1), (3, .int x2)]) rfl ?_
      exact h)
  replace h := h (G X 5 M 0 0 18 [(0, .ref a0), (1, .int p0), (2, .int p1)] []) (by
    intro h
    refine g_iconst (v := 0) hC dX6_split_18 (by decide) ?_
    exact h)
  refine g_if_eq hC 18 dX6_split_4 (by decide) (fun c55 => ?_) (fun c55 => ?_)
  · replace h := h.1 c55
    exact h
  · replace h := h.2 c55
    refine g_iload_n hC 2 dX6_split_7 rfl ?_
    refine g_callS hC (As := [.int p1]) (fun l D dA ht => s_X6_isServer l D dA ht _ _ _ h) wm_4_4 wm_4_2 wm_4_3 wm_1_7 (by decide +kernel : plainY yX6_isServer 1) dX6_split_8 (by decide) (Nat.le_of_ble_eq_true rfl) (Or.inl ⟨rfl, rfl⟩) ?_
    intro M9 v9 h
    obtain ⟨x53, rfl, h⟩ := h
    obtain ⟨hM9, h⟩ := h
    rw [hM9]
    show G X 5 M 0 0 11 [(0, .ref a0), (1, .int p0), (2, .int p1)] [.int x53]
    refine g_if_eq hC 18 dX6_split_11 (by decide) (fun c54 => ?_) (fun c54 => ?_)
    · replace h := h.1 c54
      exact h
    · replace h := h.2 c54
      refine g_iconst (v := 1) hC dX6_split_14 (by decide) ?_
      refine g_pc (pc' := 15) rfl ?_
      refine g_goto hC 19 dX6_split_15 (by decide) ?_
      exact h

def w_X6_isLine (M : Mem) (a0 : Nat) (p0 : Int32) (p1 : Int32) (post : Int32 → Prop) : Prop :=
  gT M a0 = some (6, 0) ∧ ∃ b2, gR M a0 6 = some b2 ∧ inA M b2 10 p0 ∧ w_X6_has M (gI M b2 (Int32.toNatClampNeg p0)) p1 (fun x4 => ∀ J6 : Int32 → Prop, (∀ (x5 : Int32), (((x5 : Int32) = 0 ∨ (x5 : Int32) = 1) ∧ post x5) → J6 x5) → (∀ J7 : Prop, ((J6 0) → J7) → ((x4 = 0 → J7) ∧ (¬ (x4 = 0) → gT M a0 = some (6, 0) ∧ ∃ b9, gR M a0 12 = some b9 ∧ inA M b9 10 ((6 * p0) + p1) ∧ (gI M b9 (Int32.toNatClampNeg ((6 * p0) + p1)) = (-1) → J7) ∧ (¬ (gI M b9 (Int32.toNatClampNeg ((6 * p0) + p1)) = (-1)) → J6 1)))))
set_option maxRecDepth 100000 in
set_option maxHeartbeats 8000000 in
theorem s_X6_isLine (l : Launch) (D : va_G) (dA : Nat → ClassId) (htr : l.stackTraces = false) (M : Mem) (a0 : Nat) (p0 : Int32) (p1 : Int32) (post : Int32 → Prop) (h : w_X6_isLine M a0 p0 p1 post) : CtN l D dA yX6_isLine cX6_isLine 3 (some .boolean) 2 [.ref a0, .int p0, .int p1] M 0 0 (pI (fun M' r => M' = M ∧ post r)) := by
  refine ct_ofN htr (by decide) (Nat.le_of_ble_eq_true rfl) ?_
  intro X hC hN hR
  show G X 3 M 0 0 0 [(0, .ref a0), (1, .int p0), (2, .int p1)] []
  unfold w_X6_isLine at h
  refine g_aload_n (r := (some a0)) hC 0 dX6_isLine_0 rfl ?_
  obtain ⟨hc1, h⟩ := h
  obtain ⟨b2, eb2, h⟩ := h
  refine g_getA hC kc6 6 (by decide) wm_3_152 dX6_isLine_1 rfl hc1 eb2 ?_
  refine g_iload_n hC 1 dX6_isLine_4 rfl ?_
  obtain ⟨hc3, h⟩ := h
  refine g_ialdA hC dX6_isLine_5 hc3 ?_
  refine g_iload_n hC 2 dX6_isLine_6 rfl ?_
  refine g_callS hC (As := [.int (gI M b2 (Int32.toNatClampNeg p0)), .int p1]) (fun l D dA ht => s_X6_has l D dA ht _ _ _ _ h) wm_4_11 wm_4_9 wm_4_10 wm_1_7 (by decide +kernel : plainY yX6_has 2) dX6_isLine_7 (by decide) (Nat.le_of_ble_eq_true rfl) (Or.inl ⟨rfl, rfl⟩) ?_
  intro M9 v9 h
  obtain ⟨x4, rfl, h⟩ := h
  obtain ⟨hM9, h⟩ := h
  rw [hM9]
  show G X 3 M 0 0 10 [(0, .ref a0), (1, .int p0), (2, .int p1)] [.int x4]
  replace h := h (fun (x5 : Int32) => G X 3 M 0 0 33 [(0, .ref a0), (1, .int p0), (2, .int p1)] [.int x5]) (by
    intro x5 h
    show G X 3 M 0 0 33 [(0, .ref a0), (1, .int p0), (2, .int p1)] [.int x5]
    exact hR.2.2.1 rfl _ _ _ _ _ _ dX6_isLine_33 ⟨h.1, ⟨_, rfl, rfl, h.2⟩⟩)
  replace h := h (G X 3 M 0 0 32 [(0, .ref a0), (1, .int p0), (2, .int p1)] []) (by
    intro h
    refine g_iconst (v := 0) hC dX6_isLine_32 (by decide) ?_
    exact h)
  refine g_if_eq hC 32 dX6_isLine_10 (by decide) (fun c12 => ?_) (fun c12 => ?_)
  · replace h := h.1 c12
    exact h
  · replace h := h.2 c12
    refine g_pc (pc' := 13) rfl ?_
    refine g_aload_n (r := (some a0)) hC 0 dX6_isLine_13 rfl ?_
    obtain ⟨hc8, h⟩ := h
    obtain ⟨b9, eb9, h⟩ := h
    refine g_getA hC kc6 12 (by decide) wm_3_158 dX6_isLine_14 rfl hc8 eb9 ?_
    refine g_bipush (v := 6) hC dX6_isLine_17 (by decide) ?_
    refine g_iload_n hC 1 dX6_isLine_19 rfl ?_
    refine g_imul hC dX6_isLine_20 ?_
    refine g_iload_n hC 2 dX6_isLine_21 rfl ?_
    refine g_iadd hC dX6_isLine_22 ?_
    obtain ⟨hc10, h⟩ := h
    refine g_ialdA hC dX6_isLine_23 hc10 ?_
    refine g_pc (pc' := 24) rfl ?_
    refine g_iconst (v := (-1)) hC dX6_isLine_24 (by decide) ?_
    refine g_icmp_eq hC 32 dX6_isLine_25 (by decide) (fun c11 => ?_) (fun c11 => ?_)
    · replace h := h.1 c11
      exact h
    · replace h := h.2 c11
      refine g_iconst (v := 1) hC dX6_isLine_28 (by decide) ?_
      refine g_goto hC 33 dX6_isLine_29 (by decide) ?_
      exact h

def w_X6_delivers (M : Mem) (a0 : Nat) (p0 : Int32) (p1 : Int32) (post : Mem → Prop) : Prop :=
  gT M a0 = some (6, 0) ∧ w_X6_takes M a0 ((6 * p0) + p1) (fun M2 => gT M2 a0 = some (6, 0) ∧ w_X6_gets M2 a0 p1 p0 (fun M4 => post M4))
set_option maxRecDepth 100000 in
set_option maxHeartbeats 8000000 in
theorem s_X6_delivers (l : Launch) (D : va_G) (dA : Nat → ClassId) (htr : l.stackTraces = false) (M : Mem) (a0 : Nat) (p0 : Int32) (p1 : Int32) (post : Mem → Prop) (h : w_X6_delivers M a0 p0 p1 post) : CtN l D dA yX6_delivers cX6_delivers 3 (none) 6 [.ref a0, .int p0, .int p1] M 0 0 (pV post) := by
  refine ct_ofN htr (by decide) (Nat.le_of_ble_eq_true rfl) ?_
  intro X hC hN hR
  show G X 3 M 0 0 0 [(0, .ref a0), (1, .int p0), (2, .int p1)] []
  unfold w_X6_delivers at h
  refine g_aload_n (r := (some a0)) hC 0 dX6_delivers_0 rfl ?_
  refine g_bipush (v := 6) hC dX6_delivers_1 (by decide) ?_
  refine g_iload_n hC 1 dX6_delivers_3 rfl ?_
  refine g_imul hC dX6_delivers_4 ?_
  refine g_iload_n hC 2 dX6_delivers_5 rfl ?_
  refine g_iadd hC dX6_delivers_6 ?_
  obtain ⟨hc1, h⟩ := h
  refine g_callV hC (As := [.int ((6 * p0) + p1)]) (fun l D dA ht => s_X6_takes l D dA ht _ _ _ _ h) wm_4_42 wm_4_39 wm_4_41 wm_0_22 wm_1_7 (by decide +kernel : plainY yX6_takes 1) kc6.1 kc6.2.1 dX6_delivers_7 (by decide) (Nat.le_of_ble_eq_true rfl) hc1 (Or.inl ⟨rfl, rfl⟩) ?_
  intro M9 v9 h
  obtain ⟨rfl, h⟩ := h
  generalize M9 = M2 at h ⊢
  show G X 3 M2 0 0 10 [(0, .ref a0), (1, .int p0), (2, .int p1)] []
  refine g_pc (pc' := 10) rfl ?_
  refine g_aload_n (r := (some a0)) hC 0 dX6_delivers_10 rfl ?_
  refine g_iload_n hC 2 dX6_delivers_11 rfl ?_
  refine g_iload_n hC 1 dX6_delivers_12 rfl ?_
  obtain ⟨hc3, h⟩ := h
  refine g_callV hC (As := [.int p1, .int p0]) (fun l D dA ht => s_X6_gets l D dA ht _ _ _ _ _ h) wm_4_70 wm_4_67 wm_4_69 wm_0_28 wm_1_7 (by decide +kernel : plainY yX6_gets 2) kc6.1 kc6.2.1 dX6_delivers_13 (by decide) (Nat.le_of_ble_eq_true rfl) hc3 (Or.inl ⟨rfl, rfl⟩) ?_
  intro M9 v9 h
  obtain ⟨rfl, h⟩ := h
  generalize M9 = M4 at h ⊢
  show G X 3 M4 0 0 16 [(0, .ref a0), (1, .int p0), (2, .int p1)] []
  exact hR.1 rfl _ _ _ _ _ dX6_delivers_16 ⟨rfl, h⟩

def w_X6_deliver (M : Mem) (a0 : Nat) (p0 : Int32) (p1 : Int32) (post : Mem → Int32 → Prop) : Prop :=
  w_X6_isServer M p0 (fun x1 => ∀ J3 : Int32 → Prop, (∀ (x2 : Int32), (∀ J5 : Int32 → Prop, (∀ (x4 : Int32), (gT M a0 = some (6, 0) ∧ w_X6_holds M a0 x4 (fun M7 x8 => (x8 = 0 → post M7 0) ∧ (¬ (x8 = 0) → gT M7 a0 = some (6, 0) ∧ w_X6_delivers M7 a0 p0 p1 (fun M10 => gT M10 a0 = some (6, 0) ∧ gT M10 a0 = some (6, 0) ∧ ∀ M13, M13 = sI M10 a0 1 ((gI M10 a0 1) + 1) → gT M13 a0 = some (6, 0) ∧ post M13 (gI M13 a0 14))))) → J5 x4) → ((x2 = 0 → J5 1) ∧ (¬ (x2 = 0) → gT M a0 = some (6, 0) ∧ w_X6_isLine M a0 p0 p1 (fun x17 => (x17 = 0 → J5 2) ∧ (¬ (x17 = 0) → J5 0))))) → J3 x2) → (∀ J20 : Prop, ((J3 0) → J20) → ((x1 = 0 → J20) ∧ (¬ (x1 = 0) → w_X6_isServer M p1 (fun x21 => (x21 = 0 → J20) ∧ (¬ (x21 = 0) → J3 1))))))
set_option maxRecDepth 100000 in
set_option maxHeartbeats 8000000 in
theorem s_X6_deliver (l : Launch) (D : va_G) (dA : Nat → ClassId) (htr : l.stackTraces = false) (M : Mem) (a0 : Nat) (p0 : Int32) (p1 : Int32) (post : Mem → Int32 → Prop) (h : w_X6_deliver M a0 p0 p1 post) : CtN l D dA yX6_deliver cX6_deliver 4 (some .int) 7 [.ref a0, .int p0, .int p1] M 0 0 (pI post) := by
  refine ct_ofN htr (by decide) (Nat.le_of_ble_eq_true rfl) ?_
  intro X hC hN hR
  show G X 4 M 0 0 0 [(0, .ref a0), (1, .int p0), (2, .int p1)] []
  unfold w_X6_deliver at h
  refine g_iload_n hC 1 dX6_deliver_0 rfl ?_
  refine g_callS hC (As := [.int p0]) (fun l D dA ht => s_X6_isServer l D dA ht _ _ _ h) wm_4_4 wm_4_2 wm_4_3 wm_1_7 (by decide +kernel : plainY yX6_isServer 1) dX6_deliver_1 (by decide) (Nat.le_of_ble_eq_true rfl) (Or.inl ⟨rfl, rfl⟩) ?_
  intro M9 v9 h
  obtain ⟨x1, rfl, h⟩ := h
  obtain ⟨hM9, h⟩ := h
  rw [hM9]
  show G X 4 M 0 0 4 [(0, .ref a0), (1, .int p0), (2, .int p1)] [.int x1]
  replace h := h (fun (x2 : Int32) => G X 4 M 0 0 19 [(0, .ref a0), (1, .int p0), (2, .int p1)] [.int x2]) (by
    intro x2 h
    show G X 4 M 0 0 19 [(0, .ref a0), (1, .int p0), (2, .int p1)] [.int x2]
    refine g_istore_n (lv' := [(3, .int x2), (0, .ref a0), (1, .int p0), (2, .int p1)]) hC dX6_deliver_19 (by decide) rfl ?_
    refine g_aload_n (r := (some a0)) hC 1 dX6_deliver_20 rfl ?_
    refine g_iload_n hC 0 dX6_deliver_21 rfl ?_
    replace h := h (fun (x4 : Int32) => G X 4 M 0 0 43 [(0, .ref a0), (1, .int p0), (2, .int p1), (3, .int x2)] [.int x4, .ref a0]) (by
      intro x4 h
      show G X 4 M 0 0 43 [(0, .ref a0), (1, .int p0), (2, .int p1), (3, .int x2)] [.int x4, .ref a0]
      obtain ⟨hc6, h⟩ := h
      refine g_callV hC (As := [.int x4]) (fun l D dA ht => s_X6_holds l D dA ht _ _ _ _ h) wm_4_15 wm_4_12 wm_4_14 wm_0_17 wm_1_7 (by decide +kernel : plainY yX6_holds 1) kc6.1 kc6.2.1 dX6_deliver_43 (by decide) (Nat.le_of_ble_eq_true rfl) hc6 (Or.inl ⟨rfl, rfl⟩) ?_
      intro M9 v9 h
      obtain ⟨x8, rfl, h⟩ := h
      generalize M9 = M7 at h ⊢
      show G X 4 M7 0 0 46 [(0, .ref a0), (1, .int p0), (2, .int p1), (3, .int x2)] [.int x8]
      refine g_if_ne hC 51 dX6_deliver_46 (by decide) (fun c15 => ?_) (fun c15 => ?_)
      · replace h := h.2 c15
        refine g_pc (pc' := 51) rfl ?_
        refine g_aload_n (r := (some a0)) hC 0 dX6_deliver_51 rfl ?_
        refine g_iload_n hC 1 dX6_deliver_52 rfl ?_
        refine g_iload_n hC 2 dX6_deliver_53 rfl ?_
        obtain ⟨hc9, h⟩ := h
        refine g_callV hC (As := [.int p0, .int p1]) (fun l D dA ht => s_X6_delivers l D dA ht _ _ _ _ _ h) wm_4_66 wm_4_63 wm_4_65 wm_0_27 wm_1_7 (by decide +kernel : plainY yX6_delivers 2) kc6.1 kc6.2.1 dX6_deliver_54 (by decide) (Nat.le_of_ble_eq_true rfl) hc9 (Or.inl ⟨rfl, rfl⟩) ?_
        intro M9 v9 h
        obtain ⟨rfl, h⟩ := h
        generalize M9 = M10 at h ⊢
        show G X 4 M10 0 0 57 [(0, .ref a0), (1, .int p0), (2, .int p1), (3, .int x2)] []
        refine g_aload_n (r := (some a0)) hC 0 dX6_deliver_57 rfl ?_
        refine g_dup hC dX6_deliver_58 rfl ?_
        obtain ⟨hc11, h⟩ := h
        refine g_getI hC kc6 1 (by decide) wm_3_147 dX6_deliver_59 rfl hc11 ?_
        refine g_iconst (v := 1) hC dX6_deliver_62 (by decide) ?_
        refine g_pc (pc' := 63) rfl ?_
        refine g_iadd hC dX6_deliver_63 ?_
        obtain ⟨hc12, h⟩ := h
        refine g_putI hC kc6 1 (by decide) wm_3_147 dX6_deliver_64 rfl rfl (Or.inl rfl) hc12 ?_
        obtain ⟨M13, eM13⟩ : ∃ w, w = sI M10 a0 1 ((gI M10 a0 1) + 1) := ⟨_, rfl⟩
        replace h := h M13 eM13
        rw [← eM13]
        refine g_aload_n (r := (some a0)) hC 0 dX6_deliver_67 rfl ?_
        obtain ⟨hc14, h⟩ := h
        refine g_getI hC kc6 14 (by decide) wm_3_160 dX6_deliver_68 rfl hc14 ?_
        exact hR.2.1 rfl _ _ _ _ _ _ dX6_deliver_71 ⟨_, rfl, h⟩
      · replace h := h.1 c15
        refine g_pc (pc' := 49) rfl ?_
        refine g_iconst (v := 0) hC dX6_deliver_49 (by decide) ?_
        exact hR.2.1 rfl _ _ _ _ _ _ dX6_deliver_50 ⟨_, rfl, h⟩)
    refine g_if_ne hC 29 dX6_deliver_22 (by decide) (fun c19 => ?_) (fun c19 => ?_)
    · replace h := h.2 c19
      refine g_aload_n (r := (some a0)) hC 1 dX6_deliver_29 rfl ?_
      refine g_pc (pc' := 30) rfl ?_
      refine g_iload_n hC 2 dX6_deliver_30 rfl ?_
      refine g_iload_n hC 3 dX6_deliver_31 rfl ?_
      obtain ⟨hc16, h⟩ := h
      refine g_callV hC (As := [.int p0, .int p1]) (fun l D dA ht => s_X6_isLine l D dA ht _ _ _ _ _ h) wm_4_62 wm_4_59 wm_4_61 wm_0_26 wm_1_7 (by decide +kernel : plainY yX6_isLine 2) kc6.1 kc6.2.1 dX6_deliver_32 (by decide) (Nat.le_of_ble_eq_true rfl) hc16 (Or.inl ⟨rfl, rfl⟩) ?_
      intro M9 v9 h
      obtain ⟨x17, rfl, h⟩ := h
      obtain ⟨hM9, h⟩ := h
      rw [hM9]
      show G X 4 M 0 0 35 [(3, .int x2), (0, .ref a0), (1, .int p0), (2, .int p1)] [.int x17, .ref a0]
      refine g_if_eq hC 42 dX6_deliver_35 (by decide) (fun c18 => ?_) (fun c18 => ?_)
      · replace h := h.1 c18
        refine g_iconst (v := 2) hC dX6_deliver_42 (by decide) ?_
        refine g_sub [1, 2, 3, 0] (lv' := [(0, .ref a0), (1, .int p0), (2, .int p1), (3, .int x2)]) rfl ?_
        exact h
      · replace h := h.2 c18
        refine g_iconst (v := 0) hC dX6_deliver_38 (by decide) ?_
        refine g_goto hC 43 dX6_deliver_39 (by decide) ?_
        refine g_sub [1, 2, 3, 0] (lv' := [(0, .ref a0), (1, .int p0), (2, .int p1), (3, .int x2)]) rfl ?_
        exact h
    · replace h := h.1 c19
      refine g_iconst (v := 1) hC dX6_deliver_25 (by decide) ?_
      refine g_pc (pc' := 26) rfl ?_
      refine g_goto hC 43 dX6_deliver_26 (by decide) ?_
      refine g_sub [1, 2, 3, 0] (lv' := [(0, .ref a0), (1, .int p0), (2, .int p1), (3, .int x2)]) rfl ?_
      exact h)
  replace h := h (G X 4 M 0 0 18 [(0, .ref a0), (1, .int p0), (2, .int p1)] []) (by
    intro h
    refine g_iconst (v := 0) hC dX6_deliver_18 (by decide) ?_
    exact h)
  refine g_if_eq hC 18 dX6_deliver_4 (by decide) (fun c23 => ?_) (fun c23 => ?_)
  · replace h := h.1 c23
    exact h
  · replace h := h.2 c23
    refine g_iload_n hC 2 dX6_deliver_7 rfl ?_
    refine g_callS hC (As := [.int p1]) (fun l D dA ht => s_X6_isServer l D dA ht _ _ _ h) wm_4_4 wm_4_2 wm_4_3 wm_1_7 (by decide +kernel : plainY yX6_isServer 1) dX6_deliver_8 (by decide) (Nat.le_of_ble_eq_true rfl) (Or.inl ⟨rfl, rfl⟩) ?_
    intro M9 v9 h
    obtain ⟨x21, rfl, h⟩ := h
    obtain ⟨hM9, h⟩ := h
    rw [hM9]
    show G X 4 M 0 0 11 [(0, .ref a0), (1, .int p0), (2, .int p1)] [.int x21]
    refine g_if_eq hC 18 dX6_deliver_11 (by decide) (fun c22 => ?_) (fun c22 => ?_)
    · replace h := h.1 c22
      exact h
    · replace h := h.2 c22
      refine g_iconst (v := 1) hC dX6_deliver_14 (by decide) ?_
      refine g_pc (pc' := 15) rfl ?_
      refine g_goto hC 19 dX6_deliver_15 (by decide) ?_
      exact h

def w_X6_deliverAll (M : Mem) (a0 : Nat) (post : Mem → Int32 → Prop) : Prop :=
  gT M a0 = some (6, 0) ∧ ∀ M2, M2 = sI M a0 0 0 → Lp (fun (K5 : Int32 × Mem → Prop) (z : Int32 × Mem) => ∀ (x3 : Int32) (M4 : Mem), z = (x3, M4) → (gT M4 a0 = some (6, 0) ∧ (gI M4 a0 14 ≤ 0 → gT M4 a0 = some (6, 0) ∧ gT M4 a0 = some (6, 0) ∧ ∀ M9, M9 = sI M4 a0 1 ((gI M4 a0 1) + 1) → post M9 x3) ∧ (¬ (gI M4 a0 14 ≤ 0) → Lp (fun (K13 : Int32 × Int32 × Mem → Prop) (z : Int32 × Int32 × Mem) => ∀ (x10 : Int32) (x11 : Int32) (M12 : Mem), z = (x10, x11, M12) → ((36 ≤ x11 → K5 (x10, M12)) ∧ (¬ (36 ≤ x11) → gT M12 a0 = some (6, 0) ∧ w_X6_isLine M12 a0 (x11 / 6) (x11 - x11 / 6 * 6) (fun x15 => ∀ J18 : Int32 → Mem → Prop, (∀ (x16 : Int32) (M17 : Mem), (∀ x19, x19 = x11 + 1 → K13 (x16, x19, M17)) → J18 x16 M17) → ((x15 = 0 → J18 x10 M12) ∧ (¬ (x15 = 0) → gT M12 a0 = some (6, 0) ∧ w_X6_delivers M12 a0 (x11 / 6) (x11 - x11 / 6 * 6) (fun M21 => ∀ x22, x22 = x10 + 1 → J18 x22 M21))))))) (x3, 0, M4)))) (0, M2)
set_option maxRecDepth 100000 in
set_option maxHeartbeats 8000000 in
theorem s_X6_deliverAll (l : Launch) (D : va_G) (dA : Nat → ClassId) (htr : l.stackTraces = false) (M : Mem) (a0 : Nat) (post : Mem → Int32 → Prop) (h : w_X6_deliverAll M a0 post) : CtN l D dA yX6_deliverAll cX6_deliverAll 3 (some .int) 7 [.ref a0] M 0 0 (pI post) := by
  refine ct_ofN htr (by decide) (Nat.le_of_ble_eq_true rfl) ?_
  intro X hC hN hR
  show G X 3 M 0 0 0 [(0, .ref a0)] []
  unfold w_X6_deliverAll at h
  refine g_aload_n (r := (some a0)) hC 0 dX6_deliverAll_0 rfl ?_
  refine g_iconst (v := 0) hC dX6_deliverAll_1 (by decide) ?_
  obtain ⟨hc1, h⟩ := h
  refine g_putI hC kc6 0 (by decide) wm_3_146 dX6_deliverAll_2 rfl rfl (Or.inl rfl) hc1 ?_
  obtain ⟨M2, eM2⟩ : ∃ w, w = sI M a0 0 0 := ⟨_, rfl⟩
  replace h := h M2 eM2
  rw [← eM2]
  refine g_iconst (v := 0) hC dX6_deliverAll_5 (by decide) ?_
  refine g_istore_n (lv' := [(1, .int 0), (0, .ref a0)]) hC dX6_deliverAll_6 (by decide) rfl ?_
  refine g_sub [1, 0] (lv' := [(0, .ref a0), (1, .int 0)]) rfl ?_
  refine Lp_use (fun (z27 : Int32 × Mem) => G X 3 z27.2 0 0 7 [(0, .ref a0), (1, .int z27.1)] []) h ?_
  intro K5 z hK_K5 h
  obtain ⟨x3, M4⟩ := z
  replace h := h _ _ rfl
  show G X 3 M4 0 0 7 [(0, .ref a0), (1, .int x3)] []
  refine g_aload_n (r := (some a0)) hC 0 dX6_deliverAll_7 rfl ?_
  obtain ⟨hc6, h⟩ := h
  refine g_getI hC kc6 14 (by decide) wm_3_160 dX6_deliverAll_8 rfl hc6 ?_
  refine g_pc (pc' := 11) rfl ?_
  refine g_if_le hC 61 dX6_deliverAll_11 (by decide) (fun c26 => ?_) (fun c26 => ?_)
  · replace h := h.1 c26
    refine g_aload_n (r := (some a0)) hC 0 dX6_deliverAll_61 rfl ?_
    refine g_dup hC dX6_deliverAll_62 rfl ?_
    obtain ⟨hc7, h⟩ := h
    refine g_getI hC kc6 1 (by decide) wm_3_147 dX6_deliverAll_63 rfl hc7 ?_
    refine g_iconst (v := 1) hC dX6_deliverAll_66 (by decide) ?_
    refine g_iadd hC dX6_deliverAll_67 ?_
    obtain ⟨hc8, h⟩ := h
    refine g_putI hC kc6 1 (by decide) wm_3_147 dX6_deliverAll_68 rfl rfl (Or.inl rfl) hc8 ?_
    obtain ⟨M9, eM9⟩ : ∃ w, w = sI M4 a0 1 ((gI M4 a0 1) + 1) := ⟨_, rfl⟩
    replace h := h M9 eM9
    rw [← eM9]
    refine g_iload_n hC 1 dX6_deliverAll_71 rfl ?_
    refine g_pc (pc' := 72) rfl ?_
    exact hR.2.1 rfl _ _ _ _ _ _ dX6_deliverAll_72 ⟨_, rfl, h⟩
  · replace h := h.2 c26
    refine g_iconst (v := 0) hC dX6_deliverAll_14 (by decide) ?_
    refine g_istore_n (lv' := [(2, .int 0), (0, .ref a0), (1, .int x3)]) hC dX6_deliverAll_15 (by decide) rfl ?_
    refine g_sub [1, 2, 0] (lv' := [(0, .ref a0), (1, .int x3), (2, .int 0)]) rfl ?_
    refine Lp_use (fun (z25 : Int32 × Int32 × Mem) => G X 3 z25.2.2 0 0 16 [(0, .ref a0), (1, .int z25.1), (2, .int z25.2.1)] []) h ?_
    intro K13 z hK_K13 h
    obtain ⟨x10, x11, M12⟩ := z
    replace h := h _ _ _ rfl
    show G X 3 M12 0 0 16 [(0, .ref a0), (1, .int x10), (2, .int x11)] []
    refine g_iload_n hC 2 dX6_deliverAll_16 rfl ?_
    refine g_bipush (v := 36) hC dX6_deliverAll_17 (by decide) ?_
    refine g_icmp_ge hC 58 dX6_deliverAll_19 (by decide) (fun c24 => ?_) (fun c24 => ?_)
    · replace h := h.1 c24
      refine g_goto hC 7 dX6_deliverAll_58 (by decide) ?_
      refine g_sub [0, 1] (lv' := [(0, .ref a0), (1, .int x10)]) rfl ?_
      exact hK_K5 _ h
    · replace h := h.2 c24
      refine g_aload_n (r := (some a0)) hC 0 dX6_deliverAll_22 rfl ?_
      refine g_iload_n hC 2 dX6_deliverAll_23 rfl ?_
      refine g_pc (pc' := 24) rfl ?_
      refine g_bipush (v := 6) hC dX6_deliverAll_24 (by decide) ?_
      refine g_idiv hC dX6_deliverAll_26 (by decide) ?_
      refine g_iload_n hC 2 dX6_deliverAll_27 rfl ?_
      refine g_bipush (v := 6) hC dX6_deliverAll_28 (by decide) ?_
      refine g_irem hC dX6_deliverAll_30 (by decide) ?_
      obtain ⟨hc14, h⟩ := h
      refine g_callV hC (As := [.int (x11 / 6), .int (x11 - x11 / 6 * 6)]) (fun l D dA ht => s_X6_isLine l D dA ht _ _ _ _ _ h) wm_4_62 wm_4_59 wm_4_61 wm_0_26 wm_1_7 (by decide +kernel : plainY yX6_isLine 2) kc6.1 kc6.2.1 dX6_deliverAll_31 (by decide) (Nat.le_of_ble_eq_true rfl) hc14 (Or.inl ⟨rfl, rfl⟩) ?_
      intro M9 v9 h
      obtain ⟨x15, rfl, h⟩ := h
      obtain ⟨hM9, h⟩ := h
      rw [hM9]
      show G X 3 M12 0 0 34 [(0, .ref a0), (1, .int x10), (2, .int x11)] [.int x15]
      replace h := h (fun (x16 : Int32) (M17 : Mem) => G X 3 M17 0 0 52 [(0, .ref a0), (1, .int x16), (2, .int x11)] []) (by
        intro x16 M17 h
        show G X 3 M17 0 0 52 [(0, .ref a0), (1, .int x16), (2, .int x11)] []
        obtain ⟨x19, ex19⟩ : ∃ w, w = x11 + 1 := ⟨_, rfl⟩
        replace h := h x19 ex19
        refine g_iinc (v := x19) (lv' := [(2, .int x19), (0, .ref a0), (1, .int x16)]) hC 2 dX6_deliverAll_52 rfl (by rw [ex19]; rfl) (by decide) rfl ?_
        refine g_goto hC 16 dX6_deliverAll_55 (by decide) ?_
        refine g_sub [1, 2, 0] (lv' := [(0, .ref a0), (1, .int x16), (2, .int x19)]) rfl ?_
        exact hK_K13 _ h)
      refine g_if_eq hC 52 dX6_deliverAll_34 (by decide) (fun c23 => ?_) (fun c23 => ?_)
      · replace h := h.1 c23
        exact h
      · replace h := h.2 c23
        refine g_aload_n (r := (some a0)) hC 0 dX6_deliverAll_37 rfl ?_
        refine g_pc (pc' := 38) rfl ?_
        refine g_iload_n hC 2 dX6_deliverAll_38 rfl ?_
        refine g_bipush (v := 6) hC dX6_deliverAll_39 (by decide) ?_
        refine g_idiv hC dX6_deliverAll_41 (by decide) ?_
        refine g_iload_n hC 2 dX6_deliverAll_42 rfl ?_
        refine g_bipush (v := 6) hC dX6_deliverAll_43 (by decide) ?_
        refine g_irem hC dX6_deliverAll_45 (by decide) ?_
        obtain ⟨hc20, h⟩ := h
        refine g_callV hC (As := [.int (x11 / 6), .int (x11 - x11 / 6 * 6)]) (fun l D dA ht => s_X6_delivers l D dA ht _ _ _ _ _ h) wm_4_66 wm_4_63 wm_4_65 wm_0_27 wm_1_7 (by decide +kernel : plainY yX6_delivers 2) kc6.1 kc6.2.1 dX6_deliverAll_46 (by decide) (Nat.le_of_ble_eq_true rfl) hc20 (Or.inl ⟨rfl, rfl⟩) ?_
        intro M9 v9 h
        obtain ⟨rfl, h⟩ := h
        generalize M9 = M21 at h ⊢
        show G X 3 M21 0 0 49 [(0, .ref a0), (1, .int x10), (2, .int x11)] []
        obtain ⟨x22, ex22⟩ : ∃ w, w = x10 + 1 := ⟨_, rfl⟩
        replace h := h x22 ex22
        refine g_iinc (v := x22) (lv' := [(1, .int x22), (0, .ref a0), (2, .int x11)]) hC 1 dX6_deliverAll_49 rfl (by rw [ex22]; rfl) (by decide) rfl ?_
        refine g_sub [1, 0, 2] (lv' := [(0, .ref a0), (1, .int x22), (2, .int x11)]) rfl ?_
        exact h

def w_X6_lines (M : Mem) (a0 : Nat) (post : Mem → Int32 → Prop) : Prop :=
  gT M a0 = some (6, 0) ∧ ∀ M2, M2 = sI M a0 0 0 → gT M2 a0 = some (6, 0) ∧ post M2 (gI M2 a0 14)
set_option maxRecDepth 100000 in
set_option maxHeartbeats 8000000 in
theorem s_X6_lines (l : Launch) (D : va_G) (dA : Nat → ClassId) (htr : l.stackTraces = false) (M : Mem) (a0 : Nat) (post : Mem → Int32 → Prop) (h : w_X6_lines M a0 post) : CtN l D dA yX6_lines cX6_lines 1 (some .int) 1 [.ref a0] M 0 0 (pI post) := by
  refine ct_ofN htr (by decide) (Nat.le_of_ble_eq_true rfl) ?_
  intro X hC hN hR
  show G X 1 M 0 0 0 [(0, .ref a0)] []
  unfold w_X6_lines at h
  refine g_aload_n (r := (some a0)) hC 0 dX6_lines_0 rfl ?_
  refine g_iconst (v := 0) hC dX6_lines_1 (by decide) ?_
  obtain ⟨hc1, h⟩ := h
  refine g_putI hC kc6 0 (by decide) wm_3_146 dX6_lines_2 rfl rfl (Or.inl rfl) hc1 ?_
  obtain ⟨M2, eM2⟩ : ∃ w, w = sI M a0 0 0 := ⟨_, rfl⟩
  replace h := h M2 eM2
  rw [← eM2]
  refine g_aload_n (r := (some a0)) hC 0 dX6_lines_5 rfl ?_
  obtain ⟨hc3, h⟩ := h
  refine g_getI hC kc6 14 (by decide) wm_3_160 dX6_lines_6 rfl hc3 ?_
  exact hR.2.1 rfl _ _ _ _ _ _ dX6_lines_9 ⟨_, rfl, h⟩

def w_X6_tree (M : Mem) (a0 : Nat) (p0 : Int32) (post : Mem → Int32 → Prop) : Prop :=
  w_X6_isServer M p0 (fun x1 => ∀ J3 : Int32 → Prop, (∀ (x2 : Int32), (gT M a0 = some (6, 0) ∧ w_X6_holds M a0 x2 (fun M5 x6 => ∀ J8 : Int32 → Prop, (∀ (x7 : Int32), (post M5 x7) → J8 x7) → ((x6 = 0 → J8 0) ∧ (¬ (x6 = 0) → gT M5 a0 = some (6, 0) ∧ w_X6_treeOf M5 a0 p0 (fun x10 => J8 x10))))) → J3 x2) → ((x1 = 0 → J3 1) ∧ (¬ (x1 = 0) → J3 0)))
set_option maxRecDepth 100000 in
set_option maxHeartbeats 8000000 in
theorem s_X6_tree (l : Launch) (D : va_G) (dA : Nat → ClassId) (htr : l.stackTraces = false) (M : Mem) (a0 : Nat) (p0 : Int32) (post : Mem → Int32 → Prop) (h : w_X6_tree M a0 p0 post) : CtN l D dA yX6_tree cX6_tree 2 (some .int) 3 [.ref a0, .int p0] M 0 0 (pI post) := by
  refine ct_ofN htr (by decide) (Nat.le_of_ble_eq_true rfl) ?_
  intro X hC hN hR
  show G X 2 M 0 0 0 [(0, .ref a0), (1, .int p0)] []
  unfold w_X6_tree at h
  refine g_aload_n (r := (some a0)) hC 0 dX6_tree_0 rfl ?_
  refine g_iload_n hC 1 dX6_tree_1 rfl ?_
  refine g_callS hC (As := [.int p0]) (fun l D dA ht => s_X6_isServer l D dA ht _ _ _ h) wm_4_4 wm_4_2 wm_4_3 wm_1_7 (by decide +kernel : plainY yX6_isServer 1) dX6_tree_2 (by decide) (Nat.le_of_ble_eq_true rfl) (Or.inl ⟨rfl, rfl⟩) ?_
  intro M9 v9 h
  obtain ⟨x1, rfl, h⟩ := h
  obtain ⟨hM9, h⟩ := h
  rw [hM9]
  show G X 2 M 0 0 5 [(0, .ref a0), (1, .int p0)] [.int x1, .ref a0]
  replace h := h (fun (x2 : Int32) => G X 2 M 0 0 13 [(0, .ref a0), (1, .int p0)] [.int x2, .ref a0]) (by
    intro x2 h
    show G X 2 M 0 0 13 [(0, .ref a0), (1, .int p0)] [.int x2, .ref a0]
    obtain ⟨hc4, h⟩ := h
    refine g_callV hC (As := [.int x2]) (fun l D dA ht => s_X6_holds l D dA ht _ _ _ _ h) wm_4_15 wm_4_12 wm_4_14 wm_0_17 wm_1_7 (by decide +kernel : plainY yX6_holds 1) kc6.1 kc6.2.1 dX6_tree_13 (by decide) (Nat.le_of_ble_eq_true rfl) hc4 (Or.inl ⟨rfl, rfl⟩) ?_
    intro M9 v9 h
    obtain ⟨x6, rfl, h⟩ := h
    generalize M9 = M5 at h ⊢
    show G X 2 M5 0 0 16 [(0, .ref a0), (1, .int p0)] [.int x6]
    replace h := h (fun (x7 : Int32) => G X 2 M5 0 0 28 [(0, .ref a0), (1, .int p0)] [.int x7]) (by
      intro x7 h
      show G X 2 M5 0 0 28 [(0, .ref a0), (1, .int p0)] [.int x7]
      exact hR.2.1 rfl _ _ _ _ _ _ dX6_tree_28 ⟨_, rfl, h⟩)
    refine g_if_eq hC 27 dX6_tree_16 (by decide) (fun c11 => ?_) (fun c11 => ?_)
    · replace h := h.1 c11
      refine g_iconst (v := 0) hC dX6_tree_27 (by decide) ?_
      exact h
    · replace h := h.2 c11
      refine g_aload_n (r := (some a0)) hC 0 dX6_tree_19 rfl ?_
      refine g_iload_n hC 1 dX6_tree_20 rfl ?_
      refine g_pc (pc' := 21) rfl ?_
      obtain ⟨hc9, h⟩ := h
      refine g_callV hC (As := [.int p0]) (fun l D dA ht => s_X6_treeOf l D dA ht _ _ _ _ h) wm_4_8 wm_4_5 wm_4_7 wm_0_16 wm_1_7 (by decide +kernel : plainY yX6_treeOf 1) kc6.1 kc6.2.1 dX6_tree_21 (by decide) (Nat.le_of_ble_eq_true rfl) hc9 (Or.inl ⟨rfl, rfl⟩) ?_
      intro M9 v9 h
      obtain ⟨x10, rfl, h⟩ := h
      obtain ⟨hM9, h⟩ := h
      rw [hM9]
      show G X 2 M5 0 0 24 [(0, .ref a0), (1, .int p0)] [.int x10]
      refine g_goto hC 28 dX6_tree_24 (by decide) ?_
      exact h)
  refine g_if_eq hC 12 dX6_tree_5 (by decide) (fun c12 => ?_) (fun c12 => ?_)
  · replace h := h.1 c12
    refine g_iconst (v := 1) hC dX6_tree_12 (by decide) ?_
    exact h
  · replace h := h.2 c12
    refine g_iconst (v := 0) hC dX6_tree_8 (by decide) ?_
    refine g_goto hC 13 dX6_tree_9 (by decide) ?_
    exact h

def w_X6_letter (M : Mem) (p0 : Int32) (post : Int32 → Prop) : Prop :=
  ∀ J2 : Int32 → Prop, (∀ (x1 : Int32), (post x1) → J2 x1) → (∀ J3 : Prop, ((∀ J4 : Prop, ((J2 ((-1))) → J4) → ((p0 < 65 → J4) ∧ (¬ (p0 < 65) → (90 < p0 → J4) ∧ (¬ (90 < p0) → J2 (p0 - 65))))) → J3) → ((p0 < 97 → J3) ∧ (¬ (p0 < 97) → (122 < p0 → J3) ∧ (¬ (122 < p0) → J2 (p0 - 97)))))
set_option maxRecDepth 100000 in
set_option maxHeartbeats 8000000 in
theorem s_X6_letter (l : Launch) (D : va_G) (dA : Nat → ClassId) (htr : l.stackTraces = false) (M : Mem) (p0 : Int32) (post : Int32 → Prop) (h : w_X6_letter M p0 post) : CtN l D dA yX6_letter cX6_letter 1 (some .int) 1 [.int p0] M 0 0 (pI (fun M' r => M' = M ∧ post r)) := by
  refine ct_ofN htr (by decide) (Nat.le_of_ble_eq_true rfl) ?_
  intro X hC hN hR
  show G X 1 M 0 0 0 [(0, .int p0)] []
  unfold w_X6_letter at h
  refine g_iload_n hC 0 dX6_letter_0 rfl ?_
  refine g_bipush (v := 97) hC dX6_letter_1 (by decide) ?_
  replace h := h (fun (x1 : Int32) => G X 1 M 0 0 39 [(0, .int p0)] [.int x1]) (by
    intro x1 h
    show G X 1 M 0 0 39 [(0, .int p0)] [.int x1]
    exact hR.2.1 rfl _ _ _ _ _ _ dX6_letter_39 ⟨_, rfl, rfl, h⟩)
  replace h := h (G X 1 M 0 0 19 [(0, .int p0)] []) (by
    intro h
    refine g_iload_n hC 0 dX6_letter_19 rfl ?_
    refine g_bipush (v := 65) hC dX6_letter_20 (by decide) ?_
    replace h := h (G X 1 M 0 0 38 [(0, .int p0)] []) (by
      intro h
      refine g_iconst (v := (-1)) hC dX6_letter_38 (by decide) ?_
      exact h)
    refine g_icmp_lt hC 38 dX6_letter_22 (by decide) (fun c6 => ?_) (fun c6 => ?_)
    · replace h := h.1 c6
      exact h
    · replace h := h.2 c6
      refine g_iload_n hC 0 dX6_letter_25 rfl ?_
      refine g_bipush (v := 90) hC dX6_letter_26 (by decide) ?_
      refine g_pc (pc' := 28) rfl ?_
      refine g_icmp_gt hC 38 dX6_letter_28 (by decide) (fun c5 => ?_) (fun c5 => ?_)
      · replace h := h.1 c5
        exact h
      · replace h := h.2 c5
        refine g_iload_n hC 0 dX6_letter_31 rfl ?_
        refine g_bipush (v := 65) hC dX6_letter_32 (by decide) ?_
        refine g_isub hC dX6_letter_34 ?_
        refine g_goto hC 39 dX6_letter_35 (by decide) ?_
        exact h)
  refine g_icmp_lt hC 19 dX6_letter_3 (by decide) (fun c8 => ?_) (fun c8 => ?_)
  · replace h := h.1 c8
    exact h
  · replace h := h.2 c8
    refine g_iload_n hC 0 dX6_letter_6 rfl ?_
    refine g_bipush (v := 122) hC dX6_letter_7 (by decide) ?_
    refine g_icmp_gt hC 19 dX6_letter_9 (by decide) (fun c7 => ?_) (fun c7 => ?_)
    · replace h := h.1 c7
      exact h
    · replace h := h.2 c7
      refine g_iload_n hC 0 dX6_letter_12 rfl ?_
      refine g_pc (pc' := 13) rfl ?_
      refine g_bipush (v := 97) hC dX6_letter_13 (by decide) ?_
      refine g_isub hC dX6_letter_15 ?_
      refine g_goto hC 39 dX6_letter_16 (by decide) ?_
      exact h

def w_X6_signOn (M : Mem) (a0 : Nat) (p0 : Int32) (p1 : Int32) (post : Mem → Int32 → Prop) : Prop :=
  w_X6_isServer M p0 (fun x1 => w_X6_letter M p1 (fun x2 => ∀ J4 : Int32 → Prop, (∀ (x3 : Int32), (gT M a0 = some (6, 0) ∧ w_X6_holds M a0 x3 (fun M6 x7 => (x7 = 0 → post M6 0) ∧ (¬ (x7 = 0) → gT M6 a0 = some (6, 0) ∧ ∀ x9, x9 = gI M6 a0 2 → gT M6 a0 = some (6, 0) ∧ gT M6 a0 = some (6, 0) ∧ ∀ M12, M12 = sI M6 a0 2 ((gI M6 a0 2) + 1) → gT M12 a0 = some (6, 0) ∧ ∃ b14, gR M12 a0 3 = some b14 ∧ inA M12 b14 10 x9 ∧ ∀ M15, M15 = sI M12 b14 (Int32.toNatClampNeg x9) x2 → gT M15 a0 = some (6, 0) ∧ ∃ b18, gR M15 a0 4 = some b18 ∧ inA M15 b18 10 x9 ∧ ∀ M19, M19 = sI M15 b18 (Int32.toNatClampNeg x9) p0 → gT M19 a0 = some (6, 0) ∧ ∃ b22, gR M19 a0 5 = some b22 ∧ gT M19 a0 = some (6, 0) ∧ inA M19 b22 10 x9 ∧ ∀ M24, M24 = sI M19 b22 (Int32.toNatClampNeg x9) (gI M19 a0 1) → gT M24 a0 = some (6, 0) ∧ ∃ b27, gR M24 a0 7 = some b27 ∧ inA M24 b27 10 p0 ∧ inA M24 b27 10 p0 ∧ ∀ M29, M29 = sI M24 b27 (Int32.toNatClampNeg p0) ((gI M24 b27 (Int32.toNatClampNeg p0)) ||| (1 <<< (x9 &&& 31))) → gT M29 a0 = some (6, 0) ∧ w_X6_makes M29 a0 0 x9 0 (fun M32 => gT M32 a0 = some (6, 0) ∧ w_X6_sends M32 a0 p0 ((-1)) (fun M34 => gT M34 a0 = some (6, 0) ∧ gT M34 a0 = some (6, 0) ∧ ∀ M37, M37 = sI M34 a0 1 ((gI M34 a0 1) + 1) → post M37 x9))))) → J4 x3) → ((x1 = 0 → J4 1) ∧ (¬ (x1 = 0) → (x2 = (-1) → J4 2) ∧ (¬ (x2 = (-1)) → gT M a0 = some (6, 0) ∧ ∀ J40 : Prop, ((J4 3) → J40) → ((gI M a0 2 = 20 → J40) ∧ (¬ (gI M a0 2 = 20) → gT M a0 = some (6, 0) ∧ w_X6_namesake M a0 p0 x2 ((-1)) (fun x42 => (x42 = (-1) → J4 0) ∧ (¬ (x42 = (-1)) → J40)))))))))
set_option maxRecDepth 100000 in
set_option maxHeartbeats 8000000 in
theorem s_X6_signOn (l : Launch) (D : va_G) (dA : Nat → ClassId) (htr : l.stackTraces = false) (M : Mem) (a0 : Nat) (p0 : Int32) (p1 : Int32) (post : Mem → Int32 → Prop) (h : w_X6_signOn M a0 p0 p1 post) : CtN l D dA yX6_signOn cX6_signOn 6 (some .int) 3 [.ref a0, .int p0, .int p1] M 0 0 (pI post) := by
  refine ct_ofN htr (by decide) (Nat.le_of_ble_eq_true rfl) ?_
  intro X hC hN hR
  show G X 6 M 0 0 0 [(0, .ref a0), (1, .int p0), (2, .int p1)] []
  unfold w_X6_signOn at h
  refine g_iload_n hC 1 dX6_signOn_0 rfl ?_
  refine g_callS hC (As := [.int p0]) (fun l D dA ht => s_X6_isServer l D dA ht _ _ _ h) wm_4_4 wm_4_2 wm_4_3 wm_1_7 (by decide +kernel : plainY yX6_isServer 1) dX6_signOn_1 (by decide) (Nat.le_of_ble_eq_true rfl) (Or.inl ⟨rfl, rfl⟩) ?_
  intro M9 v9 h
  obtain ⟨x1, rfl, h⟩ := h
  obtain ⟨hM9, h⟩ := h
  rw [hM9]
  show G X 6 M 0 0 4 [(0, .ref a0), (1, .int p0), (2, .int p1)] [.int x1]
  refine g_istore_n (lv' := [(3, .int x1), (0, .ref a0), (1, .int p0), (2, .int p1)]) hC dX6_signOn_4 (by decide) rfl ?_
  refine g_iload_n hC 3 dX6_signOn_5 rfl ?_
  refine g_callS hC (As := [.int p1]) (fun l D dA ht => s_X6_letter l D dA ht _ _ _ h) wm_4_105 wm_4_103 wm_4_104 wm_1_7 (by decide +kernel : plainY yX6_letter 1) dX6_signOn_6 (by decide) (Nat.le_of_ble_eq_true rfl) (Or.inl ⟨rfl, rfl⟩) ?_
  intro M9 v9 h
  obtain ⟨x2, rfl, h⟩ := h
  obtain ⟨hM9, h⟩ := h
  rw [hM9]
  show G X 6 M 0 0 9 [(3, .int x1), (0, .ref a0), (1, .int p0), (2, .int p1)] [.int x2]
  refine g_istore (lv' := [(4, .int x2), (3, .int x1), (0, .ref a0), (1, .int p0), (2, .int p1)]) hC dX6_signOn_9 (by decide) rfl ?_
  refine g_aload_n (r := (some a0)) hC 2 dX6_signOn_11 rfl ?_
  refine g_pc (pc' := 12) rfl ?_
  refine g_iload_n hC 1 dX6_signOn_12 rfl ?_
  replace h := h (fun (x3 : Int32) => G X 6 M 0 0 56 [(0, .ref a0), (1, .int p0), (2, .int p1), (3, .int x1), (4, .int x2)] [.int x3, .ref a0]) (by
    intro x3 h
    show G X 6 M 0 0 56 [(0, .ref a0), (1, .int p0), (2, .int p1), (3, .int x1), (4, .int x2)] [.int x3, .ref a0]
    obtain ⟨hc5, h⟩ := h
    refine g_callV hC (As := [.int x3]) (fun l D dA ht => s_X6_holds l D dA ht _ _ _ _ h) wm_4_15 wm_4_12 wm_4_14 wm_0_17 wm_1_7 (by decide +kernel : plainY yX6_holds 1) kc6.1 kc6.2.1 dX6_signOn_56 (by decide) (Nat.le_of_ble_eq_true rfl) hc5 (Or.inl ⟨rfl, rfl⟩) ?_
    intro M9 v9 h
    obtain ⟨x7, rfl, h⟩ := h
    generalize M9 = M6 at h ⊢
    show G X 6 M6 0 0 59 [(0, .ref a0), (1, .int p0), (2, .int p1), (3, .int x1), (4, .int x2)] [.int x7]
    refine g_if_ne hC 64 dX6_signOn_59 (by decide) (fun c38 => ?_) (fun c38 => ?_)
    · replace h := h.2 c38
      refine g_aload_n (r := (some a0)) hC 0 dX6_signOn_64 rfl ?_
      obtain ⟨hc8, h⟩ := h
      refine g_getI hC kc6 2 (by decide) wm_3_148 dX6_signOn_65 rfl hc8 ?_
      obtain ⟨x9, ex9⟩ : ∃ w, w = gI M6 a0 2 := ⟨_, rfl⟩
      replace h := h x9 ex9
      rw [← ex9]
      refine g_istore (lv' := [(5, .int x9), (0, .ref a0), (1, .int p0), (2, .int p1), (3, .int x1), (4, .int x2)]) hC dX6_signOn_68 (by decide) rfl ?_
      refine g_aload_n (r := (some a0)) hC 1 dX6_signOn_70 rfl ?_
      refine g_dup hC dX6_signOn_71 rfl ?_
      obtain ⟨hc10, h⟩ := h
      refine g_pc (pc' := 72) rfl ?_
      refine g_getI hC kc6 2 (by decide) wm_3_148 dX6_signOn_72 rfl hc10 ?_
      refine g_iconst (v := 1) hC dX6_signOn_75 (by decide) ?_
      refine g_iadd hC dX6_signOn_76 ?_
      obtain ⟨hc11, h⟩ := h
      refine g_putI hC kc6 2 (by decide) wm_3_148 dX6_signOn_77 rfl rfl (Or.inl rfl) hc11 ?_
      obtain ⟨M12, eM12⟩ : ∃ w, w = sI M6 a0 2 ((gI M6 a0 2) + 1) := ⟨_, rfl⟩
      replace h := h M12 eM12
      rw [← eM12]
      refine g_aload_n (r := (some a0)) hC 1 dX6_signOn_80 rfl ?_
      obtain ⟨hc13, h⟩ := h
      obtain ⟨b14, eb14, h⟩ := h
      refine g_getA hC kc6 3 (by decide) wm_3_149 dX6_signOn_81 rfl hc13 eb14 ?_
      refine g_iload hC 0 dX6_signOn_84 rfl ?_
      refine g_iload hC 5 dX6_signOn_86 rfl ?_
      obtain ⟨hc16, h⟩ := h
      refine g_pc (pc' := 88) rfl ?_
      refine g_iastA hC dX6_signOn_88 hc16 ?_
      obtain ⟨M15, eM15⟩ : ∃ w, w = sI M12 b14 (Int32.toNatClampNeg x9) x2 := ⟨_, rfl⟩
      replace h := h M15 eM15
      rw [← eM15]
      refine g_aload_n (r := (some a0)) hC 1 dX6_signOn_89 rfl ?_
      obtain ⟨hc17, h⟩ := h
      obtain ⟨b18, eb18, h⟩ := h
      refine g_getA hC kc6 4 (by decide) wm_3_150 dX6_signOn_90 rfl hc17 eb18 ?_
      refine g_iload hC 0 dX6_signOn_93 rfl ?_
      refine g_iload_n hC 2 dX6_signOn_95 rfl ?_
      obtain ⟨hc20, h⟩ := h
      refine g_iastA hC dX6_signOn_96 hc20 ?_
      obtain ⟨M19, eM19⟩ : ∃ w, w = sI M15 b18 (Int32.toNatClampNeg x9) p0 := ⟨_, rfl⟩
      replace h := h M19 eM19
      rw [← eM19]
      refine g_aload_n (r := (some a0)) hC 1 dX6_signOn_97 rfl ?_
      obtain ⟨hc21, h⟩ := h
      obtain ⟨b22, eb22, h⟩ := h
      refine g_getA hC kc6 5 (by decide) wm_3_151 dX6_signOn_98 rfl hc21 eb22 ?_
      refine g_pc (pc' := 101) rfl ?_
      refine g_iload hC 0 dX6_signOn_101 rfl ?_
      refine g_aload_n (r := (some a0)) hC 1 dX6_signOn_103 rfl ?_
      obtain ⟨hc23, h⟩ := h
      refine g_getI hC kc6 1 (by decide) wm_3_147 dX6_signOn_104 rfl hc23 ?_
      obtain ⟨hc25, h⟩ := h
      refine g_iastA hC dX6_signOn_107 hc25 ?_
      obtain ⟨M24, eM24⟩ : ∃ w, w = sI M19 b22 (Int32.toNatClampNeg x9) (gI M19 a0 1) := ⟨_, rfl⟩
      replace h := h M24 eM24
      rw [← eM24]
      refine g_aload_n (r := (some a0)) hC 1 dX6_signOn_108 rfl ?_
      obtain ⟨hc26, h⟩ := h
      obtain ⟨b27, eb27, h⟩ := h
      refine g_getA hC kc6 7 (by decide) wm_3_153 dX6_signOn_109 rfl hc26 eb27 ?_
      refine g_iload_n hC 2 dX6_signOn_112 rfl ?_
      refine g_dup2 hC dX6_signOn_113 rfl rfl ?_
      obtain ⟨hc28, h⟩ := h
      refine g_pc (pc' := 114) rfl ?_
      refine g_ialdA hC dX6_signOn_114 hc28 ?_
      refine g_iconst (v := 1) hC dX6_signOn_115 (by decide) ?_
      refine g_iload hC 0 dX6_signOn_116 rfl ?_
      refine g_ishl hC dX6_signOn_118 ?_
      refine g_ior hC dX6_signOn_119 ?_
      obtain ⟨hc30, h⟩ := h
      refine g_iastA hC dX6_signOn_120 hc30 ?_
      obtain ⟨M29, eM29⟩ : ∃ w, w = sI M24 b27 (Int32.toNatClampNeg p0) ((gI M24 b27 (Int32.toNatClampNeg p0)) ||| (1 <<< (x9 &&& 31))) := ⟨_, rfl⟩
      replace h := h M29 eM29
      rw [← eM29]
      refine g_aload_n (r := (some a0)) hC 1 dX6_signOn_121 rfl ?_
      refine g_iconst (v := 0) hC dX6_signOn_122 (by decide) ?_
      refine g_pc (pc' := 123) rfl ?_
      refine g_iload hC 0 dX6_signOn_123 rfl ?_
      refine g_iconst (v := 0) hC dX6_signOn_125 (by decide) ?_
      obtain ⟨hc31, h⟩ := h
      refine g_callV hC (As := [.int 0, .int x9, .int 0]) (fun l D dA ht => s_X6_makes l D dA ht _ _ _ _ _ _ h) wm_4_23 wm_4_20 wm_4_22 wm_0_19 wm_1_7 (by decide +kernel : plainY yX6_makes 3) kc6.1 kc6.2.1 dX6_signOn_126 (by decide) (Nat.le_of_ble_eq_true rfl) hc31 (Or.inl ⟨rfl, rfl⟩) ?_
      intro M9 v9 h
      obtain ⟨rfl, h⟩ := h
      generalize M9 = M32 at h ⊢
      show G X 6 M32 0 0 129 [(5, .int x9), (0, .ref a0), (1, .int p0), (2, .int p1), (3, .int x1), (4, .int x2)] []
      refine g_aload_n (r := (some a0)) hC 1 dX6_signOn_129 rfl ?_
      refine g_iload_n hC 2 dX6_signOn_130 rfl ?_
      refine g_iconst (v := (-1)) hC dX6_signOn_131 (by decide) ?_
      obtain ⟨hc33, h⟩ := h
      refine g_callV hC (As := [.int p0, .int ((-1))]) (fun l D dA ht => s_X6_sends l D dA ht _ _ _ _ _ h) wm_4_82 wm_4_79 wm_4_81 wm_0_31 wm_1_7 (by decide +kernel : plainY yX6_sends 2) kc6.1 kc6.2.1 dX6_signOn_132 (by decide) (Nat.le_of_ble_eq_true rfl) hc33 (Or.inl ⟨rfl, rfl⟩) ?_
      intro M9 v9 h
      obtain ⟨rfl, h⟩ := h
      generalize M9 = M34 at h ⊢
      show G X 6 M34 0 0 135 [(5, .int x9), (0, .ref a0), (1, .int p0), (2, .int p1), (3, .int x1), (4, .int x2)] []
      refine g_aload_n (r := (some a0)) hC 1 dX6_signOn_135 rfl ?_
      refine g_pc (pc' := 136) rfl ?_
      refine g_dup hC dX6_signOn_136 rfl ?_
      obtain ⟨hc35, h⟩ := h
      refine g_getI hC kc6 1 (by decide) wm_3_147 dX6_signOn_137 rfl hc35 ?_
      refine g_iconst (v := 1) hC dX6_signOn_140 (by decide) ?_
      refine g_iadd hC dX6_signOn_141 ?_
      obtain ⟨hc36, h⟩ := h
      refine g_putI hC kc6 1 (by decide) wm_3_147 dX6_signOn_142 rfl rfl (Or.inl rfl) hc36 ?_
      obtain ⟨M37, eM37⟩ : ∃ w, w = sI M34 a0 1 ((gI M34 a0 1) + 1) := ⟨_, rfl⟩
      replace h := h M37 eM37
      rw [← eM37]
      refine g_iload hC 0 dX6_signOn_145 rfl ?_
      exact hR.2.1 rfl _ _ _ _ _ _ dX6_signOn_147 ⟨_, rfl, h⟩
    · replace h := h.1 c38
      refine g_iconst (v := 0) hC dX6_signOn_62 (by decide) ?_
      exact hR.2.1 rfl _ _ _ _ _ _ dX6_signOn_63 ⟨_, rfl, h⟩)
  refine g_if_ne hC 20 dX6_signOn_13 (by decide) (fun c46 => ?_) (fun c46 => ?_)
  · replace h := h.2 c46
    refine g_iload hC 0 dX6_signOn_20 rfl ?_
    refine g_iconst (v := (-1)) hC dX6_signOn_22 (by decide) ?_
    refine g_icmp_ne hC 30 dX6_signOn_23 (by decide) (fun c45 => ?_) (fun c45 => ?_)
    · replace h := h.2 c45
      refine g_aload_n (r := (some a0)) hC 2 dX6_signOn_30 rfl ?_
      obtain ⟨hc39, h⟩ := h
      refine g_getI hC kc6 2 (by decide) wm_3_148 dX6_signOn_31 rfl hc39 ?_
      refine g_bipush (v := 20) hC dX6_signOn_34 (by decide) ?_
      replace h := h (G X 6 M 0 0 51 [(0, .ref a0), (1, .int p0), (2, .int p1), (3, .int x1), (4, .int x2)] [.ref a0]) (by
        intro h
        refine g_pc (pc' := 51) rfl ?_
        refine g_iconst (v := 3) hC dX6_signOn_51 (by decide) ?_
        refine g_goto hC 56 dX6_signOn_52 (by decide) ?_
        exact h)
      refine g_pc (pc' := 36) rfl ?_
      refine g_icmp_eq hC 51 dX6_signOn_36 (by decide) (fun c44 => ?_) (fun c44 => ?_)
      · replace h := h.1 c44
        refine g_sub [2, 3, 4, 1, 0] (lv' := [(0, .ref a0), (1, .int p0), (2, .int p1), (3, .int x1), (4, .int x2)]) rfl ?_
        exact h
      · replace h := h.2 c44
        refine g_aload_n (r := (some a0)) hC 2 dX6_signOn_39 rfl ?_
        refine g_iload_n hC 3 dX6_signOn_40 rfl ?_
        refine g_iload hC 0 dX6_signOn_41 rfl ?_
        refine g_iconst (v := (-1)) hC dX6_signOn_43 (by decide) ?_
        obtain ⟨hc41, h⟩ := h
        refine g_callV hC (As := [.int p0, .int x2, .int ((-1))]) (fun l D dA ht => s_X6_namesake l D dA ht _ _ _ _ _ _ h) wm_4_78 wm_4_75 wm_4_77 wm_0_30 wm_1_7 (by decide +kernel : plainY yX6_namesake 3) kc6.1 kc6.2.1 dX6_signOn_44 (by decide) (Nat.le_of_ble_eq_true rfl) hc41 (Or.inl ⟨rfl, rfl⟩) ?_
        intro M9 v9 h
        obtain ⟨x42, rfl, h⟩ := h
        obtain ⟨hM9, h⟩ := h
        rw [hM9]
        show G X 6 M 0 0 47 [(4, .int x2), (3, .int x1), (0, .ref a0), (1, .int p0), (2, .int p1)] [.int x42, .ref a0]
        refine g_iconst (v := (-1)) hC dX6_signOn_47 (by decide) ?_
        refine g_icmp_eq hC 55 dX6_signOn_48 (by decide) (fun c43 => ?_) (fun c43 => ?_)
        · replace h := h.1 c43
          refine g_pc (pc' := 55) rfl ?_
          refine g_iconst (v := 0) hC dX6_signOn_55 (by decide) ?_
          refine g_sub [2, 3, 4, 1, 0] (lv' := [(0, .ref a0), (1, .int p0), (2, .int p1), (3, .int x1), (4, .int x2)]) rfl ?_
          exact h
        · replace h := h.2 c43
          refine g_sub [2, 3, 4, 1, 0] (lv' := [(0, .ref a0), (1, .int p0), (2, .int p1), (3, .int x1), (4, .int x2)]) rfl ?_
          exact h
    · replace h := h.1 c45
      refine g_iconst (v := 2) hC dX6_signOn_26 (by decide) ?_
      refine g_goto hC 56 dX6_signOn_27 (by decide) ?_
      refine g_sub [2, 3, 4, 1, 0] (lv' := [(0, .ref a0), (1, .int p0), (2, .int p1), (3, .int x1), (4, .int x2)]) rfl ?_
      exact h
  · replace h := h.1 c46
    refine g_iconst (v := 1) hC dX6_signOn_16 (by decide) ?_
    refine g_goto hC 56 dX6_signOn_17 (by decide) ?_
    refine g_sub [2, 3, 4, 1, 0] (lv' := [(0, .ref a0), (1, .int p0), (2, .int p1), (3, .int x1), (4, .int x2)]) rfl ?_
    exact h

def w_X6_isUser (M : Mem) (a0 : Nat) (p0 : Int32) (post : Int32 → Prop) : Prop :=
  ∀ J2 : Int32 → Prop, (∀ (x1 : Int32), (((x1 : Int32) = 0 ∨ (x1 : Int32) = 1) ∧ post x1) → J2 x1) → (∀ J3 : Prop, ((J2 0) → J3) → ((p0 < 0 → J3) ∧ (¬ (p0 < 0) → gT M a0 = some (6, 0) ∧ ((gI M a0 2) ≤ p0 → J3) ∧ (¬ ((gI M a0 2) ≤ p0) → J2 1))))
set_option maxRecDepth 100000 in
set_option maxHeartbeats 8000000 in
theorem s_X6_isUser (l : Launch) (D : va_G) (dA : Nat → ClassId) (htr : l.stackTraces = false) (M : Mem) (a0 : Nat) (p0 : Int32) (post : Int32 → Prop) (h : w_X6_isUser M a0 p0 post) : CtN l D dA yX6_isUser cX6_isUser 2 (some .boolean) 1 [.ref a0, .int p0] M 0 0 (pI (fun M' r => M' = M ∧ post r)) := by
  refine ct_ofN htr (by decide) (Nat.le_of_ble_eq_true rfl) ?_
  intro X hC hN hR
  show G X 2 M 0 0 0 [(0, .ref a0), (1, .int p0)] []
  unfold w_X6_isUser at h
  refine g_iload_n hC 1 dX6_isUser_0 rfl ?_
  replace h := h (fun (x1 : Int32) => G X 2 M 0 0 17 [(0, .ref a0), (1, .int p0)] [.int x1]) (by
    intro x1 h
    show G X 2 M 0 0 17 [(0, .ref a0), (1, .int p0)] [.int x1]
    exact hR.2.2.1 rfl _ _ _ _ _ _ dX6_isUser_17 ⟨h.1, ⟨_, rfl, rfl, h.2⟩⟩)
  replace h := h (G X 2 M 0 0 16 [(0, .ref a0), (1, .int p0)] []) (by
    intro h
    refine g_iconst (v := 0) hC dX6_isUser_16 (by decide) ?_
    exact h)
  refine g_if_lt hC 16 dX6_isUser_1 (by decide) (fun c6 => ?_) (fun c6 => ?_)
  · replace h := h.1 c6
    exact h
  · replace h := h.2 c6
    refine g_iload_n hC 1 dX6_isUser_4 rfl ?_
    refine g_aload_n (r := (some a0)) hC 0 dX6_isUser_5 rfl ?_
    obtain ⟨hc4, h⟩ := h
    refine g_getI hC kc6 2 (by decide) wm_3_148 dX6_isUser_6 rfl hc4 ?_
    refine g_icmp_ge hC 16 dX6_isUser_9 (by decide) (fun c5 => ?_) (fun c5 => ?_)
    · replace h := h.1 c5
      exact h
    · replace h := h.2 c5
      refine g_iconst (v := 1) hC dX6_isUser_12 (by decide) ?_
      refine g_pc (pc' := 13) rfl ?_
      refine g_goto hC 17 dX6_isUser_13 (by decide) ?_
      exact h

def w_X6_isGone (M : Mem) (a0 : Nat) (p0 : Int32) (post : Int32 → Prop) : Prop :=
  gT M a0 = some (6, 0) ∧ ∃ b2, gR M a0 7 = some b2 ∧ gT M a0 = some (6, 0) ∧ ∃ b4, gR M a0 4 = some b4 ∧ inA M b4 10 p0 ∧ inA M b2 10 (gI M b4 (Int32.toNatClampNeg p0)) ∧ w_X6_has M (gI M b2 (Int32.toNatClampNeg (gI M b4 (Int32.toNatClampNeg p0)))) p0 (fun x7 => ∀ J9 : Int32 → Prop, (∀ (x8 : Int32), (((x8 : Int32) = 0 ∨ (x8 : Int32) = 1) ∧ post x8) → J9 x8) → ((x7 = 0 → J9 1) ∧ (¬ (x7 = 0) → J9 0)))
set_option maxRecDepth 100000 in
set_option maxHeartbeats 8000000 in
theorem s_X6_isGone (l : Launch) (D : va_G) (dA : Nat → ClassId) (htr : l.stackTraces = false) (M : Mem) (a0 : Nat) (p0 : Int32) (post : Int32 → Prop) (h : w_X6_isGone M a0 p0 post) : CtN l D dA yX6_isGone cX6_isGone 2 (some .boolean) 2 [.ref a0, .int p0] M 0 0 (pI (fun M' r => M' = M ∧ post r)) := by
  refine ct_ofN htr (by decide) (Nat.le_of_ble_eq_true rfl) ?_
  intro X hC hN hR
  show G X 2 M 0 0 0 [(0, .ref a0), (1, .int p0)] []
  unfold w_X6_isGone at h
  refine g_aload_n (r := (some a0)) hC 0 dX6_isGone_0 rfl ?_
  obtain ⟨hc1, h⟩ := h
  obtain ⟨b2, eb2, h⟩ := h
  refine g_getA hC kc6 7 (by decide) wm_3_153 dX6_isGone_1 rfl hc1 eb2 ?_
  refine g_aload_n (r := (some a0)) hC 0 dX6_isGone_4 rfl ?_
  obtain ⟨hc3, h⟩ := h
  obtain ⟨b4, eb4, h⟩ := h
  refine g_getA hC kc6 4 (by decide) wm_3_150 dX6_isGone_5 rfl hc3 eb4 ?_
  refine g_iload_n hC 1 dX6_isGone_8 rfl ?_
  obtain ⟨hc5, h⟩ := h
  refine g_ialdA hC dX6_isGone_9 hc5 ?_
  obtain ⟨hc6, h⟩ := h
  refine g_ialdA hC dX6_isGone_10 hc6 ?_
  refine g_pc (pc' := 11) rfl ?_
  refine g_iload_n hC 1 dX6_isGone_11 rfl ?_
  refine g_callS hC (As := [.int (gI M b2 (Int32.toNatClampNeg (gI M b4 (Int32.toNatClampNeg p0)))), .int p0]) (fun l D dA ht => s_X6_has l D dA ht _ _ _ _ h) wm_4_11 wm_4_9 wm_4_10 wm_1_7 (by decide +kernel : plainY yX6_has 2) dX6_isGone_12 (by decide) (Nat.le_of_ble_eq_true rfl) (Or.inl ⟨rfl, rfl⟩) ?_
  intro M9 v9 h
  obtain ⟨x7, rfl, h⟩ := h
  obtain ⟨hM9, h⟩ := h
  rw [hM9]
  show G X 2 M 0 0 15 [(0, .ref a0), (1, .int p0)] [.int x7]
  replace h := h (fun (x8 : Int32) => G X 2 M 0 0 23 [(0, .ref a0), (1, .int p0)] [.int x8]) (by
    intro x8 h
    show G X 2 M 0 0 23 [(0, .ref a0), (1, .int p0)] [.int x8]
    exact hR.2.2.1 rfl _ _ _ _ _ _ dX6_isGone_23 ⟨h.1, ⟨_, rfl, rfl, h.2⟩⟩)
  refine g_if_ne hC 22 dX6_isGone_15 (by decide) (fun c10 => ?_) (fun c10 => ?_)
  · replace h := h.2 c10
    refine g_iconst (v := 0) hC dX6_isGone_22 (by decide) ?_
    exact h
  · replace h := h.1 c10
    refine g_iconst (v := 1) hC dX6_isGone_18 (by decide) ?_
    refine g_goto hC 23 dX6_isGone_19 (by decide) ?_
    exact h

def w_X6_isMember (M : Mem) (a0 : Nat) (p0 : Int32) (p1 : Int32) (post : Int32 → Prop) : Prop :=
  gT M a0 = some (6, 0) ∧ ∃ b2, gR M a0 4 = some b2 ∧ inA M b2 10 p0 ∧ w_X6_at M (gI M b2 (Int32.toNatClampNeg p0)) p1 (fun x4 => gT M a0 = some (6, 0) ∧ ∃ b6, gR M a0 8 = some b6 ∧ inA M b6 10 x4 ∧ ∀ J9 : Int32 → Prop, (∀ (x8 : Int32), (((x8 : Int32) = 0 ∨ (x8 : Int32) = 1) ∧ post x8) → J9 x8) → (∀ J10 : Prop, ((J9 0) → J10) → ((gI M b6 (Int32.toNatClampNeg x4) = (-1) → J10) ∧ (¬ (gI M b6 (Int32.toNatClampNeg x4) = (-1)) → gT M a0 = some (6, 0) ∧ ∃ b12, gR M a0 11 = some b12 ∧ inA M b12 10 x4 ∧ w_X6_has M (gI M b12 (Int32.toNatClampNeg x4)) p0 (fun x14 => (x14 = 0 → J10) ∧ (¬ (x14 = 0) → J9 1))))))
set_option maxRecDepth 100000 in
set_option maxHeartbeats 8000000 in
theorem s_X6_isMember (l : Launch) (D : va_G) (dA : Nat → ClassId) (htr : l.stackTraces = false) (M : Mem) (a0 : Nat) (p0 : Int32) (p1 : Int32) (post : Int32 → Prop) (h : w_X6_isMember M a0 p0 p1 post) : CtN l D dA yX6_isMember cX6_isMember 4 (some .boolean) 2 [.ref a0, .int p0, .int p1] M 0 0 (pI (fun M' r => M' = M ∧ post r)) := by
  refine ct_ofN htr (by decide) (Nat.le_of_ble_eq_true rfl) ?_
  intro X hC hN hR
  show G X 4 M 0 0 0 [(0, .ref a0), (1, .int p0), (2, .int p1)] []
  unfold w_X6_isMember at h
  refine g_aload_n (r := (some a0)) hC 0 dX6_isMember_0 rfl ?_
  obtain ⟨hc1, h⟩ := h
  obtain ⟨b2, eb2, h⟩ := h
  refine g_getA hC kc6 4 (by decide) wm_3_150 dX6_isMember_1 rfl hc1 eb2 ?_
  refine g_iload_n hC 1 dX6_isMember_4 rfl ?_
  obtain ⟨hc3, h⟩ := h
  refine g_ialdA hC dX6_isMember_5 hc3 ?_
  refine g_iload_n hC 2 dX6_isMember_6 rfl ?_
  refine g_callS hC (As := [.int (gI M b2 (Int32.toNatClampNeg p0)), .int p1]) (fun l D dA ht => s_X6_at l D dA ht _ _ _ _ h) wm_4_30 wm_4_28 wm_4_29 wm_1_7 (by decide +kernel : plainY yX6_at 2) dX6_isMember_7 (by decide) (Nat.le_of_ble_eq_true rfl) (Or.inl ⟨rfl, rfl⟩) ?_
  intro M9 v9 h
  obtain ⟨x4, rfl, h⟩ := h
  obtain ⟨hM9, h⟩ := h
  rw [hM9]
  show G X 4 M 0 0 10 [(0, .ref a0), (1, .int p0), (2, .int p1)] [.int x4]
  refine g_istore_n (lv' := [(3, .int x4), (0, .ref a0), (1, .int p0), (2, .int p1)]) hC dX6_isMember_10 (by decide) rfl ?_
  refine g_pc (pc' := 11) rfl ?_
  refine g_aload_n (r := (some a0)) hC 1 dX6_isMember_11 rfl ?_
  obtain ⟨hc5, h⟩ := h
  obtain ⟨b6, eb6, h⟩ := h
  refine g_getA hC kc6 8 (by decide) wm_3_154 dX6_isMember_12 rfl hc5 eb6 ?_
  refine g_iload_n hC 0 dX6_isMember_15 rfl ?_
  obtain ⟨hc7, h⟩ := h
  refine g_ialdA hC dX6_isMember_16 hc7 ?_
  refine g_iconst (v := (-1)) hC dX6_isMember_17 (by decide) ?_
  replace h := h (fun (x8 : Int32) => G X 4 M 0 0 39 [(0, .ref a0), (1, .int p0), (2, .int p1), (3, .int x4)] [.int x8]) (by
    intro x8 h
    show G X 4 M 0 0 39 [(0, .ref a0), (1, .int p0), (2, .int p1), (3, .int x4)] [.int x8]
    exact hR.2.2.1 rfl _ _ _ _ _ _ dX6_isMember_39 ⟨h.1, ⟨_, rfl, rfl, h.2⟩⟩)
  replace h := h (G X 4 M 0 0 38 [(0, .ref a0), (1, .int p0), (2, .int p1), (3, .int x4)] []) (by
    intro h
    refine g_iconst (v := 0) hC dX6_isMember_38 (by decide) ?_
    exact h)
  refine g_icmp_eq hC 38 dX6_isMember_18 (by decide) (fun c16 => ?_) (fun c16 => ?_)
  · replace h := h.1 c16
    refine g_sub [1, 2, 3, 0] (lv' := [(0, .ref a0), (1, .int p0), (2, .int p1), (3, .int x4)]) rfl ?_
    exact h
  · replace h := h.2 c16
    refine g_aload_n (r := (some a0)) hC 1 dX6_isMember_21 rfl ?_
    obtain ⟨hc11, h⟩ := h
    obtain ⟨b12, eb12, h⟩ := h
    refine g_getA hC kc6 11 (by decide) wm_3_157 dX6_isMember_22 rfl hc11 eb12 ?_
    refine g_pc (pc' := 25) rfl ?_
    refine g_iload_n hC 0 dX6_isMember_25 rfl ?_
    obtain ⟨hc13, h⟩ := h
    refine g_ialdA hC dX6_isMember_26 hc13 ?_
    refine g_iload_n hC 2 dX6_isMember_27 rfl ?_
    refine g_callS hC (As := [.int (gI M b12 (Int32.toNatClampNeg x4)), .int p0]) (fun l D dA ht => s_X6_has l D dA ht _ _ _ _ h) wm_4_11 wm_4_9 wm_4_10 wm_1_7 (by decide +kernel : plainY yX6_has 2) dX6_isMember_28 (by decide) (Nat.le_of_ble_eq_true rfl) (Or.inl ⟨rfl, rfl⟩) ?_
    intro M9 v9 h
    obtain ⟨x14, rfl, h⟩ := h
    obtain ⟨hM9, h⟩ := h
    rw [hM9]
    show G X 4 M 0 0 31 [(3, .int x4), (0, .ref a0), (1, .int p0), (2, .int p1)] [.int x14]
    refine g_if_eq hC 38 dX6_isMember_31 (by decide) (fun c15 => ?_) (fun c15 => ?_)
    · replace h := h.1 c15
      refine g_sub [1, 2, 3, 0] (lv' := [(0, .ref a0), (1, .int p0), (2, .int p1), (3, .int x4)]) rfl ?_
      exact h
    · replace h := h.2 c15
      refine g_iconst (v := 1) hC dX6_isMember_34 (by decide) ?_
      refine g_goto hC 39 dX6_isMember_35 (by decide) ?_
      refine g_sub [1, 2, 3, 0] (lv' := [(0, .ref a0), (1, .int p0), (2, .int p1), (3, .int x4)]) rfl ?_
      exact h

def w_X6_quit (M : Mem) (a0 : Nat) (p0 : Int32) (post : Mem → Prop) : Prop :=
  gT M a0 = some (6, 0) ∧ w_X6_isUser M a0 p0 (fun x2 => ∀ J4 : Int32 → Prop, (∀ (x3 : Int32), (gT M a0 = some (6, 0) ∧ w_X6_holds M a0 x3 (fun M6 x7 => ∀ J9 : Mem → Prop, (∀ (M8 : Mem), (post M8) → J9 M8) → ((x7 = 0 → J9 M6) ∧ (¬ (x7 = 0) → gT M6 a0 = some (6, 0) ∧ ∃ b11, gR M6 a0 4 = some b11 ∧ inA M6 b11 10 p0 ∧ gT M6 a0 = some (6, 0) ∧ w_X6_quits M6 a0 (gI M6 b11 (Int32.toNatClampNeg p0)) p0 (fun M14 => gT M14 a0 = some (6, 0) ∧ w_X6_makes M14 a0 1 p0 0 (fun M16 => gT M16 a0 = some (6, 0) ∧ ∃ b18, gR M16 a0 4 = some b18 ∧ inA M16 b18 10 p0 ∧ gT M16 a0 = some (6, 0) ∧ w_X6_sends M16 a0 (gI M16 b18 (Int32.toNatClampNeg p0)) ((-1)) (fun M21 => gT M21 a0 = some (6, 0) ∧ gT M21 a0 = some (6, 0) ∧ ∀ M24, M24 = sI M21 a0 1 ((gI M21 a0 1) + 1) → J9 M24))))))) → J4 x3) → ((x2 = 0 → J4 1) ∧ (¬ (x2 = 0) → gT M a0 = some (6, 0) ∧ w_X6_isGone M a0 p0 (fun x27 => (x27 = 0 → J4 0) ∧ (¬ (x27 = 0) → J4 2)))))
set_option maxRecDepth 100000 in
set_option maxHeartbeats 8000000 in
theorem s_X6_quit (l : Launch) (D : va_G) (dA : Nat → ClassId) (htr : l.stackTraces = false) (M : Mem) (a0 : Nat) (p0 : Int32) (post : Mem → Prop) (h : w_X6_quit M a0 p0 post) : CtN l D dA yX6_quit cX6_quit 3 (none) 4 [.ref a0, .int p0] M 0 0 (pV post) := by
  refine ct_ofN htr (by decide) (Nat.le_of_ble_eq_true rfl) ?_
  intro X hC hN hR
  show G X 3 M 0 0 0 [(0, .ref a0), (1, .int p0)] []
  unfold w_X6_quit at h
  refine g_aload_n (r := (some a0)) hC 0 dX6_quit_0 rfl ?_
  refine g_iload_n hC 1 dX6_quit_1 rfl ?_
  obtain ⟨hc1, h⟩ := h
  refine g_callV hC (As := [.int p0]) (fun l D dA ht => s_X6_isUser l D dA ht _ _ _ _ h) wm_4_113 wm_4_110 wm_4_112 wm_0_33 wm_1_7 (by decide +kernel : plainY yX6_isUser 1) kc6.1 kc6.2.1 dX6_quit_2 (by decide) (Nat.le_of_ble_eq_true rfl) hc1 (Or.inl ⟨rfl, rfl⟩) ?_
  intro M9 v9 h
  obtain ⟨x2, rfl, h⟩ := h
  obtain ⟨hM9, h⟩ := h
  rw [hM9]
  show G X 3 M 0 0 5 [(0, .ref a0), (1, .int p0)] [.int x2]
  refine g_istore_n (lv' := [(2, .int x2), (0, .ref a0), (1, .int p0)]) hC dX6_quit_5 (by decide) rfl ?_
  refine g_aload_n (r := (some a0)) hC 1 dX6_quit_6 rfl ?_
  refine g_iload_n hC 0 dX6_quit_7 rfl ?_
  replace h := h (fun (x3 : Int32) => G X 3 M 0 0 28 [(0, .ref a0), (1, .int p0), (2, .int x2)] [.int x3, .ref a0]) (by
    intro x3 h
    show G X 3 M 0 0 28 [(0, .ref a0), (1, .int p0), (2, .int x2)] [.int x3, .ref a0]
    obtain ⟨hc5, h⟩ := h
    refine g_callV hC (As := [.int x3]) (fun l D dA ht => s_X6_holds l D dA ht _ _ _ _ h) wm_4_15 wm_4_12 wm_4_14 wm_0_17 wm_1_7 (by decide +kernel : plainY yX6_holds 1) kc6.1 kc6.2.1 dX6_quit_28 (by decide) (Nat.le_of_ble_eq_true rfl) hc5 (Or.inl ⟨rfl, rfl⟩) ?_
    intro M9 v9 h
    obtain ⟨x7, rfl, h⟩ := h
    generalize M9 = M6 at h ⊢
    show G X 3 M6 0 0 31 [(0, .ref a0), (1, .int p0), (2, .int x2)] [.int x7]
    replace h := h (fun (M8 : Mem) => G X 3 M8 0 0 73 [(0, .ref a0), (1, .int p0), (2, .int x2)] []) (by
      intro M8 h
      show G X 3 M8 0 0 73 [(0, .ref a0), (1, .int p0), (2, .int x2)] []
      refine g_pc (pc' := 73) rfl ?_
      exact hR.1 rfl _ _ _ _ _ dX6_quit_73 ⟨rfl, h⟩)
    refine g_pc (pc' := 31) rfl ?_
    refine g_if_eq hC 73 dX6_quit_31 (by decide) (fun c25 => ?_) (fun c25 => ?_)
    · replace h := h.1 c25
      exact h
    · replace h := h.2 c25
      refine g_aload_n (r := (some a0)) hC 0 dX6_quit_34 rfl ?_
      refine g_aload_n (r := (some a0)) hC 0 dX6_quit_35 rfl ?_
      obtain ⟨hc10, h⟩ := h
      obtain ⟨b11, eb11, h⟩ := h
      refine g_getA hC kc6 4 (by decide) wm_3_150 dX6_quit_36 rfl hc10 eb11 ?_
      refine g_iload_n hC 1 dX6_quit_39 rfl ?_
      obtain ⟨hc12, h⟩ := h
      refine g_ialdA hC dX6_quit_40 hc12 ?_
      refine g_iload_n hC 1 dX6_quit_41 rfl ?_
      obtain ⟨hc13, h⟩ := h
      refine g_callV hC (As := [.int (gI M6 b11 (Int32.toNatClampNeg p0)), .int p0]) (fun l D dA ht => s_X6_quits l D dA ht _ _ _ _ _ h) wm_4_50 wm_4_47 wm_4_49 wm_0_24 wm_1_7 (by decide +kernel : plainY yX6_quits 2) kc6.1 kc6.2.1 dX6_quit_42 (by decide) (Nat.le_of_ble_eq_true rfl) hc13 (Or.inl ⟨rfl, rfl⟩) ?_
      intro M9 v9 h
      obtain ⟨rfl, h⟩ := h
      generalize M9 = M14 at h ⊢
      show G X 3 M14 0 0 45 [(0, .ref a0), (1, .int p0), (2, .int x2)] []
      refine g_pc (pc' := 45) rfl ?_
      refine g_aload_n (r := (some a0)) hC 0 dX6_quit_45 rfl ?_
      refine g_iconst (v := 1) hC dX6_quit_46 (by decide) ?_
      refine g_iload_n hC 1 dX6_quit_47 rfl ?_
      refine g_iconst (v := 0) hC dX6_quit_48 (by decide) ?_
      obtain ⟨hc15, h⟩ := h
      refine g_callV hC (As := [.int 1, .int p0, .int 0]) (fun l D dA ht => s_X6_makes l D dA ht _ _ _ _ _ _ h) wm_4_23 wm_4_20 wm_4_22 wm_0_19 wm_1_7 (by decide +kernel : plainY yX6_makes 3) kc6.1 kc6.2.1 dX6_quit_49 (by decide) (Nat.le_of_ble_eq_true rfl) hc15 (Or.inl ⟨rfl, rfl⟩) ?_
      intro M9 v9 h
      obtain ⟨rfl, h⟩ := h
      generalize M9 = M16 at h ⊢
      show G X 3 M16 0 0 52 [(0, .ref a0), (1, .int p0), (2, .int x2)] []
      refine g_aload_n (r := (some a0)) hC 0 dX6_quit_52 rfl ?_
      refine g_aload_n (r := (some a0)) hC 0 dX6_quit_53 rfl ?_
      obtain ⟨hc17, h⟩ := h
      obtain ⟨b18, eb18, h⟩ := h
      refine g_getA hC kc6 4 (by decide) wm_3_150 dX6_quit_54 rfl hc17 eb18 ?_
      refine g_pc (pc' := 57) rfl ?_
      refine g_iload_n hC 1 dX6_quit_57 rfl ?_
      obtain ⟨hc19, h⟩ := h
      refine g_ialdA hC dX6_quit_58 hc19 ?_
      refine g_iconst (v := (-1)) hC dX6_quit_59 (by decide) ?_
      obtain ⟨hc20, h⟩ := h
      refine g_callV hC (As := [.int (gI M16 b18 (Int32.toNatClampNeg p0)), .int ((-1))]) (fun l D dA ht => s_X6_sends l D dA ht _ _ _ _ _ h) wm_4_82 wm_4_79 wm_4_81 wm_0_31 wm_1_7 (by decide +kernel : plainY yX6_sends 2) kc6.1 kc6.2.1 dX6_quit_60 (by decide) (Nat.le_of_ble_eq_true rfl) hc20 (Or.inl ⟨rfl, rfl⟩) ?_
      intro M9 v9 h
      obtain ⟨rfl, h⟩ := h
      generalize M9 = M21 at h ⊢
      show G X 3 M21 0 0 63 [(0, .ref a0), (1, .int p0), (2, .int x2)] []
      refine g_aload_n (r := (some a0)) hC 0 dX6_quit_63 rfl ?_
      refine g_dup hC dX6_quit_64 rfl ?_
      obtain ⟨hc22, h⟩ := h
      refine g_getI hC kc6 1 (by decide) wm_3_147 dX6_quit_65 rfl hc22 ?_
      refine g_iconst (v := 1) hC dX6_quit_68 (by decide) ?_
      refine g_pc (pc' := 69) rfl ?_
      refine g_iadd hC dX6_quit_69 ?_
      obtain ⟨hc23, h⟩ := h
      refine g_putI hC kc6 1 (by decide) wm_3_147 dX6_quit_70 rfl rfl (Or.inl rfl) hc23 ?_
      obtain ⟨M24, eM24⟩ : ∃ w, w = sI M21 a0 1 ((gI M21 a0 1) + 1) := ⟨_, rfl⟩
      replace h := h M24 eM24
      rw [← eM24]
      exact h)
  refine g_if_ne hC 15 dX6_quit_8 (by decide) (fun c29 => ?_) (fun c29 => ?_)
  · replace h := h.2 c29
    refine g_pc (pc' := 15) rfl ?_
    refine g_aload_n (r := (some a0)) hC 1 dX6_quit_15 rfl ?_
    refine g_iload_n hC 2 dX6_quit_16 rfl ?_
    obtain ⟨hc26, h⟩ := h
    refine g_callV hC (As := [.int p0]) (fun l D dA ht => s_X6_isGone l D dA ht _ _ _ _ h) wm_4_117 wm_4_114 wm_4_116 wm_0_34 wm_1_7 (by decide +kernel : plainY yX6_isGone 1) kc6.1 kc6.2.1 dX6_quit_17 (by decide) (Nat.le_of_ble_eq_true rfl) hc26 (Or.inl ⟨rfl, rfl⟩) ?_
    intro M9 v9 h
    obtain ⟨x27, rfl, h⟩ := h
    obtain ⟨hM9, h⟩ := h
    rw [hM9]
    show G X 3 M 0 0 20 [(2, .int x2), (0, .ref a0), (1, .int p0)] [.int x27, .ref a0]
    refine g_if_eq hC 27 dX6_quit_20 (by decide) (fun c28 => ?_) (fun c28 => ?_)
    · replace h := h.1 c28
      refine g_iconst (v := 0) hC dX6_quit_27 (by decide) ?_
      refine g_sub [1, 2, 0] (lv' := [(0, .ref a0), (1, .int p0), (2, .int x2)]) rfl ?_
      exact h
    · replace h := h.2 c28
      refine g_iconst (v := 2) hC dX6_quit_23 (by decide) ?_
      refine g_goto hC 28 dX6_quit_24 (by decide) ?_
      refine g_sub [1, 2, 0] (lv' := [(0, .ref a0), (1, .int p0), (2, .int x2)]) rfl ?_
      exact h
  · replace h := h.1 c29
    refine g_pc (pc' := 11) rfl ?_
    refine g_iconst (v := 1) hC dX6_quit_11 (by decide) ?_
    refine g_goto hC 28 dX6_quit_12 (by decide) ?_
    refine g_sub [1, 2, 0] (lv' := [(0, .ref a0), (1, .int p0), (2, .int x2)]) rfl ?_
    exact h

def w_X6_isBanned (M : Mem) (a0 : Nat) (p0 : Int32) (p1 : Int32) (post : Int32 → Prop) : Prop :=
  gT M a0 = some (6, 0) ∧ ∃ b2, gR M a0 4 = some b2 ∧ inA M b2 10 p0 ∧ w_X6_at M (gI M b2 (Int32.toNatClampNeg p0)) p1 (fun x4 => gT M a0 = some (6, 0) ∧ ∃ b6, gR M a0 8 = some b6 ∧ inA M b6 10 x4 ∧ ∀ J9 : Int32 → Prop, (∀ (x8 : Int32), (((x8 : Int32) = 0 ∨ (x8 : Int32) = 1) ∧ post x8) → J9 x8) → (∀ J10 : Prop, ((J9 0) → J10) → ((gI M b6 (Int32.toNatClampNeg x4) = (-1) → J10) ∧ (¬ (gI M b6 (Int32.toNatClampNeg x4) = (-1)) → gT M a0 = some (6, 0) ∧ ∃ b12, gR M a0 10 = some b12 ∧ inA M b12 10 x4 ∧ gT M a0 = some (6, 0) ∧ ∃ b15, gR M a0 3 = some b15 ∧ inA M b15 10 p0 ∧ w_X6_has M (gI M b12 (Int32.toNatClampNeg x4)) (gI M b15 (Int32.toNatClampNeg p0)) (fun x17 => (x17 = 0 → J10) ∧ (¬ (x17 = 0) → J9 1))))))
set_option maxRecDepth 100000 in
set_option maxHeartbeats 8000000 in
theorem s_X6_isBanned (l : Launch) (D : va_G) (dA : Nat → ClassId) (htr : l.stackTraces = false) (M : Mem) (a0 : Nat) (p0 : Int32) (p1 : Int32) (post : Int32 → Prop) (h : w_X6_isBanned M a0 p0 p1 post) : CtN l D dA yX6_isBanned cX6_isBanned 4 (some .boolean) 2 [.ref a0, .int p0, .int p1] M 0 0 (pI (fun M' r => M' = M ∧ post r)) := by
  refine ct_ofN htr (by decide) (Nat.le_of_ble_eq_true rfl) ?_
  intro X hC hN hR
  show G X 4 M 0 0 0 [(0, .ref a0), (1, .int p0), (2, .int p1)] []
  unfold w_X6_isBanned at h
  refine g_aload_n (r := (some a0)) hC 0 dX6_isBanned_0 rfl ?_
  obtain ⟨hc1, h⟩ := h
  obtain ⟨b2, eb2, h⟩ := h
  refine g_getA hC kc6 4 (by decide) wm_3_150 dX6_isBanned_1 rfl hc1 eb2 ?_
  refine g_iload_n hC 1 dX6_isBanned_4 rfl ?_
  obtain ⟨hc3, h⟩ := h
  refine g_ialdA hC dX6_isBanned_5 hc3 ?_
  refine g_iload_n hC 2 dX6_isBanned_6 rfl ?_
  refine g_callS hC (As := [.int (gI M b2 (Int32.toNatClampNeg p0)), .int p1]) (fun l D dA ht => s_X6_at l D dA ht _ _ _ _ h) wm_4_30 wm_4_28 wm_4_29 wm_1_7 (by decide +kernel : plainY yX6_at 2) dX6_isBanned_7 (by decide) (Nat.le_of_ble_eq_true rfl) (Or.inl ⟨rfl, rfl⟩) ?_
  intro M9 v9 h
  obtain ⟨x4, rfl, h⟩ := h
  obtain ⟨hM9, h⟩ := h
  rw [hM9]
  show G X 4 M 0 0 10 [(0, .ref a0), (1, .int p0), (2, .int p1)] [.int x4]
  refine g_istore_n (lv' := [(3, .int x4), (0, .ref a0), (1, .int p0), (2, .int p1)]) hC dX6_isBanned_10 (by decide) rfl ?_
  refine g_pc (pc' := 11) rfl ?_
  refine g_aload_n (r := (some a0)) hC 1 dX6_isBanned_11 rfl ?_
  obtain ⟨hc5, h⟩ := h
  obtain ⟨b6, eb6, h⟩ := h
  refine g_getA hC kc6 8 (by decide) wm_3_154 dX6_isBanned_12 rfl hc5 eb6 ?_
  refine g_iload_n hC 0 dX6_isBanned_15 rfl ?_
  obtain ⟨hc7, h⟩ := h
  refine g_ialdA hC dX6_isBanned_16 hc7 ?_
  refine g_iconst (v := (-1)) hC dX6_isBanned_17 (by decide) ?_
  replace h := h (fun (x8 : Int32) => G X 4 M 0 0 44 [(0, .ref a0), (1, .int p0), (2, .int p1), (3, .int x4)] [.int x8]) (by
    intro x8 h
    show G X 4 M 0 0 44 [(0, .ref a0), (1, .int p0), (2, .int p1), (3, .int x4)] [.int x8]
    exact hR.2.2.1 rfl _ _ _ _ _ _ dX6_isBanned_44 ⟨h.1, ⟨_, rfl, rfl, h.2⟩⟩)
  replace h := h (G X 4 M 0 0 43 [(0, .ref a0), (1, .int p0), (2, .int p1), (3, .int x4)] []) (by
    intro h
    refine g_iconst (v := 0) hC dX6_isBanned_43 (by decide) ?_
    exact h)
  refine g_icmp_eq hC 43 dX6_isBanned_18 (by decide) (fun c19 => ?_) (fun c19 => ?_)
  · replace h := h.1 c19
    refine g_sub [1, 2, 3, 0] (lv' := [(0, .ref a0), (1, .int p0), (2, .int p1), (3, .int x4)]) rfl ?_
    exact h
  · replace h := h.2 c19
    refine g_aload_n (r := (some a0)) hC 1 dX6_isBanned_21 rfl ?_
    obtain ⟨hc11, h⟩ := h
    obtain ⟨b12, eb12, h⟩ := h
    refine g_getA hC kc6 10 (by decide) wm_3_156 dX6_isBanned_22 rfl hc11 eb12 ?_
    refine g_pc (pc' := 25) rfl ?_
    refine g_iload_n hC 0 dX6_isBanned_25 rfl ?_
    obtain ⟨hc13, h⟩ := h
    refine g_ialdA hC dX6_isBanned_26 hc13 ?_
    refine g_aload_n (r := (some a0)) hC 1 dX6_isBanned_27 rfl ?_
    obtain ⟨hc14, h⟩ := h
    obtain ⟨b15, eb15, h⟩ := h
    refine g_getA hC kc6 3 (by decide) wm_3_149 dX6_isBanned_28 rfl hc14 eb15 ?_
    refine g_iload_n hC 2 dX6_isBanned_31 rfl ?_
    obtain ⟨hc16, h⟩ := h
    refine g_ialdA hC dX6_isBanned_32 hc16 ?_
    refine g_callS hC (As := [.int (gI M b12 (Int32.toNatClampNeg x4)), .int (gI M b15 (Int32.toNatClampNeg p0))]) (fun l D dA ht => s_X6_has l D dA ht _ _ _ _ h) wm_4_11 wm_4_9 wm_4_10 wm_1_7 (by decide +kernel : plainY yX6_has 2) dX6_isBanned_33 (by decide) (Nat.le_of_ble_eq_true rfl) (Or.inl ⟨rfl, rfl⟩) ?_
    intro M9 v9 h
    obtain ⟨x17, rfl, h⟩ := h
    obtain ⟨hM9, h⟩ := h
    rw [hM9]
    show G X 4 M 0 0 36 [(3, .int x4), (0, .ref a0), (1, .int p0), (2, .int p1)] [.int x17]
    refine g_if_eq hC 43 dX6_isBanned_36 (by decide) (fun c18 => ?_) (fun c18 => ?_)
    · replace h := h.1 c18
      refine g_sub [1, 2, 3, 0] (lv' := [(0, .ref a0), (1, .int p0), (2, .int p1), (3, .int x4)]) rfl ?_
      exact h
    · replace h := h.2 c18
      refine g_pc (pc' := 39) rfl ?_
      refine g_iconst (v := 1) hC dX6_isBanned_39 (by decide) ?_
      refine g_goto hC 44 dX6_isBanned_40 (by decide) ?_
      refine g_sub [1, 2, 3, 0] (lv' := [(0, .ref a0), (1, .int p0), (2, .int p1), (3, .int x4)]) rfl ?_
      exact h

def w_X6_count (M : Mem) (p0 : Int32) (post : Int32 → Prop) : Prop :=
  Lp (fun (K3 : Int32 × Int32 → Prop) (z : Int32 × Int32) => ∀ (x1 : Int32) (x2 : Int32), z = (x1, x2) → ((20 ≤ x2 → post x1) ∧ (¬ (20 ≤ x2) → ∀ x4, x4 = x1 + ((p0 >>> (x2 &&& 31)) &&& 1) → ∀ x5, x5 = x2 + 1 → K3 (x4, x5)))) (0, 0)
set_option maxRecDepth 100000 in
set_option maxHeartbeats 8000000 in
theorem s_X6_count (l : Launch) (D : va_G) (dA : Nat → ClassId) (htr : l.stackTraces = false) (M : Mem) (p0 : Int32) (post : Int32 → Prop) (h : w_X6_count M p0 post) : CtN l D dA yX6_count cX6_count 3 (some .int) 1 [.int p0] M 0 0 (pI (fun M' r => M' = M ∧ post r)) := by
  refine ct_ofN htr (by decide) (Nat.le_of_ble_eq_true rfl) ?_
  intro X hC hN hR
  show G X 3 M 0 0 0 [(0, .int p0)] []
  unfold w_X6_count at h
  refine g_iconst (v := 0) hC dX6_count_0 (by decide) ?_
  refine g_istore_n (lv' := [(1, .int 0), (0, .int p0)]) hC dX6_count_1 (by decide) rfl ?_
  refine g_iconst (v := 0) hC dX6_count_2 (by decide) ?_
  refine g_istore_n (lv' := [(2, .int 0), (1, .int 0), (0, .int p0)]) hC dX6_count_3 (by decide) rfl ?_
  refine g_sub [2, 1, 0] (lv' := [(0, .int p0), (1, .int 0), (2, .int 0)]) rfl ?_
  refine Lp_use (fun (z7 : Int32 × Int32) => G X 3 M 0 0 4 [(0, .int p0), (1, .int z7.1), (2, .int z7.2)] []) h ?_
  intro K3 z hK_K3 h
  obtain ⟨x1, x2⟩ := z
  replace h := h _ _ rfl
  show G X 3 M 0 0 4 [(0, .int p0), (1, .int x1), (2, .int x2)] []
  refine g_iload_n hC 2 dX6_count_4 rfl ?_
  refine g_bipush (v := 20) hC dX6_count_5 (by decide) ?_
  refine g_icmp_ge hC 24 dX6_count_7 (by decide) (fun c6 => ?_) (fun c6 => ?_)
  · replace h := h.1 c6
    refine g_pc (pc' := 24) rfl ?_
    refine g_iload_n hC 1 dX6_count_24 rfl ?_
    exact hR.2.1 rfl _ _ _ _ _ _ dX6_count_25 ⟨_, rfl, rfl, h⟩
  · replace h := h.2 c6
    refine g_pc (pc' := 10) rfl ?_
    refine g_iload_n hC 1 dX6_count_10 rfl ?_
    refine g_iload_n hC 0 dX6_count_11 rfl ?_
    refine g_iload_n hC 2 dX6_count_12 rfl ?_
    refine g_ishr hC dX6_count_13 ?_
    refine g_iconst (v := 1) hC dX6_count_14 (by decide) ?_
    refine g_iand hC dX6_count_15 ?_
    refine g_iadd hC dX6_count_16 ?_
    obtain ⟨x4, ex4⟩ : ∃ w, w = x1 + ((p0 >>> (x2 &&& 31)) &&& 1) := ⟨_, rfl⟩
    replace h := h x4 ex4
    rw [← ex4]
    refine g_istore_n (lv' := [(1, .int x4), (0, .int p0), (2, .int x2)]) hC dX6_count_17 (by decide) rfl ?_
    obtain ⟨x5, ex5⟩ : ∃ w, w = x2 + 1 := ⟨_, rfl⟩
    replace h := h x5 ex5
    refine g_pc (pc' := 18) rfl ?_
    refine g_iinc (v := x5) (lv' := [(2, .int x5), (1, .int x4), (0, .int p0)]) hC 2 dX6_count_18 rfl (by rw [ex5]; rfl) (by decide) rfl ?_
    refine g_goto hC 4 dX6_count_21 (by decide) ?_
    refine g_sub [2, 1, 0] (lv' := [(0, .int p0), (1, .int x4), (2, .int x5)]) rfl ?_
    exact hK_K3 _ h

def w_X6_join (M : Mem) (a0 : Nat) (p0 : Int32) (p1 : Int32) (post : Mem → Int32 → Prop) : Prop :=
  gT M a0 = some (6, 0) ∧ w_X6_isUser M a0 p0 (fun x2 => ∀ J4 : Int32 → Prop, (∀ (x3 : Int32), (∀ J6 : Int32 → Prop, (∀ (x5 : Int32), (gT M a0 = some (6, 0) ∧ w_X6_holds M a0 x5 (fun M8 x9 => (x9 = 0 → post M8 0) ∧ (¬ (x9 = 0) → gT M8 a0 = some (6, 0) ∧ ∃ b11, gR M8 a0 4 = some b11 ∧ inA M8 b11 10 p0 ∧ w_X6_at M8 (gI M8 b11 (Int32.toNatClampNeg p0)) p1 (fun x13 => gT M8 a0 = some (6, 0) ∧ ∃ b15, gR M8 a0 8 = some b15 ∧ inA M8 b15 10 x13 ∧ ∀ J18 : Mem → Prop, (∀ (M17 : Mem), (gT M17 a0 = some (6, 0) ∧ ∃ b20, gR M17 a0 11 = some b20 ∧ inA M17 b20 10 x13 ∧ inA M17 b20 10 x13 ∧ ∀ M22, M22 = sI M17 b20 (Int32.toNatClampNeg x13) ((gI M17 b20 (Int32.toNatClampNeg x13)) ||| (1 <<< (p0 &&& 31))) → gT M22 a0 = some (6, 0) ∧ ∃ b25, gR M22 a0 4 = some b25 ∧ inA M22 b25 10 p0 ∧ gT M22 a0 = some (6, 0) ∧ w_X6_tells M22 a0 2 (gI M22 b25 (Int32.toNatClampNeg p0)) p1 (1 <<< (p0 &&& 31)) (fun M28 => gT M28 a0 = some (6, 0) ∧ ∃ b30, gR M28 a0 4 = some b30 ∧ inA M28 b30 10 p0 ∧ gT M28 a0 = some (6, 0) ∧ w_X6_sends M28 a0 (gI M28 b30 (Int32.toNatClampNeg p0)) ((-1)) (fun M33 => gT M33 a0 = some (6, 0) ∧ gT M33 a0 = some (6, 0) ∧ ∀ M36, M36 = sI M33 a0 1 ((gI M33 a0 1) + 1) → gT M36 a0 = some (6, 0) ∧ ∃ b38, gR M36 a0 11 = some b38 ∧ inA M36 b38 10 x13 ∧ w_X6_count M36 (gI M36 b38 (Int32.toNatClampNeg x13)) (fun x40 => post M36 x40)))) → J18 M17) → ((gI M8 b15 (Int32.toNatClampNeg x13) = (-1) → gT M8 a0 = some (6, 0) ∧ ∃ b42, gR M8 a0 8 = some b42 ∧ gT M8 a0 = some (6, 0) ∧ inA M8 b42 10 x13 ∧ ∀ M44, M44 = sI M8 b42 (Int32.toNatClampNeg x13) (gI M8 a0 1) → gT M44 a0 = some (6, 0) ∧ ∃ b47, gR M44 a0 9 = some b47 ∧ inA M44 b47 10 x13 ∧ ∀ M48, M48 = sI M44 b47 (Int32.toNatClampNeg x13) 0 → gT M48 a0 = some (6, 0) ∧ ∃ b51, gR M48 a0 10 = some b51 ∧ inA M48 b51 10 x13 ∧ ∀ M52, M52 = sI M48 b51 (Int32.toNatClampNeg x13) 0 → gT M52 a0 = some (6, 0) ∧ ∃ b55, gR M52 a0 11 = some b55 ∧ inA M52 b55 10 x13 ∧ ∀ M56, M56 = sI M52 b55 (Int32.toNatClampNeg x13) 0 → J18 M56) ∧ (¬ (gI M8 b15 (Int32.toNatClampNeg x13) = (-1)) → J18 M8)))))) → J6 x5) → ((x3 = 0 → J6 1) ∧ (¬ (x3 = 0) → gT M a0 = some (6, 0) ∧ w_X6_isGone M a0 p0 (fun x61 => ∀ J62 : Prop, ((J6 2) → J62) → ((x61 = 0 → gT M a0 = some (6, 0) ∧ w_X6_isMember M a0 p0 p1 (fun x64 => (x64 = 0 → gT M a0 = some (6, 0) ∧ w_X6_isBanned M a0 p0 p1 (fun x66 => (x66 = 0 → J6 0) ∧ (¬ (x66 = 0) → J62))) ∧ (¬ (x64 = 0) → J62))) ∧ (¬ (x61 = 0) → J62)))))) → J4 x3) → (∀ J71 : Prop, ((J4 0) → J71) → ((x2 = 0 → J71) ∧ (¬ (x2 = 0) → w_X6_isChannel M p1 (fun x72 => (x72 = 0 → J71) ∧ (¬ (x72 = 0) → J4 1))))))
set_option maxRecDepth 100000 in
set_option maxHeartbeats 8000000 in
theorem s_X6_join (l : Launch) (D : va_G) (dA : Nat → ClassId) (htr : l.stackTraces = false) (M : Mem) (a0 : Nat) (p0 : Int32) (p1 : Int32) (post : Mem → Int32 → Prop) (h : w_X6_join M a0 p0 p1 post) : CtN l D dA yX6_join cX6_join 5 (some .int) 3 [.ref a0, .int p0, .int p1] M 0 0 (pI post) := by
  refine ct_ofN htr (by decide) (Nat.le_of_ble_eq_true rfl) ?_
  intro X hC hN hR
  show G X 5 M 0 0 0 [(0, .ref a0), (1, .int p0), (2, .int p1)] []
  unfold w_X6_join at h
  refine g_aload_n (r := (some a0)) hC 0 dX6_join_0 rfl ?_
  refine g_iload_n hC 1 dX6_join_1 rfl ?_
  obtain ⟨hc1, h⟩ := h
  refine g_callV hC (As := [.int p0]) (fun l D dA ht => s_X6_isUser l D dA ht _ _ _ _ h) wm_4_113 wm_4_110 wm_4_112 wm_0_33 wm_1_7 (by decide +kernel : plainY yX6_isUser 1) kc6.1 kc6.2.1 dX6_join_2 (by decide) (Nat.le_of_ble_eq_true rfl) hc1 (Or.inl ⟨rfl, rfl⟩) ?_
  intro M9 v9 h
  obtain ⟨x2, rfl, h⟩ := h
  obtain ⟨hM9, h⟩ := h
  rw [hM9]
  show G X 5 M 0 0 5 [(0, .ref a0), (1, .int p0), (2, .int p1)] [.int x2]
  replace h := h (fun (x3 : Int32) => G X 5 M 0 0 20 [(0, .ref a0), (1, .int p0), (2, .int p1)] [.int x3]) (by
    intro x3 h
    show G X 5 M 0 0 20 [(0, .ref a0), (1, .int p0), (2, .int p1)] [.int x3]
    refine g_istore_n (lv' := [(3, .int x3), (0, .ref a0), (1, .int p0), (2, .int p1)]) hC dX6_join_20 (by decide) rfl ?_
    refine g_aload_n (r := (some a0)) hC 1 dX6_join_21 rfl ?_
    refine g_iload_n hC 0 dX6_join_22 rfl ?_
    replace h := h (fun (x5 : Int32) => G X 5 M 0 0 61 [(0, .ref a0), (1, .int p0), (2, .int p1), (3, .int x3)] [.int x5, .ref a0]) (by
      intro x5 h
      show G X 5 M 0 0 61 [(0, .ref a0), (1, .int p0), (2, .int p1), (3, .int x3)] [.int x5, .ref a0]
      obtain ⟨hc7, h⟩ := h
      refine g_callV hC (As := [.int x5]) (fun l D dA ht => s_X6_holds l D dA ht _ _ _ _ h) wm_4_15 wm_4_12 wm_4_14 wm_0_17 wm_1_7 (by decide +kernel : plainY yX6_holds 1) kc6.1 kc6.2.1 dX6_join_61 (by decide) (Nat.le_of_ble_eq_true rfl) hc7 (Or.inl ⟨rfl, rfl⟩) ?_
      intro M9 v9 h
      obtain ⟨x9, rfl, h⟩ := h
      generalize M9 = M8 at h ⊢
      show G X 5 M8 0 0 64 [(0, .ref a0), (1, .int p0), (2, .int p1), (3, .int x3)] [.int x9]
      refine g_pc (pc' := 64) rfl ?_
      refine g_if_ne hC 69 dX6_join_64 (by decide) (fun c59 => ?_) (fun c59 => ?_)
      · replace h := h.2 c59
        refine g_aload_n (r := (some a0)) hC 0 dX6_join_69 rfl ?_
        obtain ⟨hc10, h⟩ := h
        obtain ⟨b11, eb11, h⟩ := h
        refine g_getA hC kc6 4 (by decide) wm_3_150 dX6_join_70 rfl hc10 eb11 ?_
        refine g_iload_n hC 1 dX6_join_73 rfl ?_
        obtain ⟨hc12, h⟩ := h
        refine g_ialdA hC dX6_join_74 hc12 ?_
        refine g_iload_n hC 2 dX6_join_75 rfl ?_
        refine g_callS hC (As := [.int (gI M8 b11 (Int32.toNatClampNeg p0)), .int p1]) (fun l D dA ht => s_X6_at l D dA ht _ _ _ _ h) wm_4_30 wm_4_28 wm_4_29 wm_1_7 (by decide +kernel : plainY yX6_at 2) dX6_join_76 (by decide) (Nat.le_of_ble_eq_true rfl) (Or.inl ⟨rfl, rfl⟩) ?_
        intro M9 v9 h
        obtain ⟨x13, rfl, h⟩ := h
        obtain ⟨hM9, h⟩ := h
        rw [hM9]
        show G X 5 M8 0 0 79 [(0, .ref a0), (1, .int p0), (2, .int p1), (3, .int x3)] [.int x13]
        refine g_istore (lv' := [(4, .int x13), (0, .ref a0), (1, .int p0), (2, .int p1), (3, .int x3)]) hC dX6_join_79 (by decide) rfl ?_
        refine g_pc (pc' := 81) rfl ?_
        refine g_aload_n (r := (some a0)) hC 1 dX6_join_81 rfl ?_
        obtain ⟨hc14, h⟩ := h
        obtain ⟨b15, eb15, h⟩ := h
        refine g_getA hC kc6 8 (by decide) wm_3_154 dX6_join_82 rfl hc14 eb15 ?_
        refine g_iload hC 0 dX6_join_85 rfl ?_
        obtain ⟨hc16, h⟩ := h
        refine g_ialdA hC dX6_join_87 hc16 ?_
        refine g_iconst (v := (-1)) hC dX6_join_88 (by decide) ?_
        replace h := h (fun (M17 : Mem) => G X 5 M17 0 0 127 [(0, .ref a0), (1, .int p0), (2, .int p1), (3, .int x3), (4, .int x13)] []) (by
          intro M17 h
          show G X 5 M17 0 0 127 [(0, .ref a0), (1, .int p0), (2, .int p1), (3, .int x3), (4, .int x13)] []
          refine g_aload_n (r := (some a0)) hC 0 dX6_join_127 rfl ?_
          obtain ⟨hc19, h⟩ := h
          obtain ⟨b20, eb20, h⟩ := h
          refine g_getA hC kc6 11 (by decide) wm_3_157 dX6_join_128 rfl hc19 eb20 ?_
          refine g_iload hC 4 dX6_join_131 rfl ?_
          refine g_pc (pc' := 133) rfl ?_
          refine g_dup2 hC dX6_join_133 rfl rfl ?_
          obtain ⟨hc21, h⟩ := h
          refine g_ialdA hC dX6_join_134 hc21 ?_
          refine g_iconst (v := 1) hC dX6_join_135 (by decide) ?_
          refine g_iload_n hC 1 dX6_join_136 rfl ?_
          refine g_ishl hC dX6_join_137 ?_
          refine g_ior hC dX6_join_138 ?_
          obtain ⟨hc23, h⟩ := h
          refine g_iastA hC dX6_join_139 hc23 ?_
          obtain ⟨M22, eM22⟩ : ∃ w, w = sI M17 b20 (Int32.toNatClampNeg x13) ((gI M17 b20 (Int32.toNatClampNeg x13)) ||| (1 <<< (p0 &&& 31))) := ⟨_, rfl⟩
          replace h := h M22 eM22
          rw [← eM22]
          refine g_aload_n (r := (some a0)) hC 0 dX6_join_140 rfl ?_
          refine g_pc (pc' := 141) rfl ?_
          refine g_iconst (v := 2) hC dX6_join_141 (by decide) ?_
          refine g_aload_n (r := (some a0)) hC 0 dX6_join_142 rfl ?_
          obtain ⟨hc24, h⟩ := h
          obtain ⟨b25, eb25, h⟩ := h
          refine g_getA hC kc6 4 (by decide) wm_3_150 dX6_join_143 rfl hc24 eb25 ?_
          refine g_iload_n hC 1 dX6_join_146 rfl ?_
          obtain ⟨hc26, h⟩ := h
          refine g_ialdA hC dX6_join_147 hc26 ?_
          refine g_iload_n hC 2 dX6_join_148 rfl ?_
          refine g_iconst (v := 1) hC dX6_join_149 (by decide) ?_
          refine g_iload_n hC 1 dX6_join_150 rfl ?_
          refine g_pc (pc' := 151) rfl ?_
          refine g_ishl hC dX6_join_151 ?_
          obtain ⟨hc27, h⟩ := h
          refine g_callV hC (As := [.int 2, .int (gI M22 b25 (Int32.toNatClampNeg p0)), .int p1, .int (1 <<< (p0 &&& 31))]) (fun l D dA ht => s_X6_tells l D dA ht _ _ _ _ _ _ _ h) wm_4_34 wm_4_31 wm_4_33 wm_0_21 wm_1_7 (by decide +kernel : plainY yX6_tells 4) kc6.1 kc6.2.1 dX6_join_152 (by decide) (Nat.le_of_ble_eq_true rfl) hc27 (Or.inl ⟨rfl, rfl⟩) ?_
          intro M9 v9 h
          obtain ⟨rfl, h⟩ := h
          generalize M9 = M28 at h ⊢
          show G X 5 M28 0 0 155 [(0, .ref a0), (1, .int p0), (2, .int p1), (3, .int x3), (4, .int x13)] []
          refine g_aload_n (r := (some a0)) hC 0 dX6_join_155 rfl ?_
          refine g_aload_n (r := (some a0)) hC 0 dX6_join_156 rfl ?_
          obtain ⟨hc29, h⟩ := h
          obtain ⟨b30, eb30, h⟩ := h
          refine g_getA hC kc6 4 (by decide) wm_3_150 dX6_join_157 rfl hc29 eb30 ?_
          refine g_iload_n hC 1 dX6_join_160 rfl ?_
          obtain ⟨hc31, h⟩ := h
          refine g_ialdA hC dX6_join_161 hc31 ?_
          refine g_iconst (v := (-1)) hC dX6_join_162 (by decide) ?_
          refine g_pc (pc' := 163) rfl ?_
          obtain ⟨hc32, h⟩ := h
          refine g_callV hC (As := [.int (gI M28 b30 (Int32.toNatClampNeg p0)), .int ((-1))]) (fun l D dA ht => s_X6_sends l D dA ht _ _ _ _ _ h) wm_4_82 wm_4_79 wm_4_81 wm_0_31 wm_1_7 (by decide +kernel : plainY yX6_sends 2) kc6.1 kc6.2.1 dX6_join_163 (by decide) (Nat.le_of_ble_eq_true rfl) hc32 (Or.inl ⟨rfl, rfl⟩) ?_
          intro M9 v9 h
          obtain ⟨rfl, h⟩ := h
          generalize M9 = M33 at h ⊢
          show G X 5 M33 0 0 166 [(0, .ref a0), (1, .int p0), (2, .int p1), (3, .int x3), (4, .int x13)] []
          refine g_aload_n (r := (some a0)) hC 0 dX6_join_166 rfl ?_
          refine g_dup hC dX6_join_167 rfl ?_
          obtain ⟨hc34, h⟩ := h
          refine g_getI hC kc6 1 (by decide) wm_3_147 dX6_join_168 rfl hc34 ?_
          refine g_iconst (v := 1) hC dX6_join_171 (by decide) ?_
          refine g_iadd hC dX6_join_172 ?_
          obtain ⟨hc35, h⟩ := h
          refine g_putI hC kc6 1 (by decide) wm_3_147 dX6_join_173 rfl rfl (Or.inl rfl) hc35 ?_
          obtain ⟨M36, eM36⟩ : ∃ w, w = sI M33 a0 1 ((gI M33 a0 1) + 1) := ⟨_, rfl⟩
          replace h := h M36 eM36
          rw [← eM36]
          refine g_aload_n (r := (some a0)) hC 0 dX6_join_176 rfl ?_
          obtain ⟨hc37, h⟩ := h
          obtain ⟨b38, eb38, h⟩ := h
          refine g_pc (pc' := 177) rfl ?_
          refine g_getA hC kc6 11 (by decide) wm_3_157 dX6_join_177 rfl hc37 eb38 ?_
          refine g_iload hC 4 dX6_join_180 rfl ?_
          obtain ⟨hc39, h⟩ := h
          refine g_ialdA hC dX6_join_182 hc39 ?_
          refine g_callS hC (As := [.int (gI M36 b38 (Int32.toNatClampNeg x13))]) (fun l D dA ht => s_X6_count l D dA ht _ _ _ h) wm_4_135 wm_4_133 wm_4_134 wm_1_7 (by decide +kernel : plainY yX6_count 1) dX6_join_183 (by decide) (Nat.le_of_ble_eq_true rfl) (Or.inl ⟨rfl, rfl⟩) ?_
          intro M9 v9 h
          obtain ⟨x40, rfl, h⟩ := h
          obtain ⟨hM9, h⟩ := h
          rw [hM9]
          show G X 5 M36 0 0 186 [(0, .ref a0), (1, .int p0), (2, .int p1), (3, .int x3), (4, .int x13)] [.int x40]
          exact hR.2.1 rfl _ _ _ _ _ _ dX6_join_186 ⟨_, rfl, h⟩)
        refine g_icmp_ne hC 127 dX6_join_89 (by decide) (fun c58 => ?_) (fun c58 => ?_)
        · replace h := h.2 c58
          refine g_sub [1, 2, 3, 4, 0] (lv' := [(0, .ref a0), (1, .int p0), (2, .int p1), (3, .int x3), (4, .int x13)]) rfl ?_
          exact h
        · replace h := h.1 c58
          refine g_aload_n (r := (some a0)) hC 1 dX6_join_92 rfl ?_
          obtain ⟨hc41, h⟩ := h
          obtain ⟨b42, eb42, h⟩ := h
          refine g_getA hC kc6 8 (by decide) wm_3_154 dX6_join_93 rfl hc41 eb42 ?_
          refine g_pc (pc' := 96) rfl ?_
          refine g_iload hC 0 dX6_join_96 rfl ?_
          refine g_aload_n (r := (some a0)) hC 1 dX6_join_98 rfl ?_
          obtain ⟨hc43, h⟩ := h
          refine g_getI hC kc6 1 (by decide) wm_3_147 dX6_join_99 rfl hc43 ?_
          obtain ⟨hc45, h⟩ := h
          refine g_iastA hC dX6_join_102 hc45 ?_
          obtain ⟨M44, eM44⟩ : ∃ w, w = sI M8 b42 (Int32.toNatClampNeg x13) (gI M8 a0 1) := ⟨_, rfl⟩
          replace h := h M44 eM44
          rw [← eM44]
          refine g_aload_n (r := (some a0)) hC 1 dX6_join_103 rfl ?_
          obtain ⟨hc46, h⟩ := h
          obtain ⟨b47, eb47, h⟩ := h
          refine g_getA hC kc6 9 (by decide) wm_3_155 dX6_join_104 rfl hc46 eb47 ?_
          refine g_iload hC 0 dX6_join_107 rfl ?_
          refine g_iconst (v := 0) hC dX6_join_109 (by decide) ?_
          obtain ⟨hc49, h⟩ := h
          refine g_pc (pc' := 110) rfl ?_
          refine g_iastA hC dX6_join_110 hc49 ?_
          obtain ⟨M48, eM48⟩ : ∃ w, w = sI M44 b47 (Int32.toNatClampNeg x13) 0 := ⟨_, rfl⟩
          replace h := h M48 eM48
          rw [← eM48]
          refine g_aload_n (r := (some a0)) hC 1 dX6_join_111 rfl ?_
          obtain ⟨hc50, h⟩ := h
          obtain ⟨b51, eb51, h⟩ := h
          refine g_getA hC kc6 10 (by decide) wm_3_156 dX6_join_112 rfl hc50 eb51 ?_
          refine g_iload hC 0 dX6_join_115 rfl ?_
          refine g_iconst (v := 0) hC dX6_join_117 (by decide) ?_
          obtain ⟨hc53, h⟩ := h
          refine g_iastA hC dX6_join_118 hc53 ?_
          obtain ⟨M52, eM52⟩ : ∃ w, w = sI M48 b51 (Int32.toNatClampNeg x13) 0 := ⟨_, rfl⟩
          replace h := h M52 eM52
          rw [← eM52]
          refine g_aload_n (r := (some a0)) hC 1 dX6_join_119 rfl ?_
          obtain ⟨hc54, h⟩ := h
          obtain ⟨b55, eb55, h⟩ := h
          refine g_getA hC kc6 11 (by decide) wm_3_157 dX6_join_120 rfl hc54 eb55 ?_
          refine g_pc (pc' := 123) rfl ?_
          refine g_iload hC 0 dX6_join_123 rfl ?_
          refine g_iconst (v := 0) hC dX6_join_125 (by decide) ?_
          obtain ⟨hc57, h⟩ := h
          refine g_iastA hC dX6_join_126 hc57 ?_
          obtain ⟨M56, eM56⟩ : ∃ w, w = sI M52 b55 (Int32.toNatClampNeg x13) 0 := ⟨_, rfl⟩
          replace h := h M56 eM56
          rw [← eM56]
          refine g_sub [1, 2, 3, 4, 0] (lv' := [(0, .ref a0), (1, .int p0), (2, .int p1), (3, .int x3), (4, .int x13)]) rfl ?_
          exact h
      · replace h := h.1 c59
        refine g_iconst (v := 0) hC dX6_join_67 (by decide) ?_
        exact hR.2.1 rfl _ _ _ _ _ _ dX6_join_68 ⟨_, rfl, h⟩)
    refine g_if_ne hC 30 dX6_join_23 (by decide) (fun c70 => ?_) (fun c70 => ?_)
    · replace h := h.2 c70
      refine g_pc (pc' := 30) rfl ?_
      refine g_aload_n (r := (some a0)) hC 1 dX6_join_30 rfl ?_
      refine g_iload_n hC 2 dX6_join_31 rfl ?_
      obtain ⟨hc60, h⟩ := h
      refine g_callV hC (As := [.int p0]) (fun l D dA ht => s_X6_isGone l D dA ht _ _ _ _ h) wm_4_117 wm_4_114 wm_4_116 wm_0_34 wm_1_7 (by decide +kernel : plainY yX6_isGone 1) kc6.1 kc6.2.1 dX6_join_32 (by decide) (Nat.le_of_ble_eq_true rfl) hc60 (Or.inl ⟨rfl, rfl⟩) ?_
      intro M9 v9 h
      obtain ⟨x61, rfl, h⟩ := h
      obtain ⟨hM9, h⟩ := h
      rw [hM9]
      show G X 5 M 0 0 35 [(3, .int x3), (0, .ref a0), (1, .int p0), (2, .int p1)] [.int x61, .ref a0]
      replace h := h (G X 5 M 0 0 56 [(0, .ref a0), (1, .int p0), (2, .int p1), (3, .int x3)] [.ref a0]) (by
        intro h
        refine g_iconst (v := 2) hC dX6_join_56 (by decide) ?_
        refine g_goto hC 61 dX6_join_57 (by decide) ?_
        exact h)
      refine g_if_ne hC 56 dX6_join_35 (by decide) (fun c69 => ?_) (fun c69 => ?_)
      · replace h := h.2 c69
        refine g_sub [1, 2, 3, 0] (lv' := [(0, .ref a0), (1, .int p0), (2, .int p1), (3, .int x3)]) rfl ?_
        exact h
      · replace h := h.1 c69
        refine g_aload_n (r := (some a0)) hC 1 dX6_join_38 rfl ?_
        refine g_iload_n hC 2 dX6_join_39 rfl ?_
        refine g_iload_n hC 3 dX6_join_40 rfl ?_
        obtain ⟨hc63, h⟩ := h
        refine g_callV hC (As := [.int p0, .int p1]) (fun l D dA ht => s_X6_isMember l D dA ht _ _ _ _ _ h) wm_4_128 wm_4_125 wm_4_127 wm_0_35 wm_1_7 (by decide +kernel : plainY yX6_isMember 2) kc6.1 kc6.2.1 dX6_join_41 (by decide) (Nat.le_of_ble_eq_true rfl) hc63 (Or.inl ⟨rfl, rfl⟩) ?_
        intro M9 v9 h
        obtain ⟨x64, rfl, h⟩ := h
        obtain ⟨hM9, h⟩ := h
        rw [hM9]
        show G X 5 M 0 0 44 [(3, .int x3), (0, .ref a0), (1, .int p0), (2, .int p1)] [.int x64, .ref a0]
        refine g_pc (pc' := 44) rfl ?_
        refine g_if_ne hC 56 dX6_join_44 (by decide) (fun c68 => ?_) (fun c68 => ?_)
        · replace h := h.2 c68
          refine g_sub [1, 2, 3, 0] (lv' := [(0, .ref a0), (1, .int p0), (2, .int p1), (3, .int x3)]) rfl ?_
          exact h
        · replace h := h.1 c68
          refine g_aload_n (r := (some a0)) hC 1 dX6_join_47 rfl ?_
          refine g_iload_n hC 2 dX6_join_48 rfl ?_
          refine g_iload_n hC 3 dX6_join_49 rfl ?_
          obtain ⟨hc65, h⟩ := h
          refine g_callV hC (As := [.int p0, .int p1]) (fun l D dA ht => s_X6_isBanned l D dA ht _ _ _ _ _ h) wm_4_132 wm_4_129 wm_4_131 wm_0_36 wm_1_7 (by decide +kernel : plainY yX6_isBanned 2) kc6.1 kc6.2.1 dX6_join_50 (by decide) (Nat.le_of_ble_eq_true rfl) hc65 (Or.inl ⟨rfl, rfl⟩) ?_
          intro M9 v9 h
          obtain ⟨x66, rfl, h⟩ := h
          obtain ⟨hM9, h⟩ := h
          rw [hM9]
          show G X 5 M 0 0 53 [(3, .int x3), (0, .ref a0), (1, .int p0), (2, .int p1)] [.int x66, .ref a0]
          refine g_if_eq hC 60 dX6_join_53 (by decide) (fun c67 => ?_) (fun c67 => ?_)
          · replace h := h.1 c67
            refine g_iconst (v := 0) hC dX6_join_60 (by decide) ?_
            refine g_sub [1, 2, 3, 0] (lv' := [(0, .ref a0), (1, .int p0), (2, .int p1), (3, .int x3)]) rfl ?_
            exact h
          · replace h := h.2 c67
            refine g_sub [1, 2, 3, 0] (lv' := [(0, .ref a0), (1, .int p0), (2, .int p1), (3, .int x3)]) rfl ?_
            exact h
    · replace h := h.1 c70
      refine g_pc (pc' := 26) rfl ?_
      refine g_iconst (v := 1) hC dX6_join_26 (by decide) ?_
      refine g_goto hC 61 dX6_join_27 (by decide) ?_
      refine g_sub [1, 2, 3, 0] (lv' := [(0, .ref a0), (1, .int p0), (2, .int p1), (3, .int x3)]) rfl ?_
      exact h)
  replace h := h (G X 5 M 0 0 19 [(0, .ref a0), (1, .int p0), (2, .int p1)] []) (by
    intro h
    refine g_iconst (v := 0) hC dX6_join_19 (by decide) ?_
    exact h)
  refine g_if_eq hC 19 dX6_join_5 (by decide) (fun c74 => ?_) (fun c74 => ?_)
  · replace h := h.1 c74
    exact h
  · replace h := h.2 c74
    refine g_iload_n hC 2 dX6_join_8 rfl ?_
    refine g_callS hC (As := [.int p1]) (fun l D dA ht => s_X6_isChannel l D dA ht _ _ _ h) wm_4_124 wm_4_122 wm_4_123 wm_1_7 (by decide +kernel : plainY yX6_isChannel 1) dX6_join_9 (by decide) (Nat.le_of_ble_eq_true rfl) (Or.inl ⟨rfl, rfl⟩) ?_
    intro M9 v9 h
    obtain ⟨x72, rfl, h⟩ := h
    obtain ⟨hM9, h⟩ := h
    rw [hM9]
    show G X 5 M 0 0 12 [(0, .ref a0), (1, .int p0), (2, .int p1)] [.int x72]
    refine g_if_eq hC 19 dX6_join_12 (by decide) (fun c73 => ?_) (fun c73 => ?_)
    · replace h := h.1 c73
      exact h
    · replace h := h.2 c73
      refine g_pc (pc' := 15) rfl ?_
      refine g_iconst (v := 1) hC dX6_join_15 (by decide) ?_
      refine g_goto hC 20 dX6_join_16 (by decide) ?_
      exact h

def w_X6_leave (M : Mem) (a0 : Nat) (p0 : Int32) (p1 : Int32) (post : Mem → Prop) : Prop :=
  gT M a0 = some (6, 0) ∧ w_X6_isUser M a0 p0 (fun x2 => ∀ J4 : Int32 → Prop, (∀ (x3 : Int32), (∀ J6 : Int32 → Prop, (∀ (x5 : Int32), (gT M a0 = some (6, 0) ∧ w_X6_holds M a0 x5 (fun M8 x9 => ∀ J11 : Mem → Prop, (∀ (M10 : Mem), (post M10) → J11 M10) → ((x9 = 0 → J11 M8) ∧ (¬ (x9 = 0) → gT M8 a0 = some (6, 0) ∧ ∃ b13, gR M8 a0 4 = some b13 ∧ inA M8 b13 10 p0 ∧ gT M8 a0 = some (6, 0) ∧ w_X6_leaves M8 a0 (gI M8 b13 (Int32.toNatClampNeg p0)) p1 p0 (fun M16 => gT M16 a0 = some (6, 0) ∧ w_X6_makes M16 a0 3 p1 p0 (fun M18 => gT M18 a0 = some (6, 0) ∧ ∃ b20, gR M18 a0 4 = some b20 ∧ inA M18 b20 10 p0 ∧ gT M18 a0 = some (6, 0) ∧ w_X6_sends M18 a0 (gI M18 b20 (Int32.toNatClampNeg p0)) ((-1)) (fun M23 => gT M23 a0 = some (6, 0) ∧ gT M23 a0 = some (6, 0) ∧ ∀ M26, M26 = sI M23 a0 1 ((gI M23 a0 1) + 1) → J11 M26))))))) → J6 x5) → ((x3 = 0 → J6 1) ∧ (¬ (x3 = 0) → gT M a0 = some (6, 0) ∧ w_X6_isGone M a0 p0 (fun x29 => ∀ J30 : Prop, ((J6 2) → J30) → ((x29 = 0 → gT M a0 = some (6, 0) ∧ w_X6_isMember M a0 p0 p1 (fun x32 => (x32 = 0 → J30) ∧ (¬ (x32 = 0) → J6 0))) ∧ (¬ (x29 = 0) → J30)))))) → J4 x3) → (∀ J36 : Prop, ((J4 0) → J36) → ((x2 = 0 → J36) ∧ (¬ (x2 = 0) → w_X6_isChannel M p1 (fun x37 => (x37 = 0 → J36) ∧ (¬ (x37 = 0) → J4 1))))))
set_option maxRecDepth 100000 in
set_option maxHeartbeats 8000000 in
theorem s_X6_leave (l : Launch) (D : va_G) (dA : Nat → ClassId) (htr : l.stackTraces = false) (M : Mem) (a0 : Nat) (p0 : Int32) (p1 : Int32) (post : Mem → Prop) (h : w_X6_leave M a0 p0 p1 post) : CtN l D dA yX6_leave cX6_leave 4 (none) 3 [.ref a0, .int p0, .int p1] M 0 0 (pV post) := by
  refine ct_ofN htr (by decide) (Nat.le_of_ble_eq_true rfl) ?_
  intro X hC hN hR
  show G X 4 M 0 0 0 [(0, .ref a0), (1, .int p0), (2, .int p1)] []
  unfold w_X6_leave at h
  refine g_aload_n (r := (some a0)) hC 0 dX6_leave_0 rfl ?_
  refine g_iload_n hC 1 dX6_leave_1 rfl ?_
  obtain ⟨hc1, h⟩ := h
  refine g_callV hC (As := [.int p0]) (fun l D dA ht => s_X6_isUser l D dA ht _ _ _ _ h) wm_4_113 wm_4_110 wm_4_112 wm_0_33 wm_1_7 (by decide +kernel : plainY yX6_isUser 1) kc6.1 kc6.2.1 dX6_leave_2 (by decide) (Nat.le_of_ble_eq_true rfl) hc1 (Or.inl ⟨rfl, rfl⟩) ?_
  intro M9 v9 h
  obtain ⟨x2, rfl, h⟩ := h
  obtain ⟨hM9, h⟩ := h
  rw [hM9]
  show G X 4 M 0 0 5 [(0, .ref a0), (1, .int p0), (2, .int p1)] [.int x2]
  replace h := h (fun (x3 : Int32) => G X 4 M 0 0 20 [(0, .ref a0), (1, .int p0), (2, .int p1)] [.int x3]) (by
    intro x3 h
    show G X 4 M 0 0 20 [(0, .ref a0), (1, .int p0), (2, .int p1)] [.int x3]
    refine g_istore_n (lv' := [(3, .int x3), (0, .ref a0), (1, .int p0), (2, .int p1)]) hC dX6_leave_20 (by decide) rfl ?_
    refine g_aload_n (r := (some a0)) hC 1 dX6_leave_21 rfl ?_
    refine g_iload_n hC 0 dX6_leave_22 rfl ?_
    replace h := h (fun (x5 : Int32) => G X 4 M 0 0 52 [(0, .ref a0), (1, .int p0), (2, .int p1), (3, .int x3)] [.int x5, .ref a0]) (by
      intro x5 h
      show G X 4 M 0 0 52 [(0, .ref a0), (1, .int p0), (2, .int p1), (3, .int x3)] [.int x5, .ref a0]
      obtain ⟨hc7, h⟩ := h
      refine g_callV hC (As := [.int x5]) (fun l D dA ht => s_X6_holds l D dA ht _ _ _ _ h) wm_4_15 wm_4_12 wm_4_14 wm_0_17 wm_1_7 (by decide +kernel : plainY yX6_holds 1) kc6.1 kc6.2.1 dX6_leave_52 (by decide) (Nat.le_of_ble_eq_true rfl) hc7 (Or.inl ⟨rfl, rfl⟩) ?_
      intro M9 v9 h
      obtain ⟨x9, rfl, h⟩ := h
      generalize M9 = M8 at h ⊢
      show G X 4 M8 0 0 55 [(0, .ref a0), (1, .int p0), (2, .int p1), (3, .int x3)] [.int x9]
      replace h := h (fun (M10 : Mem) => G X 4 M10 0 0 98 [(0, .ref a0), (1, .int p0), (2, .int p1), (3, .int x3)] []) (by
        intro M10 h
        show G X 4 M10 0 0 98 [(0, .ref a0), (1, .int p0), (2, .int p1), (3, .int x3)] []
        refine g_pc (pc' := 98) rfl ?_
        exact hR.1 rfl _ _ _ _ _ dX6_leave_98 ⟨rfl, h⟩)
      refine g_pc (pc' := 55) rfl ?_
      refine g_if_eq hC 98 dX6_leave_55 (by decide) (fun c27 => ?_) (fun c27 => ?_)
      · replace h := h.1 c27
        exact h
      · replace h := h.2 c27
        refine g_aload_n (r := (some a0)) hC 0 dX6_leave_58 rfl ?_
        refine g_aload_n (r := (some a0)) hC 0 dX6_leave_59 rfl ?_
        obtain ⟨hc12, h⟩ := h
        obtain ⟨b13, eb13, h⟩ := h
        refine g_getA hC kc6 4 (by decide) wm_3_150 dX6_leave_60 rfl hc12 eb13 ?_
        refine g_iload_n hC 1 dX6_leave_63 rfl ?_
        obtain ⟨hc14, h⟩ := h
        refine g_ialdA hC dX6_leave_64 hc14 ?_
        refine g_iload_n hC 2 dX6_leave_65 rfl ?_
        refine g_iload_n hC 1 dX6_leave_66 rfl ?_
        refine g_pc (pc' := 67) rfl ?_
        obtain ⟨hc15, h⟩ := h
        refine g_callV hC (As := [.int (gI M8 b13 (Int32.toNatClampNeg p0)), .int p1, .int p0]) (fun l D dA ht => s_X6_leaves l D dA ht _ _ _ _ _ _ h) wm_4_54 wm_4_51 wm_4_53 wm_0_25 wm_1_7 (by decide +kernel : plainY yX6_leaves 3) kc6.1 kc6.2.1 dX6_leave_67 (by decide) (Nat.le_of_ble_eq_true rfl) hc15 (Or.inl ⟨rfl, rfl⟩) ?_
        intro M9 v9 h
        obtain ⟨rfl, h⟩ := h
        generalize M9 = M16 at h ⊢
        show G X 4 M16 0 0 70 [(0, .ref a0), (1, .int p0), (2, .int p1), (3, .int x3)] []
        refine g_aload_n (r := (some a0)) hC 0 dX6_leave_70 rfl ?_
        refine g_iconst (v := 3) hC dX6_leave_71 (by decide) ?_
        refine g_iload_n hC 2 dX6_leave_72 rfl ?_
        refine g_iload_n hC 1 dX6_leave_73 rfl ?_
        obtain ⟨hc17, h⟩ := h
        refine g_callV hC (As := [.int 3, .int p1, .int p0]) (fun l D dA ht => s_X6_makes l D dA ht _ _ _ _ _ _ h) wm_4_23 wm_4_20 wm_4_22 wm_0_19 wm_1_7 (by decide +kernel : plainY yX6_makes 3) kc6.1 kc6.2.1 dX6_leave_74 (by decide) (Nat.le_of_ble_eq_true rfl) hc17 (Or.inl ⟨rfl, rfl⟩) ?_
        intro M9 v9 h
        obtain ⟨rfl, h⟩ := h
        generalize M9 = M18 at h ⊢
        show G X 4 M18 0 0 77 [(0, .ref a0), (1, .int p0), (2, .int p1), (3, .int x3)] []
        refine g_aload_n (r := (some a0)) hC 0 dX6_leave_77 rfl ?_
        refine g_aload_n (r := (some a0)) hC 0 dX6_leave_78 rfl ?_
        obtain ⟨hc19, h⟩ := h
        obtain ⟨b20, eb20, h⟩ := h
        refine g_pc (pc' := 79) rfl ?_
        refine g_getA hC kc6 4 (by decide) wm_3_150 dX6_leave_79 rfl hc19 eb20 ?_
        refine g_iload_n hC 1 dX6_leave_82 rfl ?_
        obtain ⟨hc21, h⟩ := h
        refine g_ialdA hC dX6_leave_83 hc21 ?_
        refine g_iconst (v := (-1)) hC dX6_leave_84 (by decide) ?_
        obtain ⟨hc22, h⟩ := h
        refine g_callV hC (As := [.int (gI M18 b20 (Int32.toNatClampNeg p0)), .int ((-1))]) (fun l D dA ht => s_X6_sends l D dA ht _ _ _ _ _ h) wm_4_82 wm_4_79 wm_4_81 wm_0_31 wm_1_7 (by decide +kernel : plainY yX6_sends 2) kc6.1 kc6.2.1 dX6_leave_85 (by decide) (Nat.le_of_ble_eq_true rfl) hc22 (Or.inl ⟨rfl, rfl⟩) ?_
        intro M9 v9 h
        obtain ⟨rfl, h⟩ := h
        generalize M9 = M23 at h ⊢
        show G X 4 M23 0 0 88 [(0, .ref a0), (1, .int p0), (2, .int p1), (3, .int x3)] []
        refine g_aload_n (r := (some a0)) hC 0 dX6_leave_88 rfl ?_
        refine g_dup hC dX6_leave_89 rfl ?_
        obtain ⟨hc24, h⟩ := h
        refine g_getI hC kc6 1 (by decide) wm_3_147 dX6_leave_90 rfl hc24 ?_
        refine g_pc (pc' := 93) rfl ?_
        refine g_iconst (v := 1) hC dX6_leave_93 (by decide) ?_
        refine g_iadd hC dX6_leave_94 ?_
        obtain ⟨hc25, h⟩ := h
        refine g_putI hC kc6 1 (by decide) wm_3_147 dX6_leave_95 rfl rfl (Or.inl rfl) hc25 ?_
        obtain ⟨M26, eM26⟩ : ∃ w, w = sI M23 a0 1 ((gI M23 a0 1) + 1) := ⟨_, rfl⟩
        replace h := h M26 eM26
        rw [← eM26]
        exact h)
    refine g_if_ne hC 30 dX6_leave_23 (by decide) (fun c35 => ?_) (fun c35 => ?_)
    · replace h := h.2 c35
      refine g_pc (pc' := 30) rfl ?_
      refine g_aload_n (r := (some a0)) hC 1 dX6_leave_30 rfl ?_
      refine g_iload_n hC 2 dX6_leave_31 rfl ?_
      obtain ⟨hc28, h⟩ := h
      refine g_callV hC (As := [.int p0]) (fun l D dA ht => s_X6_isGone l D dA ht _ _ _ _ h) wm_4_117 wm_4_114 wm_4_116 wm_0_34 wm_1_7 (by decide +kernel : plainY yX6_isGone 1) kc6.1 kc6.2.1 dX6_leave_32 (by decide) (Nat.le_of_ble_eq_true rfl) hc28 (Or.inl ⟨rfl, rfl⟩) ?_
      intro M9 v9 h
      obtain ⟨x29, rfl, h⟩ := h
      obtain ⟨hM9, h⟩ := h
      rw [hM9]
      show G X 4 M 0 0 35 [(3, .int x3), (0, .ref a0), (1, .int p0), (2, .int p1)] [.int x29, .ref a0]
      replace h := h (G X 4 M 0 0 47 [(0, .ref a0), (1, .int p0), (2, .int p1), (3, .int x3)] [.ref a0]) (by
        intro h
        refine g_iconst (v := 2) hC dX6_leave_47 (by decide) ?_
        refine g_goto hC 52 dX6_leave_48 (by decide) ?_
        exact h)
      refine g_if_ne hC 47 dX6_leave_35 (by decide) (fun c34 => ?_) (fun c34 => ?_)
      · replace h := h.2 c34
        refine g_sub [1, 2, 3, 0] (lv' := [(0, .ref a0), (1, .int p0), (2, .int p1), (3, .int x3)]) rfl ?_
        exact h
      · replace h := h.1 c34
        refine g_aload_n (r := (some a0)) hC 1 dX6_leave_38 rfl ?_
        refine g_iload_n hC 2 dX6_leave_39 rfl ?_
        refine g_iload_n hC 3 dX6_leave_40 rfl ?_
        obtain ⟨hc31, h⟩ := h
        refine g_callV hC (As := [.int p0, .int p1]) (fun l D dA ht => s_X6_isMember l D dA ht _ _ _ _ _ h) wm_4_128 wm_4_125 wm_4_127 wm_0_35 wm_1_7 (by decide +kernel : plainY yX6_isMember 2) kc6.1 kc6.2.1 dX6_leave_41 (by decide) (Nat.le_of_ble_eq_true rfl) hc31 (Or.inl ⟨rfl, rfl⟩) ?_
        intro M9 v9 h
        obtain ⟨x32, rfl, h⟩ := h
        obtain ⟨hM9, h⟩ := h
        rw [hM9]
        show G X 4 M 0 0 44 [(3, .int x3), (0, .ref a0), (1, .int p0), (2, .int p1)] [.int x32, .ref a0]
        refine g_pc (pc' := 44) rfl ?_
        refine g_if_ne hC 51 dX6_leave_44 (by decide) (fun c33 => ?_) (fun c33 => ?_)
        · replace h := h.2 c33
          refine g_iconst (v := 0) hC dX6_leave_51 (by decide) ?_
          refine g_sub [1, 2, 3, 0] (lv' := [(0, .ref a0), (1, .int p0), (2, .int p1), (3, .int x3)]) rfl ?_
          exact h
        · replace h := h.1 c33
          refine g_sub [1, 2, 3, 0] (lv' := [(0, .ref a0), (1, .int p0), (2, .int p1), (3, .int x3)]) rfl ?_
          exact h
    · replace h := h.1 c35
      refine g_pc (pc' := 26) rfl ?_
      refine g_iconst (v := 1) hC dX6_leave_26 (by decide) ?_
      refine g_goto hC 52 dX6_leave_27 (by decide) ?_
      refine g_sub [1, 2, 3, 0] (lv' := [(0, .ref a0), (1, .int p0), (2, .int p1), (3, .int x3)]) rfl ?_
      exact h)
  replace h := h (G X 4 M 0 0 19 [(0, .ref a0), (1, .int p0), (2, .int p1)] []) (by
    intro h
    refine g_iconst (v := 0) hC dX6_leave_19 (by decide) ?_
    exact h)
  refine g_if_eq hC 19 dX6_leave_5 (by decide) (fun c39 => ?_) (fun c39 => ?_)
  · replace h := h.1 c39
    exact h
  · replace h := h.2 c39
    refine g_iload_n hC 2 dX6_leave_8 rfl ?_
    refine g_callS hC (As := [.int p1]) (fun l D dA ht => s_X6_isChannel l D dA ht _ _ _ h) wm_4_124 wm_4_122 wm_4_123 wm_1_7 (by decide +kernel : plainY yX6_isChannel 1) dX6_leave_9 (by decide) (Nat.le_of_ble_eq_true rfl) (Or.inl ⟨rfl, rfl⟩) ?_
    intro M9 v9 h
    obtain ⟨x37, rfl, h⟩ := h
    obtain ⟨hM9, h⟩ := h
    rw [hM9]
    show G X 4 M 0 0 12 [(0, .ref a0), (1, .int p0), (2, .int p1)] [.int x37]
    refine g_if_eq hC 19 dX6_leave_12 (by decide) (fun c38 => ?_) (fun c38 => ?_)
    · replace h := h.1 c38
      exact h
    · replace h := h.2 c38
      refine g_pc (pc' := 15) rfl ?_
      refine g_iconst (v := 1) hC dX6_leave_15 (by decide) ?_
      refine g_goto hC 20 dX6_leave_16 (by decide) ?_
      exact h

def w_X6_setModes (M : Mem) (a0 : Nat) (p0 : Int32) (p1 : Int32) (p2 : Int32) (p3 : Int32) (post : Mem → Int32 → Prop) : Prop :=
  gT M a0 = some (6, 0) ∧ w_X6_isUser M a0 p0 (fun x2 => ∀ J4 : Int32 → Prop, (∀ (x3 : Int32), (∀ J6 : Int32 → Prop, (∀ (x5 : Int32), (∀ J8 : Int32 → Prop, (∀ (x7 : Int32), (gT M a0 = some (6, 0) ∧ w_X6_holds M a0 x7 (fun M10 x11 => (x11 = 0 → post M10 0) ∧ (¬ (x11 = 0) → gT M10 a0 = some (6, 0) ∧ ∃ b13, gR M10 a0 4 = some b13 ∧ inA M10 b13 10 p0 ∧ w_X6_at M10 (gI M10 b13 (Int32.toNatClampNeg p0)) p1 (fun x15 => gT M10 a0 = some (6, 0) ∧ ∃ b17, gR M10 a0 9 = some b17 ∧ inA M10 b17 10 x15 ∧ ∀ x19, x19 = gI M10 b17 (Int32.toNatClampNeg x15) → gT M10 a0 = some (6, 0) ∧ ∃ b21, gR M10 a0 9 = some b21 ∧ inA M10 b21 10 x15 ∧ ∀ M22, M22 = sI M10 b21 (Int32.toNatClampNeg x15) p2 → gT M22 a0 = some (6, 0) ∧ ∃ b25, gR M22 a0 10 = some b25 ∧ inA M22 b25 10 x15 ∧ ∀ M26, M26 = sI M22 b25 (Int32.toNatClampNeg x15) p3 → gT M26 a0 = some (6, 0) ∧ ∃ b29, gR M26 a0 4 = some b29 ∧ inA M26 b29 10 p0 ∧ gT M26 a0 = some (6, 0) ∧ w_X6_tells M26 a0 4 (gI M26 b29 (Int32.toNatClampNeg p0)) p1 0 (fun M32 => gT M32 a0 = some (6, 0) ∧ ∃ b34, gR M32 a0 4 = some b34 ∧ inA M32 b34 10 p0 ∧ gT M32 a0 = some (6, 0) ∧ w_X6_sends M32 a0 (gI M32 b34 (Int32.toNatClampNeg p0)) ((-1)) (fun M37 => gT M37 a0 = some (6, 0) ∧ gT M37 a0 = some (6, 0) ∧ ∀ M40, M40 = sI M37 a0 1 ((gI M37 a0 1) + 1) → post M40 x19)))))) → J8 x7) → ((x3 = 0 → J8 1) ∧ (¬ (x3 = 0) → (x5 = 0 → J8 2) ∧ (¬ (x5 = 0) → gT M a0 = some (6, 0) ∧ w_X6_isGone M a0 p0 (fun x43 => ∀ J44 : Prop, ((J8 3) → J44) → ((x43 = 0 → gT M a0 = some (6, 0) ∧ w_X6_isMember M a0 p0 p1 (fun x46 => (x46 = 0 → J44) ∧ (¬ (x46 = 0) → J8 0))) ∧ (¬ (x43 = 0) → J44))))))) → J6 x5) → (∀ J51 : Prop, ((J6 0) → J51) → ((p2 < 0 → J51) ∧ (¬ (p2 < 0) → (15 < p2 → J51) ∧ (¬ (15 < p2) → (p3 < 0 → J51) ∧ (¬ (p3 < 0) → (67108863 < p3 → J51) ∧ (¬ (67108863 < p3) → J6 1))))))) → J4 x3) → (∀ J56 : Prop, ((J4 0) → J56) → ((x2 = 0 → J56) ∧ (¬ (x2 = 0) → w_X6_isChannel M p1 (fun x57 => (x57 = 0 → J56) ∧ (¬ (x57 = 0) → J4 1))))))
set_option maxRecDepth 100000 in
set_option maxHeartbeats 8000000 in
theorem s_X6_setModes (l : Launch) (D : va_G) (dA : Nat → ClassId) (htr : l.stackTraces = false) (M : Mem) (a0 : Nat) (p0 : Int32) (p1 : Int32) (p2 : Int32) (p3 : Int32) (post : Mem → Int32 → Prop) (h : w_X6_setModes M a0 p0 p1 p2 p3 post) : CtN l D dA yX6_setModes cX6_setModes 9 (some .int) 3 [.ref a0, .int p0, .int p1, .int p2, .int p3] M 0 0 (pI post) := by
  refine ct_ofN htr (by decide) (Nat.le_of_ble_eq_true rfl) ?_
  intro X hC hN hR
  show G X 9 M 0 0 0 [(0, .ref a0), (1, .int p0), (2, .int p1), (3, .int p2), (4, .int p3)] []
  unfold w_X6_setModes at h
  refine g_aload_n (r := (some a0)) hC 0 dX6_setModes_0 rfl ?_
  refine g_iload_n hC 1 dX6_setModes_1 rfl ?_
  obtain ⟨hc1, h⟩ := h
  refine g_callV hC (As := [.int p0]) (fun l D dA ht => s_X6_isUser l D dA ht _ _ _ _ h) wm_4_113 wm_4_110 wm_4_112 wm_0_33 wm_1_7 (by decide +kernel : plainY yX6_isUser 1) kc6.1 kc6.2.1 dX6_setModes_2 (by decide) (Nat.le_of_ble_eq_true rfl) hc1 (Or.inl ⟨rfl, rfl⟩) ?_
  intro M9 v9 h
  obtain ⟨x2, rfl, h⟩ := h
  obtain ⟨hM9, h⟩ := h
  rw [hM9]
  show G X 9 M 0 0 5 [(0, .ref a0), (1, .int p0), (2, .int p1), (3, .int p2), (4, .int p3)] [.int x2]
  replace h := h (fun (x3 : Int32) => G X 9 M 0 0 20 [(0, .ref a0), (1, .int p0), (2, .int p1), (3, .int p2), (4, .int p3)] [.int x3]) (by
    intro x3 h
    show G X 9 M 0 0 20 [(0, .ref a0), (1, .int p0), (2, .int p1), (3, .int p2), (4, .int p3)] [.int x3]
    refine g_istore (lv' := [(5, .int x3), (0, .ref a0), (1, .int p0), (2, .int p1), (3, .int p2), (4, .int p3)]) hC dX6_setModes_20 (by decide) rfl ?_
    refine g_iload_n hC 4 dX6_setModes_22 rfl ?_
    replace h := h (fun (x5 : Int32) => G X 9 M 0 0 49 [(0, .ref a0), (1, .int p0), (2, .int p1), (3, .int p2), (4, .int p3), (5, .int x3)] [.int x5]) (by
      intro x5 h
      show G X 9 M 0 0 49 [(0, .ref a0), (1, .int p0), (2, .int p1), (3, .int p2), (4, .int p3), (5, .int x3)] [.int x5]
      refine g_istore (lv' := [(6, .int x5), (0, .ref a0), (1, .int p0), (2, .int p1), (3, .int p2), (4, .int p3), (5, .int x3)]) hC dX6_setModes_49 (by decide) rfl ?_
      refine g_aload_n (r := (some a0)) hC 1 dX6_setModes_51 rfl ?_
      refine g_pc (pc' := 52) rfl ?_
      refine g_iload hC 6 dX6_setModes_52 rfl ?_
      replace h := h (fun (x7 : Int32) => G X 9 M 0 0 92 [(0, .ref a0), (1, .int p0), (2, .int p1), (3, .int p2), (4, .int p3), (5, .int x3), (6, .int x5)] [.int x7, .ref a0]) (by
        intro x7 h
        show G X 9 M 0 0 92 [(0, .ref a0), (1, .int p0), (2, .int p1), (3, .int p2), (4, .int p3), (5, .int x3), (6, .int x5)] [.int x7, .ref a0]
        obtain ⟨hc9, h⟩ := h
        refine g_callV hC (As := [.int x7]) (fun l D dA ht => s_X6_holds l D dA ht _ _ _ _ h) wm_4_15 wm_4_12 wm_4_14 wm_0_17 wm_1_7 (by decide +kernel : plainY yX6_holds 1) kc6.1 kc6.2.1 dX6_setModes_92 (by decide) (Nat.le_of_ble_eq_true rfl) hc9 (Or.inl ⟨rfl, rfl⟩) ?_
        intro M9 v9 h
        obtain ⟨x11, rfl, h⟩ := h
        generalize M9 = M10 at h ⊢
        show G X 9 M10 0 0 95 [(0, .ref a0), (1, .int p0), (2, .int p1), (3, .int p2), (4, .int p3), (5, .int x3), (6, .int x5)] [.int x11]
        refine g_if_ne hC 100 dX6_setModes_95 (by decide) (fun c41 => ?_) (fun c41 => ?_)
        · replace h := h.2 c41
          refine g_aload_n (r := (some a0)) hC 0 dX6_setModes_100 rfl ?_
          obtain ⟨hc12, h⟩ := h
          obtain ⟨b13, eb13, h⟩ := h
          refine g_getA hC kc6 4 (by decide) wm_3_150 dX6_setModes_101 rfl hc12 eb13 ?_
          refine g_iload_n hC 1 dX6_setModes_104 rfl ?_
          obtain ⟨hc14, h⟩ := h
          refine g_ialdA hC dX6_setModes_105 hc14 ?_
          refine g_iload_n hC 2 dX6_setModes_106 rfl ?_
          refine g_pc (pc' := 107) rfl ?_
          refine g_callS hC (As := [.int (gI M10 b13 (Int32.toNatClampNeg p0)), .int p1]) (fun l D dA ht => s_X6_at l D dA ht _ _ _ _ h) wm_4_30 wm_4_28 wm_4_29 wm_1_7 (by decide +kernel : plainY yX6_at 2) dX6_setModes_107 (by decide) (Nat.le_of_ble_eq_true rfl) (Or.inl ⟨rfl, rfl⟩) ?_
          intro M9 v9 h
          obtain ⟨x15, rfl, h⟩ := h
          obtain ⟨hM9, h⟩ := h
          rw [hM9]
          show G X 9 M10 0 0 110 [(0, .ref a0), (1, .int p0), (2, .int p1), (3, .int p2), (4, .int p3), (5, .int x3), (6, .int x5)] [.int x15]
          refine g_istore (lv' := [(7, .int x15), (0, .ref a0), (1, .int p0), (2, .int p1), (3, .int p2), (4, .int p3), (5, .int x3), (6, .int x5)]) hC dX6_setModes_110 (by decide) rfl ?_
          refine g_aload_n (r := (some a0)) hC 1 dX6_setModes_112 rfl ?_
          obtain ⟨hc16, h⟩ := h
          obtain ⟨b17, eb17, h⟩ := h
          refine g_getA hC kc6 9 (by decide) wm_3_155 dX6_setModes_113 rfl hc16 eb17 ?_
          refine g_iload hC 0 dX6_setModes_116 rfl ?_
          obtain ⟨hc18, h⟩ := h
          refine g_ialdA hC dX6_setModes_118 hc18 ?_
          obtain ⟨x19, ex19⟩ : ∃ w, w = gI M10 b17 (Int32.toNatClampNeg x15) := ⟨_, rfl⟩
          replace h := h x19 ex19
          rw [← ex19]
          refine g_istore (lv' := [(8, .int x19), (7, .int x15), (0, .ref a0), (1, .int p0), (2, .int p1), (3, .int p2), (4, .int p3), (5, .int x3), (6, .int x5)]) hC dX6_setModes_119 (by decide) rfl ?_
          refine g_aload_n (r := (some a0)) hC 2 dX6_setModes_121 rfl ?_
          obtain ⟨hc20, h⟩ := h
          obtain ⟨b21, eb21, h⟩ := h
          refine g_pc (pc' := 122) rfl ?_
          refine g_getA hC kc6 9 (by decide) wm_3_155 dX6_setModes_122 rfl hc20 eb21 ?_
          refine g_iload hC 1 dX6_setModes_125 rfl ?_
          refine g_iload_n hC 5 dX6_setModes_127 rfl ?_
          obtain ⟨hc23, h⟩ := h
          refine g_iastA hC dX6_setModes_128 hc23 ?_
          obtain ⟨M22, eM22⟩ : ∃ w, w = sI M10 b21 (Int32.toNatClampNeg x15) p2 := ⟨_, rfl⟩
          replace h := h M22 eM22
          rw [← eM22]
          refine g_aload_n (r := (some a0)) hC 2 dX6_setModes_129 rfl ?_
          obtain ⟨hc24, h⟩ := h
          obtain ⟨b25, eb25, h⟩ := h
          refine g_getA hC kc6 10 (by decide) wm_3_156 dX6_setModes_130 rfl hc24 eb25 ?_
          refine g_iload hC 1 dX6_setModes_133 rfl ?_
          refine g_iload hC 6 dX6_setModes_135 rfl ?_
          obtain ⟨hc27, h⟩ := h
          refine g_pc (pc' := 137) rfl ?_
          refine g_iastA hC dX6_setModes_137 hc27 ?_
          obtain ⟨M26, eM26⟩ : ∃ w, w = sI M22 b25 (Int32.toNatClampNeg x15) p3 := ⟨_, rfl⟩
          replace h := h M26 eM26
          rw [← eM26]
          refine g_aload_n (r := (some a0)) hC 2 dX6_setModes_138 rfl ?_
          refine g_iconst (v := 4) hC dX6_setModes_139 (by decide) ?_
          refine g_aload_n (r := (some a0)) hC 2 dX6_setModes_140 rfl ?_
          obtain ⟨hc28, h⟩ := h
          obtain ⟨b29, eb29, h⟩ := h
          refine g_getA hC kc6 4 (by decide) wm_3_150 dX6_setModes_141 rfl hc28 eb29 ?_
          refine g_iload_n hC 3 dX6_setModes_144 rfl ?_
          obtain ⟨hc30, h⟩ := h
          refine g_ialdA hC dX6_setModes_145 hc30 ?_
          refine g_iload_n hC 4 dX6_setModes_146 rfl ?_
          refine g_pc (pc' := 147) rfl ?_
          refine g_iconst (v := 0) hC dX6_setModes_147 (by decide) ?_
          obtain ⟨hc31, h⟩ := h
          refine g_callV hC (As := [.int 4, .int (gI M26 b29 (Int32.toNatClampNeg p0)), .int p1, .int 0]) (fun l D dA ht => s_X6_tells l D dA ht _ _ _ _ _ _ _ h) wm_4_34 wm_4_31 wm_4_33 wm_0_21 wm_1_7 (by decide +kernel : plainY yX6_tells 4) kc6.1 kc6.2.1 dX6_setModes_148 (by decide) (Nat.le_of_ble_eq_true rfl) hc31 (Or.inl ⟨rfl, rfl⟩) ?_
          intro M9 v9 h
          obtain ⟨rfl, h⟩ := h
          generalize M9 = M32 at h ⊢
          show G X 9 M32 0 0 151 [(8, .int x19), (7, .int x15), (0, .ref a0), (1, .int p0), (2, .int p1), (3, .int p2), (4, .int p3), (5, .int x3), (6, .int x5)] []
          refine g_aload_n (r := (some a0)) hC 2 dX6_setModes_151 rfl ?_
          refine g_aload_n (r := (some a0)) hC 2 dX6_setModes_152 rfl ?_
          obtain ⟨hc33, h⟩ := h
          obtain ⟨b34, eb34, h⟩ := h
          refine g_getA hC kc6 4 (by decide) wm_3_150 dX6_setModes_153 rfl hc33 eb34 ?_
          refine g_iload_n hC 3 dX6_setModes_156 rfl ?_
          obtain ⟨hc35, h⟩ := h
          refine g_ialdA hC dX6_setModes_157 hc35 ?_
          refine g_iconst (v := (-1)) hC dX6_setModes_158 (by decide) ?_
          refine g_pc (pc' := 159) rfl ?_
          obtain ⟨hc36, h⟩ := h
          refine g_callV hC (As := [.int (gI M32 b34 (Int32.toNatClampNeg p0)), .int ((-1))]) (fun l D dA ht => s_X6_sends l D dA ht _ _ _ _ _ h) wm_4_82 wm_4_79 wm_4_81 wm_0_31 wm_1_7 (by decide +kernel : plainY yX6_sends 2) kc6.1 kc6.2.1 dX6_setModes_159 (by decide) (Nat.le_of_ble_eq_true rfl) hc36 (Or.inl ⟨rfl, rfl⟩) ?_
          intro M9 v9 h
          obtain ⟨rfl, h⟩ := h
          generalize M9 = M37 at h ⊢
          show G X 9 M37 0 0 162 [(8, .int x19), (7, .int x15), (0, .ref a0), (1, .int p0), (2, .int p1), (3, .int p2), (4, .int p3), (5, .int x3), (6, .int x5)] []
          refine g_aload_n (r := (some a0)) hC 2 dX6_setModes_162 rfl ?_
          refine g_dup hC dX6_setModes_163 rfl ?_
          obtain ⟨hc38, h⟩ := h
          refine g_getI hC kc6 1 (by decide) wm_3_147 dX6_setModes_164 rfl hc38 ?_
          refine g_iconst (v := 1) hC dX6_setModes_167 (by decide) ?_
          refine g_iadd hC dX6_setModes_168 ?_
          obtain ⟨hc39, h⟩ := h
          refine g_putI hC kc6 1 (by decide) wm_3_147 dX6_setModes_169 rfl rfl (Or.inl rfl) hc39 ?_
          obtain ⟨M40, eM40⟩ : ∃ w, w = sI M37 a0 1 ((gI M37 a0 1) + 1) := ⟨_, rfl⟩
          replace h := h M40 eM40
          rw [← eM40]
          refine g_iload hC 0 dX6_setModes_172 rfl ?_
          refine g_pc (pc' := 174) rfl ?_
          exact hR.2.1 rfl _ _ _ _ _ _ dX6_setModes_174 ⟨_, rfl, h⟩
        · replace h := h.1 c41
          refine g_iconst (v := 0) hC dX6_setModes_98 (by decide) ?_
          exact hR.2.1 rfl _ _ _ _ _ _ dX6_setModes_99 ⟨_, rfl, h⟩)
      refine g_if_ne hC 61 dX6_setModes_54 (by decide) (fun c50 => ?_) (fun c50 => ?_)
      · replace h := h.2 c50
        refine g_iload hC 0 dX6_setModes_61 rfl ?_
        refine g_if_ne hC 70 dX6_setModes_63 (by decide) (fun c49 => ?_) (fun c49 => ?_)
        · replace h := h.2 c49
          refine g_aload_n (r := (some a0)) hC 1 dX6_setModes_70 rfl ?_
          refine g_iload_n hC 2 dX6_setModes_71 rfl ?_
          obtain ⟨hc42, h⟩ := h
          refine g_callV hC (As := [.int p0]) (fun l D dA ht => s_X6_isGone l D dA ht _ _ _ _ h) wm_4_117 wm_4_114 wm_4_116 wm_0_34 wm_1_7 (by decide +kernel : plainY yX6_isGone 1) kc6.1 kc6.2.1 dX6_setModes_72 (by decide) (Nat.le_of_ble_eq_true rfl) hc42 (Or.inl ⟨rfl, rfl⟩) ?_
          intro M9 v9 h
          obtain ⟨x43, rfl, h⟩ := h
          obtain ⟨hM9, h⟩ := h
          rw [hM9]
          show G X 9 M 0 0 75 [(6, .int x5), (0, .ref a0), (1, .int p0), (2, .int p1), (3, .int p2), (4, .int p3), (5, .int x3)] [.int x43, .ref a0]
          replace h := h (G X 9 M 0 0 87 [(0, .ref a0), (1, .int p0), (2, .int p1), (3, .int p2), (4, .int p3), (5, .int x3), (6, .int x5)] [.ref a0]) (by
            intro h
            refine g_iconst (v := 3) hC dX6_setModes_87 (by decide) ?_
            refine g_pc (pc' := 88) rfl ?_
            refine g_goto hC 92 dX6_setModes_88 (by decide) ?_
            exact h)
          refine g_if_ne hC 87 dX6_setModes_75 (by decide) (fun c48 => ?_) (fun c48 => ?_)
          · replace h := h.2 c48
            refine g_sub [1, 2, 3, 4, 5, 6, 0] (lv' := [(0, .ref a0), (1, .int p0), (2, .int p1), (3, .int p2), (4, .int p3), (5, .int x3), (6, .int x5)]) rfl ?_
            exact h
          · replace h := h.1 c48
            refine g_pc (pc' := 78) rfl ?_
            refine g_aload_n (r := (some a0)) hC 1 dX6_setModes_78 rfl ?_
            refine g_iload_n hC 2 dX6_setModes_79 rfl ?_
            refine g_iload_n hC 3 dX6_setModes_80 rfl ?_
            obtain ⟨hc45, h⟩ := h
            refine g_callV hC (As := [.int p0, .int p1]) (fun l D dA ht => s_X6_isMember l D dA ht _ _ _ _ _ h) wm_4_128 wm_4_125 wm_4_127 wm_0_35 wm_1_7 (by decide +kernel : plainY yX6_isMember 2) kc6.1 kc6.2.1 dX6_setModes_81 (by decide) (Nat.le_of_ble_eq_true rfl) hc45 (Or.inl ⟨rfl, rfl⟩) ?_
            intro M9 v9 h
            obtain ⟨x46, rfl, h⟩ := h
            obtain ⟨hM9, h⟩ := h
            rw [hM9]
            show G X 9 M 0 0 84 [(6, .int x5), (0, .ref a0), (1, .int p0), (2, .int p1), (3, .int p2), (4, .int p3), (5, .int x3)] [.int x46, .ref a0]
            refine g_if_ne hC 91 dX6_setModes_84 (by decide) (fun c47 => ?_) (fun c47 => ?_)
            · replace h := h.2 c47
              refine g_iconst (v := 0) hC dX6_setModes_91 (by decide) ?_
              refine g_sub [1, 2, 3, 4, 5, 6, 0] (lv' := [(0, .ref a0), (1, .int p0), (2, .int p1), (3, .int p2), (4, .int p3), (5, .int x3), (6, .int x5)]) rfl ?_
              exact h
            · replace h := h.1 c47
              refine g_sub [1, 2, 3, 4, 5, 6, 0] (lv' := [(0, .ref a0), (1, .int p0), (2, .int p1), (3, .int p2), (4, .int p3), (5, .int x3), (6, .int x5)]) rfl ?_
              exact h
        · replace h := h.1 c49
          refine g_iconst (v := 2) hC dX6_setModes_66 (by decide) ?_
          refine g_goto hC 92 dX6_setModes_67 (by decide) ?_
          refine g_sub [1, 2, 3, 4, 5, 6, 0] (lv' := [(0, .ref a0), (1, .int p0), (2, .int p1), (3, .int p2), (4, .int p3), (5, .int x3), (6, .int x5)]) rfl ?_
          exact h
      · replace h := h.1 c50
        refine g_iconst (v := 1) hC dX6_setModes_57 (by decide) ?_
        refine g_goto hC 92 dX6_setModes_58 (by decide) ?_
        refine g_sub [1, 2, 3, 4, 5, 6, 0] (lv' := [(0, .ref a0), (1, .int p0), (2, .int p1), (3, .int p2), (4, .int p3), (5, .int x3), (6, .int x5)]) rfl ?_
        exact h)
    replace h := h (G X 9 M 0 0 48 [(0, .ref a0), (1, .int p0), (2, .int p1), (3, .int p2), (4, .int p3), (5, .int x3)] []) (by
      intro h
      refine g_iconst (v := 0) hC dX6_setModes_48 (by decide) ?_
      exact h)
    refine g_if_lt hC 48 dX6_setModes_23 (by decide) (fun c55 => ?_) (fun c55 => ?_)
    · replace h := h.1 c55
      refine g_sub [1, 2, 3, 4, 5, 0] (lv' := [(0, .ref a0), (1, .int p0), (2, .int p1), (3, .int p2), (4, .int p3), (5, .int x3)]) rfl ?_
      exact h
    · replace h := h.2 c55
      refine g_iload_n hC 4 dX6_setModes_26 rfl ?_
      refine g_pc (pc' := 27) rfl ?_
      refine g_bipush (v := 15) hC dX6_setModes_27 (by decide) ?_
      refine g_icmp_gt hC 48 dX6_setModes_29 (by decide) (fun c54 => ?_) (fun c54 => ?_)
      · replace h := h.1 c54
        refine g_sub [1, 2, 3, 4, 5, 0] (lv' := [(0, .ref a0), (1, .int p0), (2, .int p1), (3, .int p2), (4, .int p3), (5, .int x3)]) rfl ?_
        exact h
      · replace h := h.2 c54
        refine g_iload hC 5 dX6_setModes_32 rfl ?_
        refine g_if_lt hC 48 dX6_setModes_34 (by decide) (fun c53 => ?_) (fun c53 => ?_)
        · replace h := h.1 c53
          refine g_sub [1, 2, 3, 4, 5, 0] (lv' := [(0, .ref a0), (1, .int p0), (2, .int p1), (3, .int p2), (4, .int p3), (5, .int x3)]) rfl ?_
          exact h
        · replace h := h.2 c53
          refine g_iload hC 5 dX6_setModes_37 rfl ?_
          refine g_ldc hC wm_4_144 dX6_setModes_39 ?_
          refine g_icmp_gt hC 48 dX6_setModes_41 (by decide) (fun c52 => ?_) (fun c52 => ?_)
          · replace h := h.1 c52
            refine g_sub [1, 2, 3, 4, 5, 0] (lv' := [(0, .ref a0), (1, .int p0), (2, .int p1), (3, .int p2), (4, .int p3), (5, .int x3)]) rfl ?_
            exact h
          · replace h := h.2 c52
            refine g_iconst (v := 1) hC dX6_setModes_44 (by decide) ?_
            refine g_pc (pc' := 45) rfl ?_
            refine g_goto hC 49 dX6_setModes_45 (by decide) ?_
            refine g_sub [1, 2, 3, 4, 5, 0] (lv' := [(0, .ref a0), (1, .int p0), (2, .int p1), (3, .int p2), (4, .int p3), (5, .int x3)]) rfl ?_
            exact h)
  replace h := h (G X 9 M 0 0 19 [(0, .ref a0), (1, .int p0), (2, .int p1), (3, .int p2), (4, .int p3)] []) (by
    intro h
    refine g_iconst (v := 0) hC dX6_setModes_19 (by decide) ?_
    exact h)
  refine g_if_eq hC 19 dX6_setModes_5 (by decide) (fun c59 => ?_) (fun c59 => ?_)
  · replace h := h.1 c59
    exact h
  · replace h := h.2 c59
    refine g_iload_n hC 2 dX6_setModes_8 rfl ?_
    refine g_callS hC (As := [.int p1]) (fun l D dA ht => s_X6_isChannel l D dA ht _ _ _ h) wm_4_124 wm_4_122 wm_4_123 wm_1_7 (by decide +kernel : plainY yX6_isChannel 1) dX6_setModes_9 (by decide) (Nat.le_of_ble_eq_true rfl) (Or.inl ⟨rfl, rfl⟩) ?_
    intro M9 v9 h
    obtain ⟨x57, rfl, h⟩ := h
    obtain ⟨hM9, h⟩ := h
    rw [hM9]
    show G X 9 M 0 0 12 [(0, .ref a0), (1, .int p0), (2, .int p1), (3, .int p2), (4, .int p3)] [.int x57]
    refine g_if_eq hC 19 dX6_setModes_12 (by decide) (fun c58 => ?_) (fun c58 => ?_)
    · replace h := h.1 c58
      exact h
    · replace h := h.2 c58
      refine g_pc (pc' := 15) rfl ?_
      refine g_iconst (v := 1) hC dX6_setModes_15 (by decide) ?_
      refine g_goto hC 20 dX6_setModes_16 (by decide) ?_
      exact h

def w_X6_isEldest (M : Mem) (a0 : Nat) (p0 : Int32) (p1 : Int32) (post : Int32 → Prop) : Prop :=
  Lp (fun (K3 : Int32 × Int32 → Prop) (z : Int32 × Int32) => ∀ (x1 : Int32) (x2 : Int32), z = (x1, x2) → (gT M a0 = some (6, 0) ∧ ((gI M a0 2) ≤ x2 → ((x1 : Int32) = 0 ∨ (x1 : Int32) = 1) ∧ post x1) ∧ (¬ ((gI M a0 2) ≤ x2) → ∀ J6 : Int32 → Prop, (∀ (x5 : Int32), (∀ x7, x7 = x2 + 1 → K3 (x5, x7)) → J6 x5) → (∀ J8 : Prop, ((J6 0) → J8) → ((x1 = 0 → J8) ∧ (¬ (x1 = 0) → w_X6_has M p1 x2 (fun x9 => ∀ J10 : Prop, ((J6 1) → J10) → ((x9 = 0 → J10) ∧ (¬ (x9 = 0) → gT M a0 = some (6, 0) ∧ ∃ b12, gR M a0 5 = some b12 ∧ inA M b12 10 x2 ∧ gT M a0 = some (6, 0) ∧ ∃ b15, gR M a0 5 = some b15 ∧ inA M b15 10 p0 ∧ (gI M b12 (Int32.toNatClampNeg x2) < gI M b15 (Int32.toNatClampNeg p0) → J8) ∧ (¬ (gI M b12 (Int32.toNatClampNeg x2) < gI M b15 (Int32.toNatClampNeg p0)) → gT M a0 = some (6, 0) ∧ ∃ b18, gR M a0 5 = some b18 ∧ inA M b18 10 x2 ∧ gT M a0 = some (6, 0) ∧ ∃ b21, gR M a0 5 = some b21 ∧ inA M b21 10 p0 ∧ (gI M b18 (Int32.toNatClampNeg x2) = gI M b21 (Int32.toNatClampNeg p0) → (x2 < p0 → J8) ∧ (¬ (x2 < p0) → J10)) ∧ (¬ (gI M b18 (Int32.toNatClampNeg x2) = gI M b21 (Int32.toNatClampNeg p0)) → J10))))))))))) (1, 0)
set_option maxRecDepth 100000 in
set_option maxHeartbeats 8000000 in
theorem s_X6_isEldest (l : Launch) (D : va_G) (dA : Nat → ClassId) (htr : l.stackTraces = false) (M : Mem) (a0 : Nat) (p0 : Int32) (p1 : Int32) (post : Int32 → Prop) (h : w_X6_isEldest M a0 p0 p1 post) : CtN l D dA yX6_isEldest cX6_isEldest 5 (some .boolean) 2 [.ref a0, .int p0, .int p1] M 0 0 (pI (fun M' r => M' = M ∧ post r)) := by
  refine ct_ofN htr (by decide) (Nat.le_of_ble_eq_true rfl) ?_
  intro X hC hN hR
  show G X 5 M 0 0 0 [(0, .ref a0), (1, .int p0), (2, .int p1)] []
  unfold w_X6_isEldest at h
  refine g_iconst (v := 1) hC dX6_isEldest_0 (by decide) ?_
  refine g_istore_n (lv' := [(3, .int 1), (0, .ref a0), (1, .int p0), (2, .int p1)]) hC dX6_isEldest_1 (by decide) rfl ?_
  refine g_iconst (v := 0) hC dX6_isEldest_2 (by decide) ?_
  refine g_istore (lv' := [(4, .int 0), (3, .int 1), (0, .ref a0), (1, .int p0), (2, .int p1)]) hC dX6_isEldest_3 (by decide) rfl ?_
  refine g_sub [2, 3, 4, 1, 0] (lv' := [(0, .ref a0), (1, .int p0), (2, .int p1), (3, .int 1), (4, .int 0)]) rfl ?_
  refine Lp_use (fun (z29 : Int32 × Int32) => G X 5 M 0 0 5 [(0, .ref a0), (1, .int p0), (2, .int p1), (3, .int z29.1), (4, .int z29.2)] []) h ?_
  intro K3 z hK_K3 h
  obtain ⟨x1, x2⟩ := z
  replace h := h _ _ rfl
  show G X 5 M 0 0 5 [(0, .ref a0), (1, .int p0), (2, .int p1), (3, .int x1), (4, .int x2)] []
  refine g_iload hC 4 dX6_isEldest_5 rfl ?_
  refine g_aload_n (r := (some a0)) hC 0 dX6_isEldest_7 rfl ?_
  obtain ⟨hc4, h⟩ := h
  refine g_getI hC kc6 2 (by decide) wm_3_148 dX6_isEldest_8 rfl hc4 ?_
  refine g_pc (pc' := 11) rfl ?_
  refine g_icmp_ge hC 77 dX6_isEldest_11 (by decide) (fun c28 => ?_) (fun c28 => ?_)
  · replace h := h.1 c28
    refine g_iload_n hC 3 dX6_isEldest_77 rfl ?_
    exact hR.2.2.1 rfl _ _ _ _ _ _ dX6_isEldest_78 ⟨h.1, ⟨_, rfl, rfl, h.2⟩⟩
  · replace h := h.2 c28
    refine g_iload_n hC 3 dX6_isEldest_14 rfl ?_
    replace h := h (fun (x5 : Int32) => G X 5 M 0 0 70 [(0, .ref a0), (1, .int p0), (2, .int p1), (3, .int x1), (4, .int x2)] [.int x5]) (by
      intro x5 h
      show G X 5 M 0 0 70 [(0, .ref a0), (1, .int p0), (2, .int p1), (3, .int x1), (4, .int x2)] [.int x5]
      refine g_istore_n (lv' := [(3, .int x5), (0, .ref a0), (1, .int p0), (2, .int p1), (4, .int x2)]) hC dX6_isEldest_70 (by decide) rfl ?_
      obtain ⟨x7, ex7⟩ : ∃ w, w = x2 + 1 := ⟨_, rfl⟩
      replace h := h x7 ex7
      refine g_iinc (v := x7) (lv' := [(4, .int x7), (3, .int x5), (0, .ref a0), (1, .int p0), (2, .int p1)]) hC 4 dX6_isEldest_71 rfl (by rw [ex7]; rfl) (by decide) rfl ?_
      refine g_goto hC 5 dX6_isEldest_74 (by decide) ?_
      refine g_sub [2, 3, 4, 1, 0] (lv' := [(0, .ref a0), (1, .int p0), (2, .int p1), (3, .int x5), (4, .int x7)]) rfl ?_
      exact hK_K3 _ h)
    replace h := h (G X 5 M 0 0 69 [(0, .ref a0), (1, .int p0), (2, .int p1), (3, .int x1), (4, .int x2)] []) (by
      intro h
      refine g_iconst (v := 0) hC dX6_isEldest_69 (by decide) ?_
      exact h)
    refine g_if_eq hC 69 dX6_isEldest_15 (by decide) (fun c27 => ?_) (fun c27 => ?_)
    · replace h := h.1 c27
      exact h
    · replace h := h.2 c27
      refine g_iload_n hC 2 dX6_isEldest_18 rfl ?_
      refine g_iload hC 4 dX6_isEldest_19 rfl ?_
      refine g_callS hC (As := [.int p1, .int x2]) (fun l D dA ht => s_X6_has l D dA ht _ _ _ _ h) wm_4_11 wm_4_9 wm_4_10 wm_1_7 (by decide +kernel : plainY yX6_has 2) dX6_isEldest_21 (by decide) (Nat.le_of_ble_eq_true rfl) (Or.inl ⟨rfl, rfl⟩) ?_
      intro M9 v9 h
      obtain ⟨x9, rfl, h⟩ := h
      obtain ⟨hM9, h⟩ := h
      rw [hM9]
      show G X 5 M 0 0 24 [(0, .ref a0), (1, .int p0), (2, .int p1), (3, .int x1), (4, .int x2)] [.int x9]
      replace h := h (G X 5 M 0 0 65 [(0, .ref a0), (1, .int p0), (2, .int p1), (3, .int x1), (4, .int x2)] []) (by
        intro h
        refine g_iconst (v := 1) hC dX6_isEldest_65 (by decide) ?_
        refine g_goto hC 70 dX6_isEldest_66 (by decide) ?_
        exact h)
      refine g_if_eq hC 65 dX6_isEldest_24 (by decide) (fun c26 => ?_) (fun c26 => ?_)
      · replace h := h.1 c26
        exact h
      · replace h := h.2 c26
        refine g_aload_n (r := (some a0)) hC 0 dX6_isEldest_27 rfl ?_
        obtain ⟨hc11, h⟩ := h
        obtain ⟨b12, eb12, h⟩ := h
        refine g_pc (pc' := 28) rfl ?_
        refine g_getA hC kc6 5 (by decide) wm_3_151 dX6_isEldest_28 rfl hc11 eb12 ?_
        refine g_iload hC 4 dX6_isEldest_31 rfl ?_
        obtain ⟨hc13, h⟩ := h
        refine g_ialdA hC dX6_isEldest_33 hc13 ?_
        refine g_aload_n (r := (some a0)) hC 0 dX6_isEldest_34 rfl ?_
        obtain ⟨hc14, h⟩ := h
        obtain ⟨b15, eb15, h⟩ := h
        refine g_getA hC kc6 5 (by decide) wm_3_151 dX6_isEldest_35 rfl hc14 eb15 ?_
        refine g_iload_n hC 1 dX6_isEldest_38 rfl ?_
        obtain ⟨hc16, h⟩ := h
        refine g_ialdA hC dX6_isEldest_39 hc16 ?_
        refine g_icmp_lt hC 69 dX6_isEldest_40 (by decide) (fun c25 => ?_) (fun c25 => ?_)
        · replace h := h.1 c25
          exact h
        · replace h := h.2 c25
          refine g_pc (pc' := 43) rfl ?_
          refine g_aload_n (r := (some a0)) hC 0 dX6_isEldest_43 rfl ?_
          obtain ⟨hc17, h⟩ := h
          obtain ⟨b18, eb18, h⟩ := h
          refine g_getA hC kc6 5 (by decide) wm_3_151 dX6_isEldest_44 rfl hc17 eb18 ?_
          refine g_iload hC 4 dX6_isEldest_47 rfl ?_
          obtain ⟨hc19, h⟩ := h
          refine g_ialdA hC dX6_isEldest_49 hc19 ?_
          refine g_aload_n (r := (some a0)) hC 0 dX6_isEldest_50 rfl ?_
          obtain ⟨hc20, h⟩ := h
          obtain ⟨b21, eb21, h⟩ := h
          refine g_getA hC kc6 5 (by decide) wm_3_151 dX6_isEldest_51 rfl hc20 eb21 ?_
          refine g_iload_n hC 1 dX6_isEldest_54 rfl ?_
          obtain ⟨hc22, h⟩ := h
          refine g_ialdA hC dX6_isEldest_55 hc22 ?_
          refine g_pc (pc' := 56) rfl ?_
          refine g_icmp_ne hC 65 dX6_isEldest_56 (by decide) (fun c24 => ?_) (fun c24 => ?_)
          · replace h := h.2 c24
            exact h
          · replace h := h.1 c24
            refine g_iload hC 4 dX6_isEldest_59 rfl ?_
            refine g_iload_n hC 1 dX6_isEldest_61 rfl ?_
            refine g_icmp_lt hC 69 dX6_isEldest_62 (by decide) (fun c23 => ?_) (fun c23 => ?_)
            · replace h := h.1 c23
              exact h
            · replace h := h.2 c23
              exact h

def w_X6_behind (M : Mem) (a0 : Nat) (p0 : Int32) (p1 : Int32) (post : Int32 → Prop) : Prop :=
  ∀ x1, x1 = 1 <<< (p0 &&& 31) → Lp (fun (K4 : Int32 × Int32 → Prop) (z : Int32 × Int32) => ∀ (x2 : Int32) (x3 : Int32), z = (x2, x3) → ((x2 = x3 → post x2) ∧ (¬ (x2 = x3) → Lp (fun (K7 : Int32 × Int32 → Prop) (z : Int32 × Int32) => ∀ (x5 : Int32) (x6 : Int32), z = (x5, x6) → ((6 ≤ x6 → K4 (x5, x2)) ∧ (¬ (6 ≤ x6) → w_X6_has M x5 x6 (fun x8 => ∀ J10 : Int32 → Prop, (∀ (x9 : Int32), (∀ x11, x11 = x5 ||| x9 → ∀ x12, x12 = x6 + 1 → K7 (x11, x12)) → J10 x9) → ((x8 = 0 → J10 0) ∧ (¬ (x8 = 0) → gT M a0 = some (6, 0) ∧ ∃ b14, gR M a0 6 = some b14 ∧ inA M b14 10 x6 ∧ J10 ((gI M b14 (Int32.toNatClampNeg x6)) &&& ((1 <<< (p1 &&& 31)) ^^^ ((-1)))))))))) (x2, 0)))) (x1, 0)
set_option maxRecDepth 100000 in
set_option maxHeartbeats 8000000 in
theorem s_X6_behind (l : Launch) (D : va_G) (dA : Nat → ClassId) (htr : l.stackTraces = false) (M : Mem) (a0 : Nat) (p0 : Int32) (p1 : Int32) (post : Int32 → Prop) (h : w_X6_behind M a0 p0 p1 post) : CtN l D dA yX6_behind cX6_behind 6 (some .int) 2 [.ref a0, .int p0, .int p1] M 0 0 (pI (fun M' r => M' = M ∧ post r)) := by
  refine ct_ofN htr (by decide) (Nat.le_of_ble_eq_true rfl) ?_
  intro X hC hN hR
  show G X 6 M 0 0 0 [(0, .ref a0), (1, .int p0), (2, .int p1)] []
  unfold w_X6_behind at h
  refine g_iconst (v := 1) hC dX6_behind_0 (by decide) ?_
  refine g_iload_n hC 1 dX6_behind_1 rfl ?_
  refine g_ishl hC dX6_behind_2 ?_
  obtain ⟨x1, ex1⟩ : ∃ w, w = 1 <<< (p0 &&& 31) := ⟨_, rfl⟩
  replace h := h x1 ex1
  rw [← ex1]
  refine g_istore_n (lv' := [(3, .int x1), (0, .ref a0), (1, .int p0), (2, .int p1)]) hC dX6_behind_3 (by decide) rfl ?_
  refine g_iconst (v := 0) hC dX6_behind_4 (by decide) ?_
  refine g_istore (lv' := [(4, .int 0), (3, .int x1), (0, .ref a0), (1, .int p0), (2, .int p1)]) hC dX6_behind_5 (by decide) rfl ?_
  refine g_sub [2, 3, 4, 1, 0] (lv' := [(0, .ref a0), (1, .int p0), (2, .int p1), (3, .int x1), (4, .int 0)]) rfl ?_
  refine Lp_use (fun (z20 : Int32 × Int32) => G X 6 M 0 0 7 [(0, .ref a0), (1, .int p0), (2, .int p1), (3, .int z20.1), (4, .int z20.2)] []) h ?_
  intro K4 z hK_K4 h
  obtain ⟨x2, x3⟩ := z
  replace h := h _ _ rfl
  show G X 6 M 0 0 7 [(0, .ref a0), (1, .int p0), (2, .int p1), (3, .int x2), (4, .int x3)] []
  refine g_iload_n hC 3 dX6_behind_7 rfl ?_
  refine g_pc (pc' := 8) rfl ?_
  refine g_iload hC 4 dX6_behind_8 rfl ?_
  refine g_icmp_eq hC 64 dX6_behind_10 (by decide) (fun c19 => ?_) (fun c19 => ?_)
  · replace h := h.1 c19
    refine g_iload_n hC 3 dX6_behind_64 rfl ?_
    exact hR.2.1 rfl _ _ _ _ _ _ dX6_behind_65 ⟨_, rfl, rfl, h⟩
  · replace h := h.2 c19
    refine g_iload_n hC 3 dX6_behind_13 rfl ?_
    refine g_istore (lv' := [(4, .int x2), (0, .ref a0), (1, .int p0), (2, .int p1), (3, .int x2)]) hC dX6_behind_14 (by decide) rfl ?_
    refine g_iconst (v := 0) hC dX6_behind_16 (by decide) ?_
    refine g_istore (lv' := [(5, .int 0), (4, .int x2), (0, .ref a0), (1, .int p0), (2, .int p1), (3, .int x2)]) hC dX6_behind_17 (by decide) rfl ?_
    refine g_sub [2, 3, 4, 5, 1, 0] (lv' := [(0, .ref a0), (1, .int p0), (2, .int p1), (3, .int x2), (4, .int x2), (5, .int 0)]) rfl ?_
    refine Lp_use (fun (z18 : Int32 × Int32) => G X 6 M 0 0 19 [(0, .ref a0), (1, .int p0), (2, .int p1), (3, .int z18.1), (4, .int x2), (5, .int z18.2)] []) h ?_
    intro K7 z hK_K7 h
    obtain ⟨x5, x6⟩ := z
    replace h := h _ _ rfl
    show G X 6 M 0 0 19 [(0, .ref a0), (1, .int p0), (2, .int p1), (3, .int x5), (4, .int x2), (5, .int x6)] []
    refine g_iload hC 5 dX6_behind_19 rfl ?_
    refine g_bipush (v := 6) hC dX6_behind_21 (by decide) ?_
    refine g_pc (pc' := 23) rfl ?_
    refine g_icmp_ge hC 61 dX6_behind_23 (by decide) (fun c17 => ?_) (fun c17 => ?_)
    · replace h := h.1 c17
      refine g_goto hC 7 dX6_behind_61 (by decide) ?_
      refine g_sub [0, 1, 2, 3, 4] (lv' := [(0, .ref a0), (1, .int p0), (2, .int p1), (3, .int x5), (4, .int x2)]) rfl ?_
      exact hK_K4 _ h
    · replace h := h.2 c17
      refine g_iload_n hC 3 dX6_behind_26 rfl ?_
      refine g_iload_n hC 3 dX6_behind_27 rfl ?_
      refine g_iload hC 5 dX6_behind_28 rfl ?_
      refine g_callS hC (As := [.int x5, .int x6]) (fun l D dA ht => s_X6_has l D dA ht _ _ _ _ h) wm_4_11 wm_4_9 wm_4_10 wm_1_7 (by decide +kernel : plainY yX6_has 2) dX6_behind_30 (by decide) (Nat.le_of_ble_eq_true rfl) (Or.inl ⟨rfl, rfl⟩) ?_
      intro M9 v9 h
      obtain ⟨x8, rfl, h⟩ := h
      obtain ⟨hM9, h⟩ := h
      rw [hM9]
      show G X 6 M 0 0 33 [(0, .ref a0), (1, .int p0), (2, .int p1), (3, .int x5), (4, .int x2), (5, .int x6)] [.int x8, .int x5]
      replace h := h (fun (x9 : Int32) => G X 6 M 0 0 53 [(0, .ref a0), (1, .int p0), (2, .int p1), (3, .int x5), (4, .int x2), (5, .int x6)] [.int x9, .int x5]) (by
        intro x9 h
        show G X 6 M 0 0 53 [(0, .ref a0), (1, .int p0), (2, .int p1), (3, .int x5), (4, .int x2), (5, .int x6)] [.int x9, .int x5]
        refine g_ior hC dX6_behind_53 ?_
        obtain ⟨x11, ex11⟩ : ∃ w, w = x5 ||| x9 := ⟨_, rfl⟩
        replace h := h x11 ex11
        rw [← ex11]
        refine g_istore_n (lv' := [(3, .int x11), (0, .ref a0), (1, .int p0), (2, .int p1), (4, .int x2), (5, .int x6)]) hC dX6_behind_54 (by decide) rfl ?_
        obtain ⟨x12, ex12⟩ : ∃ w, w = x6 + 1 := ⟨_, rfl⟩
        replace h := h x12 ex12
        refine g_iinc (v := x12) (lv' := [(5, .int x12), (3, .int x11), (0, .ref a0), (1, .int p0), (2, .int p1), (4, .int x2)]) hC 5 dX6_behind_55 rfl (by rw [ex12]; rfl) (by decide) rfl ?_
        refine g_pc (pc' := 58) rfl ?_
        refine g_goto hC 19 dX6_behind_58 (by decide) ?_
        refine g_sub [2, 3, 4, 1, 5, 0] (lv' := [(0, .ref a0), (1, .int p0), (2, .int p1), (3, .int x11), (4, .int x2), (5, .int x12)]) rfl ?_
        exact hK_K7 _ h)
      refine g_if_eq hC 52 dX6_behind_33 (by decide) (fun c16 => ?_) (fun c16 => ?_)
      · replace h := h.1 c16
        refine g_iconst (v := 0) hC dX6_behind_52 (by decide) ?_
        exact h
      · replace h := h.2 c16
        refine g_aload_n (r := (some a0)) hC 0 dX6_behind_36 rfl ?_
        obtain ⟨hc13, h⟩ := h
        obtain ⟨b14, eb14, h⟩ := h
        refine g_getA hC kc6 6 (by decide) wm_3_152 dX6_behind_37 rfl hc13 eb14 ?_
        refine g_pc (pc' := 40) rfl ?_
        refine g_iload hC 5 dX6_behind_40 rfl ?_
        obtain ⟨hc15, h⟩ := h
        refine g_ialdA hC dX6_behind_42 hc15 ?_
        refine g_iconst (v := 1) hC dX6_behind_43 (by decide) ?_
        refine g_iload_n hC 2 dX6_behind_44 rfl ?_
        refine g_ishl hC dX6_behind_45 ?_
        refine g_iconst (v := (-1)) hC dX6_behind_46 (by decide) ?_
        refine g_ixor hC dX6_behind_47 ?_
        refine g_iand hC dX6_behind_48 ?_
        refine g_pc (pc' := 49) rfl ?_
        refine g_goto hC 53 dX6_behind_49 (by decide) ?_
        exact h

def w_X6_homesOf (M : Mem) (a0 : Nat) (p0 : Int32) (post : Int32 → Prop) : Prop :=
  Lp (fun (K3 : Int32 × Int32 → Prop) (z : Int32 × Int32) => ∀ (x1 : Int32) (x2 : Int32), z = (x1, x2) → (gT M a0 = some (6, 0) ∧ ((gI M a0 2) ≤ x2 → post x1) ∧ (¬ ((gI M a0 2) ≤ x2) → w_X6_has M p0 x2 (fun x5 => ∀ J7 : Int32 → Prop, (∀ (x6 : Int32), (∀ x8, x8 = x1 ||| x6 → ∀ x9, x9 = x2 + 1 → K3 (x8, x9)) → J7 x6) → ((x5 = 0 → J7 0) ∧ (¬ (x5 = 0) → gT M a0 = some (6, 0) ∧ ∃ b11, gR M a0 4 = some b11 ∧ inA M b11 10 x2 ∧ J7 (1 <<< ((gI M b11 (Int32.toNatClampNeg x2)) &&& 31)))))))) (0, 0)
set_option maxRecDepth 100000 in
set_option maxHeartbeats 8000000 in
theorem s_X6_homesOf (l : Launch) (D : va_G) (dA : Nat → ClassId) (htr : l.stackTraces = false) (M : Mem) (a0 : Nat) (p0 : Int32) (post : Int32 → Prop) (h : w_X6_homesOf M a0 p0 post) : CtN l D dA yX6_homesOf cX6_homesOf 4 (some .int) 2 [.ref a0, .int p0] M 0 0 (pI (fun M' r => M' = M ∧ post r)) := by
  refine ct_ofN htr (by decide) (Nat.le_of_ble_eq_true rfl) ?_
  intro X hC hN hR
  show G X 4 M 0 0 0 [(0, .ref a0), (1, .int p0)] []
  unfold w_X6_homesOf at h
  refine g_iconst (v := 0) hC dX6_homesOf_0 (by decide) ?_
  refine g_istore_n (lv' := [(2, .int 0), (0, .ref a0), (1, .int p0)]) hC dX6_homesOf_1 (by decide) rfl ?_
  refine g_iconst (v := 0) hC dX6_homesOf_2 (by decide) ?_
  refine g_istore_n (lv' := [(3, .int 0), (2, .int 0), (0, .ref a0), (1, .int p0)]) hC dX6_homesOf_3 (by decide) rfl ?_
  refine g_sub [2, 3, 1, 0] (lv' := [(0, .ref a0), (1, .int p0), (2, .int 0), (3, .int 0)]) rfl ?_
  refine Lp_use (fun (z15 : Int32 × Int32) => G X 4 M 0 0 4 [(0, .ref a0), (1, .int p0), (2, .int z15.1), (3, .int z15.2)] []) h ?_
  intro K3 z hK_K3 h
  obtain ⟨x1, x2⟩ := z
  replace h := h _ _ rfl
  show G X 4 M 0 0 4 [(0, .ref a0), (1, .int p0), (2, .int x1), (3, .int x2)] []
  refine g_iload_n hC 3 dX6_homesOf_4 rfl ?_
  refine g_aload_n (r := (some a0)) hC 0 dX6_homesOf_5 rfl ?_
  obtain ⟨hc4, h⟩ := h
  refine g_getI hC kc6 2 (by decide) wm_3_148 dX6_homesOf_6 rfl hc4 ?_
  refine g_pc (pc' := 9) rfl ?_
  refine g_icmp_ge hC 41 dX6_homesOf_9 (by decide) (fun c14 => ?_) (fun c14 => ?_)
  · replace h := h.1 c14
    refine g_iload_n hC 2 dX6_homesOf_41 rfl ?_
    exact hR.2.1 rfl _ _ _ _ _ _ dX6_homesOf_42 ⟨_, rfl, rfl, h⟩
  · replace h := h.2 c14
    refine g_iload_n hC 2 dX6_homesOf_12 rfl ?_
    refine g_iload_n hC 1 dX6_homesOf_13 rfl ?_
    refine g_iload_n hC 3 dX6_homesOf_14 rfl ?_
    refine g_callS hC (As := [.int p0, .int x2]) (fun l D dA ht => s_X6_has l D dA ht _ _ _ _ h) wm_4_11 wm_4_9 wm_4_10 wm_1_7 (by decide +kernel : plainY yX6_has 2) dX6_homesOf_15 (by decide) (Nat.le_of_ble_eq_true rfl) (Or.inl ⟨rfl, rfl⟩) ?_
    intro M9 v9 h
    obtain ⟨x5, rfl, h⟩ := h
    obtain ⟨hM9, h⟩ := h
    rw [hM9]
    show G X 4 M 0 0 18 [(0, .ref a0), (1, .int p0), (2, .int x1), (3, .int x2)] [.int x5, .int x1]
    replace h := h (fun (x6 : Int32) => G X 4 M 0 0 33 [(0, .ref a0), (1, .int p0), (2, .int x1), (3, .int x2)] [.int x6, .int x1]) (by
      intro x6 h
      show G X 4 M 0 0 33 [(0, .ref a0), (1, .int p0), (2, .int x1), (3, .int x2)] [.int x6, .int x1]
      refine g_ior hC dX6_homesOf_33 ?_
      obtain ⟨x8, ex8⟩ : ∃ w, w = x1 ||| x6 := ⟨_, rfl⟩
      replace h := h x8 ex8
      rw [← ex8]
      refine g_istore_n (lv' := [(2, .int x8), (0, .ref a0), (1, .int p0), (3, .int x2)]) hC dX6_homesOf_34 (by decide) rfl ?_
      obtain ⟨x9, ex9⟩ : ∃ w, w = x2 + 1 := ⟨_, rfl⟩
      replace h := h x9 ex9
      refine g_iinc (v := x9) (lv' := [(3, .int x9), (2, .int x8), (0, .ref a0), (1, .int p0)]) hC 3 dX6_homesOf_35 rfl (by rw [ex9]; rfl) (by decide) rfl ?_
      refine g_pc (pc' := 38) rfl ?_
      refine g_goto hC 4 dX6_homesOf_38 (by decide) ?_
      refine g_sub [2, 3, 1, 0] (lv' := [(0, .ref a0), (1, .int p0), (2, .int x8), (3, .int x9)]) rfl ?_
      exact hK_K3 _ h)
    refine g_if_eq hC 32 dX6_homesOf_18 (by decide) (fun c13 => ?_) (fun c13 => ?_)
    · replace h := h.1 c13
      refine g_iconst (v := 0) hC dX6_homesOf_32 (by decide) ?_
      exact h
    · replace h := h.2 c13
      refine g_iconst (v := 1) hC dX6_homesOf_21 (by decide) ?_
      refine g_aload_n (r := (some a0)) hC 0 dX6_homesOf_22 rfl ?_
      obtain ⟨hc10, h⟩ := h
      obtain ⟨b11, eb11, h⟩ := h
      refine g_pc (pc' := 23) rfl ?_
      refine g_getA hC kc6 4 (by decide) wm_3_150 dX6_homesOf_23 rfl hc10 eb11 ?_
      refine g_iload_n hC 3 dX6_homesOf_26 rfl ?_
      obtain ⟨hc12, h⟩ := h
      refine g_ialdA hC dX6_homesOf_27 hc12 ?_
      refine g_ishl hC dX6_homesOf_28 ?_
      refine g_goto hC 33 dX6_homesOf_29 (by decide) ?_
      exact h

def w_X6_say (M : Mem) (a0 : Nat) (p0 : Int32) (p1 : Int32) (post : Mem → Int32 → Prop) : Prop :=
  gT M a0 = some (6, 0) ∧ w_X6_isUser M a0 p0 (fun x2 => ∀ J4 : Int32 → Prop, (∀ (x3 : Int32), (gT M a0 = some (6, 0) ∧ w_X6_holds M a0 x3 (fun M6 x7 => (x7 = 0 → post M6 0) ∧ (¬ (x7 = 0) → gT M6 a0 = some (6, 0) ∧ w_X6_isGone M6 a0 p0 (fun x9 => (x9 = 0 → gT M6 a0 = some (6, 0) ∧ w_X6_isMember M6 a0 p0 p1 (fun x11 => (x11 = 0 → post M6 ((-3))) ∧ (¬ (x11 = 0) → gT M6 a0 = some (6, 0) ∧ ∃ b13, gR M6 a0 4 = some b13 ∧ inA M6 b13 10 p0 ∧ ∀ x15, x15 = gI M6 b13 (Int32.toNatClampNeg p0) → w_X6_at M6 x15 p1 (fun x16 => gT M6 a0 = some (6, 0) ∧ ∃ b18, gR M6 a0 10 = some b18 ∧ inA M6 b18 10 x16 ∧ gT M6 a0 = some (6, 0) ∧ ∃ b21, gR M6 a0 3 = some b21 ∧ inA M6 b21 10 p0 ∧ w_X6_has M6 (gI M6 b18 (Int32.toNatClampNeg x16)) (gI M6 b21 (Int32.toNatClampNeg p0)) (fun x23 => (x23 = 0 → gT M6 a0 = some (6, 0) ∧ ∃ b25, gR M6 a0 9 = some b25 ∧ inA M6 b25 10 x16 ∧ w_X6_has M6 (gI M6 b25 (Int32.toNatClampNeg x16)) 0 (fun x27 => ∀ J28 : Prop, ((gT M6 a0 = some (6, 0) ∧ ∃ b30, gR M6 a0 11 = some b30 ∧ inA M6 b30 10 x16 ∧ gT M6 a0 = some (6, 0) ∧ w_X6_homesOf M6 a0 ((gI M6 b30 (Int32.toNatClampNeg x16)) &&& ((1 <<< (p0 &&& 31)) ^^^ ((-1)))) (fun x33 => gT M6 a0 = some (6, 0) ∧ w_X6_treeOf M6 a0 x15 (fun x35 => ∀ x36, x36 = x33 &&& x35 → Lp (fun (K39 : Int32 × Int32 → Prop) (z : Int32 × Int32) => ∀ (x37 : Int32) (x38 : Int32), z = (x37, x38) → ((6 ≤ x38 → post M6 x37) ∧ (¬ (6 ≤ x38) → Lp (fun (K42 : Int32 × Int32 → Prop) (z : Int32 × Int32) => ∀ (x40 : Int32) (x41 : Int32), z = (x40, x41) → ((6 ≤ x41 → ∀ x43, x43 = x38 + 1 → K39 (x40, x43)) ∧ (¬ (6 ≤ x41) → gT M6 a0 = some (6, 0) ∧ ∃ b45, gR M6 a0 6 = some b45 ∧ inA M6 b45 10 x38 ∧ w_X6_has M6 (gI M6 b45 (Int32.toNatClampNeg x38)) x41 (fun x47 => ∀ J49 : Int32 → Prop, (∀ (x48 : Int32), (∀ J51 : Int32 → Prop, (∀ (x50 : Int32), (∀ x52, x52 = x40 + x50 → ∀ x53, x53 = x41 + 1 → K42 (x52, x53)) → J51 x50) → (∀ J54 : Prop, ((J51 0) → J54) → ((x48 = 0 → J54) ∧ (¬ (x48 = 0) → gT M6 a0 = some (6, 0) ∧ w_X6_behind M6 a0 x41 x38 (fun x56 => (x56 &&& x36 = 0 → J54) ∧ (¬ (x56 &&& x36 = 0) → J51 1)))))) → J49 x48) → (∀ J59 : Prop, ((J49 0) → J59) → ((x47 = 0 → J59) ∧ (¬ (x47 = 0) → gT M6 a0 = some (6, 0) ∧ w_X6_behind M6 a0 x41 x38 (fun x61 => w_X6_has M6 x61 x15 (fun x62 => (x62 = 0 → gT M6 a0 = some (6, 0) ∧ w_X6_treeOf M6 a0 x15 (fun x64 => w_X6_has M6 x64 x38 (fun x65 => (x65 = 0 → J59) ∧ (¬ (x65 = 0) → J49 1)))) ∧ (¬ (x62 = 0) → J59)))))))))) (x37, 0)))) (0, 0)))) → J28) → ((x27 = 0 → J28) ∧ (¬ (x27 = 0) → gT M6 a0 = some (6, 0) ∧ ∃ b74, gR M6 a0 11 = some b74 ∧ inA M6 b74 10 x16 ∧ gT M6 a0 = some (6, 0) ∧ w_X6_isEldest M6 a0 p0 (gI M6 b74 (Int32.toNatClampNeg x16)) (fun x77 => (x77 = 0 → post M6 ((-5))) ∧ (¬ (x77 = 0) → J28)))))) ∧ (¬ (x23 = 0) → post M6 ((-4)))))))) ∧ (¬ (x9 = 0) → post M6 ((-2))))))) → J4 x3) → (∀ J84 : Prop, ((J4 1) → J84) → ((x2 = 0 → J84) ∧ (¬ (x2 = 0) → w_X6_isChannel M p1 (fun x85 => (x85 = 0 → J84) ∧ (¬ (x85 = 0) → J4 0))))))
set_option maxRecDepth 100000 in
set_option maxHeartbeats 8000000 in
theorem s_X6_say (l : Launch) (D : va_G) (dA : Nat → ClassId) (htr : l.stackTraces = false) (M : Mem) (a0 : Nat) (p0 : Int32) (p1 : Int32) (post : Mem → Int32 → Prop) (h : w_X6_say M a0 p0 p1 post) : CtN l D dA yX6_say cX6_say 10 (some .int) 3 [.ref a0, .int p0, .int p1] M 0 0 (pI post) := by
  refine ct_ofN htr (by decide) (Nat.le_of_ble_eq_true rfl) ?_
  intro X hC hN hR
  show G X 10 M 0 0 0 [(0, .ref a0), (1, .int p0), (2, .int p1)] []
  unfold w_X6_say at h
  refine g_aload_n (r := (some a0)) hC 0 dX6_say_0 rfl ?_
  refine g_aload_n (r := (some a0)) hC 0 dX6_say_1 rfl ?_
  refine g_iload_n hC 1 dX6_say_2 rfl ?_
  obtain ⟨hc1, h⟩ := h
  refine g_callV hC (As := [.int p0]) (fun l D dA ht => s_X6_isUser l D dA ht _ _ _ _ h) wm_4_113 wm_4_110 wm_4_112 wm_0_33 wm_1_7 (by decide +kernel : plainY yX6_isUser 1) kc6.1 kc6.2.1 dX6_say_3 (by decide) (Nat.le_of_ble_eq_true rfl) hc1 (Or.inl ⟨rfl, rfl⟩) ?_
  intro M9 v9 h
  obtain ⟨x2, rfl, h⟩ := h
  obtain ⟨hM9, h⟩ := h
  rw [hM9]
  show G X 10 M 0 0 6 [(0, .ref a0), (1, .int p0), (2, .int p1)] [.int x2, .ref a0]
  replace h := h (fun (x3 : Int32) => G X 10 M 0 0 21 [(0, .ref a0), (1, .int p0), (2, .int p1)] [.int x3, .ref a0]) (by
    intro x3 h
    show G X 10 M 0 0 21 [(0, .ref a0), (1, .int p0), (2, .int p1)] [.int x3, .ref a0]
    obtain ⟨hc5, h⟩ := h
    refine g_callV hC (As := [.int x3]) (fun l D dA ht => s_X6_holds l D dA ht _ _ _ _ h) wm_4_15 wm_4_12 wm_4_14 wm_0_17 wm_1_7 (by decide +kernel : plainY yX6_holds 1) kc6.1 kc6.2.1 dX6_say_21 (by decide) (Nat.le_of_ble_eq_true rfl) hc5 (Or.inl ⟨rfl, rfl⟩) ?_
    intro M9 v9 h
    obtain ⟨x7, rfl, h⟩ := h
    generalize M9 = M6 at h ⊢
    show G X 10 M6 0 0 24 [(0, .ref a0), (1, .int p0), (2, .int p1)] [.int x7]
    refine g_if_ne hC 29 dX6_say_24 (by decide) (fun c83 => ?_) (fun c83 => ?_)
    · replace h := h.2 c83
      refine g_aload_n (r := (some a0)) hC 0 dX6_say_29 rfl ?_
      refine g_pc (pc' := 30) rfl ?_
      refine g_iload_n hC 1 dX6_say_30 rfl ?_
      obtain ⟨hc8, h⟩ := h
      refine g_callV hC (As := [.int p0]) (fun l D dA ht => s_X6_isGone l D dA ht _ _ _ _ h) wm_4_117 wm_4_114 wm_4_116 wm_0_34 wm_1_7 (by decide +kernel : plainY yX6_isGone 1) kc6.1 kc6.2.1 dX6_say_31 (by decide) (Nat.le_of_ble_eq_true rfl) hc8 (Or.inl ⟨rfl, rfl⟩) ?_
      intro M9 v9 h
      obtain ⟨x9, rfl, h⟩ := h
      obtain ⟨hM9, h⟩ := h
      rw [hM9]
      show G X 10 M6 0 0 34 [(0, .ref a0), (1, .int p0), (2, .int p1)] [.int x9]
      refine g_if_eq hC 40 dX6_say_34 (by decide) (fun c82 => ?_) (fun c82 => ?_)
      · replace h := h.1 c82
        refine g_aload_n (r := (some a0)) hC 0 dX6_say_40 rfl ?_
        refine g_iload_n hC 1 dX6_say_41 rfl ?_
        refine g_iload_n hC 2 dX6_say_42 rfl ?_
        obtain ⟨hc10, h⟩ := h
        refine g_callV hC (As := [.int p0, .int p1]) (fun l D dA ht => s_X6_isMember l D dA ht _ _ _ _ _ h) wm_4_128 wm_4_125 wm_4_127 wm_0_35 wm_1_7 (by decide +kernel : plainY yX6_isMember 2) kc6.1 kc6.2.1 dX6_say_43 (by decide) (Nat.le_of_ble_eq_true rfl) hc10 (Or.inl ⟨rfl, rfl⟩) ?_
        intro M9 v9 h
        obtain ⟨x11, rfl, h⟩ := h
        obtain ⟨hM9, h⟩ := h
        rw [hM9]
        show G X 10 M6 0 0 46 [(0, .ref a0), (1, .int p0), (2, .int p1)] [.int x11]
        refine g_if_ne hC 52 dX6_say_46 (by decide) (fun c81 => ?_) (fun c81 => ?_)
        · replace h := h.2 c81
          refine g_pc (pc' := 52) rfl ?_
          refine g_aload_n (r := (some a0)) hC 0 dX6_say_52 rfl ?_
          obtain ⟨hc12, h⟩ := h
          obtain ⟨b13, eb13, h⟩ := h
          refine g_getA hC kc6 4 (by decide) wm_3_150 dX6_say_53 rfl hc12 eb13 ?_
          refine g_iload_n hC 1 dX6_say_56 rfl ?_
          obtain ⟨hc14, h⟩ := h
          refine g_ialdA hC dX6_say_57 hc14 ?_
          obtain ⟨x15, ex15⟩ : ∃ w, w = gI M6 b13 (Int32.toNatClampNeg p0) := ⟨_, rfl⟩
          replace h := h x15 ex15
          rw [← ex15]
          refine g_istore_n (lv' := [(3, .int x15), (0, .ref a0), (1, .int p0), (2, .int p1)]) hC dX6_say_58 (by decide) rfl ?_
          refine g_iload_n hC 0 dX6_say_59 rfl ?_
          refine g_iload_n hC 3 dX6_say_60 rfl ?_
          refine g_callS hC (As := [.int x15, .int p1]) (fun l D dA ht => s_X6_at l D dA ht _ _ _ _ h) wm_4_30 wm_4_28 wm_4_29 wm_1_7 (by decide +kernel : plainY yX6_at 2) dX6_say_61 (by decide) (Nat.le_of_ble_eq_true rfl) (Or.inl ⟨rfl, rfl⟩) ?_
          intro M9 v9 h
          obtain ⟨x16, rfl, h⟩ := h
          obtain ⟨hM9, h⟩ := h
          rw [hM9]
          show G X 10 M6 0 0 64 [(3, .int x15), (0, .ref a0), (1, .int p0), (2, .int p1)] [.int x16]
          refine g_pc (pc' := 64) rfl ?_
          refine g_istore (lv' := [(4, .int x16), (3, .int x15), (0, .ref a0), (1, .int p0), (2, .int p1)]) hC dX6_say_64 (by decide) rfl ?_
          refine g_aload_n (r := (some a0)) hC 2 dX6_say_66 rfl ?_
          obtain ⟨hc17, h⟩ := h
          obtain ⟨b18, eb18, h⟩ := h
          refine g_getA hC kc6 10 (by decide) wm_3_156 dX6_say_67 rfl hc17 eb18 ?_
          refine g_iload hC 0 dX6_say_70 rfl ?_
          obtain ⟨hc19, h⟩ := h
          refine g_ialdA hC dX6_say_72 hc19 ?_
          refine g_aload_n (r := (some a0)) hC 2 dX6_say_73 rfl ?_
          obtain ⟨hc20, h⟩ := h
          obtain ⟨b21, eb21, h⟩ := h
          refine g_getA hC kc6 3 (by decide) wm_3_149 dX6_say_74 rfl hc20 eb21 ?_
          refine g_iload_n hC 3 dX6_say_77 rfl ?_
          obtain ⟨hc22, h⟩ := h
          refine g_pc (pc' := 78) rfl ?_
          refine g_ialdA hC dX6_say_78 hc22 ?_
          refine g_callS hC (As := [.int (gI M6 b18 (Int32.toNatClampNeg x16)), .int (gI M6 b21 (Int32.toNatClampNeg p0))]) (fun l D dA ht => s_X6_has l D dA ht _ _ _ _ h) wm_4_11 wm_4_9 wm_4_10 wm_1_7 (by decide +kernel : plainY yX6_has 2) dX6_say_79 (by decide) (Nat.le_of_ble_eq_true rfl) (Or.inl ⟨rfl, rfl⟩) ?_
          intro M9 v9 h
          obtain ⟨x23, rfl, h⟩ := h
          obtain ⟨hM9, h⟩ := h
          rw [hM9]
          show G X 10 M6 0 0 82 [(4, .int x16), (3, .int x15), (0, .ref a0), (1, .int p0), (2, .int p1)] [.int x23]
          refine g_if_eq hC 88 dX6_say_82 (by decide) (fun c80 => ?_) (fun c80 => ?_)
          · replace h := h.1 c80
            refine g_aload_n (r := (some a0)) hC 2 dX6_say_88 rfl ?_
            obtain ⟨hc24, h⟩ := h
            obtain ⟨b25, eb25, h⟩ := h
            refine g_getA hC kc6 9 (by decide) wm_3_155 dX6_say_89 rfl hc24 eb25 ?_
            refine g_iload hC 0 dX6_say_92 rfl ?_
            obtain ⟨hc26, h⟩ := h
            refine g_ialdA hC dX6_say_94 hc26 ?_
            refine g_iconst (v := 0) hC dX6_say_95 (by decide) ?_
            refine g_pc (pc' := 96) rfl ?_
            refine g_callS hC (As := [.int (gI M6 b25 (Int32.toNatClampNeg x16)), .int 0]) (fun l D dA ht => s_X6_has l D dA ht _ _ _ _ h) wm_4_11 wm_4_9 wm_4_10 wm_1_7 (by decide +kernel : plainY yX6_has 2) dX6_say_96 (by decide) (Nat.le_of_ble_eq_true rfl) (Or.inl ⟨rfl, rfl⟩) ?_
            intro M9 v9 h
            obtain ⟨x27, rfl, h⟩ := h
            obtain ⟨hM9, h⟩ := h
            rw [hM9]
            show G X 10 M6 0 0 99 [(4, .int x16), (3, .int x15), (0, .ref a0), (1, .int p0), (2, .int p1)] [.int x27]
            replace h := h (G X 10 M6 0 0 120 [(0, .ref a0), (1, .int p0), (2, .int p1), (3, .int x15), (4, .int x16)] []) (by
              intro h
              refine g_aload_n (r := (some a0)) hC 0 dX6_say_120 rfl ?_
              refine g_aload_n (r := (some a0)) hC 0 dX6_say_121 rfl ?_
              obtain ⟨hc29, h⟩ := h
              obtain ⟨b30, eb30, h⟩ := h
              refine g_getA hC kc6 11 (by decide) wm_3_157 dX6_say_122 rfl hc29 eb30 ?_
              refine g_iload hC 4 dX6_say_125 rfl ?_
              obtain ⟨hc31, h⟩ := h
              refine g_ialdA hC dX6_say_127 hc31 ?_
              refine g_iconst (v := 1) hC dX6_say_128 (by decide) ?_
              refine g_iload_n hC 1 dX6_say_129 rfl ?_
              refine g_pc (pc' := 130) rfl ?_
              refine g_ishl hC dX6_say_130 ?_
              refine g_iconst (v := (-1)) hC dX6_say_131 (by decide) ?_
              refine g_ixor hC dX6_say_132 ?_
              refine g_iand hC dX6_say_133 ?_
              obtain ⟨hc32, h⟩ := h
              refine g_callV hC (As := [.int ((gI M6 b30 (Int32.toNatClampNeg x16)) &&& ((1 <<< (p0 &&& 31)) ^^^ ((-1))))]) (fun l D dA ht => s_X6_homesOf l D dA ht _ _ _ _ h) wm_4_156 wm_4_153 wm_4_155 wm_0_38 wm_1_7 (by decide +kernel : plainY yX6_homesOf 1) kc6.1 kc6.2.1 dX6_say_134 (by decide) (Nat.le_of_ble_eq_true rfl) hc32 (Or.inl ⟨rfl, rfl⟩) ?_
              intro M9 v9 h
              obtain ⟨x33, rfl, h⟩ := h
              obtain ⟨hM9, h⟩ := h
              rw [hM9]
              show G X 10 M6 0 0 137 [(0, .ref a0), (1, .int p0), (2, .int p1), (3, .int x15), (4, .int x16)] [.int x33]
              refine g_aload_n (r := (some a0)) hC 0 dX6_say_137 rfl ?_
              refine g_iload_n hC 3 dX6_say_138 rfl ?_
              obtain ⟨hc34, h⟩ := h
              refine g_callV hC (As := [.int x15]) (fun l D dA ht => s_X6_treeOf l D dA ht _ _ _ _ h) wm_4_8 wm_4_5 wm_4_7 wm_0_16 wm_1_7 (by decide +kernel : plainY yX6_treeOf 1) kc6.1 kc6.2.1 dX6_say_139 (by decide) (Nat.le_of_ble_eq_true rfl) hc34 (Or.inl ⟨rfl, rfl⟩) ?_
              intro M9 v9 h
              obtain ⟨x35, rfl, h⟩ := h
              obtain ⟨hM9, h⟩ := h
              rw [hM9]
              show G X 10 M6 0 0 142 [(0, .ref a0), (1, .int p0), (2, .int p1), (3, .int x15), (4, .int x16)] [.int x35, .int x33]
              refine g_pc (pc' := 142) rfl ?_
              refine g_iand hC dX6_say_142 ?_
              obtain ⟨x36, ex36⟩ : ∃ w, w = x33 &&& x35 := ⟨_, rfl⟩
              replace h := h x36 ex36
              rw [← ex36]
              refine g_istore (lv' := [(5, .int x36), (0, .ref a0), (1, .int p0), (2, .int p1), (3, .int x15), (4, .int x16)]) hC dX6_say_143 (by decide) rfl ?_
              refine g_iconst (v := 0) hC dX6_say_145 (by decide) ?_
              refine g_istore (lv' := [(6, .int 0), (5, .int x36), (0, .ref a0), (1, .int p0), (2, .int p1), (3, .int x15), (4, .int x16)]) hC dX6_say_146 (by decide) rfl ?_
              refine g_iconst (v := 0) hC dX6_say_148 (by decide) ?_
              refine g_istore (lv' := [(7, .int 0), (6, .int 0), (5, .int x36), (0, .ref a0), (1, .int p0), (2, .int p1), (3, .int x15), (4, .int x16)]) hC dX6_say_149 (by decide) rfl ?_
              refine g_sub [3, 4, 5, 6, 7, 2, 1, 0] (lv' := [(0, .ref a0), (1, .int p0), (2, .int p1), (3, .int x15), (4, .int x16), (5, .int x36), (6, .int 0), (7, .int 0)]) rfl ?_
              refine Lp_use (fun (z72 : Int32 × Int32) => G X 10 M6 0 0 151 [(0, .ref a0), (1, .int p0), (2, .int p1), (3, .int x15), (4, .int x16), (5, .int x36), (6, .int z72.1), (7, .int z72.2)] []) h ?_
              intro K39 z hK_K39 h
              obtain ⟨x37, x38⟩ := z
              replace h := h _ _ rfl
              show G X 10 M6 0 0 151 [(0, .ref a0), (1, .int p0), (2, .int p1), (3, .int x15), (4, .int x16), (5, .int x36), (6, .int x37), (7, .int x38)] []
              refine g_iload hC 7 dX6_say_151 rfl ?_
              refine g_bipush (v := 6) hC dX6_say_153 (by decide) ?_
              refine g_pc (pc' := 155) rfl ?_
              refine g_icmp_ge hC 259 dX6_say_155 (by decide) (fun c71 => ?_) (fun c71 => ?_)
              · replace h := h.1 c71
                refine g_iload hC 6 dX6_say_259 rfl ?_
                exact hR.2.1 rfl _ _ _ _ _ _ dX6_say_261 ⟨_, rfl, h⟩
              · replace h := h.2 c71
                refine g_iconst (v := 0) hC dX6_say_158 (by decide) ?_
                refine g_istore (lv' := [(8, .int 0), (0, .ref a0), (1, .int p0), (2, .int p1), (3, .int x15), (4, .int x16), (5, .int x36), (6, .int x37), (7, .int x38)]) hC dX6_say_159 (by decide) rfl ?_
                refine g_sub [1, 2, 3, 4, 5, 6, 7, 8, 0] (lv' := [(0, .ref a0), (1, .int p0), (2, .int p1), (3, .int x15), (4, .int x16), (5, .int x36), (6, .int x37), (7, .int x38), (8, .int 0)]) rfl ?_
                refine Lp_use (fun (z70 : Int32 × Int32) => G X 10 M6 0 0 161 [(0, .ref a0), (1, .int p0), (2, .int p1), (3, .int x15), (4, .int x16), (5, .int x36), (6, .int z70.1), (7, .int x38), (8, .int z70.2)] []) h ?_
                intro K42 z hK_K42 h
                obtain ⟨x40, x41⟩ := z
                replace h := h _ _ rfl
                show G X 10 M6 0 0 161 [(0, .ref a0), (1, .int p0), (2, .int p1), (3, .int x15), (4, .int x16), (5, .int x36), (6, .int x40), (7, .int x38), (8, .int x41)] []
                refine g_iload hC 8 dX6_say_161 rfl ?_
                refine g_bipush (v := 6) hC dX6_say_163 (by decide) ?_
                refine g_icmp_ge hC 253 dX6_say_165 (by decide) (fun c69 => ?_) (fun c69 => ?_)
                · replace h := h.1 c69
                  obtain ⟨x43, ex43⟩ : ∃ w, w = x38 + 1 := ⟨_, rfl⟩
                  replace h := h x43 ex43
                  refine g_iinc (v := x43) (lv' := [(7, .int x43), (0, .ref a0), (1, .int p0), (2, .int p1), (3, .int x15), (4, .int x16), (5, .int x36), (6, .int x40), (8, .int x41)]) hC 7 dX6_say_253 rfl (by rw [ex43]; rfl) (by decide) rfl ?_
                  refine g_goto hC 151 dX6_say_256 (by decide) ?_
                  refine g_sub [1, 2, 3, 4, 5, 6, 7, 0] (lv' := [(0, .ref a0), (1, .int p0), (2, .int p1), (3, .int x15), (4, .int x16), (5, .int x36), (6, .int x40), (7, .int x43)]) rfl ?_
                  exact hK_K39 _ h
                · replace h := h.2 c69
                  refine g_aload_n (r := (some a0)) hC 0 dX6_say_168 rfl ?_
                  obtain ⟨hc44, h⟩ := h
                  obtain ⟨b45, eb45, h⟩ := h
                  refine g_getA hC kc6 6 (by decide) wm_3_152 dX6_say_169 rfl hc44 eb45 ?_
                  refine g_pc (pc' := 172) rfl ?_
                  refine g_iload hC 7 dX6_say_172 rfl ?_
                  obtain ⟨hc46, h⟩ := h
                  refine g_ialdA hC dX6_say_174 hc46 ?_
                  refine g_iload hC 8 dX6_say_175 rfl ?_
                  refine g_callS hC (As := [.int (gI M6 b45 (Int32.toNatClampNeg x38)), .int x41]) (fun l D dA ht => s_X6_has l D dA ht _ _ _ _ h) wm_4_11 wm_4_9 wm_4_10 wm_1_7 (by decide +kernel : plainY yX6_has 2) dX6_say_177 (by decide) (Nat.le_of_ble_eq_true rfl) (Or.inl ⟨rfl, rfl⟩) ?_
                  intro M9 v9 h
                  obtain ⟨x47, rfl, h⟩ := h
                  obtain ⟨hM9, h⟩ := h
                  rw [hM9]
                  show G X 10 M6 0 0 180 [(0, .ref a0), (1, .int p0), (2, .int p1), (3, .int x15), (4, .int x16), (5, .int x36), (6, .int x40), (7, .int x38), (8, .int x41)] [.int x47]
                  replace h := h (fun (x48 : Int32) => G X 10 M6 0 0 216 [(0, .ref a0), (1, .int p0), (2, .int p1), (3, .int x15), (4, .int x16), (5, .int x36), (6, .int x40), (7, .int x38), (8, .int x41)] [.int x48]) (by
                    intro x48 h
                    show G X 10 M6 0 0 216 [(0, .ref a0), (1, .int p0), (2, .int p1), (3, .int x15), (4, .int x16), (5, .int x36), (6, .int x40), (7, .int x38), (8, .int x41)] [.int x48]
                    refine g_istore (lv' := [(9, .int x48), (0, .ref a0), (1, .int p0), (2, .int p1), (3, .int x15), (4, .int x16), (5, .int x36), (6, .int x40), (7, .int x38), (8, .int x41)]) hC dX6_say_216 (by decide) rfl ?_
                    refine g_iload hC 7 dX6_say_218 rfl ?_
                    refine g_iload hC 0 dX6_say_220 rfl ?_
                    replace h := h (fun (x50 : Int32) => G X 10 M6 0 0 244 [(0, .ref a0), (1, .int p0), (2, .int p1), (3, .int x15), (4, .int x16), (5, .int x36), (6, .int x40), (7, .int x38), (8, .int x41), (9, .int x48)] [.int x50, .int x40]) (by
                      intro x50 h
                      show G X 10 M6 0 0 244 [(0, .ref a0), (1, .int p0), (2, .int p1), (3, .int x15), (4, .int x16), (5, .int x36), (6, .int x40), (7, .int x38), (8, .int x41), (9, .int x48)] [.int x50, .int x40]
                      refine g_iadd hC dX6_say_244 ?_
                      obtain ⟨x52, ex52⟩ : ∃ w, w = x40 + x50 := ⟨_, rfl⟩
                      replace h := h x52 ex52
                      rw [← ex52]
                      refine g_pc (pc' := 245) rfl ?_
                      refine g_istore (lv' := [(6, .int x52), (0, .ref a0), (1, .int p0), (2, .int p1), (3, .int x15), (4, .int x16), (5, .int x36), (7, .int x38), (8, .int x41), (9, .int x48)]) hC dX6_say_245 (by decide) rfl ?_
                      obtain ⟨x53, ex53⟩ : ∃ w, w = x41 + 1 := ⟨_, rfl⟩
                      replace h := h x53 ex53
                      refine g_iinc (v := x53) (lv' := [(8, .int x53), (6, .int x52), (0, .ref a0), (1, .int p0), (2, .int p1), (3, .int x15), (4, .int x16), (5, .int x36), (7, .int x38), (9, .int x48)]) hC 8 dX6_say_247 rfl (by rw [ex53]; rfl) (by decide) rfl ?_
                      refine g_goto hC 161 dX6_say_250 (by decide) ?_
                      refine g_sub [2, 3, 4, 5, 6, 7, 1, 8, 0] (lv' := [(0, .ref a0), (1, .int p0), (2, .int p1), (3, .int x15), (4, .int x16), (5, .int x36), (6, .int x52), (7, .int x38), (8, .int x53)]) rfl ?_
                      exact hK_K42 _ h)
                    replace h := h (G X 10 M6 0 0 243 [(0, .ref a0), (1, .int p0), (2, .int p1), (3, .int x15), (4, .int x16), (5, .int x36), (6, .int x40), (7, .int x38), (8, .int x41), (9, .int x48)] [.int x40]) (by
                      intro h
                      refine g_iconst (v := 0) hC dX6_say_243 (by decide) ?_
                      exact h)
                    refine g_if_eq hC 243 dX6_say_222 (by decide) (fun c58 => ?_) (fun c58 => ?_)
                    · replace h := h.1 c58
                      refine g_sub [1, 2, 3, 4, 5, 6, 7, 8, 9, 0] (lv' := [(0, .ref a0), (1, .int p0), (2, .int p1), (3, .int x15), (4, .int x16), (5, .int x36), (6, .int x40), (7, .int x38), (8, .int x41), (9, .int x48)]) rfl ?_
                      exact h
                    · replace h := h.2 c58
                      refine g_pc (pc' := 225) rfl ?_
                      refine g_aload_n (r := (some a0)) hC 1 dX6_say_225 rfl ?_
                      refine g_iload hC 9 dX6_say_226 rfl ?_
                      refine g_iload hC 8 dX6_say_228 rfl ?_
                      obtain ⟨hc55, h⟩ := h
                      refine g_callV hC (As := [.int x41, .int x38]) (fun l D dA ht => s_X6_behind l D dA ht _ _ _ _ _ h) wm_4_160 wm_4_157 wm_4_159 wm_0_39 wm_1_7 (by decide +kernel : plainY yX6_behind 2) kc6.1 kc6.2.1 dX6_say_230 (by decide) (Nat.le_of_ble_eq_true rfl) hc55 (Or.inl ⟨rfl, rfl⟩) ?_
                      intro M9 v9 h
                      obtain ⟨x56, rfl, h⟩ := h
                      obtain ⟨hM9, h⟩ := h
                      rw [hM9]
                      show G X 10 M6 0 0 233 [(9, .int x48), (0, .ref a0), (1, .int p0), (2, .int p1), (3, .int x15), (4, .int x16), (5, .int x36), (6, .int x40), (7, .int x38), (8, .int x41)] [.int x56, .int x40]
                      refine g_iload hC 6 dX6_say_233 rfl ?_
                      refine g_iand hC dX6_say_235 ?_
                      refine g_if_eq hC 243 dX6_say_236 (by decide) (fun c57 => ?_) (fun c57 => ?_)
                      · replace h := h.1 c57
                        refine g_sub [1, 2, 3, 4, 5, 6, 7, 8, 9, 0] (lv' := [(0, .ref a0), (1, .int p0), (2, .int p1), (3, .int x15), (4, .int x16), (5, .int x36), (6, .int x40), (7, .int x38), (8, .int x41), (9, .int x48)]) rfl ?_
                        exact h
                      · replace h := h.2 c57
                        refine g_iconst (v := 1) hC dX6_say_239 (by decide) ?_
                        refine g_pc (pc' := 240) rfl ?_
                        refine g_goto hC 244 dX6_say_240 (by decide) ?_
                        refine g_sub [1, 2, 3, 4, 5, 6, 7, 8, 9, 0] (lv' := [(0, .ref a0), (1, .int p0), (2, .int p1), (3, .int x15), (4, .int x16), (5, .int x36), (6, .int x40), (7, .int x38), (8, .int x41), (9, .int x48)]) rfl ?_
                        exact h)
                  replace h := h (G X 10 M6 0 0 215 [(0, .ref a0), (1, .int p0), (2, .int p1), (3, .int x15), (4, .int x16), (5, .int x36), (6, .int x40), (7, .int x38), (8, .int x41)] []) (by
                    intro h
                    refine g_iconst (v := 0) hC dX6_say_215 (by decide) ?_
                    exact h)
                  refine g_if_eq hC 215 dX6_say_180 (by decide) (fun c68 => ?_) (fun c68 => ?_)
                  · replace h := h.1 c68
                    exact h
                  · replace h := h.2 c68
                    refine g_aload_n (r := (some a0)) hC 0 dX6_say_183 rfl ?_
                    refine g_iload hC 8 dX6_say_184 rfl ?_
                    refine g_iload hC 7 dX6_say_186 rfl ?_
                    refine g_pc (pc' := 188) rfl ?_
                    obtain ⟨hc60, h⟩ := h
                    refine g_callV hC (As := [.int x41, .int x38]) (fun l D dA ht => s_X6_behind l D dA ht _ _ _ _ _ h) wm_4_160 wm_4_157 wm_4_159 wm_0_39 wm_1_7 (by decide +kernel : plainY yX6_behind 2) kc6.1 kc6.2.1 dX6_say_188 (by decide) (Nat.le_of_ble_eq_true rfl) hc60 (Or.inl ⟨rfl, rfl⟩) ?_
                    intro M9 v9 h
                    obtain ⟨x61, rfl, h⟩ := h
                    obtain ⟨hM9, h⟩ := h
                    rw [hM9]
                    show G X 10 M6 0 0 191 [(0, .ref a0), (1, .int p0), (2, .int p1), (3, .int x15), (4, .int x16), (5, .int x36), (6, .int x40), (7, .int x38), (8, .int x41)] [.int x61]
                    refine g_iload_n hC 3 dX6_say_191 rfl ?_
                    refine g_callS hC (As := [.int x61, .int x15]) (fun l D dA ht => s_X6_has l D dA ht _ _ _ _ h) wm_4_11 wm_4_9 wm_4_10 wm_1_7 (by decide +kernel : plainY yX6_has 2) dX6_say_192 (by decide) (Nat.le_of_ble_eq_true rfl) (Or.inl ⟨rfl, rfl⟩) ?_
                    intro M9 v9 h
                    obtain ⟨x62, rfl, h⟩ := h
                    obtain ⟨hM9, h⟩ := h
                    rw [hM9]
                    show G X 10 M6 0 0 195 [(0, .ref a0), (1, .int p0), (2, .int p1), (3, .int x15), (4, .int x16), (5, .int x36), (6, .int x40), (7, .int x38), (8, .int x41)] [.int x62]
                    refine g_if_ne hC 215 dX6_say_195 (by decide) (fun c67 => ?_) (fun c67 => ?_)
                    · replace h := h.2 c67
                      exact h
                    · replace h := h.1 c67
                      refine g_aload_n (r := (some a0)) hC 0 dX6_say_198 rfl ?_
                      refine g_iload_n hC 3 dX6_say_199 rfl ?_
                      obtain ⟨hc63, h⟩ := h
                      refine g_callV hC (As := [.int x15]) (fun l D dA ht => s_X6_treeOf l D dA ht _ _ _ _ h) wm_4_8 wm_4_5 wm_4_7 wm_0_16 wm_1_7 (by decide +kernel : plainY yX6_treeOf 1) kc6.1 kc6.2.1 dX6_say_200 (by decide) (Nat.le_of_ble_eq_true rfl) hc63 (Or.inl ⟨rfl, rfl⟩) ?_
                      intro M9 v9 h
                      obtain ⟨x64, rfl, h⟩ := h
                      obtain ⟨hM9, h⟩ := h
                      rw [hM9]
                      show G X 10 M6 0 0 203 [(0, .ref a0), (1, .int p0), (2, .int p1), (3, .int x15), (4, .int x16), (5, .int x36), (6, .int x40), (7, .int x38), (8, .int x41)] [.int x64]
                      refine g_iload hC 7 dX6_say_203 rfl ?_
                      refine g_pc (pc' := 205) rfl ?_
                      refine g_callS hC (As := [.int x64, .int x38]) (fun l D dA ht => s_X6_has l D dA ht _ _ _ _ h) wm_4_11 wm_4_9 wm_4_10 wm_1_7 (by decide +kernel : plainY yX6_has 2) dX6_say_205 (by decide) (Nat.le_of_ble_eq_true rfl) (Or.inl ⟨rfl, rfl⟩) ?_
                      intro M9 v9 h
                      obtain ⟨x65, rfl, h⟩ := h
                      obtain ⟨hM9, h⟩ := h
                      rw [hM9]
                      show G X 10 M6 0 0 208 [(0, .ref a0), (1, .int p0), (2, .int p1), (3, .int x15), (4, .int x16), (5, .int x36), (6, .int x40), (7, .int x38), (8, .int x41)] [.int x65]
                      refine g_if_eq hC 215 dX6_say_208 (by decide) (fun c66 => ?_) (fun c66 => ?_)
                      · replace h := h.1 c66
                        exact h
                      · replace h := h.2 c66
                        refine g_iconst (v := 1) hC dX6_say_211 (by decide) ?_
                        refine g_goto hC 216 dX6_say_212 (by decide) ?_
                        exact h)
            refine g_if_eq hC 120 dX6_say_99 (by decide) (fun c79 => ?_) (fun c79 => ?_)
            · replace h := h.1 c79
              refine g_sub [2, 3, 4, 1, 0] (lv' := [(0, .ref a0), (1, .int p0), (2, .int p1), (3, .int x15), (4, .int x16)]) rfl ?_
              exact h
            · replace h := h.2 c79
              refine g_aload_n (r := (some a0)) hC 2 dX6_say_102 rfl ?_
              refine g_iload_n hC 3 dX6_say_103 rfl ?_
              refine g_aload_n (r := (some a0)) hC 2 dX6_say_104 rfl ?_
              obtain ⟨hc73, h⟩ := h
              obtain ⟨b74, eb74, h⟩ := h
              refine g_getA hC kc6 11 (by decide) wm_3_157 dX6_say_105 rfl hc73 eb74 ?_
              refine g_iload hC 0 dX6_say_108 rfl ?_
              obtain ⟨hc75, h⟩ := h
              refine g_ialdA hC dX6_say_110 hc75 ?_
              refine g_pc (pc' := 111) rfl ?_
              obtain ⟨hc76, h⟩ := h
              refine g_callV hC (As := [.int p0, .int (gI M6 b74 (Int32.toNatClampNeg x16))]) (fun l D dA ht => s_X6_isEldest l D dA ht _ _ _ _ _ h) wm_4_152 wm_4_149 wm_4_151 wm_0_37 wm_1_7 (by decide +kernel : plainY yX6_isEldest 2) kc6.1 kc6.2.1 dX6_say_111 (by decide) (Nat.le_of_ble_eq_true rfl) hc76 (Or.inl ⟨rfl, rfl⟩) ?_
              intro M9 v9 h
              obtain ⟨x77, rfl, h⟩ := h
              obtain ⟨hM9, h⟩ := h
              rw [hM9]
              show G X 10 M6 0 0 114 [(4, .int x16), (3, .int x15), (0, .ref a0), (1, .int p0), (2, .int p1)] [.int x77]
              refine g_if_ne hC 120 dX6_say_114 (by decide) (fun c78 => ?_) (fun c78 => ?_)
              · replace h := h.2 c78
                refine g_sub [2, 3, 4, 1, 0] (lv' := [(0, .ref a0), (1, .int p0), (2, .int p1), (3, .int x15), (4, .int x16)]) rfl ?_
                exact h
              · replace h := h.1 c78
                refine g_bipush (v := (-5)) hC dX6_say_117 (by decide) ?_
                exact hR.2.1 rfl _ _ _ _ _ _ dX6_say_119 ⟨_, rfl, h⟩
          · replace h := h.2 c80
            refine g_bipush (v := (-4)) hC dX6_say_85 (by decide) ?_
            exact hR.2.1 rfl _ _ _ _ _ _ dX6_say_87 ⟨_, rfl, h⟩
        · replace h := h.1 c81
          refine g_pc (pc' := 49) rfl ?_
          refine g_bipush (v := (-3)) hC dX6_say_49 (by decide) ?_
          exact hR.2.1 rfl _ _ _ _ _ _ dX6_say_51 ⟨_, rfl, h⟩
      · replace h := h.2 c82
        refine g_bipush (v := (-2)) hC dX6_say_37 (by decide) ?_
        exact hR.2.1 rfl _ _ _ _ _ _ dX6_say_39 ⟨_, rfl, h⟩
    · replace h := h.1 c83
      refine g_iconst (v := 0) hC dX6_say_27 (by decide) ?_
      refine g_pc (pc' := 28) rfl ?_
      exact hR.2.1 rfl _ _ _ _ _ _ dX6_say_28 ⟨_, rfl, h⟩)
  replace h := h (G X 10 M 0 0 20 [(0, .ref a0), (1, .int p0), (2, .int p1)] [.ref a0]) (by
    intro h
    refine g_iconst (v := 1) hC dX6_say_20 (by decide) ?_
    exact h)
  refine g_if_eq hC 20 dX6_say_6 (by decide) (fun c87 => ?_) (fun c87 => ?_)
  · replace h := h.1 c87
    exact h
  · replace h := h.2 c87
    refine g_iload_n hC 2 dX6_say_9 rfl ?_
    refine g_callS hC (As := [.int p1]) (fun l D dA ht => s_X6_isChannel l D dA ht _ _ _ h) wm_4_124 wm_4_122 wm_4_123 wm_1_7 (by decide +kernel : plainY yX6_isChannel 1) dX6_say_10 (by decide) (Nat.le_of_ble_eq_true rfl) (Or.inl ⟨rfl, rfl⟩) ?_
    intro M9 v9 h
    obtain ⟨x85, rfl, h⟩ := h
    obtain ⟨hM9, h⟩ := h
    rw [hM9]
    show G X 10 M 0 0 13 [(0, .ref a0), (1, .int p0), (2, .int p1)] [.int x85, .ref a0]
    refine g_pc (pc' := 13) rfl ?_
    refine g_if_eq hC 20 dX6_say_13 (by decide) (fun c86 => ?_) (fun c86 => ?_)
    · replace h := h.1 c86
      exact h
    · replace h := h.2 c86
      refine g_iconst (v := 0) hC dX6_say_16 (by decide) ?_
      refine g_goto hC 21 dX6_say_17 (by decide) ?_
      exact h

def w_X6_users (M : Mem) (a0 : Nat) (post : Mem → Int32 → Prop) : Prop :=
  gT M a0 = some (6, 0) ∧ ∀ M2, M2 = sI M a0 0 0 → gT M2 a0 = some (6, 0) ∧ post M2 (gI M2 a0 2)
set_option maxRecDepth 100000 in
set_option maxHeartbeats 8000000 in
theorem s_X6_users (l : Launch) (D : va_G) (dA : Nat → ClassId) (htr : l.stackTraces = false) (M : Mem) (a0 : Nat) (post : Mem → Int32 → Prop) (h : w_X6_users M a0 post) : CtN l D dA yX6_users cX6_users 1 (some .int) 1 [.ref a0] M 0 0 (pI post) := by
  refine ct_ofN htr (by decide) (Nat.le_of_ble_eq_true rfl) ?_
  intro X hC hN hR
  show G X 1 M 0 0 0 [(0, .ref a0)] []
  unfold w_X6_users at h
  refine g_aload_n (r := (some a0)) hC 0 dX6_users_0 rfl ?_
  refine g_iconst (v := 0) hC dX6_users_1 (by decide) ?_
  obtain ⟨hc1, h⟩ := h
  refine g_putI hC kc6 0 (by decide) wm_3_146 dX6_users_2 rfl rfl (Or.inl rfl) hc1 ?_
  obtain ⟨M2, eM2⟩ : ∃ w, w = sI M a0 0 0 := ⟨_, rfl⟩
  replace h := h M2 eM2
  rw [← eM2]
  refine g_aload_n (r := (some a0)) hC 0 dX6_users_5 rfl ?_
  obtain ⟨hc3, h⟩ := h
  refine g_getI hC kc6 2 (by decide) wm_3_148 dX6_users_6 rfl hc3 ?_
  exact hR.2.1 rfl _ _ _ _ _ _ dX6_users_9 ⟨_, rfl, h⟩

def w_X6_clock (M : Mem) (a0 : Nat) (post : Mem → Int32 → Prop) : Prop :=
  gT M a0 = some (6, 0) ∧ ∀ M2, M2 = sI M a0 0 0 → gT M2 a0 = some (6, 0) ∧ post M2 (gI M2 a0 1)
set_option maxRecDepth 100000 in
set_option maxHeartbeats 8000000 in
theorem s_X6_clock (l : Launch) (D : va_G) (dA : Nat → ClassId) (htr : l.stackTraces = false) (M : Mem) (a0 : Nat) (post : Mem → Int32 → Prop) (h : w_X6_clock M a0 post) : CtN l D dA yX6_clock cX6_clock 1 (some .int) 1 [.ref a0] M 0 0 (pI post) := by
  refine ct_ofN htr (by decide) (Nat.le_of_ble_eq_true rfl) ?_
  intro X hC hN hR
  show G X 1 M 0 0 0 [(0, .ref a0)] []
  unfold w_X6_clock at h
  refine g_aload_n (r := (some a0)) hC 0 dX6_clock_0 rfl ?_
  refine g_iconst (v := 0) hC dX6_clock_1 (by decide) ?_
  obtain ⟨hc1, h⟩ := h
  refine g_putI hC kc6 0 (by decide) wm_3_146 dX6_clock_2 rfl rfl (Or.inl rfl) hc1 ?_
  obtain ⟨M2, eM2⟩ : ∃ w, w = sI M a0 0 0 := ⟨_, rfl⟩
  replace h := h M2 eM2
  rw [← eM2]
  refine g_aload_n (r := (some a0)) hC 0 dX6_clock_5 rfl ?_
  obtain ⟨hc3, h⟩ := h
  refine g_getI hC kc6 1 (by decide) wm_3_147 dX6_clock_6 rfl hc3 ?_
  exact hR.2.1 rfl _ _ _ _ _ _ dX6_clock_9 ⟨_, rfl, h⟩

def w_X6_known (M : Mem) (a0 : Nat) (p0 : Int32) (post : Mem → Int32 → Prop) : Prop :=
  w_X6_isServer M p0 (fun x1 => ∀ J3 : Int32 → Prop, (∀ (x2 : Int32), (gT M a0 = some (6, 0) ∧ w_X6_holds M a0 x2 (fun M5 x6 => ∀ J8 : Int32 → Prop, (∀ (x7 : Int32), (post M5 x7) → J8 x7) → ((x6 = 0 → J8 0) ∧ (¬ (x6 = 0) → gT M5 a0 = some (6, 0) ∧ ∃ b10, gR M5 a0 7 = some b10 ∧ inA M5 b10 10 p0 ∧ J8 (gI M5 b10 (Int32.toNatClampNeg p0)))))) → J3 x2) → ((x1 = 0 → J3 1) ∧ (¬ (x1 = 0) → J3 0)))
set_option maxRecDepth 100000 in
set_option maxHeartbeats 8000000 in
theorem s_X6_known (l : Launch) (D : va_G) (dA : Nat → ClassId) (htr : l.stackTraces = false) (M : Mem) (a0 : Nat) (p0 : Int32) (post : Mem → Int32 → Prop) (h : w_X6_known M a0 p0 post) : CtN l D dA yX6_known cX6_known 2 (some .int) 2 [.ref a0, .int p0] M 0 0 (pI post) := by
  refine ct_ofN htr (by decide) (Nat.le_of_ble_eq_true rfl) ?_
  intro X hC hN hR
  show G X 2 M 0 0 0 [(0, .ref a0), (1, .int p0)] []
  unfold w_X6_known at h
  refine g_aload_n (r := (some a0)) hC 0 dX6_known_0 rfl ?_
  refine g_iload_n hC 1 dX6_known_1 rfl ?_
  refine g_callS hC (As := [.int p0]) (fun l D dA ht => s_X6_isServer l D dA ht _ _ _ h) wm_4_4 wm_4_2 wm_4_3 wm_1_7 (by decide +kernel : plainY yX6_isServer 1) dX6_known_2 (by decide) (Nat.le_of_ble_eq_true rfl) (Or.inl ⟨rfl, rfl⟩) ?_
  intro M9 v9 h
  obtain ⟨x1, rfl, h⟩ := h
  obtain ⟨hM9, h⟩ := h
  rw [hM9]
  show G X 2 M 0 0 5 [(0, .ref a0), (1, .int p0)] [.int x1, .ref a0]
  replace h := h (fun (x2 : Int32) => G X 2 M 0 0 13 [(0, .ref a0), (1, .int p0)] [.int x2, .ref a0]) (by
    intro x2 h
    show G X 2 M 0 0 13 [(0, .ref a0), (1, .int p0)] [.int x2, .ref a0]
    obtain ⟨hc4, h⟩ := h
    refine g_callV hC (As := [.int x2]) (fun l D dA ht => s_X6_holds l D dA ht _ _ _ _ h) wm_4_15 wm_4_12 wm_4_14 wm_0_17 wm_1_7 (by decide +kernel : plainY yX6_holds 1) kc6.1 kc6.2.1 dX6_known_13 (by decide) (Nat.le_of_ble_eq_true rfl) hc4 (Or.inl ⟨rfl, rfl⟩) ?_
    intro M9 v9 h
    obtain ⟨x6, rfl, h⟩ := h
    generalize M9 = M5 at h ⊢
    show G X 2 M5 0 0 16 [(0, .ref a0), (1, .int p0)] [.int x6]
    replace h := h (fun (x7 : Int32) => G X 2 M5 0 0 29 [(0, .ref a0), (1, .int p0)] [.int x7]) (by
      intro x7 h
      show G X 2 M5 0 0 29 [(0, .ref a0), (1, .int p0)] [.int x7]
      exact hR.2.1 rfl _ _ _ _ _ _ dX6_known_29 ⟨_, rfl, h⟩)
    refine g_if_eq hC 28 dX6_known_16 (by decide) (fun c12 => ?_) (fun c12 => ?_)
    · replace h := h.1 c12
      refine g_iconst (v := 0) hC dX6_known_28 (by decide) ?_
      exact h
    · replace h := h.2 c12
      refine g_aload_n (r := (some a0)) hC 0 dX6_known_19 rfl ?_
      obtain ⟨hc9, h⟩ := h
      obtain ⟨b10, eb10, h⟩ := h
      refine g_getA hC kc6 7 (by decide) wm_3_153 dX6_known_20 rfl hc9 eb10 ?_
      refine g_pc (pc' := 23) rfl ?_
      refine g_iload_n hC 1 dX6_known_23 rfl ?_
      obtain ⟨hc11, h⟩ := h
      refine g_ialdA hC dX6_known_24 hc11 ?_
      refine g_goto hC 29 dX6_known_25 (by decide) ?_
      exact h)
  refine g_if_eq hC 12 dX6_known_5 (by decide) (fun c13 => ?_) (fun c13 => ?_)
  · replace h := h.1 c13
    refine g_iconst (v := 1) hC dX6_known_12 (by decide) ?_
    exact h
  · replace h := h.2 c13
    refine g_iconst (v := 0) hC dX6_known_8 (by decide) ?_
    refine g_goto hC 13 dX6_known_9 (by decide) ?_
    exact h

def w_X6_isView (M : Mem) (a0 : Nat) (p0 : Int32) (p1 : Int32) (post : Mem → Int32 → Prop) : Prop :=
  w_X6_isServer M p0 (fun x1 => ∀ J3 : Int32 → Prop, (∀ (x2 : Int32), (gT M a0 = some (6, 0) ∧ w_X6_holds M a0 x2 (fun M5 x6 => ((x6 : Int32) = 0 ∨ (x6 : Int32) = 1) ∧ post M5 x6)) → J3 x2) → (∀ J7 : Prop, ((J3 1) → J7) → ((x1 = 0 → J7) ∧ (¬ (x1 = 0) → w_X6_isChannel M p1 (fun x8 => (x8 = 0 → J7) ∧ (¬ (x8 = 0) → J3 0))))))
set_option maxRecDepth 100000 in
set_option maxHeartbeats 8000000 in
theorem s_X6_isView (l : Launch) (D : va_G) (dA : Nat → ClassId) (htr : l.stackTraces = false) (M : Mem) (a0 : Nat) (p0 : Int32) (p1 : Int32) (post : Mem → Int32 → Prop) (h : w_X6_isView M a0 p0 p1 post) : CtN l D dA yX6_isView cX6_isView 3 (some .boolean) 2 [.ref a0, .int p0, .int p1] M 0 0 (pI post) := by
  refine ct_ofN htr (by decide) (Nat.le_of_ble_eq_true rfl) ?_
  intro X hC hN hR
  show G X 3 M 0 0 0 [(0, .ref a0), (1, .int p0), (2, .int p1)] []
  unfold w_X6_isView at h
  refine g_aload_n (r := (some a0)) hC 0 dX6_isView_0 rfl ?_
  refine g_iload_n hC 1 dX6_isView_1 rfl ?_
  refine g_callS hC (As := [.int p0]) (fun l D dA ht => s_X6_isServer l D dA ht _ _ _ h) wm_4_4 wm_4_2 wm_4_3 wm_1_7 (by decide +kernel : plainY yX6_isServer 1) dX6_isView_2 (by decide) (Nat.le_of_ble_eq_true rfl) (Or.inl ⟨rfl, rfl⟩) ?_
  intro M9 v9 h
  obtain ⟨x1, rfl, h⟩ := h
  obtain ⟨hM9, h⟩ := h
  rw [hM9]
  show G X 3 M 0 0 5 [(0, .ref a0), (1, .int p0), (2, .int p1)] [.int x1, .ref a0]
  replace h := h (fun (x2 : Int32) => G X 3 M 0 0 20 [(0, .ref a0), (1, .int p0), (2, .int p1)] [.int x2, .ref a0]) (by
    intro x2 h
    show G X 3 M 0 0 20 [(0, .ref a0), (1, .int p0), (2, .int p1)] [.int x2, .ref a0]
    obtain ⟨hc4, h⟩ := h
    refine g_callV hC (As := [.int x2]) (fun l D dA ht => s_X6_holds l D dA ht _ _ _ _ h) wm_4_15 wm_4_12 wm_4_14 wm_0_17 wm_1_7 (by decide +kernel : plainY yX6_holds 1) kc6.1 kc6.2.1 dX6_isView_20 (by decide) (Nat.le_of_ble_eq_true rfl) hc4 (Or.inl ⟨rfl, rfl⟩) ?_
    intro M9 v9 h
    obtain ⟨x6, rfl, h⟩ := h
    generalize M9 = M5 at h ⊢
    show G X 3 M5 0 0 23 [(0, .ref a0), (1, .int p0), (2, .int p1)] [.int x6]
    exact hR.2.2.1 rfl _ _ _ _ _ _ dX6_isView_23 ⟨h.1, ⟨_, rfl, h.2⟩⟩)
  replace h := h (G X 3 M 0 0 19 [(0, .ref a0), (1, .int p0), (2, .int p1)] [.ref a0]) (by
    intro h
    refine g_iconst (v := 1) hC dX6_isView_19 (by decide) ?_
    exact h)
  refine g_if_eq hC 19 dX6_isView_5 (by decide) (fun c10 => ?_) (fun c10 => ?_)
  · replace h := h.1 c10
    exact h
  · replace h := h.2 c10
    refine g_iload_n hC 2 dX6_isView_8 rfl ?_
    refine g_callS hC (As := [.int p1]) (fun l D dA ht => s_X6_isChannel l D dA ht _ _ _ h) wm_4_124 wm_4_122 wm_4_123 wm_1_7 (by decide +kernel : plainY yX6_isChannel 1) dX6_isView_9 (by decide) (Nat.le_of_ble_eq_true rfl) (Or.inl ⟨rfl, rfl⟩) ?_
    intro M9 v9 h
    obtain ⟨x8, rfl, h⟩ := h
    obtain ⟨hM9, h⟩ := h
    rw [hM9]
    show G X 3 M 0 0 12 [(0, .ref a0), (1, .int p0), (2, .int p1)] [.int x8, .ref a0]
    refine g_if_eq hC 19 dX6_isView_12 (by decide) (fun c9 => ?_) (fun c9 => ?_)
    · replace h := h.1 c9
      exact h
    · replace h := h.2 c9
      refine g_pc (pc' := 15) rfl ?_
      refine g_iconst (v := 0) hC dX6_isView_15 (by decide) ?_
      refine g_goto hC 20 dX6_isView_16 (by decide) ?_
      exact h

def w_X6_members (M : Mem) (a0 : Nat) (p0 : Int32) (p1 : Int32) (post : Mem → Int32 → Prop) : Prop :=
  gT M a0 = some (6, 0) ∧ w_X6_isView M a0 p0 p1 (fun M2 x3 => ∀ J5 : Int32 → Prop, (∀ (x4 : Int32), (post M2 x4) → J5 x4) → (∀ J6 : Prop, ((J5 0) → J6) → ((x3 = 0 → J6) ∧ (¬ (x3 = 0) → gT M2 a0 = some (6, 0) ∧ ∃ b8, gR M2 a0 8 = some b8 ∧ w_X6_at M2 p0 p1 (fun x9 => inA M2 b8 10 x9 ∧ (gI M2 b8 (Int32.toNatClampNeg x9) = (-1) → J6) ∧ (¬ (gI M2 b8 (Int32.toNatClampNeg x9) = (-1)) → gT M2 a0 = some (6, 0) ∧ ∃ b12, gR M2 a0 11 = some b12 ∧ w_X6_at M2 p0 p1 (fun x13 => inA M2 b12 10 x13 ∧ J5 (gI M2 b12 (Int32.toNatClampNeg x13)))))))))
set_option maxRecDepth 100000 in
set_option maxHeartbeats 8000000 in
theorem s_X6_members (l : Launch) (D : va_G) (dA : Nat → ClassId) (htr : l.stackTraces = false) (M : Mem) (a0 : Nat) (p0 : Int32) (p1 : Int32) (post : Mem → Int32 → Prop) (h : w_X6_members M a0 p0 p1 post) : CtN l D dA yX6_members cX6_members 3 (some .int) 3 [.ref a0, .int p0, .int p1] M 0 0 (pI post) := by
  refine ct_ofN htr (by decide) (Nat.le_of_ble_eq_true rfl) ?_
  intro X hC hN hR
  show G X 3 M 0 0 0 [(0, .ref a0), (1, .int p0), (2, .int p1)] []
  unfold w_X6_members at h
  refine g_aload_n (r := (some a0)) hC 0 dX6_members_0 rfl ?_
  refine g_iload_n hC 1 dX6_members_1 rfl ?_
  refine g_iload_n hC 2 dX6_members_2 rfl ?_
  obtain ⟨hc1, h⟩ := h
  refine g_callV hC (As := [.int p0, .int p1]) (fun l D dA ht => s_X6_isView l D dA ht _ _ _ _ _ h) wm_4_180 wm_4_177 wm_4_179 wm_0_40 wm_1_7 (by decide +kernel : plainY yX6_isView 2) kc6.1 kc6.2.1 dX6_members_3 (by decide) (Nat.le_of_ble_eq_true rfl) hc1 (Or.inl ⟨rfl, rfl⟩) ?_
  intro M9 v9 h
  obtain ⟨x3, rfl, h⟩ := h
  generalize M9 = M2 at h ⊢
  show G X 3 M2 0 0 6 [(0, .ref a0), (1, .int p0), (2, .int p1)] [.int x3]
  replace h := h (fun (x4 : Int32) => G X 3 M2 0 0 37 [(0, .ref a0), (1, .int p0), (2, .int p1)] [.int x4]) (by
    intro x4 h
    show G X 3 M2 0 0 37 [(0, .ref a0), (1, .int p0), (2, .int p1)] [.int x4]
    exact hR.2.1 rfl _ _ _ _ _ _ dX6_members_37 ⟨_, rfl, h⟩)
  replace h := h (G X 3 M2 0 0 36 [(0, .ref a0), (1, .int p0), (2, .int p1)] []) (by
    intro h
    refine g_iconst (v := 0) hC dX6_members_36 (by decide) ?_
    exact h)
  refine g_if_eq hC 36 dX6_members_6 (by decide) (fun c16 => ?_) (fun c16 => ?_)
  · replace h := h.1 c16
    exact h
  · replace h := h.2 c16
    refine g_aload_n (r := (some a0)) hC 0 dX6_members_9 rfl ?_
    obtain ⟨hc7, h⟩ := h
    obtain ⟨b8, eb8, h⟩ := h
    refine g_getA hC kc6 8 (by decide) wm_3_154 dX6_members_10 rfl hc7 eb8 ?_
    refine g_pc (pc' := 13) rfl ?_
    refine g_iload_n hC 1 dX6_members_13 rfl ?_
    refine g_iload_n hC 2 dX6_members_14 rfl ?_
    refine g_callS hC (As := [.int p0, .int p1]) (fun l D dA ht => s_X6_at l D dA ht _ _ _ _ h) wm_4_30 wm_4_28 wm_4_29 wm_1_7 (by decide +kernel : plainY yX6_at 2) dX6_members_15 (by decide) (Nat.le_of_ble_eq_true rfl) (Or.inl ⟨rfl, rfl⟩) ?_
    intro M9 v9 h
    obtain ⟨x9, rfl, h⟩ := h
    obtain ⟨hM9, h⟩ := h
    rw [hM9]
    show G X 3 M2 0 0 18 [(0, .ref a0), (1, .int p0), (2, .int p1)] [.int x9, .ref b8]
    obtain ⟨hc10, h⟩ := h
    refine g_ialdA hC dX6_members_18 hc10 ?_
    refine g_iconst (v := (-1)) hC dX6_members_19 (by decide) ?_
    refine g_icmp_eq hC 36 dX6_members_20 (by decide) (fun c15 => ?_) (fun c15 => ?_)
    · replace h := h.1 c15
      exact h
    · replace h := h.2 c15
      refine g_aload_n (r := (some a0)) hC 0 dX6_members_23 rfl ?_
      obtain ⟨hc11, h⟩ := h
      obtain ⟨b12, eb12, h⟩ := h
      refine g_getA hC kc6 11 (by decide) wm_3_157 dX6_members_24 rfl hc11 eb12 ?_
      refine g_pc (pc' := 27) rfl ?_
      refine g_iload_n hC 1 dX6_members_27 rfl ?_
      refine g_iload_n hC 2 dX6_members_28 rfl ?_
      refine g_callS hC (As := [.int p0, .int p1]) (fun l D dA ht => s_X6_at l D dA ht _ _ _ _ h) wm_4_30 wm_4_28 wm_4_29 wm_1_7 (by decide +kernel : plainY yX6_at 2) dX6_members_29 (by decide) (Nat.le_of_ble_eq_true rfl) (Or.inl ⟨rfl, rfl⟩) ?_
      intro M9 v9 h
      obtain ⟨x13, rfl, h⟩ := h
      obtain ⟨hM9, h⟩ := h
      rw [hM9]
      show G X 3 M2 0 0 32 [(0, .ref a0), (1, .int p0), (2, .int p1)] [.int x13, .ref b12]
      obtain ⟨hc14, h⟩ := h
      refine g_ialdA hC dX6_members_32 hc14 ?_
      refine g_goto hC 37 dX6_members_33 (by decide) ?_
      exact h

def w_X6_age (M : Mem) (a0 : Nat) (p0 : Int32) (p1 : Int32) (post : Mem → Int32 → Prop) : Prop :=
  gT M a0 = some (6, 0) ∧ w_X6_isView M a0 p0 p1 (fun M2 x3 => ∀ J5 : Int32 → Prop, (∀ (x4 : Int32), (post M2 x4) → J5 x4) → ((x3 = 0 → J5 0) ∧ (¬ (x3 = 0) → gT M2 a0 = some (6, 0) ∧ ∃ b7, gR M2 a0 8 = some b7 ∧ w_X6_at M2 p0 p1 (fun x8 => inA M2 b7 10 x8 ∧ J5 (gI M2 b7 (Int32.toNatClampNeg x8))))))
set_option maxRecDepth 100000 in
set_option maxHeartbeats 8000000 in
theorem s_X6_age (l : Launch) (D : va_G) (dA : Nat → ClassId) (htr : l.stackTraces = false) (M : Mem) (a0 : Nat) (p0 : Int32) (p1 : Int32) (post : Mem → Int32 → Prop) (h : w_X6_age M a0 p0 p1 post) : CtN l D dA yX6_age cX6_age 3 (some .int) 3 [.ref a0, .int p0, .int p1] M 0 0 (pI post) := by
  refine ct_ofN htr (by decide) (Nat.le_of_ble_eq_true rfl) ?_
  intro X hC hN hR
  show G X 3 M 0 0 0 [(0, .ref a0), (1, .int p0), (2, .int p1)] []
  unfold w_X6_age at h
  refine g_aload_n (r := (some a0)) hC 0 dX6_age_0 rfl ?_
  refine g_iload_n hC 1 dX6_age_1 rfl ?_
  refine g_iload_n hC 2 dX6_age_2 rfl ?_
  obtain ⟨hc1, h⟩ := h
  refine g_callV hC (As := [.int p0, .int p1]) (fun l D dA ht => s_X6_isView l D dA ht _ _ _ _ _ h) wm_4_180 wm_4_177 wm_4_179 wm_0_40 wm_1_7 (by decide +kernel : plainY yX6_isView 2) kc6.1 kc6.2.1 dX6_age_3 (by decide) (Nat.le_of_ble_eq_true rfl) hc1 (Or.inl ⟨rfl, rfl⟩) ?_
  intro M9 v9 h
  obtain ⟨x3, rfl, h⟩ := h
  generalize M9 = M2 at h ⊢
  show G X 3 M2 0 0 6 [(0, .ref a0), (1, .int p0), (2, .int p1)] [.int x3]
  replace h := h (fun (x4 : Int32) => G X 3 M2 0 0 23 [(0, .ref a0), (1, .int p0), (2, .int p1)] [.int x4]) (by
    intro x4 h
    show G X 3 M2 0 0 23 [(0, .ref a0), (1, .int p0), (2, .int p1)] [.int x4]
    exact hR.2.1 rfl _ _ _ _ _ _ dX6_age_23 ⟨_, rfl, h⟩)
  refine g_if_eq hC 22 dX6_age_6 (by decide) (fun c10 => ?_) (fun c10 => ?_)
  · replace h := h.1 c10
    refine g_iconst (v := 0) hC dX6_age_22 (by decide) ?_
    exact h
  · replace h := h.2 c10
    refine g_aload_n (r := (some a0)) hC 0 dX6_age_9 rfl ?_
    obtain ⟨hc6, h⟩ := h
    obtain ⟨b7, eb7, h⟩ := h
    refine g_getA hC kc6 8 (by decide) wm_3_154 dX6_age_10 rfl hc6 eb7 ?_
    refine g_pc (pc' := 13) rfl ?_
    refine g_iload_n hC 1 dX6_age_13 rfl ?_
    refine g_iload_n hC 2 dX6_age_14 rfl ?_
    refine g_callS hC (As := [.int p0, .int p1]) (fun l D dA ht => s_X6_at l D dA ht _ _ _ _ h) wm_4_30 wm_4_28 wm_4_29 wm_1_7 (by decide +kernel : plainY yX6_at 2) dX6_age_15 (by decide) (Nat.le_of_ble_eq_true rfl) (Or.inl ⟨rfl, rfl⟩) ?_
    intro M9 v9 h
    obtain ⟨x8, rfl, h⟩ := h
    obtain ⟨hM9, h⟩ := h
    rw [hM9]
    show G X 3 M2 0 0 18 [(0, .ref a0), (1, .int p0), (2, .int p1)] [.int x8, .ref b7]
    obtain ⟨hc9, h⟩ := h
    refine g_ialdA hC dX6_age_18 hc9 ?_
    refine g_goto hC 23 dX6_age_19 (by decide) ?_
    exact h

def w_X6_modes (M : Mem) (a0 : Nat) (p0 : Int32) (p1 : Int32) (post : Mem → Int32 → Prop) : Prop :=
  gT M a0 = some (6, 0) ∧ w_X6_isView M a0 p0 p1 (fun M2 x3 => (x3 = 0 → post M2 0) ∧ (¬ (x3 = 0) → gT M2 a0 = some (6, 0) ∧ ∃ b5, gR M2 a0 8 = some b5 ∧ w_X6_at M2 p0 p1 (fun x6 => inA M2 b5 10 x6 ∧ ∀ J9 : Int32 → Prop, (∀ (x8 : Int32), (post M2 x8) → J9 x8) → ((gI M2 b5 (Int32.toNatClampNeg x6) = (-1) → J9 ((-1))) ∧ (¬ (gI M2 b5 (Int32.toNatClampNeg x6) = (-1)) → gT M2 a0 = some (6, 0) ∧ ∃ b11, gR M2 a0 9 = some b11 ∧ w_X6_at M2 p0 p1 (fun x12 => inA M2 b11 10 x12 ∧ J9 (gI M2 b11 (Int32.toNatClampNeg x12))))))))
set_option maxRecDepth 100000 in
set_option maxHeartbeats 8000000 in
theorem s_X6_modes (l : Launch) (D : va_G) (dA : Nat → ClassId) (htr : l.stackTraces = false) (M : Mem) (a0 : Nat) (p0 : Int32) (p1 : Int32) (post : Mem → Int32 → Prop) (h : w_X6_modes M a0 p0 p1 post) : CtN l D dA yX6_modes cX6_modes 3 (some .int) 3 [.ref a0, .int p0, .int p1] M 0 0 (pI post) := by
  refine ct_ofN htr (by decide) (Nat.le_of_ble_eq_true rfl) ?_
  intro X hC hN hR
  show G X 3 M 0 0 0 [(0, .ref a0), (1, .int p0), (2, .int p1)] []
  unfold w_X6_modes at h
  refine g_aload_n (r := (some a0)) hC 0 dX6_modes_0 rfl ?_
  refine g_iload_n hC 1 dX6_modes_1 rfl ?_
  refine g_iload_n hC 2 dX6_modes_2 rfl ?_
  obtain ⟨hc1, h⟩ := h
  refine g_callV hC (As := [.int p0, .int p1]) (fun l D dA ht => s_X6_isView l D dA ht _ _ _ _ _ h) wm_4_180 wm_4_177 wm_4_179 wm_0_40 wm_1_7 (by decide +kernel : plainY yX6_isView 2) kc6.1 kc6.2.1 dX6_modes_3 (by decide) (Nat.le_of_ble_eq_true rfl) hc1 (Or.inl ⟨rfl, rfl⟩) ?_
  intro M9 v9 h
  obtain ⟨x3, rfl, h⟩ := h
  generalize M9 = M2 at h ⊢
  show G X 3 M2 0 0 6 [(0, .ref a0), (1, .int p0), (2, .int p1)] [.int x3]
  refine g_if_ne hC 11 dX6_modes_6 (by decide) (fun c15 => ?_) (fun c15 => ?_)
  · replace h := h.2 c15
    refine g_aload_n (r := (some a0)) hC 0 dX6_modes_11 rfl ?_
    obtain ⟨hc4, h⟩ := h
    obtain ⟨b5, eb5, h⟩ := h
    refine g_getA hC kc6 8 (by decide) wm_3_154 dX6_modes_12 rfl hc4 eb5 ?_
    refine g_pc (pc' := 15) rfl ?_
    refine g_iload_n hC 1 dX6_modes_15 rfl ?_
    refine g_iload_n hC 2 dX6_modes_16 rfl ?_
    refine g_callS hC (As := [.int p0, .int p1]) (fun l D dA ht => s_X6_at l D dA ht _ _ _ _ h) wm_4_30 wm_4_28 wm_4_29 wm_1_7 (by decide +kernel : plainY yX6_at 2) dX6_modes_17 (by decide) (Nat.le_of_ble_eq_true rfl) (Or.inl ⟨rfl, rfl⟩) ?_
    intro M9 v9 h
    obtain ⟨x6, rfl, h⟩ := h
    obtain ⟨hM9, h⟩ := h
    rw [hM9]
    show G X 3 M2 0 0 20 [(0, .ref a0), (1, .int p0), (2, .int p1)] [.int x6, .ref b5]
    obtain ⟨hc7, h⟩ := h
    refine g_ialdA hC dX6_modes_20 hc7 ?_
    refine g_iconst (v := (-1)) hC dX6_modes_21 (by decide) ?_
    replace h := h (fun (x8 : Int32) => G X 3 M2 0 0 39 [(0, .ref a0), (1, .int p0), (2, .int p1)] [.int x8]) (by
      intro x8 h
      show G X 3 M2 0 0 39 [(0, .ref a0), (1, .int p0), (2, .int p1)] [.int x8]
      exact hR.2.1 rfl _ _ _ _ _ _ dX6_modes_39 ⟨_, rfl, h⟩)
    refine g_icmp_ne hC 29 dX6_modes_22 (by decide) (fun c14 => ?_) (fun c14 => ?_)
    · replace h := h.2 c14
      refine g_aload_n (r := (some a0)) hC 0 dX6_modes_29 rfl ?_
      obtain ⟨hc10, h⟩ := h
      obtain ⟨b11, eb11, h⟩ := h
      refine g_getA hC kc6 9 (by decide) wm_3_155 dX6_modes_30 rfl hc10 eb11 ?_
      refine g_pc (pc' := 33) rfl ?_
      refine g_iload_n hC 1 dX6_modes_33 rfl ?_
      refine g_iload_n hC 2 dX6_modes_34 rfl ?_
      refine g_callS hC (As := [.int p0, .int p1]) (fun l D dA ht => s_X6_at l D dA ht _ _ _ _ h) wm_4_30 wm_4_28 wm_4_29 wm_1_7 (by decide +kernel : plainY yX6_at 2) dX6_modes_35 (by decide) (Nat.le_of_ble_eq_true rfl) (Or.inl ⟨rfl, rfl⟩) ?_
      intro M9 v9 h
      obtain ⟨x12, rfl, h⟩ := h
      obtain ⟨hM9, h⟩ := h
      rw [hM9]
      show G X 3 M2 0 0 38 [(0, .ref a0), (1, .int p0), (2, .int p1)] [.int x12, .ref b11]
      obtain ⟨hc13, h⟩ := h
      refine g_ialdA hC dX6_modes_38 hc13 ?_
      exact h
    · replace h := h.1 c14
      refine g_iconst (v := (-1)) hC dX6_modes_25 (by decide) ?_
      refine g_goto hC 39 dX6_modes_26 (by decide) ?_
      exact h
  · replace h := h.1 c15
    refine g_iconst (v := 0) hC dX6_modes_9 (by decide) ?_
    exact hR.2.1 rfl _ _ _ _ _ _ dX6_modes_10 ⟨_, rfl, h⟩

def w_X6_bans (M : Mem) (a0 : Nat) (p0 : Int32) (p1 : Int32) (post : Mem → Int32 → Prop) : Prop :=
  gT M a0 = some (6, 0) ∧ w_X6_isView M a0 p0 p1 (fun M2 x3 => (x3 = 0 → post M2 0) ∧ (¬ (x3 = 0) → gT M2 a0 = some (6, 0) ∧ ∃ b5, gR M2 a0 8 = some b5 ∧ w_X6_at M2 p0 p1 (fun x6 => inA M2 b5 10 x6 ∧ ∀ J9 : Int32 → Prop, (∀ (x8 : Int32), (post M2 x8) → J9 x8) → ((gI M2 b5 (Int32.toNatClampNeg x6) = (-1) → J9 ((-1))) ∧ (¬ (gI M2 b5 (Int32.toNatClampNeg x6) = (-1)) → gT M2 a0 = some (6, 0) ∧ ∃ b11, gR M2 a0 10 = some b11 ∧ w_X6_at M2 p0 p1 (fun x12 => inA M2 b11 10 x12 ∧ J9 (gI M2 b11 (Int32.toNatClampNeg x12))))))))
set_option maxRecDepth 100000 in
set_option maxHeartbeats 8000000 in
theorem s_X6_bans (l : Launch) (D : va_G) (dA : Nat → ClassId) (htr : l.stackTraces = false) (M : Mem) (a0 : Nat) (p0 : Int32) (p1 : Int32) (post : Mem → Int32 → Prop) (h : w_X6_bans M a0 p0 p1 post) : CtN l D dA yX6_bans cX6_bans 3 (some .int) 3 [.ref a0, .int p0, .int p1] M 0 0 (pI post) := by
  refine ct_ofN htr (by decide) (Nat.le_of_ble_eq_true rfl) ?_
  intro X hC hN hR
  show G X 3 M 0 0 0 [(0, .ref a0), (1, .int p0), (2, .int p1)] []
  unfold w_X6_bans at h
  refine g_aload_n (r := (some a0)) hC 0 dX6_bans_0 rfl ?_
  refine g_iload_n hC 1 dX6_bans_1 rfl ?_
  refine g_iload_n hC 2 dX6_bans_2 rfl ?_
  obtain ⟨hc1, h⟩ := h
  refine g_callV hC (As := [.int p0, .int p1]) (fun l D dA ht => s_X6_isView l D dA ht _ _ _ _ _ h) wm_4_180 wm_4_177 wm_4_179 wm_0_40 wm_1_7 (by decide +kernel : plainY yX6_isView 2) kc6.1 kc6.2.1 dX6_bans_3 (by decide) (Nat.le_of_ble_eq_true rfl) hc1 (Or.inl ⟨rfl, rfl⟩) ?_
  intro M9 v9 h
  obtain ⟨x3, rfl, h⟩ := h
  generalize M9 = M2 at h ⊢
  show G X 3 M2 0 0 6 [(0, .ref a0), (1, .int p0), (2, .int p1)] [.int x3]
  refine g_if_ne hC 11 dX6_bans_6 (by decide) (fun c15 => ?_) (fun c15 => ?_)
  · replace h := h.2 c15
    refine g_aload_n (r := (some a0)) hC 0 dX6_bans_11 rfl ?_
    obtain ⟨hc4, h⟩ := h
    obtain ⟨b5, eb5, h⟩ := h
    refine g_getA hC kc6 8 (by decide) wm_3_154 dX6_bans_12 rfl hc4 eb5 ?_
    refine g_pc (pc' := 15) rfl ?_
    refine g_iload_n hC 1 dX6_bans_15 rfl ?_
    refine g_iload_n hC 2 dX6_bans_16 rfl ?_
    refine g_callS hC (As := [.int p0, .int p1]) (fun l D dA ht => s_X6_at l D dA ht _ _ _ _ h) wm_4_30 wm_4_28 wm_4_29 wm_1_7 (by decide +kernel : plainY yX6_at 2) dX6_bans_17 (by decide) (Nat.le_of_ble_eq_true rfl) (Or.inl ⟨rfl, rfl⟩) ?_
    intro M9 v9 h
    obtain ⟨x6, rfl, h⟩ := h
    obtain ⟨hM9, h⟩ := h
    rw [hM9]
    show G X 3 M2 0 0 20 [(0, .ref a0), (1, .int p0), (2, .int p1)] [.int x6, .ref b5]
    obtain ⟨hc7, h⟩ := h
    refine g_ialdA hC dX6_bans_20 hc7 ?_
    refine g_iconst (v := (-1)) hC dX6_bans_21 (by decide) ?_
    replace h := h (fun (x8 : Int32) => G X 3 M2 0 0 39 [(0, .ref a0), (1, .int p0), (2, .int p1)] [.int x8]) (by
      intro x8 h
      show G X 3 M2 0 0 39 [(0, .ref a0), (1, .int p0), (2, .int p1)] [.int x8]
      exact hR.2.1 rfl _ _ _ _ _ _ dX6_bans_39 ⟨_, rfl, h⟩)
    refine g_icmp_ne hC 29 dX6_bans_22 (by decide) (fun c14 => ?_) (fun c14 => ?_)
    · replace h := h.2 c14
      refine g_aload_n (r := (some a0)) hC 0 dX6_bans_29 rfl ?_
      obtain ⟨hc10, h⟩ := h
      obtain ⟨b11, eb11, h⟩ := h
      refine g_getA hC kc6 10 (by decide) wm_3_156 dX6_bans_30 rfl hc10 eb11 ?_
      refine g_pc (pc' := 33) rfl ?_
      refine g_iload_n hC 1 dX6_bans_33 rfl ?_
      refine g_iload_n hC 2 dX6_bans_34 rfl ?_
      refine g_callS hC (As := [.int p0, .int p1]) (fun l D dA ht => s_X6_at l D dA ht _ _ _ _ h) wm_4_30 wm_4_28 wm_4_29 wm_1_7 (by decide +kernel : plainY yX6_at 2) dX6_bans_35 (by decide) (Nat.le_of_ble_eq_true rfl) (Or.inl ⟨rfl, rfl⟩) ?_
      intro M9 v9 h
      obtain ⟨x12, rfl, h⟩ := h
      obtain ⟨hM9, h⟩ := h
      rw [hM9]
      show G X 3 M2 0 0 38 [(0, .ref a0), (1, .int p0), (2, .int p1)] [.int x12, .ref b11]
      obtain ⟨hc13, h⟩ := h
      refine g_ialdA hC dX6_bans_38 hc13 ?_
      exact h
    · replace h := h.1 c14
      refine g_iconst (v := (-1)) hC dX6_bans_25 (by decide) ?_
      refine g_goto hC 39 dX6_bans_26 (by decide) ?_
      exact h
  · replace h := h.1 c15
    refine g_iconst (v := 0) hC dX6_bans_9 (by decide) ?_
    exact hR.2.1 rfl _ _ _ _ _ _ dX6_bans_10 ⟨_, rfl, h⟩

def w_X6_areSame (M : Mem) (a0 : Nat) (p0 : Int32) (p1 : Int32) (post : Mem → Int32 → Prop) : Prop :=
  w_X6_isServer M p0 (fun x1 => ∀ J3 : Int32 → Prop, (∀ (x2 : Int32), (gT M a0 = some (6, 0) ∧ w_X6_holds M a0 x2 (fun M5 x6 => (x6 = 0 → ((0 : Int32) = 0 ∨ (0 : Int32) = 1) ∧ post M5 0) ∧ (¬ (x6 = 0) → gT M5 a0 = some (6, 0) ∧ ∃ b8, gR M5 a0 7 = some b8 ∧ inA M5 b8 10 p0 ∧ gT M5 a0 = some (6, 0) ∧ ∃ b11, gR M5 a0 7 = some b11 ∧ inA M5 b11 10 p1 ∧ ∀ J14 : Int32 → Prop, (∀ (x13 : Int32), (Lp (fun (K17 : Int32 × Int32 → Prop) (z : Int32 × Int32) => ∀ (x15 : Int32) (x16 : Int32), z = (x15, x16) → ((4 ≤ x16 → ((x15 : Int32) = 0 ∨ (x15 : Int32) = 1) ∧ post M5 x15) ∧ (¬ (4 ≤ x16) → w_X6_at M5 p0 x16 (fun x18 => w_X6_at M5 p1 x16 (fun x19 => gT M5 a0 = some (6, 0) ∧ ∃ b21, gR M5 a0 9 = some b21 ∧ inA M5 b21 10 x18 ∧ gT M5 a0 = some (6, 0) ∧ ∃ b24, gR M5 a0 9 = some b24 ∧ inA M5 b24 10 x19 ∧ ∀ J27 : Int32 → Prop, (∀ (x26 : Int32), (∀ J29 : Int32 → Prop, (∀ (x28 : Int32), (∀ x30, x30 = x16 + 1 → K17 (x28, x30)) → J29 x28) → (∀ J31 : Prop, ((J29 0) → J31) → ((x15 = 0 → J31) ∧ (¬ (x15 = 0) → gT M5 a0 = some (6, 0) ∧ ∃ b33, gR M5 a0 8 = some b33 ∧ inA M5 b33 10 x18 ∧ gT M5 a0 = some (6, 0) ∧ ∃ b36, gR M5 a0 8 = some b36 ∧ inA M5 b36 10 x19 ∧ (gI M5 b33 (Int32.toNatClampNeg x18) = gI M5 b36 (Int32.toNatClampNeg x19) → gT M5 a0 = some (6, 0) ∧ ∃ b39, gR M5 a0 8 = some b39 ∧ inA M5 b39 10 x18 ∧ ∀ J41 : Prop, ((J29 1) → J41) → ((gI M5 b39 (Int32.toNatClampNeg x18) = (-1) → J41) ∧ (¬ (gI M5 b39 (Int32.toNatClampNeg x18) = (-1)) → (x26 = 0 → J31) ∧ (¬ (x26 = 0) → J41)))) ∧ (¬ (gI M5 b33 (Int32.toNatClampNeg x18) = gI M5 b36 (Int32.toNatClampNeg x19)) → J31))))) → J27 x26) → (∀ J46 : Prop, ((J27 0) → J46) → ((gI M5 b21 (Int32.toNatClampNeg x18) = gI M5 b24 (Int32.toNatClampNeg x19) → gT M5 a0 = some (6, 0) ∧ ∃ b48, gR M5 a0 10 = some b48 ∧ inA M5 b48 10 x18 ∧ gT M5 a0 = some (6, 0) ∧ ∃ b51, gR M5 a0 10 = some b51 ∧ inA M5 b51 10 x19 ∧ (gI M5 b48 (Int32.toNatClampNeg x18) = gI M5 b51 (Int32.toNatClampNeg x19) → gT M5 a0 = some (6, 0) ∧ ∃ b54, gR M5 a0 11 = some b54 ∧ inA M5 b54 10 x18 ∧ gT M5 a0 = some (6, 0) ∧ ∃ b57, gR M5 a0 11 = some b57 ∧ inA M5 b57 10 x19 ∧ (gI M5 b54 (Int32.toNatClampNeg x18) = gI M5 b57 (Int32.toNatClampNeg x19) → J27 1) ∧ (¬ (gI M5 b54 (Int32.toNatClampNeg x18) = gI M5 b57 (Int32.toNatClampNeg x19)) → J46)) ∧ (¬ (gI M5 b48 (Int32.toNatClampNeg x18) = gI M5 b51 (Int32.toNatClampNeg x19)) → J46)) ∧ (¬ (gI M5 b21 (Int32.toNatClampNeg x18) = gI M5 b24 (Int32.toNatClampNeg x19)) → J46)))))))) (x13, 0)) → J14 x13) → ((gI M5 b8 (Int32.toNatClampNeg p0) = gI M5 b11 (Int32.toNatClampNeg p1) → J14 1) ∧ (¬ (gI M5 b8 (Int32.toNatClampNeg p0) = gI M5 b11 (Int32.toNatClampNeg p1)) → J14 0))))) → J3 x2) → (∀ J66 : Prop, ((J3 1) → J66) → ((x1 = 0 → J66) ∧ (¬ (x1 = 0) → w_X6_isServer M p1 (fun x67 => (x67 = 0 → J66) ∧ (¬ (x67 = 0) → J3 0))))))
set_option maxRecDepth 100000 in
set_option maxHeartbeats 8000000 in
theorem s_X6_areSame (l : Launch) (D : va_G) (dA : Nat → ClassId) (htr : l.stackTraces = false) (M : Mem) (a0 : Nat) (p0 : Int32) (p1 : Int32) (post : Mem → Int32 → Prop) (h : w_X6_areSame M a0 p0 p1 post) : CtN l D dA yX6_areSame cX6_areSame 8 (some .boolean) 2 [.ref a0, .int p0, .int p1] M 0 0 (pI post) := by
  refine ct_ofN htr (by decide) (Nat.le_of_ble_eq_true rfl) ?_
  intro X hC hN hR
  show G X 8 M 0 0 0 [(0, .ref a0), (1, .int p0), (2, .int p1)] []
  unfold w_X6_areSame at h
  refine g_aload_n (r := (some a0)) hC 0 dX6_areSame_0 rfl ?_
  refine g_iload_n hC 1 dX6_areSame_1 rfl ?_
  refine g_callS hC (As := [.int p0]) (fun l D dA ht => s_X6_isServer l D dA ht _ _ _ h) wm_4_4 wm_4_2 wm_4_3 wm_1_7 (by decide +kernel : plainY yX6_isServer 1) dX6_areSame_2 (by decide) (Nat.le_of_ble_eq_true rfl) (Or.inl ⟨rfl, rfl⟩) ?_
  intro M9 v9 h
  obtain ⟨x1, rfl, h⟩ := h
  obtain ⟨hM9, h⟩ := h
  rw [hM9]
  show G X 8 M 0 0 5 [(0, .ref a0), (1, .int p0), (2, .int p1)] [.int x1, .ref a0]
  replace h := h (fun (x2 : Int32) => G X 8 M 0 0 20 [(0, .ref a0), (1, .int p0), (2, .int p1)] [.int x2, .ref a0]) (by
    intro x2 h
    show G X 8 M 0 0 20 [(0, .ref a0), (1, .int p0), (2, .int p1)] [.int x2, .ref a0]
    obtain ⟨hc4, h⟩ := h
    refine g_callV hC (As := [.int x2]) (fun l D dA ht => s_X6_holds l D dA ht _ _ _ _ h) wm_4_15 wm_4_12 wm_4_14 wm_0_17 wm_1_7 (by decide +kernel : plainY yX6_holds 1) kc6.1 kc6.2.1 dX6_areSame_20 (by decide) (Nat.le_of_ble_eq_true rfl) hc4 (Or.inl ⟨rfl, rfl⟩) ?_
    intro M9 v9 h
    obtain ⟨x6, rfl, h⟩ := h
    generalize M9 = M5 at h ⊢
    show G X 8 M5 0 0 23 [(0, .ref a0), (1, .int p0), (2, .int p1)] [.int x6]
    refine g_if_ne hC 28 dX6_areSame_23 (by decide) (fun c65 => ?_) (fun c65 => ?_)
    · replace h := h.2 c65
      refine g_aload_n (r := (some a0)) hC 0 dX6_areSame_28 rfl ?_
      obtain ⟨hc7, h⟩ := h
      obtain ⟨b8, eb8, h⟩ := h
      refine g_getA hC kc6 7 (by decide) wm_3_153 dX6_areSame_29 rfl hc7 eb8 ?_
      refine g_pc (pc' := 32) rfl ?_
      refine g_iload_n hC 1 dX6_areSame_32 rfl ?_
      obtain ⟨hc9, h⟩ := h
      refine g_ialdA hC dX6_areSame_33 hc9 ?_
      refine g_aload_n (r := (some a0)) hC 0 dX6_areSame_34 rfl ?_
      obtain ⟨hc10, h⟩ := h
      obtain ⟨b11, eb11, h⟩ := h
      refine g_getA hC kc6 7 (by decide) wm_3_153 dX6_areSame_35 rfl hc10 eb11 ?_
      refine g_iload_n hC 2 dX6_areSame_38 rfl ?_
      obtain ⟨hc12, h⟩ := h
      refine g_ialdA hC dX6_areSame_39 hc12 ?_
      replace h := h (fun (x13 : Int32) => G X 8 M5 0 0 48 [(0, .ref a0), (1, .int p0), (2, .int p1)] [.int x13]) (by
        intro x13 h
        show G X 8 M5 0 0 48 [(0, .ref a0), (1, .int p0), (2, .int p1)] [.int x13]
        refine g_istore_n (lv' := [(3, .int x13), (0, .ref a0), (1, .int p0), (2, .int p1)]) hC dX6_areSame_48 (by decide) rfl ?_
        refine g_iconst (v := 0) hC dX6_areSame_49 (by decide) ?_
        refine g_pc (pc' := 50) rfl ?_
        refine g_istore (lv' := [(4, .int 0), (3, .int x13), (0, .ref a0), (1, .int p0), (2, .int p1)]) hC dX6_areSame_50 (by decide) rfl ?_
        refine g_sub [2, 3, 4, 1, 0] (lv' := [(0, .ref a0), (1, .int p0), (2, .int p1), (3, .int x13), (4, .int 0)]) rfl ?_
        refine Lp_use (fun (z63 : Int32 × Int32) => G X 8 M5 0 0 52 [(0, .ref a0), (1, .int p0), (2, .int p1), (3, .int z63.1), (4, .int z63.2)] []) h ?_
        intro K17 z hK_K17 h
        obtain ⟨x15, x16⟩ := z
        replace h := h _ _ rfl
        show G X 8 M5 0 0 52 [(0, .ref a0), (1, .int p0), (2, .int p1), (3, .int x15), (4, .int x16)] []
        refine g_iload hC 4 dX6_areSame_52 rfl ?_
        refine g_iconst (v := 4) hC dX6_areSame_54 (by decide) ?_
        refine g_icmp_ge hC 181 dX6_areSame_55 (by decide) (fun c62 => ?_) (fun c62 => ?_)
        · replace h := h.1 c62
          refine g_iload_n hC 3 dX6_areSame_181 rfl ?_
          exact hR.2.2.1 rfl _ _ _ _ _ _ dX6_areSame_182 ⟨h.1, ⟨_, rfl, h.2⟩⟩
        · replace h := h.2 c62
          refine g_iload_n hC 1 dX6_areSame_58 rfl ?_
          refine g_iload hC 4 dX6_areSame_59 rfl ?_
          refine g_callS hC (As := [.int p0, .int x16]) (fun l D dA ht => s_X6_at l D dA ht _ _ _ _ h) wm_4_30 wm_4_28 wm_4_29 wm_1_7 (by decide +kernel : plainY yX6_at 2) dX6_areSame_61 (by decide) (Nat.le_of_ble_eq_true rfl) (Or.inl ⟨rfl, rfl⟩) ?_
          intro M9 v9 h
          obtain ⟨x18, rfl, h⟩ := h
          obtain ⟨hM9, h⟩ := h
          rw [hM9]
          show G X 8 M5 0 0 64 [(0, .ref a0), (1, .int p0), (2, .int p1), (3, .int x15), (4, .int x16)] [.int x18]
          refine g_istore (lv' := [(5, .int x18), (0, .ref a0), (1, .int p0), (2, .int p1), (3, .int x15), (4, .int x16)]) hC dX6_areSame_64 (by decide) rfl ?_
          refine g_pc (pc' := 66) rfl ?_
          refine g_iload_n hC 3 dX6_areSame_66 rfl ?_
          refine g_iload hC 5 dX6_areSame_67 rfl ?_
          refine g_callS hC (As := [.int p1, .int x16]) (fun l D dA ht => s_X6_at l D dA ht _ _ _ _ h) wm_4_30 wm_4_28 wm_4_29 wm_1_7 (by decide +kernel : plainY yX6_at 2) dX6_areSame_69 (by decide) (Nat.le_of_ble_eq_true rfl) (Or.inl ⟨rfl, rfl⟩) ?_
          intro M9 v9 h
          obtain ⟨x19, rfl, h⟩ := h
          obtain ⟨hM9, h⟩ := h
          rw [hM9]
          show G X 8 M5 0 0 72 [(5, .int x18), (0, .ref a0), (1, .int p0), (2, .int p1), (3, .int x15), (4, .int x16)] [.int x19]
          refine g_istore (lv' := [(6, .int x19), (5, .int x18), (0, .ref a0), (1, .int p0), (2, .int p1), (3, .int x15), (4, .int x16)]) hC dX6_areSame_72 (by decide) rfl ?_
          refine g_aload_n (r := (some a0)) hC 2 dX6_areSame_74 rfl ?_
          obtain ⟨hc20, h⟩ := h
          obtain ⟨b21, eb21, h⟩ := h
          refine g_getA hC kc6 9 (by decide) wm_3_155 dX6_areSame_75 rfl hc20 eb21 ?_
          refine g_iload hC 1 dX6_areSame_78 rfl ?_
          obtain ⟨hc22, h⟩ := h
          refine g_ialdA hC dX6_areSame_80 hc22 ?_
          refine g_pc (pc' := 81) rfl ?_
          refine g_aload_n (r := (some a0)) hC 2 dX6_areSame_81 rfl ?_
          obtain ⟨hc23, h⟩ := h
          obtain ⟨b24, eb24, h⟩ := h
          refine g_getA hC kc6 9 (by decide) wm_3_155 dX6_areSame_82 rfl hc23 eb24 ?_
          refine g_iload hC 0 dX6_areSame_85 rfl ?_
          obtain ⟨hc25, h⟩ := h
          refine g_ialdA hC dX6_areSame_87 hc25 ?_
          replace h := h (fun (x26 : Int32) => G X 8 M5 0 0 130 [(0, .ref a0), (1, .int p0), (2, .int p1), (3, .int x15), (4, .int x16), (5, .int x18), (6, .int x19)] [.int x26]) (by
            intro x26 h
            show G X 8 M5 0 0 130 [(0, .ref a0), (1, .int p0), (2, .int p1), (3, .int x15), (4, .int x16), (5, .int x18), (6, .int x19)] [.int x26]
            refine g_istore (lv' := [(7, .int x26), (0, .ref a0), (1, .int p0), (2, .int p1), (3, .int x15), (4, .int x16), (5, .int x18), (6, .int x19)]) hC dX6_areSame_130 (by decide) rfl ?_
            refine g_iload_n hC 4 dX6_areSame_132 rfl ?_
            replace h := h (fun (x28 : Int32) => G X 8 M5 0 0 174 [(0, .ref a0), (1, .int p0), (2, .int p1), (3, .int x15), (4, .int x16), (5, .int x18), (6, .int x19), (7, .int x26)] [.int x28]) (by
              intro x28 h
              show G X 8 M5 0 0 174 [(0, .ref a0), (1, .int p0), (2, .int p1), (3, .int x15), (4, .int x16), (5, .int x18), (6, .int x19), (7, .int x26)] [.int x28]
              refine g_istore_n (lv' := [(3, .int x28), (0, .ref a0), (1, .int p0), (2, .int p1), (4, .int x16), (5, .int x18), (6, .int x19), (7, .int x26)]) hC dX6_areSame_174 (by decide) rfl ?_
              obtain ⟨x30, ex30⟩ : ∃ w, w = x16 + 1 := ⟨_, rfl⟩
              replace h := h x30 ex30
              refine g_iinc (v := x30) (lv' := [(4, .int x30), (3, .int x28), (0, .ref a0), (1, .int p0), (2, .int p1), (5, .int x18), (6, .int x19), (7, .int x26)]) hC 4 dX6_areSame_175 rfl (by rw [ex30]; rfl) (by decide) rfl ?_
              refine g_pc (pc' := 178) rfl ?_
              refine g_goto hC 52 dX6_areSame_178 (by decide) ?_
              refine g_sub [2, 3, 4, 1, 0] (lv' := [(0, .ref a0), (1, .int p0), (2, .int p1), (3, .int x28), (4, .int x30)]) rfl ?_
              exact hK_K17 _ h)
            replace h := h (G X 8 M5 0 0 173 [(0, .ref a0), (1, .int p0), (2, .int p1), (3, .int x15), (4, .int x16), (5, .int x18), (6, .int x19), (7, .int x26)] []) (by
              intro h
              refine g_iconst (v := 0) hC dX6_areSame_173 (by decide) ?_
              exact h)
            refine g_if_eq hC 173 dX6_areSame_133 (by decide) (fun c45 => ?_) (fun c45 => ?_)
            · replace h := h.1 c45
              refine g_sub [1, 2, 3, 4, 5, 6, 7, 0] (lv' := [(0, .ref a0), (1, .int p0), (2, .int p1), (3, .int x15), (4, .int x16), (5, .int x18), (6, .int x19), (7, .int x26)]) rfl ?_
              exact h
            · replace h := h.2 c45
              refine g_aload_n (r := (some a0)) hC 1 dX6_areSame_136 rfl ?_
              obtain ⟨hc32, h⟩ := h
              obtain ⟨b33, eb33, h⟩ := h
              refine g_pc (pc' := 137) rfl ?_
              refine g_getA hC kc6 8 (by decide) wm_3_154 dX6_areSame_137 rfl hc32 eb33 ?_
              refine g_iload hC 6 dX6_areSame_140 rfl ?_
              obtain ⟨hc34, h⟩ := h
              refine g_ialdA hC dX6_areSame_142 hc34 ?_
              refine g_aload_n (r := (some a0)) hC 1 dX6_areSame_143 rfl ?_
              obtain ⟨hc35, h⟩ := h
              obtain ⟨b36, eb36, h⟩ := h
              refine g_getA hC kc6 8 (by decide) wm_3_154 dX6_areSame_144 rfl hc35 eb36 ?_
              refine g_iload hC 7 dX6_areSame_147 rfl ?_
              obtain ⟨hc37, h⟩ := h
              refine g_ialdA hC dX6_areSame_149 hc37 ?_
              refine g_icmp_ne hC 173 dX6_areSame_150 (by decide) (fun c44 => ?_) (fun c44 => ?_)
              · replace h := h.2 c44
                refine g_sub [1, 2, 3, 4, 5, 6, 7, 0] (lv' := [(0, .ref a0), (1, .int p0), (2, .int p1), (3, .int x15), (4, .int x16), (5, .int x18), (6, .int x19), (7, .int x26)]) rfl ?_
                exact h
              · replace h := h.1 c44
                refine g_pc (pc' := 153) rfl ?_
                refine g_aload_n (r := (some a0)) hC 1 dX6_areSame_153 rfl ?_
                obtain ⟨hc38, h⟩ := h
                obtain ⟨b39, eb39, h⟩ := h
                refine g_getA hC kc6 8 (by decide) wm_3_154 dX6_areSame_154 rfl hc38 eb39 ?_
                refine g_iload hC 6 dX6_areSame_157 rfl ?_
                obtain ⟨hc40, h⟩ := h
                refine g_ialdA hC dX6_areSame_159 hc40 ?_
                refine g_iconst (v := (-1)) hC dX6_areSame_160 (by decide) ?_
                replace h := h (G X 8 M5 0 0 169 [(0, .ref a0), (1, .int p0), (2, .int p1), (3, .int x15), (4, .int x16), (5, .int x18), (6, .int x19), (7, .int x26)] []) (by
                  intro h
                  refine g_iconst (v := 1) hC dX6_areSame_169 (by decide) ?_
                  refine g_goto hC 174 dX6_areSame_170 (by decide) ?_
                  exact h)
                refine g_icmp_eq hC 169 dX6_areSame_161 (by decide) (fun c43 => ?_) (fun c43 => ?_)
                · replace h := h.1 c43
                  refine g_sub [1, 2, 3, 4, 5, 6, 7, 0] (lv' := [(0, .ref a0), (1, .int p0), (2, .int p1), (3, .int x15), (4, .int x16), (5, .int x18), (6, .int x19), (7, .int x26)]) rfl ?_
                  exact h
                · replace h := h.2 c43
                  refine g_iload hC 0 dX6_areSame_164 rfl ?_
                  refine g_if_eq hC 173 dX6_areSame_166 (by decide) (fun c42 => ?_) (fun c42 => ?_)
                  · replace h := h.1 c42
                    refine g_sub [1, 2, 3, 4, 5, 6, 7, 0] (lv' := [(0, .ref a0), (1, .int p0), (2, .int p1), (3, .int x15), (4, .int x16), (5, .int x18), (6, .int x19), (7, .int x26)]) rfl ?_
                    exact h
                  · replace h := h.2 c42
                    refine g_sub [1, 2, 3, 4, 5, 6, 7, 0] (lv' := [(0, .ref a0), (1, .int p0), (2, .int p1), (3, .int x15), (4, .int x16), (5, .int x18), (6, .int x19), (7, .int x26)]) rfl ?_
                    exact h)
          replace h := h (G X 8 M5 0 0 129 [(0, .ref a0), (1, .int p0), (2, .int p1), (3, .int x15), (4, .int x16), (5, .int x18), (6, .int x19)] []) (by
            intro h
            refine g_iconst (v := 0) hC dX6_areSame_129 (by decide) ?_
            exact h)
          refine g_icmp_ne hC 129 dX6_areSame_88 (by decide) (fun c61 => ?_) (fun c61 => ?_)
          · replace h := h.2 c61
            refine g_sub [2, 3, 4, 5, 6, 1, 0] (lv' := [(0, .ref a0), (1, .int p0), (2, .int p1), (3, .int x15), (4, .int x16), (5, .int x18), (6, .int x19)]) rfl ?_
            exact h
          · replace h := h.1 c61
            refine g_aload_n (r := (some a0)) hC 2 dX6_areSame_91 rfl ?_
            obtain ⟨hc47, h⟩ := h
            obtain ⟨b48, eb48, h⟩ := h
            refine g_getA hC kc6 10 (by decide) wm_3_156 dX6_areSame_92 rfl hc47 eb48 ?_
            refine g_iload hC 1 dX6_areSame_95 rfl ?_
            obtain ⟨hc49, h⟩ := h
            refine g_pc (pc' := 97) rfl ?_
            refine g_ialdA hC dX6_areSame_97 hc49 ?_
            refine g_aload_n (r := (some a0)) hC 2 dX6_areSame_98 rfl ?_
            obtain ⟨hc50, h⟩ := h
            obtain ⟨b51, eb51, h⟩ := h
            refine g_getA hC kc6 10 (by decide) wm_3_156 dX6_areSame_99 rfl hc50 eb51 ?_
            refine g_iload hC 0 dX6_areSame_102 rfl ?_
            obtain ⟨hc52, h⟩ := h
            refine g_ialdA hC dX6_areSame_104 hc52 ?_
            refine g_icmp_ne hC 129 dX6_areSame_105 (by decide) (fun c60 => ?_) (fun c60 => ?_)
            · replace h := h.2 c60
              refine g_sub [2, 3, 4, 5, 6, 1, 0] (lv' := [(0, .ref a0), (1, .int p0), (2, .int p1), (3, .int x15), (4, .int x16), (5, .int x18), (6, .int x19)]) rfl ?_
              exact h
            · replace h := h.1 c60
              refine g_aload_n (r := (some a0)) hC 2 dX6_areSame_108 rfl ?_
              obtain ⟨hc53, h⟩ := h
              obtain ⟨b54, eb54, h⟩ := h
              refine g_getA hC kc6 11 (by decide) wm_3_157 dX6_areSame_109 rfl hc53 eb54 ?_
              refine g_pc (pc' := 112) rfl ?_
              refine g_iload hC 1 dX6_areSame_112 rfl ?_
              obtain ⟨hc55, h⟩ := h
              refine g_ialdA hC dX6_areSame_114 hc55 ?_
              refine g_aload_n (r := (some a0)) hC 2 dX6_areSame_115 rfl ?_
              obtain ⟨hc56, h⟩ := h
              obtain ⟨b57, eb57, h⟩ := h
              refine g_getA hC kc6 11 (by decide) wm_3_157 dX6_areSame_116 rfl hc56 eb57 ?_
              refine g_iload hC 0 dX6_areSame_119 rfl ?_
              obtain ⟨hc58, h⟩ := h
              refine g_ialdA hC dX6_areSame_121 hc58 ?_
              refine g_icmp_ne hC 129 dX6_areSame_122 (by decide) (fun c59 => ?_) (fun c59 => ?_)
              · replace h := h.2 c59
                refine g_sub [2, 3, 4, 5, 6, 1, 0] (lv' := [(0, .ref a0), (1, .int p0), (2, .int p1), (3, .int x15), (4, .int x16), (5, .int x18), (6, .int x19)]) rfl ?_
                exact h
              · replace h := h.1 c59
                refine g_iconst (v := 1) hC dX6_areSame_125 (by decide) ?_
                refine g_pc (pc' := 126) rfl ?_
                refine g_goto hC 130 dX6_areSame_126 (by decide) ?_
                refine g_sub [2, 3, 4, 5, 6, 1, 0] (lv' := [(0, .ref a0), (1, .int p0), (2, .int p1), (3, .int x15), (4, .int x16), (5, .int x18), (6, .int x19)]) rfl ?_
                exact h)
      refine g_icmp_ne hC 47 dX6_areSame_40 (by decide) (fun c64 => ?_) (fun c64 => ?_)
      · replace h := h.2 c64
        refine g_iconst (v := 0) hC dX6_areSame_47 (by decide) ?_
        exact h
      · replace h := h.1 c64
        refine g_iconst (v := 1) hC dX6_areSame_43 (by decide) ?_
        refine g_pc (pc' := 44) rfl ?_
        refine g_goto hC 48 dX6_areSame_44 (by decide) ?_
        exact h
    · replace h := h.1 c65
      refine g_iconst (v := 0) hC dX6_areSame_26 (by decide) ?_
      exact hR.2.2.1 rfl _ _ _ _ _ _ dX6_areSame_27 ⟨h.1, ⟨_, rfl, h.2⟩⟩)
  replace h := h (G X 8 M 0 0 19 [(0, .ref a0), (1, .int p0), (2, .int p1)] [.ref a0]) (by
    intro h
    refine g_iconst (v := 1) hC dX6_areSame_19 (by decide) ?_
    exact h)
  refine g_if_eq hC 19 dX6_areSame_5 (by decide) (fun c69 => ?_) (fun c69 => ?_)
  · replace h := h.1 c69
    exact h
  · replace h := h.2 c69
    refine g_iload_n hC 2 dX6_areSame_8 rfl ?_
    refine g_callS hC (As := [.int p1]) (fun l D dA ht => s_X6_isServer l D dA ht _ _ _ h) wm_4_4 wm_4_2 wm_4_3 wm_1_7 (by decide +kernel : plainY yX6_isServer 1) dX6_areSame_9 (by decide) (Nat.le_of_ble_eq_true rfl) (Or.inl ⟨rfl, rfl⟩) ?_
    intro M9 v9 h
    obtain ⟨x67, rfl, h⟩ := h
    obtain ⟨hM9, h⟩ := h
    rw [hM9]
    show G X 8 M 0 0 12 [(0, .ref a0), (1, .int p0), (2, .int p1)] [.int x67, .ref a0]
    refine g_if_eq hC 19 dX6_areSame_12 (by decide) (fun c68 => ?_) (fun c68 => ?_)
    · replace h := h.1 c68
      exact h
    · replace h := h.2 c68
      refine g_pc (pc' := 15) rfl ?_
      refine g_iconst (v := 0) hC dX6_areSame_15 (by decide) ?_
      refine g_goto hC 20 dX6_areSame_16 (by decide) ?_
      exact h

def w_X6_joinedModes (M : Mem) (a0 : Nat) (p0 : Int32) (p1 : Int32) (p2 : Int32) (post : Mem → Int32 → Prop) : Prop :=
  w_X6_isServer M p0 (fun x1 => ∀ J3 : Int32 → Prop, (∀ (x2 : Int32), (gT M a0 = some (6, 0) ∧ w_X6_holds M a0 x2 (fun M5 x6 => (x6 = 0 → post M5 0) ∧ (¬ (x6 = 0) → w_X6_at M5 p0 p2 (fun x7 => w_X6_at M5 p1 p2 (fun x8 => gT M5 a0 = some (6, 0) ∧ ∃ b10, gR M5 a0 8 = some b10 ∧ inA M5 b10 10 x7 ∧ ∀ J12 : Prop, ((gT M5 a0 = some (6, 0) ∧ ∃ b14, gR M5 a0 8 = some b14 ∧ inA M5 b14 10 x7 ∧ ∀ J17 : Int32 → Prop, (∀ (x16 : Int32), (post M5 x16) → J17 x16) → ((gI M5 b14 (Int32.toNatClampNeg x7) = (-1) → gT M5 a0 = some (6, 0) ∧ ∃ b19, gR M5 a0 8 = some b19 ∧ inA M5 b19 10 x8 ∧ (gI M5 b19 (Int32.toNatClampNeg x8) = (-1) → J17 ((-1))) ∧ (¬ (gI M5 b19 (Int32.toNatClampNeg x8) = (-1)) → gT M5 a0 = some (6, 0) ∧ ∃ b22, gR M5 a0 9 = some b22 ∧ inA M5 b22 10 x8 ∧ J17 (gI M5 b22 (Int32.toNatClampNeg x8)))) ∧ (¬ (gI M5 b14 (Int32.toNatClampNeg x7) = (-1)) → gT M5 a0 = some (6, 0) ∧ ∃ b26, gR M5 a0 9 = some b26 ∧ inA M5 b26 10 x7 ∧ J17 (gI M5 b26 (Int32.toNatClampNeg x7))))) → J12) → ((gI M5 b10 (Int32.toNatClampNeg x7) = (-1) → J12) ∧ (¬ (gI M5 b10 (Int32.toNatClampNeg x7) = (-1)) → gT M5 a0 = some (6, 0) ∧ ∃ b30, gR M5 a0 8 = some b30 ∧ inA M5 b30 10 x8 ∧ (gI M5 b30 (Int32.toNatClampNeg x8) = (-1) → J12) ∧ (¬ (gI M5 b30 (Int32.toNatClampNeg x8) = (-1)) → gT M5 a0 = some (6, 0) ∧ ∃ b33, gR M5 a0 8 = some b33 ∧ inA M5 b33 10 x7 ∧ gT M5 a0 = some (6, 0) ∧ ∃ b36, gR M5 a0 8 = some b36 ∧ inA M5 b36 10 x8 ∧ ∀ J39 : Int32 → Prop, (∀ (x38 : Int32), (post M5 x38) → J39 x38) → (((gI M5 b36 (Int32.toNatClampNeg x8)) ≤ (gI M5 b33 (Int32.toNatClampNeg x7)) → gT M5 a0 = some (6, 0) ∧ ∃ b41, gR M5 a0 8 = some b41 ∧ inA M5 b41 10 x8 ∧ gT M5 a0 = some (6, 0) ∧ ∃ b44, gR M5 a0 8 = some b44 ∧ inA M5 b44 10 x7 ∧ ((gI M5 b44 (Int32.toNatClampNeg x7)) ≤ (gI M5 b41 (Int32.toNatClampNeg x8)) → gT M5 a0 = some (6, 0) ∧ ∃ b47, gR M5 a0 9 = some b47 ∧ inA M5 b47 10 x7 ∧ gT M5 a0 = some (6, 0) ∧ ∃ b50, gR M5 a0 9 = some b50 ∧ inA M5 b50 10 x8 ∧ J39 ((gI M5 b47 (Int32.toNatClampNeg x7)) ||| (gI M5 b50 (Int32.toNatClampNeg x8)))) ∧ (¬ ((gI M5 b44 (Int32.toNatClampNeg x7)) ≤ (gI M5 b41 (Int32.toNatClampNeg x8))) → gT M5 a0 = some (6, 0) ∧ ∃ b53, gR M5 a0 9 = some b53 ∧ inA M5 b53 10 x8 ∧ J39 (gI M5 b53 (Int32.toNatClampNeg x8)))) ∧ (¬ ((gI M5 b36 (Int32.toNatClampNeg x8)) ≤ (gI M5 b33 (Int32.toNatClampNeg x7))) → gT M5 a0 = some (6, 0) ∧ ∃ b57, gR M5 a0 9 = some b57 ∧ inA M5 b57 10 x7 ∧ J39 (gI M5 b57 (Int32.toNatClampNeg x7)))))))))))) → J3 x2) → (∀ J63 : Prop, ((J3 1) → J63) → ((x1 = 0 → J63) ∧ (¬ (x1 = 0) → w_X6_isServer M p1 (fun x64 => (x64 = 0 → J63) ∧ (¬ (x64 = 0) → w_X6_isChannel M p2 (fun x65 => (x65 = 0 → J63) ∧ (¬ (x65 = 0) → J3 0))))))))
set_option maxRecDepth 100000 in
set_option maxHeartbeats 8000000 in
theorem s_X6_joinedModes (l : Launch) (D : va_G) (dA : Nat → ClassId) (htr : l.stackTraces = false) (M : Mem) (a0 : Nat) (p0 : Int32) (p1 : Int32) (p2 : Int32) (post : Mem → Int32 → Prop) (h : w_X6_joinedModes M a0 p0 p1 p2 post) : CtN l D dA yX6_joinedModes cX6_joinedModes 6 (some .int) 2 [.ref a0, .int p0, .int p1, .int p2] M 0 0 (pI post) := by
  refine ct_ofN htr (by decide) (Nat.le_of_ble_eq_true rfl) ?_
  intro X hC hN hR
  show G X 6 M 0 0 0 [(0, .ref a0), (1, .int p0), (2, .int p1), (3, .int p2)] []
  unfold w_X6_joinedModes at h
  refine g_aload_n (r := (some a0)) hC 0 dX6_joinedModes_0 rfl ?_
  refine g_iload_n hC 1 dX6_joinedModes_1 rfl ?_
  refine g_callS hC (As := [.int p0]) (fun l D dA ht => s_X6_isServer l D dA ht _ _ _ h) wm_4_4 wm_4_2 wm_4_3 wm_1_7 (by decide +kernel : plainY yX6_isServer 1) dX6_joinedModes_2 (by decide) (Nat.le_of_ble_eq_true rfl) (Or.inl ⟨rfl, rfl⟩) ?_
  intro M9 v9 h
  obtain ⟨x1, rfl, h⟩ := h
  obtain ⟨hM9, h⟩ := h
  rw [hM9]
  show G X 6 M 0 0 5 [(0, .ref a0), (1, .int p0), (2, .int p1), (3, .int p2)] [.int x1, .ref a0]
  replace h := h (fun (x2 : Int32) => G X 6 M 0 0 27 [(0, .ref a0), (1, .int p0), (2, .int p1), (3, .int p2)] [.int x2, .ref a0]) (by
    intro x2 h
    show G X 6 M 0 0 27 [(0, .ref a0), (1, .int p0), (2, .int p1), (3, .int p2)] [.int x2, .ref a0]
    obtain ⟨hc4, h⟩ := h
    refine g_callV hC (As := [.int x2]) (fun l D dA ht => s_X6_holds l D dA ht _ _ _ _ h) wm_4_15 wm_4_12 wm_4_14 wm_0_17 wm_1_7 (by decide +kernel : plainY yX6_holds 1) kc6.1 kc6.2.1 dX6_joinedModes_27 (by decide) (Nat.le_of_ble_eq_true rfl) hc4 (Or.inl ⟨rfl, rfl⟩) ?_
    intro M9 v9 h
    obtain ⟨x6, rfl, h⟩ := h
    generalize M9 = M5 at h ⊢
    show G X 6 M5 0 0 30 [(0, .ref a0), (1, .int p0), (2, .int p1), (3, .int p2)] [.int x6]
    refine g_if_ne hC 35 dX6_joinedModes_30 (by decide) (fun c62 => ?_) (fun c62 => ?_)
    · replace h := h.2 c62
      refine g_iload_n hC 1 dX6_joinedModes_35 rfl ?_
      refine g_iload_n hC 3 dX6_joinedModes_36 rfl ?_
      refine g_pc (pc' := 37) rfl ?_
      refine g_callS hC (As := [.int p0, .int p2]) (fun l D dA ht => s_X6_at l D dA ht _ _ _ _ h) wm_4_30 wm_4_28 wm_4_29 wm_1_7 (by decide +kernel : plainY yX6_at 2) dX6_joinedModes_37 (by decide) (Nat.le_of_ble_eq_true rfl) (Or.inl ⟨rfl, rfl⟩) ?_
      intro M9 v9 h
      obtain ⟨x7, rfl, h⟩ := h
      obtain ⟨hM9, h⟩ := h
      rw [hM9]
      show G X 6 M5 0 0 40 [(0, .ref a0), (1, .int p0), (2, .int p1), (3, .int p2)] [.int x7]
      refine g_istore (lv' := [(4, .int x7), (0, .ref a0), (1, .int p0), (2, .int p1), (3, .int p2)]) hC dX6_joinedModes_40 (by decide) rfl ?_
      refine g_iload_n hC 3 dX6_joinedModes_42 rfl ?_
      refine g_iload_n hC 4 dX6_joinedModes_43 rfl ?_
      refine g_callS hC (As := [.int p1, .int p2]) (fun l D dA ht => s_X6_at l D dA ht _ _ _ _ h) wm_4_30 wm_4_28 wm_4_29 wm_1_7 (by decide +kernel : plainY yX6_at 2) dX6_joinedModes_44 (by decide) (Nat.le_of_ble_eq_true rfl) (Or.inl ⟨rfl, rfl⟩) ?_
      intro M9 v9 h
      obtain ⟨x8, rfl, h⟩ := h
      obtain ⟨hM9, h⟩ := h
      rw [hM9]
      show G X 6 M5 0 0 47 [(4, .int x7), (0, .ref a0), (1, .int p0), (2, .int p1), (3, .int p2)] [.int x8]
      refine g_istore (lv' := [(5, .int x8), (4, .int x7), (0, .ref a0), (1, .int p0), (2, .int p1), (3, .int p2)]) hC dX6_joinedModes_47 (by decide) rfl ?_
      refine g_aload_n (r := (some a0)) hC 2 dX6_joinedModes_49 rfl ?_
      obtain ⟨hc9, h⟩ := h
      obtain ⟨b10, eb10, h⟩ := h
      refine g_getA hC kc6 8 (by decide) wm_3_154 dX6_joinedModes_50 rfl hc9 eb10 ?_
      refine g_pc (pc' := 53) rfl ?_
      refine g_iload hC 1 dX6_joinedModes_53 rfl ?_
      obtain ⟨hc11, h⟩ := h
      refine g_ialdA hC dX6_joinedModes_55 hc11 ?_
      refine g_iconst (v := (-1)) hC dX6_joinedModes_56 (by decide) ?_
      replace h := h (G X 6 M5 0 0 71 [(0, .ref a0), (1, .int p0), (2, .int p1), (3, .int p2), (4, .int x7), (5, .int x8)] []) (by
        intro h
        refine g_aload_n (r := (some a0)) hC 0 dX6_joinedModes_71 rfl ?_
        obtain ⟨hc13, h⟩ := h
        obtain ⟨b14, eb14, h⟩ := h
        refine g_getA hC kc6 8 (by decide) wm_3_154 dX6_joinedModes_72 rfl hc13 eb14 ?_
        refine g_iload hC 4 dX6_joinedModes_75 rfl ?_
        obtain ⟨hc15, h⟩ := h
        refine g_ialdA hC dX6_joinedModes_77 hc15 ?_
        refine g_iconst (v := (-1)) hC dX6_joinedModes_78 (by decide) ?_
        replace h := h (fun (x16 : Int32) => G X 6 M5 0 0 114 [(0, .ref a0), (1, .int p0), (2, .int p1), (3, .int p2), (4, .int x7), (5, .int x8)] [.int x16]) (by
          intro x16 h
          show G X 6 M5 0 0 114 [(0, .ref a0), (1, .int p0), (2, .int p1), (3, .int p2), (4, .int x7), (5, .int x8)] [.int x16]
          refine g_pc (pc' := 114) rfl ?_
          exact hR.2.1 rfl _ _ _ _ _ _ dX6_joinedModes_114 ⟨_, rfl, h⟩)
        refine g_pc (pc' := 79) rfl ?_
        refine g_icmp_eq hC 92 dX6_joinedModes_79 (by decide) (fun c28 => ?_) (fun c28 => ?_)
        · replace h := h.1 c28
          refine g_aload_n (r := (some a0)) hC 0 dX6_joinedModes_92 rfl ?_
          obtain ⟨hc18, h⟩ := h
          obtain ⟨b19, eb19, h⟩ := h
          refine g_getA hC kc6 8 (by decide) wm_3_154 dX6_joinedModes_93 rfl hc18 eb19 ?_
          refine g_iload hC 5 dX6_joinedModes_96 rfl ?_
          obtain ⟨hc20, h⟩ := h
          refine g_ialdA hC dX6_joinedModes_98 hc20 ?_
          refine g_iconst (v := (-1)) hC dX6_joinedModes_99 (by decide) ?_
          refine g_icmp_eq hC 113 dX6_joinedModes_100 (by decide) (fun c24 => ?_) (fun c24 => ?_)
          · replace h := h.1 c24
            refine g_iconst (v := (-1)) hC dX6_joinedModes_113 (by decide) ?_
            exact h
          · replace h := h.2 c24
            refine g_aload_n (r := (some a0)) hC 0 dX6_joinedModes_103 rfl ?_
            obtain ⟨hc21, h⟩ := h
            obtain ⟨b22, eb22, h⟩ := h
            refine g_pc (pc' := 104) rfl ?_
            refine g_getA hC kc6 9 (by decide) wm_3_155 dX6_joinedModes_104 rfl hc21 eb22 ?_
            refine g_iload hC 5 dX6_joinedModes_107 rfl ?_
            obtain ⟨hc23, h⟩ := h
            refine g_ialdA hC dX6_joinedModes_109 hc23 ?_
            refine g_goto hC 114 dX6_joinedModes_110 (by decide) ?_
            exact h
        · replace h := h.2 c28
          refine g_aload_n (r := (some a0)) hC 0 dX6_joinedModes_82 rfl ?_
          obtain ⟨hc25, h⟩ := h
          obtain ⟨b26, eb26, h⟩ := h
          refine g_getA hC kc6 9 (by decide) wm_3_155 dX6_joinedModes_83 rfl hc25 eb26 ?_
          refine g_iload hC 4 dX6_joinedModes_86 rfl ?_
          obtain ⟨hc27, h⟩ := h
          refine g_ialdA hC dX6_joinedModes_88 hc27 ?_
          refine g_goto hC 114 dX6_joinedModes_89 (by decide) ?_
          exact h)
      refine g_icmp_eq hC 71 dX6_joinedModes_57 (by decide) (fun c61 => ?_) (fun c61 => ?_)
      · replace h := h.1 c61
        refine g_sub [2, 3, 4, 5, 1, 0] (lv' := [(0, .ref a0), (1, .int p0), (2, .int p1), (3, .int p2), (4, .int x7), (5, .int x8)]) rfl ?_
        exact h
      · replace h := h.2 c61
        refine g_aload_n (r := (some a0)) hC 2 dX6_joinedModes_60 rfl ?_
        obtain ⟨hc29, h⟩ := h
        obtain ⟨b30, eb30, h⟩ := h
        refine g_getA hC kc6 8 (by decide) wm_3_154 dX6_joinedModes_61 rfl hc29 eb30 ?_
        refine g_iload hC 0 dX6_joinedModes_64 rfl ?_
        obtain ⟨hc31, h⟩ := h
        refine g_ialdA hC dX6_joinedModes_66 hc31 ?_
        refine g_pc (pc' := 67) rfl ?_
        refine g_iconst (v := (-1)) hC dX6_joinedModes_67 (by decide) ?_
        refine g_icmp_ne hC 115 dX6_joinedModes_68 (by decide) (fun c60 => ?_) (fun c60 => ?_)
        · replace h := h.2 c60
          refine g_aload_n (r := (some a0)) hC 2 dX6_joinedModes_115 rfl ?_
          obtain ⟨hc32, h⟩ := h
          obtain ⟨b33, eb33, h⟩ := h
          refine g_getA hC kc6 8 (by decide) wm_3_154 dX6_joinedModes_116 rfl hc32 eb33 ?_
          refine g_iload hC 1 dX6_joinedModes_119 rfl ?_
          obtain ⟨hc34, h⟩ := h
          refine g_ialdA hC dX6_joinedModes_121 hc34 ?_
          refine g_aload_n (r := (some a0)) hC 2 dX6_joinedModes_122 rfl ?_
          obtain ⟨hc35, h⟩ := h
          obtain ⟨b36, eb36, h⟩ := h
          refine g_getA hC kc6 8 (by decide) wm_3_154 dX6_joinedModes_123 rfl hc35 eb36 ?_
          refine g_pc (pc' := 126) rfl ?_
          refine g_iload hC 0 dX6_joinedModes_126 rfl ?_
          obtain ⟨hc37, h⟩ := h
          refine g_ialdA hC dX6_joinedModes_128 hc37 ?_
          replace h := h (fun (x38 : Int32) => G X 6 M5 0 0 184 [(0, .ref a0), (1, .int p0), (2, .int p1), (3, .int p2), (4, .int x7), (5, .int x8)] [.int x38]) (by
            intro x38 h
            show G X 6 M5 0 0 184 [(0, .ref a0), (1, .int p0), (2, .int p1), (3, .int p2), (4, .int x7), (5, .int x8)] [.int x38]
            exact hR.2.1 rfl _ _ _ _ _ _ dX6_joinedModes_184 ⟨_, rfl, h⟩)
          refine g_icmp_ge hC 142 dX6_joinedModes_129 (by decide) (fun c59 => ?_) (fun c59 => ?_)
          · replace h := h.1 c59
            refine g_aload_n (r := (some a0)) hC 2 dX6_joinedModes_142 rfl ?_
            obtain ⟨hc40, h⟩ := h
            obtain ⟨b41, eb41, h⟩ := h
            refine g_getA hC kc6 8 (by decide) wm_3_154 dX6_joinedModes_143 rfl hc40 eb41 ?_
            refine g_iload hC 0 dX6_joinedModes_146 rfl ?_
            obtain ⟨hc42, h⟩ := h
            refine g_ialdA hC dX6_joinedModes_148 hc42 ?_
            refine g_aload_n (r := (some a0)) hC 2 dX6_joinedModes_149 rfl ?_
            obtain ⟨hc43, h⟩ := h
            obtain ⟨b44, eb44, h⟩ := h
            refine g_pc (pc' := 150) rfl ?_
            refine g_getA hC kc6 8 (by decide) wm_3_154 dX6_joinedModes_150 rfl hc43 eb44 ?_
            refine g_iload hC 1 dX6_joinedModes_153 rfl ?_
            obtain ⟨hc45, h⟩ := h
            refine g_ialdA hC dX6_joinedModes_155 hc45 ?_
            refine g_icmp_ge hC 169 dX6_joinedModes_156 (by decide) (fun c55 => ?_) (fun c55 => ?_)
            · replace h := h.1 c55
              refine g_aload_n (r := (some a0)) hC 2 dX6_joinedModes_169 rfl ?_
              obtain ⟨hc46, h⟩ := h
              obtain ⟨b47, eb47, h⟩ := h
              refine g_getA hC kc6 9 (by decide) wm_3_155 dX6_joinedModes_170 rfl hc46 eb47 ?_
              refine g_iload hC 1 dX6_joinedModes_173 rfl ?_
              obtain ⟨hc48, h⟩ := h
              refine g_ialdA hC dX6_joinedModes_175 hc48 ?_
              refine g_pc (pc' := 176) rfl ?_
              refine g_aload_n (r := (some a0)) hC 2 dX6_joinedModes_176 rfl ?_
              obtain ⟨hc49, h⟩ := h
              obtain ⟨b50, eb50, h⟩ := h
              refine g_getA hC kc6 9 (by decide) wm_3_155 dX6_joinedModes_177 rfl hc49 eb50 ?_
              refine g_iload hC 0 dX6_joinedModes_180 rfl ?_
              obtain ⟨hc51, h⟩ := h
              refine g_ialdA hC dX6_joinedModes_182 hc51 ?_
              refine g_ior hC dX6_joinedModes_183 ?_
              refine g_sub [2, 3, 4, 5, 1, 0] (lv' := [(0, .ref a0), (1, .int p0), (2, .int p1), (3, .int p2), (4, .int x7), (5, .int x8)]) rfl ?_
              exact h
            · replace h := h.2 c55
              refine g_aload_n (r := (some a0)) hC 2 dX6_joinedModes_159 rfl ?_
              obtain ⟨hc52, h⟩ := h
              obtain ⟨b53, eb53, h⟩ := h
              refine g_getA hC kc6 9 (by decide) wm_3_155 dX6_joinedModes_160 rfl hc52 eb53 ?_
              refine g_iload hC 0 dX6_joinedModes_163 rfl ?_
              obtain ⟨hc54, h⟩ := h
              refine g_ialdA hC dX6_joinedModes_165 hc54 ?_
              refine g_pc (pc' := 166) rfl ?_
              refine g_goto hC 184 dX6_joinedModes_166 (by decide) ?_
              refine g_sub [2, 3, 4, 5, 1, 0] (lv' := [(0, .ref a0), (1, .int p0), (2, .int p1), (3, .int p2), (4, .int x7), (5, .int x8)]) rfl ?_
              exact h
          · replace h := h.2 c59
            refine g_aload_n (r := (some a0)) hC 2 dX6_joinedModes_132 rfl ?_
            obtain ⟨hc56, h⟩ := h
            obtain ⟨b57, eb57, h⟩ := h
            refine g_getA hC kc6 9 (by decide) wm_3_155 dX6_joinedModes_133 rfl hc56 eb57 ?_
            refine g_iload hC 1 dX6_joinedModes_136 rfl ?_
            obtain ⟨hc58, h⟩ := h
            refine g_ialdA hC dX6_joinedModes_138 hc58 ?_
            refine g_goto hC 184 dX6_joinedModes_139 (by decide) ?_
            refine g_sub [2, 3, 4, 5, 1, 0] (lv' := [(0, .ref a0), (1, .int p0), (2, .int p1), (3, .int p2), (4, .int x7), (5, .int x8)]) rfl ?_
            exact h
        · replace h := h.1 c60
          refine g_sub [2, 3, 4, 5, 1, 0] (lv' := [(0, .ref a0), (1, .int p0), (2, .int p1), (3, .int p2), (4, .int x7), (5, .int x8)]) rfl ?_
          exact h
    · replace h := h.1 c62
      refine g_iconst (v := 0) hC dX6_joinedModes_33 (by decide) ?_
      exact hR.2.1 rfl _ _ _ _ _ _ dX6_joinedModes_34 ⟨_, rfl, h⟩)
  replace h := h (G X 6 M 0 0 26 [(0, .ref a0), (1, .int p0), (2, .int p1), (3, .int p2)] [.ref a0]) (by
    intro h
    refine g_iconst (v := 1) hC dX6_joinedModes_26 (by decide) ?_
    exact h)
  refine g_if_eq hC 26 dX6_joinedModes_5 (by decide) (fun c68 => ?_) (fun c68 => ?_)
  · replace h := h.1 c68
    exact h
  · replace h := h.2 c68
    refine g_iload_n hC 2 dX6_joinedModes_8 rfl ?_
    refine g_callS hC (As := [.int p1]) (fun l D dA ht => s_X6_isServer l D dA ht _ _ _ h) wm_4_4 wm_4_2 wm_4_3 wm_1_7 (by decide +kernel : plainY yX6_isServer 1) dX6_joinedModes_9 (by decide) (Nat.le_of_ble_eq_true rfl) (Or.inl ⟨rfl, rfl⟩) ?_
    intro M9 v9 h
    obtain ⟨x64, rfl, h⟩ := h
    obtain ⟨hM9, h⟩ := h
    rw [hM9]
    show G X 6 M 0 0 12 [(0, .ref a0), (1, .int p0), (2, .int p1), (3, .int p2)] [.int x64, .ref a0]
    refine g_if_eq hC 26 dX6_joinedModes_12 (by decide) (fun c67 => ?_) (fun c67 => ?_)
    · replace h := h.1 c67
      exact h
    · replace h := h.2 c67
      refine g_pc (pc' := 15) rfl ?_
      refine g_iload_n hC 3 dX6_joinedModes_15 rfl ?_
      refine g_callS hC (As := [.int p2]) (fun l D dA ht => s_X6_isChannel l D dA ht _ _ _ h) wm_4_124 wm_4_122 wm_4_123 wm_1_7 (by decide +kernel : plainY yX6_isChannel 1) dX6_joinedModes_16 (by decide) (Nat.le_of_ble_eq_true rfl) (Or.inl ⟨rfl, rfl⟩) ?_
      intro M9 v9 h
      obtain ⟨x65, rfl, h⟩ := h
      obtain ⟨hM9, h⟩ := h
      rw [hM9]
      show G X 6 M 0 0 19 [(0, .ref a0), (1, .int p0), (2, .int p1), (3, .int p2)] [.int x65, .ref a0]
      refine g_if_eq hC 26 dX6_joinedModes_19 (by decide) (fun c66 => ?_) (fun c66 => ?_)
      · replace h := h.1 c66
        exact h
      · replace h := h.2 c66
        refine g_iconst (v := 0) hC dX6_joinedModes_22 (by decide) ?_
        refine g_goto hC 27 dX6_joinedModes_23 (by decide) ?_
        exact h
