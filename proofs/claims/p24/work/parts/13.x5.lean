def w_X5_init (mc ms : Nat) (M : Mem) (a0 : Nat) (post : Mem → Prop) : Prop :=
  (0 + 1 ≤ mc ∧ 0 + 6 ≤ ms) ∧ ∀ q1, gT M q1 = none → ∀ M2, M2 = sN M q1 (12, 6) → gT M2 a0 = some (5, 0) ∧ ∀ M5, M5 = sR M2 a0 0 ((some q1)) → (0 + 1 + 1 ≤ mc ∧ 0 + 6 + 5 ≤ ms) ∧ ∀ q6, gT M5 q6 = none → ∀ M7, M7 = sN M5 q6 (4, 0) → ∃ c9 s10, ((0 + 1 + 1) + c9 ≤ mc ∧ (0 + 6 + 5) + s10 ≤ ms) ∧ w_X4_init c9 s10 M7 q6 (fun M11 => gT M11 a0 = some (5, 0) ∧ ∀ M13, M13 = sR M11 a0 1 ((some q6)) → (0 + 1 + 1 + c9 + 1 ≤ mc ∧ 0 + 6 + 5 + s10 + 20 ≤ ms) ∧ ∀ q14, gT M13 q14 = none → ∀ M15, M15 = sN M13 q14 (10, 20) → gT M15 a0 = some (5, 0) ∧ ∀ M18, M18 = sR M15 a0 2 ((some q14)) → (0 + 1 + 1 + c9 + 1 + 1 ≤ mc ∧ 0 + 6 + 5 + s10 + 20 + 20 ≤ ms) ∧ ∀ q19, gT M18 q19 = none → ∀ M20, M20 = sN M18 q19 (10, 20) → gT M20 a0 = some (5, 0) ∧ ∀ M23, M23 = sR M20 a0 3 ((some q19)) → (0 + 1 + 1 + c9 + 1 + 1 + 1 ≤ mc ∧ 0 + 6 + 5 + s10 + 20 + 20 + 20 ≤ ms) ∧ ∀ q24, gT M23 q24 = none → ∀ M25, M25 = sN M23 q24 (10, 20) → gT M25 a0 = some (5, 0) ∧ ∀ M28, M28 = sR M25 a0 4 ((some q24)) → (0 + 1 + 1 + c9 + 1 + 1 + 1 + 1 ≤ mc ∧ 0 + 6 + 5 + s10 + 20 + 20 + 20 + 8 ≤ ms) ∧ ∀ q29, gT M28 q29 = none → ∀ M30, M30 = sN M28 q29 (1, 0) → w_X1_init M30 q29 (fun M32 => gT M32 a0 = some (5, 0) ∧ ∀ M34, M34 = sR M32 a0 5 ((some q29)) → gT M34 a0 = some (5, 0) ∧ ∀ M36, M36 = sI M34 a0 6 0 → gT M36 a0 = some (5, 0) ∧ ∀ M38, M38 = sI M36 a0 7 0 → Lp (fun (K43 : Int32 × Mem × Nat × Nat → Prop) (z : Int32 × Mem × Nat × Nat) => ∀ (x39 : Int32) (M40 : Mem) (k41 : Nat) (n42 : Nat), z = (x39, M40, k41, n42) → ((6 ≤ x39 → post M40) ∧ (¬ (6 ≤ x39) → gT M40 a0 = some (5, 0) ∧ ∃ b45, gR M40 a0 0 = some b45 ∧ (k41 + 1 ≤ mc ∧ n42 + 2 ≤ ms) ∧ ∀ q46, gT M40 q46 = none → ∀ M47, M47 = sN M40 q46 (3, 0) → ∃ c49 s50, ((k41 + 1) + c49 ≤ mc ∧ (n42 + 2) + s50 ≤ ms) ∧ w_X3_init c49 s50 M47 q46 (fun M51 => gT M51 q46 = some (3, 0) ∧ inA M51 b45 12 x39 ∧ ∀ M52, M52 = sR M51 b45 (Int32.toNatClampNeg x39) ((some q46)) → ∀ x54, x54 = x39 + 1 → K43 (x54, M52, k41 + 1 + c49, n42 + 2 + s50))))) (0, M38, 0 + 1 + 1 + c9 + 1 + 1 + 1 + 1, 0 + 6 + 5 + s10 + 20 + 20 + 20 + 8)))
set_option maxRecDepth 100000 in
set_option maxHeartbeats 8000000 in
theorem s_X5_init (l : Launch) (D : va_G) (dA : Nat → ClassId) (htr : l.stackTraces = false) (mc ms : Nat) (M : Mem) (a0 : Nat) (post : Mem → Prop) (h : w_X5_init mc ms M a0 post) : CtN l D dA yX5_init cX5_init 2 (none) 4 [.ref a0] M mc ms (pV post) := by
  refine ct_ofN htr (by decide) (Nat.le_of_ble_eq_true rfl) ?_
  intro X hC hN hR
  show G X 2 M 0 0 0 [(0, .ref a0)] []
  unfold w_X5_init at h
  refine g_aload_n (r := (some a0)) hC 0 dX5_init_0 rfl ?_
  refine g_objInit hC wm_1_20 wm_1_21 wm_1_22 dX5_init_1 (Nat.le_of_ble_eq_true rfl) ?_
  refine g_aload_n (r := (some a0)) hC 0 dX5_init_4 rfl ?_
  refine g_bipush (v := 6) hC dX5_init_5 (by decide) ?_
  obtain ⟨hc3, h⟩ := h
  refine g_newq (ck := 12) (j0 := 2) (N' := 6) hC (by decide) rfl (by decide +kernel) wm_1_23 (by decide) (by decide +kernel) (by decide +kernel) dX5_init_7 hc3 (fun q1 hqq1 => ?_)
  obtain ⟨M2, eM2⟩ : ∃ w, w = sN M q1 (12, 6) := ⟨_, rfl⟩
  replace h := h q1 hqq1 M2 eM2
  rw [← eM2]
  obtain ⟨hc4, h⟩ := h
  refine g_putR (r := (some q1)) hC kc5 0 (by decide) wm_1_147 dX5_init_10 rfl (nar_a _) (Or.inr ⟨rfl, hN, rfl⟩) hc4 ?_
  obtain ⟨M5, eM5⟩ : ∃ w, w = sR M2 a0 0 ((some q1)) := ⟨_, rfl⟩
  replace h := h M5 eM5
  rw [← eM5]
  refine g_aload_n (r := (some a0)) hC 0 dX5_init_13 rfl ?_
  obtain ⟨hc8, h⟩ := h
  refine g_pc (pc' := 14) rfl ?_
  refine g_newK hC kc4 wm_1_25 wm_1_26 wm_1_2 dX5_init_14 hc8 (fun q6 hqq6 => ?_)
  obtain ⟨M7, eM7⟩ : ∃ w, w = sN M5 q6 (4, 0) := ⟨_, rfl⟩
  replace h := h q6 hqq6 M7 eM7
  rw [← eM7]
  refine g_dup hC dX5_init_17 rfl ?_
  obtain ⟨c9, s10, hc9, h⟩ := h
  refine g_callI hC (As := []) (fun l D dA ht => s_X4_init l D dA ht _ _ _ _ _ h) rfl wm_1_29 wm_1_27 wm_1_28 wm_1_2 (by decide +kernel : plainY yX4_init 0) dX5_init_18 (by decide) (Nat.le_of_ble_eq_true rfl) (Or.inr hc9) ?_
  intro M9 v9 h
  obtain ⟨rfl, h⟩ := h
  generalize M9 = M11 at h ⊢
  show G X 2 M11 (0 + 1 + 1 + c9) (0 + 6 + 5 + s10) 21 [(0, .ref a0)] [.ref q6, .ref a0]
  obtain ⟨hc12, h⟩ := h
  refine g_putR (r := (some q6)) hC kc5 1 (by decide) wm_1_148 dX5_init_21 rfl (nar_o _) (Or.inr ⟨rfl, hN, rfl⟩) hc12 ?_
  obtain ⟨M13, eM13⟩ : ∃ w, w = sR M11 a0 1 ((some q6)) := ⟨_, rfl⟩
  replace h := h M13 eM13
  rw [← eM13]
  refine g_aload_n (r := (some a0)) hC 0 dX5_init_24 rfl ?_
  refine g_bipush (v := 20) hC dX5_init_25 (by decide) ?_
  obtain ⟨hc16, h⟩ := h
  refine g_newa (at0 := .int) (ty := .int) (ck := 10) (N' := 20) hC rfl (by decide) wm_1_45 (by decide) (by decide +kernel) (by decide +kernel) dX5_init_27 hc16 (fun q14 hqq14 => ?_)
  obtain ⟨M15, eM15⟩ : ∃ w, w = sN M13 q14 (10, 20) := ⟨_, rfl⟩
  replace h := h q14 hqq14 M15 eM15
  rw [← eM15]
  obtain ⟨hc17, h⟩ := h
  refine g_putR (r := (some q14)) hC kc5 2 (by decide) wm_1_149 dX5_init_29 rfl (nar_a _) (Or.inr ⟨rfl, hN, rfl⟩) hc17 ?_
  obtain ⟨M18, eM18⟩ : ∃ w, w = sR M15 a0 2 ((some q14)) := ⟨_, rfl⟩
  replace h := h M18 eM18
  rw [← eM18]
  refine g_pc (pc' := 32) rfl ?_
  refine g_aload_n (r := (some a0)) hC 0 dX5_init_32 rfl ?_
  refine g_bipush (v := 20) hC dX5_init_33 (by decide) ?_
  obtain ⟨hc21, h⟩ := h
  refine g_newa (at0 := .int) (ty := .int) (ck := 10) (N' := 20) hC rfl (by decide) wm_1_45 (by decide) (by decide +kernel) (by decide +kernel) dX5_init_35 hc21 (fun q19 hqq19 => ?_)
  obtain ⟨M20, eM20⟩ : ∃ w, w = sN M18 q19 (10, 20) := ⟨_, rfl⟩
  replace h := h q19 hqq19 M20 eM20
  rw [← eM20]
  obtain ⟨hc22, h⟩ := h
  refine g_putR (r := (some q19)) hC kc5 3 (by decide) wm_1_150 dX5_init_37 rfl (nar_a _) (Or.inr ⟨rfl, hN, rfl⟩) hc22 ?_
  obtain ⟨M23, eM23⟩ : ∃ w, w = sR M20 a0 3 ((some q19)) := ⟨_, rfl⟩
  replace h := h M23 eM23
  rw [← eM23]
  refine g_aload_n (r := (some a0)) hC 0 dX5_init_40 rfl ?_
  refine g_bipush (v := 20) hC dX5_init_41 (by decide) ?_
  obtain ⟨hc26, h⟩ := h
  refine g_newa (at0 := .int) (ty := .int) (ck := 10) (N' := 20) hC rfl (by decide) wm_1_45 (by decide) (by decide +kernel) (by decide +kernel) dX5_init_43 hc26 (fun q24 hqq24 => ?_)
  obtain ⟨M25, eM25⟩ : ∃ w, w = sN M23 q24 (10, 20) := ⟨_, rfl⟩
  replace h := h q24 hqq24 M25 eM25
  rw [← eM25]
  obtain ⟨hc27, h⟩ := h
  refine g_putR (r := (some q24)) hC kc5 4 (by decide) wm_1_151 dX5_init_45 rfl (nar_a _) (Or.inr ⟨rfl, hN, rfl⟩) hc27 ?_
  obtain ⟨M28, eM28⟩ : ∃ w, w = sR M25 a0 4 ((some q24)) := ⟨_, rfl⟩
  replace h := h M28 eM28
  rw [← eM28]
  refine g_pc (pc' := 48) rfl ?_
  refine g_aload_n (r := (some a0)) hC 0 dX5_init_48 rfl ?_
  obtain ⟨hc31, h⟩ := h
  refine g_newK hC kc1 wm_1_63 wm_1_64 wm_1_4 dX5_init_49 hc31 (fun q29 hqq29 => ?_)
  obtain ⟨M30, eM30⟩ : ∃ w, w = sN M28 q29 (1, 0) := ⟨_, rfl⟩
  replace h := h q29 hqq29 M30 eM30
  rw [← eM30]
  refine g_dup hC dX5_init_52 rfl ?_
  refine g_callIN hC (As := []) (fun l D dA ht => s_X1_init l D dA ht _ _ _ h) rfl wm_1_67 (by decide +kernel) wm_1_66 wm_1_4 (by decide +kernel : plainY yX1_init 0) dX5_init_53 (by decide) (Nat.le_of_ble_eq_true rfl) (Or.inl ⟨rfl, rfl⟩) ?_
  intro M9 v9 h
  obtain ⟨rfl, h⟩ := h
  generalize M9 = M32 at h ⊢
  show G X 2 M32 (0 + 1 + 1 + c9 + 1 + 1 + 1 + 1) (0 + 6 + 5 + s10 + 20 + 20 + 20 + 8) 56 [(0, .ref a0)] [.ref q29, .ref a0]
  obtain ⟨hc33, h⟩ := h
  refine g_putR (r := (some q29)) hC kc5 5 (by decide) wm_1_152 dX5_init_56 rfl (nar_o _) (Or.inr ⟨rfl, hN, rfl⟩) hc33 ?_
  obtain ⟨M34, eM34⟩ : ∃ w, w = sR M32 a0 5 ((some q29)) := ⟨_, rfl⟩
  replace h := h M34 eM34
  rw [← eM34]
  refine g_aload_n (r := (some a0)) hC 0 dX5_init_59 rfl ?_
  refine g_iconst (v := 0) hC dX5_init_60 (by decide) ?_
  obtain ⟨hc35, h⟩ := h
  refine g_putI hC kc5 6 (by decide) wm_1_153 dX5_init_61 rfl rfl (Or.inl rfl) hc35 ?_
  obtain ⟨M36, eM36⟩ : ∃ w, w = sI M34 a0 6 0 := ⟨_, rfl⟩
  replace h := h M36 eM36
  rw [← eM36]
  refine g_pc (pc' := 64) rfl ?_
  refine g_aload_n (r := (some a0)) hC 0 dX5_init_64 rfl ?_
  refine g_iconst (v := 0) hC dX5_init_65 (by decide) ?_
  obtain ⟨hc37, h⟩ := h
  refine g_putI hC kc5 7 (by decide) wm_1_154 dX5_init_66 rfl rfl (Or.inl rfl) hc37 ?_
  obtain ⟨M38, eM38⟩ : ∃ w, w = sI M36 a0 7 0 := ⟨_, rfl⟩
  replace h := h M38 eM38
  rw [← eM38]
  refine g_iconst (v := 0) hC dX5_init_69 (by decide) ?_
  refine g_istore_n (lv' := [(1, .int 0), (0, .ref a0)]) hC dX5_init_70 (by decide) rfl ?_
  refine g_sub [1, 0] (lv' := [(0, .ref a0), (1, .int 0)]) rfl ?_
  refine Lp_use (fun (z56 : Int32 × Mem × Nat × Nat) => G X 2 z56.2.1 z56.2.2.1 z56.2.2.2 71 [(0, .ref a0), (1, .int z56.1)] []) h ?_
  intro K43 z hK_K43 h
  obtain ⟨x39, M40, k41, n42⟩ := z
  replace h := h _ _ _ _ rfl
  show G X 2 M40 k41 n42 71 [(0, .ref a0), (1, .int x39)] []
  refine g_iload_n hC 1 dX5_init_71 rfl ?_
  refine g_bipush (v := 6) hC dX5_init_72 (by decide) ?_
  refine g_icmp_ge hC 96 dX5_init_74 (by decide) (fun c55 => ?_) (fun c55 => ?_)
  · replace h := h.1 c55
    refine g_pc (pc' := 96) rfl ?_
    exact hR.1 rfl _ _ _ _ _ dX5_init_96 ⟨rfl, h⟩
  · replace h := h.2 c55
    refine g_pc (pc' := 77) rfl ?_
    refine g_aload_n (r := (some a0)) hC 0 dX5_init_77 rfl ?_
    obtain ⟨hc44, h⟩ := h
    obtain ⟨b45, eb45, h⟩ := h
    refine g_getA hC kc5 0 (by decide) wm_1_147 dX5_init_78 rfl hc44 eb45 ?_
    refine g_iload_n hC 1 dX5_init_81 rfl ?_
    obtain ⟨hc48, h⟩ := h
    refine g_newK hC kc3 wm_1_23 wm_1_106 wm_1_5 dX5_init_82 hc48 (fun q46 hqq46 => ?_)
    obtain ⟨M47, eM47⟩ : ∃ w, w = sN M40 q46 (3, 0) := ⟨_, rfl⟩
    replace h := h q46 hqq46 M47 eM47
    rw [← eM47]
    refine g_dup hC dX5_init_85 rfl ?_
    obtain ⟨c49, s50, hc49, h⟩ := h
    refine g_callI hC (As := []) (fun l D dA ht => s_X3_init l D dA ht _ _ _ _ _ h) rfl wm_1_109 wm_1_107 wm_1_108 wm_1_5 (by decide +kernel : plainY yX3_init 0) dX5_init_86 (by decide) (Nat.le_of_ble_eq_true rfl) (Or.inr hc49) ?_
    intro M9 v9 h
    obtain ⟨rfl, h⟩ := h
    generalize M9 = M51 at h ⊢
    show G X 2 M51 (k41 + 1 + c49) (n42 + 2 + s50) 89 [(0, .ref a0), (1, .int x39)] [.ref q46, .int x39, .ref b45]
    obtain ⟨hvc53, h⟩ := h
    obtain ⟨hc53, h⟩ := h
    refine g_aastA hC 3 (by decide) dX5_init_89 hc53 hvc53 ?_
    obtain ⟨M52, eM52⟩ : ∃ w, w = sR M51 b45 (Int32.toNatClampNeg x39) ((some q46)) := ⟨_, rfl⟩
    replace h := h M52 eM52
    rw [← eM52]
    obtain ⟨x54, ex54⟩ : ∃ w, w = x39 + 1 := ⟨_, rfl⟩
    replace h := h x54 ex54
    refine g_iinc (v := x54) (lv' := [(1, .int x54), (0, .ref a0)]) hC 1 dX5_init_90 rfl (by rw [ex54]; rfl) (by decide) rfl ?_
    refine g_pc (pc' := 93) rfl ?_
    refine g_goto hC 71 dX5_init_93 (by decide) ?_
    refine g_sub [1, 0] (lv' := [(0, .ref a0), (1, .int x54)]) rfl ?_
    exact hK_K43 _ h

def w_X5_checkServer (mc ms : Nat) (M : Mem) (p0 : Int32) (xp : String → Mem → Prop) (post : Prop) : Prop :=
  ∀ J1 : Prop, (((0 + 1 ≤ mc ∧ 0 + 6 ≤ ms) ∧ xp ioob M) → J1) → ((p0 < 0 → J1) ∧ (¬ (p0 < 0) → (p0 < 6 → post) ∧ (¬ (p0 < 6) → J1)))
set_option maxRecDepth 100000 in
set_option maxHeartbeats 8000000 in
theorem s_X5_checkServer (l : Launch) (D : va_G) (dA : Nat → ClassId) (htr : l.stackTraces = false) (mc ms : Nat) (M : Mem) (p0 : Int32) (xp : String → Mem → Prop) (post : Prop) (h : w_X5_checkServer mc ms M p0 xp post) : CtX l D dA yX5_checkServer cX5_checkServer 1 (none) 6 [.int p0] M mc ms xp (pV (fun M' => M' = M ∧ post)) := by
  refine ct_ofX htr (by decide) (Nat.le_of_ble_eq_true rfl) (by decide) rfl ?_
  intro X hC hR hThrow hOut
  show G X 1 M 0 0 0 [(0, .int p0)] []
  unfold w_X5_checkServer at h
  refine g_iload_n hC 0 dX5_checkServer_0 rfl ?_
  replace h := h (G X 1 M 0 0 10 [(0, .int p0)] []) (by
    intro h
    exact hThrow _ _ _ _ _ _ _ _ _ _ _ dX5_checkServer_10 dX5_checkServer_13 dX5_checkServer_14 dX5_checkServer_16 dX5_checkServer_19 tw_ioob xs_212 (by first | exact Nat.le_of_ble_eq_true rfl | decide) h.1 h.2)
  refine g_if_lt hC 10 dX5_checkServer_1 (by decide) (fun c3 => ?_) (fun c3 => ?_)
  · replace h := h.1 c3
    exact h
  · replace h := h.2 c3
    refine g_iload_n hC 0 dX5_checkServer_4 rfl ?_
    refine g_bipush (v := 6) hC dX5_checkServer_5 (by decide) ?_
    refine g_icmp_lt hC 20 dX5_checkServer_7 (by decide) (fun c2 => ?_) (fun c2 => ?_)
    · replace h := h.1 c2
      exact hR.1 rfl _ _ _ _ _ dX5_checkServer_20 ⟨rfl, rfl, h⟩
    · replace h := h.2 c2
      exact h

def w_X5_checkChannel (mc ms : Nat) (M : Mem) (p0 : Int32) (xp : String → Mem → Prop) (post : Prop) : Prop :=
  ∀ J1 : Prop, (((0 + 1 ≤ mc ∧ 0 + 6 ≤ ms) ∧ xp ioob M) → J1) → ((p0 < 0 → J1) ∧ (¬ (p0 < 0) → (p0 < 4 → post) ∧ (¬ (p0 < 4) → J1)))
set_option maxRecDepth 100000 in
set_option maxHeartbeats 8000000 in
theorem s_X5_checkChannel (l : Launch) (D : va_G) (dA : Nat → ClassId) (htr : l.stackTraces = false) (mc ms : Nat) (M : Mem) (p0 : Int32) (xp : String → Mem → Prop) (post : Prop) (h : w_X5_checkChannel mc ms M p0 xp post) : CtX l D dA yX5_checkChannel cX5_checkChannel 1 (none) 6 [.int p0] M mc ms xp (pV (fun M' => M' = M ∧ post)) := by
  refine ct_ofX htr (by decide) (Nat.le_of_ble_eq_true rfl) (by decide) rfl ?_
  intro X hC hR hThrow hOut
  show G X 1 M 0 0 0 [(0, .int p0)] []
  unfold w_X5_checkChannel at h
  refine g_iload_n hC 0 dX5_checkChannel_0 rfl ?_
  replace h := h (G X 1 M 0 0 9 [(0, .int p0)] []) (by
    intro h
    exact hThrow _ _ _ _ _ _ _ _ _ _ _ dX5_checkChannel_9 dX5_checkChannel_12 dX5_checkChannel_13 dX5_checkChannel_15 dX5_checkChannel_18 tw_ioob xs_215 (by first | exact Nat.le_of_ble_eq_true rfl | decide) h.1 h.2)
  refine g_if_lt hC 9 dX5_checkChannel_1 (by decide) (fun c3 => ?_) (fun c3 => ?_)
  · replace h := h.1 c3
    exact h
  · replace h := h.2 c3
    refine g_iload_n hC 0 dX5_checkChannel_4 rfl ?_
    refine g_iconst (v := 4) hC dX5_checkChannel_5 (by decide) ?_
    refine g_icmp_lt hC 19 dX5_checkChannel_6 (by decide) (fun c2 => ?_) (fun c2 => ?_)
    · replace h := h.1 c2
      exact hR.1 rfl _ _ _ _ _ dX5_checkChannel_19 ⟨rfl, rfl, h⟩
    · replace h := h.2 c2
      exact h

def w_X5_checkUser (mc ms : Nat) (M : Mem) (a0 : Nat) (p0 : Int32) (xp : String → Mem → Prop) (post : Prop) : Prop :=
  ∀ J1 : Prop, (((0 + 1 ≤ mc ∧ 0 + 6 ≤ ms) ∧ xp ioob M) → J1) → ((p0 < 0 → J1) ∧ (¬ (p0 < 0) → gT M a0 = some (5, 0) ∧ (p0 < gI M a0 6 → post) ∧ (¬ (p0 < gI M a0 6) → J1)))
set_option maxRecDepth 100000 in
set_option maxHeartbeats 8000000 in
theorem s_X5_checkUser (l : Launch) (D : va_G) (dA : Nat → ClassId) (htr : l.stackTraces = false) (mc ms : Nat) (M : Mem) (a0 : Nat) (p0 : Int32) (xp : String → Mem → Prop) (post : Prop) (h : w_X5_checkUser mc ms M a0 p0 xp post) : CtX l D dA yX5_checkUser cX5_checkUser 2 (none) 6 [.ref a0, .int p0] M mc ms xp (pV (fun M' => M' = M ∧ post)) := by
  refine ct_ofX htr (by decide) (Nat.le_of_ble_eq_true rfl) (by decide) rfl ?_
  intro X hC hR hThrow hOut
  show G X 2 M 0 0 0 [(0, .ref a0), (1, .int p0)] []
  unfold w_X5_checkUser at h
  refine g_iload_n hC 1 dX5_checkUser_0 rfl ?_
  replace h := h (G X 2 M 0 0 12 [(0, .ref a0), (1, .int p0)] []) (by
    intro h
    exact hThrow _ _ _ _ _ _ _ _ _ _ _ dX5_checkUser_12 dX5_checkUser_15 dX5_checkUser_16 dX5_checkUser_18 dX5_checkUser_21 tw_ioob xs_217 (by first | exact Nat.le_of_ble_eq_true rfl | decide) h.1 h.2)
  refine g_if_lt hC 12 dX5_checkUser_1 (by decide) (fun c4 => ?_) (fun c4 => ?_)
  · replace h := h.1 c4
    exact h
  · replace h := h.2 c4
    refine g_iload_n hC 1 dX5_checkUser_4 rfl ?_
    refine g_aload_n (r := (some a0)) hC 0 dX5_checkUser_5 rfl ?_
    obtain ⟨hc2, h⟩ := h
    refine g_getI hC kc5 6 (by decide) wm_1_153 dX5_checkUser_6 rfl hc2 ?_
    refine g_icmp_lt hC 22 dX5_checkUser_9 (by decide) (fun c3 => ?_) (fun c3 => ?_)
    · replace h := h.1 c3
      exact hR.1 rfl _ _ _ _ _ dX5_checkUser_22 ⟨rfl, rfl, h⟩
    · replace h := h.2 c3
      exact h

def w_X5_isGone (M : Mem) (a0 : Nat) (p0 : Int32) (post : Int32 → Prop) : Prop :=
  gT M a0 = some (5, 0) ∧ ∃ b2, gR M a0 0 = some b2 ∧ gT M a0 = some (5, 0) ∧ ∃ b4, gR M a0 2 = some b4 ∧ inA M b4 10 p0 ∧ inA M b2 12 (gI M b4 (Int32.toNatClampNeg p0)) ∧ ∃ b7, gR M b2 (Int32.toNatClampNeg (gI M b4 (Int32.toNatClampNeg p0))) = some b7 ∧ gT M b7 = some (3, 0) ∧ w_X3_knows M b7 p0 (fun x9 => ∀ J11 : Int32 → Prop, (∀ (x10 : Int32), (((x10 : Int32) = 0 ∨ (x10 : Int32) = 1) ∧ post x10) → J11 x10) → ((x9 = 0 → J11 1) ∧ (¬ (x9 = 0) → J11 0)))
set_option maxRecDepth 100000 in
set_option maxHeartbeats 8000000 in
theorem s_X5_isGone (l : Launch) (D : va_G) (dA : Nat → ClassId) (htr : l.stackTraces = false) (M : Mem) (a0 : Nat) (p0 : Int32) (post : Int32 → Prop) (h : w_X5_isGone M a0 p0 post) : CtN l D dA yX5_isGone cX5_isGone 2 (some .boolean) 3 [.ref a0, .int p0] M 0 0 (pI (fun M' r => M' = M ∧ post r)) := by
  refine ct_ofN htr (by decide) (Nat.le_of_ble_eq_true rfl) ?_
  intro X hC hN hR
  show G X 2 M 0 0 0 [(0, .ref a0), (1, .int p0)] []
  unfold w_X5_isGone at h
  refine g_aload_n (r := (some a0)) hC 0 dX5_isGone_0 rfl ?_
  obtain ⟨hc1, h⟩ := h
  obtain ⟨b2, eb2, h⟩ := h
  refine g_getA hC kc5 0 (by decide) wm_1_147 dX5_isGone_1 rfl hc1 eb2 ?_
  refine g_aload_n (r := (some a0)) hC 0 dX5_isGone_4 rfl ?_
  obtain ⟨hc3, h⟩ := h
  obtain ⟨b4, eb4, h⟩ := h
  refine g_getA hC kc5 2 (by decide) wm_1_149 dX5_isGone_5 rfl hc3 eb4 ?_
  refine g_iload_n hC 1 dX5_isGone_8 rfl ?_
  obtain ⟨hc5, h⟩ := h
  refine g_ialdA hC dX5_isGone_9 hc5 ?_
  obtain ⟨hc6, h⟩ := h
  obtain ⟨b7, eb7, h⟩ := h
  refine g_aaldA hC (by decide) dX5_isGone_10 hc6 eb7 ?_
  refine g_pc (pc' := 11) rfl ?_
  refine g_iload_n hC 1 dX5_isGone_11 rfl ?_
  obtain ⟨hc8, h⟩ := h
  refine g_callV hC (As := [.int p0]) (fun l D dA ht => s_X3_knows l D dA ht _ _ _ _ h) wm_2_85 wm_2_82 wm_2_83 wm_2_84 wm_1_5 (by decide +kernel : plainY yX3_knows 1) kc3.1 kc3.2.1 dX5_isGone_12 (by decide) (Nat.le_of_ble_eq_true rfl) hc8 (Or.inl ⟨rfl, rfl⟩) ?_
  intro M9 v9 h
  obtain ⟨x9, rfl, h⟩ := h
  obtain ⟨hM9, h⟩ := h
  rw [hM9]
  show G X 2 M 0 0 15 [(0, .ref a0), (1, .int p0)] [.int x9]
  replace h := h (fun (x10 : Int32) => G X 2 M 0 0 23 [(0, .ref a0), (1, .int p0)] [.int x10]) (by
    intro x10 h
    show G X 2 M 0 0 23 [(0, .ref a0), (1, .int p0)] [.int x10]
    exact hR.2.2.1 rfl _ _ _ _ _ _ dX5_isGone_23 ⟨h.1, ⟨_, rfl, rfl, h.2⟩⟩)
  refine g_if_ne hC 22 dX5_isGone_15 (by decide) (fun c12 => ?_) (fun c12 => ?_)
  · replace h := h.2 c12
    refine g_iconst (v := 0) hC dX5_isGone_22 (by decide) ?_
    exact h
  · replace h := h.1 c12
    refine g_iconst (v := 1) hC dX5_isGone_18 (by decide) ?_
    refine g_goto hC 23 dX5_isGone_19 (by decide) ?_
    exact h

def w_X5_checkNotGone (mc ms : Nat) (M : Mem) (a0 : Nat) (p0 : Int32) (xp : String → Mem → Prop) (post : Prop) : Prop :=
  gT M a0 = some (5, 0) ∧ w_X5_isGone M a0 p0 (fun x2 => (x2 = 0 → post) ∧ (¬ (x2 = 0) → (0 + 1 ≤ mc ∧ 0 + 6 ≤ ms) ∧ xp ise M))
set_option maxRecDepth 100000 in
set_option maxHeartbeats 8000000 in
theorem s_X5_checkNotGone (l : Launch) (D : va_G) (dA : Nat → ClassId) (htr : l.stackTraces = false) (mc ms : Nat) (M : Mem) (a0 : Nat) (p0 : Int32) (xp : String → Mem → Prop) (post : Prop) (h : w_X5_checkNotGone mc ms M a0 p0 xp post) : CtX l D dA yX5_checkNotGone cX5_checkNotGone 2 (none) 6 [.ref a0, .int p0] M mc ms xp (pV (fun M' => M' = M ∧ post)) := by
  refine ct_ofX htr (by decide) (Nat.le_of_ble_eq_true rfl) (by decide) rfl ?_
  intro X hC hR hThrow hOut
  show G X 2 M 0 0 0 [(0, .ref a0), (1, .int p0)] []
  unfold w_X5_checkNotGone at h
  refine g_aload_n (r := (some a0)) hC 0 dX5_checkNotGone_0 rfl ?_
  refine g_iload_n hC 1 dX5_checkNotGone_1 rfl ?_
  obtain ⟨hc1, h⟩ := h
  refine g_callV hC (As := [.int p0]) (fun l D dA ht => s_X5_isGone l D dA ht _ _ _ _ h) wm_3_26 wm_3_23 wm_3_25 wm_0_10 wm_1_1 (by decide +kernel : plainY yX5_isGone 1) kc5.1 kc5.2.1 dX5_checkNotGone_2 (by decide) (Nat.le_of_ble_eq_true rfl) hc1 (Or.inl ⟨rfl, rfl⟩) ?_
  intro M9 v9 h
  obtain ⟨x2, rfl, h⟩ := h
  obtain ⟨hM9, h⟩ := h
  rw [hM9]
  show G X 2 M 0 0 5 [(0, .ref a0), (1, .int p0)] [.int x2]
  refine g_if_eq hC 18 dX5_checkNotGone_5 (by decide) (fun c3 => ?_) (fun c3 => ?_)
  · replace h := h.1 c3
    exact hR.1 rfl _ _ _ _ _ dX5_checkNotGone_18 ⟨rfl, rfl, h⟩
  · replace h := h.2 c3
    exact hThrow _ _ _ _ _ _ _ _ _ _ _ dX5_checkNotGone_8 dX5_checkNotGone_11 dX5_checkNotGone_12 dX5_checkNotGone_14 dX5_checkNotGone_17 tw_ise xs_219 (by first | exact Nat.le_of_ble_eq_true rfl | decide) h.1 h.2

def w_X5_checkMember (mc ms : Nat) (M : Mem) (a0 : Nat) (p0 : Int32) (p1 : Int32) (xp : String → Mem → Prop) (post : Prop) : Prop :=
  gT M a0 = some (5, 0) ∧ ∃ b2, gR M a0 0 = some b2 ∧ gT M a0 = some (5, 0) ∧ ∃ b4, gR M a0 2 = some b4 ∧ inA M b4 10 p0 ∧ inA M b2 12 (gI M b4 (Int32.toNatClampNeg p0)) ∧ ∃ b7, gR M b2 (Int32.toNatClampNeg (gI M b4 (Int32.toNatClampNeg p0))) = some b7 ∧ gT M b7 = some (3, 0) ∧ ∃ b9, gR M b7 1 = some b9 ∧ inA M b9 13 p1 ∧ ∃ b11, gR M b9 (Int32.toNatClampNeg p1) = some b11 ∧ gT M b11 = some (0, 0) ∧ w_X5_has M (gI M b11 3) p0 (fun x13 => (x13 = 0 → (0 + 1 ≤ mc ∧ 0 + 6 ≤ ms) ∧ xp ise M) ∧ (¬ (x13 = 0) → post))
set_option maxRecDepth 100000 in
set_option maxHeartbeats 8000000 in
theorem s_X5_checkMember (l : Launch) (D : va_G) (dA : Nat → ClassId) (htr : l.stackTraces = false) (mc ms : Nat) (M : Mem) (a0 : Nat) (p0 : Int32) (p1 : Int32) (xp : String → Mem → Prop) (post : Prop) (h : w_X5_checkMember mc ms M a0 p0 p1 xp post) : CtX l D dA yX5_checkMember cX5_checkMember 3 (none) 6 [.ref a0, .int p0, .int p1] M mc ms xp (pV (fun M' => M' = M ∧ post)) := by
  refine ct_ofX htr (by decide) (Nat.le_of_ble_eq_true rfl) (by decide) rfl ?_
  intro X hC hR hThrow hOut
  show G X 3 M 0 0 0 [(0, .ref a0), (1, .int p0), (2, .int p1)] []
  unfold w_X5_checkMember at h
  refine g_aload_n (r := (some a0)) hC 0 dX5_checkMember_0 rfl ?_
  obtain ⟨hc1, h⟩ := h
  obtain ⟨b2, eb2, h⟩ := h
  refine g_getA hC kc5 0 (by decide) wm_1_147 dX5_checkMember_1 rfl hc1 eb2 ?_
  refine g_aload_n (r := (some a0)) hC 0 dX5_checkMember_4 rfl ?_
  obtain ⟨hc3, h⟩ := h
  obtain ⟨b4, eb4, h⟩ := h
  refine g_getA hC kc5 2 (by decide) wm_1_149 dX5_checkMember_5 rfl hc3 eb4 ?_
  refine g_iload_n hC 1 dX5_checkMember_8 rfl ?_
  obtain ⟨hc5, h⟩ := h
  refine g_ialdA hC dX5_checkMember_9 hc5 ?_
  obtain ⟨hc6, h⟩ := h
  obtain ⟨b7, eb7, h⟩ := h
  refine g_aaldA hC (by decide) dX5_checkMember_10 hc6 eb7 ?_
  obtain ⟨hc8, h⟩ := h
  obtain ⟨b9, eb9, h⟩ := h
  refine g_pc (pc' := 11) rfl ?_
  refine g_getA hC kc3 1 (by decide) wm_1_141 dX5_checkMember_11 rfl hc8 eb9 ?_
  refine g_iload_n hC 2 dX5_checkMember_14 rfl ?_
  obtain ⟨hc10, h⟩ := h
  obtain ⟨b11, eb11, h⟩ := h
  refine g_aaldA hC (by decide) dX5_checkMember_15 hc10 eb11 ?_
  obtain ⟨hc12, h⟩ := h
  refine g_getI hC kc0 3 (by decide) wm_1_128 dX5_checkMember_16 rfl hc12 ?_
  refine g_iload_n hC 1 dX5_checkMember_19 rfl ?_
  refine g_callS hC (As := [.int (gI M b11 3), .int p0]) (fun l D dA ht => s_X5_has l D dA ht _ _ _ _ h) wm_2_17 wm_2_57 wm_2_16 wm_1_1 (by decide +kernel : plainY yX5_has 2) dX5_checkMember_20 (by decide) (Nat.le_of_ble_eq_true rfl) (Or.inl ⟨rfl, rfl⟩) ?_
  intro M9 v9 h
  obtain ⟨x13, rfl, h⟩ := h
  obtain ⟨hM9, h⟩ := h
  rw [hM9]
  show G X 3 M 0 0 23 [(0, .ref a0), (1, .int p0), (2, .int p1)] [.int x13]
  refine g_if_ne hC 36 dX5_checkMember_23 (by decide) (fun c14 => ?_) (fun c14 => ?_)
  · replace h := h.2 c14
    exact hR.1 rfl _ _ _ _ _ dX5_checkMember_36 ⟨rfl, rfl, h⟩
  · replace h := h.1 c14
    exact hThrow _ _ _ _ _ _ _ _ _ _ _ dX5_checkMember_26 dX5_checkMember_29 dX5_checkMember_30 dX5_checkMember_32 dX5_checkMember_35 tw_ise xs_221 (by first | exact Nat.le_of_ble_eq_true rfl | decide) h.1 h.2

def w_X5_burst (mc ms : Nat) (M : Mem) (a0 : Nat) (p0 : Int32) (p1 : Int32) (post : Mem → Prop) : Prop :=
  gT M a0 = some (5, 0) ∧ ∃ b2, gR M a0 0 = some b2 ∧ inA M b2 12 p0 ∧ ∃ b4, gR M b2 (Int32.toNatClampNeg p0) = some b4 ∧ Lp (fun (K9 : Int32 × Mem × Nat × Nat → Prop) (z : Int32 × Mem × Nat × Nat) => ∀ (x5 : Int32) (M6 : Mem) (k7 : Nat) (n8 : Nat), z = (x5, M6, k7, n8) → (gT M6 a0 = some (5, 0) ∧ ((gI M6 a0 6) ≤ x5 → Lp (fun (K15 : Int32 × Mem × Nat × Nat → Prop) (z : Int32 × Mem × Nat × Nat) => ∀ (x11 : Int32) (M12 : Mem) (k13 : Nat) (n14 : Nat), z = (x11, M12, k13, n14) → ((4 ≤ x11 → post M12) ∧ (¬ (4 ≤ x11) → gT M12 b4 = some (3, 0) ∧ ∃ b17, gR M12 b4 1 = some b17 ∧ inA M12 b17 13 x11 ∧ ∃ b19, gR M12 b17 (Int32.toNatClampNeg x11) = some b19 ∧ gT M12 b19 = some (0, 0) ∧ w_X0_isThere M12 b19 (fun x21 => ∀ J25 : Mem → Nat → Nat → Prop, (∀ (M22 : Mem) (k23 : Nat) (n24 : Nat), (∀ x26, x26 = x11 + 1 → K15 (x26, M22, k23, n24)) → J25 M22 k23 n24) → ((x21 = 0 → J25 M12 k13 n14) ∧ (¬ (x21 = 0) → gT M12 a0 = some (5, 0) ∧ ∃ b28, gR M12 a0 1 = some b28 ∧ gT M12 a0 = some (5, 0) ∧ ∃ b30, gR M12 a0 5 = some b30 ∧ gT M12 b19 = some (0, 0) ∧ gT M12 b30 = some (1, 0) ∧ w_X1_ofChannel M12 b30 2 x11 b19 (gI M12 b19 3) (fun M33 r34 => ∃ b35, r34 = some b35 ∧ gT M33 b28 = some (4, 0) ∧ ∃ c37 s38, (k13 + c37 ≤ mc ∧ n14 + s38 ≤ ms) ∧ w_X4_put c37 s38 M33 b28 p0 p1 b35 (fun M39 => J25 M39 (k13 + c37) (n14 + s38))))))))) (0, M6, k7, n8)) ∧ (¬ ((gI M6 a0 6) ≤ x5) → gT M6 b4 = some (3, 0) ∧ w_X3_knows M6 b4 x5 (fun x44 => ∀ J48 : Mem → Nat → Nat → Prop, (∀ (M45 : Mem) (k46 : Nat) (n47 : Nat), (∀ x49, x49 = x5 + 1 → K9 (x49, M45, k46, n47)) → J48 M45 k46 n47) → ((x44 = 0 → J48 M6 k7 n8) ∧ (¬ (x44 = 0) → gT M6 a0 = some (5, 0) ∧ ∃ b51, gR M6 a0 1 = some b51 ∧ gT M6 a0 = some (5, 0) ∧ ∃ b53, gR M6 a0 5 = some b53 ∧ gT M6 b53 = some (1, 0) ∧ w_X1_ofUser M6 b53 0 x5 (fun M55 r56 => ∃ b57, r56 = some b57 ∧ gT M55 b51 = some (4, 0) ∧ ∃ c59 s60, (k7 + c59 ≤ mc ∧ n8 + s60 ≤ ms) ∧ w_X4_put c59 s60 M55 b51 p0 p1 b57 (fun M61 => J48 M61 (k7 + c59) (n8 + s60))))))))) (0, M, 0, 0)
set_option maxRecDepth 100000 in
set_option maxHeartbeats 8000000 in
theorem s_X5_burst (l : Launch) (D : va_G) (dA : Nat → ClassId) (htr : l.stackTraces = false) (mc ms : Nat) (M : Mem) (a0 : Nat) (p0 : Int32) (p1 : Int32) (post : Mem → Prop) (h : w_X5_burst mc ms M a0 p0 p1 post) : CtN l D dA yX5_burst cX5_burst 6 (none) 4 [.ref a0, .int p0, .int p1] M mc ms (pV post) := by
  refine ct_ofN htr (by decide) (Nat.le_of_ble_eq_true rfl) ?_
  intro X hC hN hR
  show G X 6 M 0 0 0 [(0, .ref a0), (1, .int p0), (2, .int p1)] []
  unfold w_X5_burst at h
  refine g_aload_n (r := (some a0)) hC 0 dX5_burst_0 rfl ?_
  obtain ⟨hc1, h⟩ := h
  obtain ⟨b2, eb2, h⟩ := h
  refine g_getA hC kc5 0 (by decide) wm_1_147 dX5_burst_1 rfl hc1 eb2 ?_
  refine g_iload_n hC 1 dX5_burst_4 rfl ?_
  obtain ⟨hc3, h⟩ := h
  obtain ⟨b4, eb4, h⟩ := h
  refine g_aaldA hC (by decide) dX5_burst_5 hc3 eb4 ?_
  refine g_astore_n (r := (some b4)) (lv' := [(3, .ref b4), (0, .ref a0), (1, .int p0), (2, .int p1)]) hC dX5_burst_6 (by decide) rfl ?_
  refine g_iconst (v := 0) hC dX5_burst_7 (by decide) ?_
  refine g_istore (lv' := [(4, .int 0), (3, .ref b4), (0, .ref a0), (1, .int p0), (2, .int p1)]) hC dX5_burst_8 (by decide) rfl ?_
  refine g_sub [2, 3, 4, 1, 0] (lv' := [(0, .ref a0), (1, .int p0), (2, .int p1), (3, .ref b4), (4, .int 0)]) rfl ?_
  refine Lp_use (fun (z64 : Int32 × Mem × Nat × Nat) => G X 6 z64.2.1 z64.2.2.1 z64.2.2.2 10 [(0, .ref a0), (1, .int p0), (2, .int p1), (3, .ref b4), (4, .int z64.1)] []) h ?_
  intro K9 z hK_K9 h
  obtain ⟨x5, M6, k7, n8⟩ := z
  replace h := h _ _ _ _ rfl
  show G X 6 M6 k7 n8 10 [(0, .ref a0), (1, .int p0), (2, .int p1), (3, .ref b4), (4, .int x5)] []
  refine g_pc (pc' := 10) rfl ?_
  refine g_iload hC 4 dX5_burst_10 rfl ?_
  refine g_aload_n (r := (some a0)) hC 0 dX5_burst_12 rfl ?_
  obtain ⟨hc10, h⟩ := h
  refine g_getI hC kc5 6 (by decide) wm_1_153 dX5_burst_13 rfl hc10 ?_
  refine g_icmp_ge hC 53 dX5_burst_16 (by decide) (fun c63 => ?_) (fun c63 => ?_)
  · replace h := h.1 c63
    refine g_iconst (v := 0) hC dX5_burst_53 (by decide) ?_
    refine g_istore (lv' := [(4, .int 0), (0, .ref a0), (1, .int p0), (2, .int p1), (3, .ref b4)]) hC dX5_burst_54 (by decide) rfl ?_
    refine g_sub [1, 2, 3, 4, 0] (lv' := [(0, .ref a0), (1, .int p0), (2, .int p1), (3, .ref b4), (4, .int 0)]) rfl ?_
    refine Lp_use (fun (z42 : Int32 × Mem × Nat × Nat) => G X 6 z42.2.1 z42.2.2.1 z42.2.2.2 56 [(0, .ref a0), (1, .int p0), (2, .int p1), (3, .ref b4), (4, .int z42.1)] []) h ?_
    intro K15 z hK_K15 h
    obtain ⟨x11, M12, k13, n14⟩ := z
    replace h := h _ _ _ _ rfl
    show G X 6 M12 k13 n14 56 [(0, .ref a0), (1, .int p0), (2, .int p1), (3, .ref b4), (4, .int x11)] []
    refine g_iload hC 4 dX5_burst_56 rfl ?_
    refine g_iconst (v := 4) hC dX5_burst_58 (by decide) ?_
    refine g_pc (pc' := 59) rfl ?_
    refine g_icmp_ge hC 111 dX5_burst_59 (by decide) (fun c41 => ?_) (fun c41 => ?_)
    · replace h := h.1 c41
      exact hR.1 rfl _ _ _ _ _ dX5_burst_111 ⟨rfl, h⟩
    · replace h := h.2 c41
      refine g_aload_n (r := (some b4)) hC 3 dX5_burst_62 rfl ?_
      obtain ⟨hc16, h⟩ := h
      obtain ⟨b17, eb17, h⟩ := h
      refine g_getA hC kc3 1 (by decide) wm_1_141 dX5_burst_63 rfl hc16 eb17 ?_
      refine g_iload hC 4 dX5_burst_66 rfl ?_
      obtain ⟨hc18, h⟩ := h
      obtain ⟨b19, eb19, h⟩ := h
      refine g_aaldA hC (by decide) dX5_burst_68 hc18 eb19 ?_
      refine g_astore (r := (some b19)) (lv' := [(5, .ref b19), (0, .ref a0), (1, .int p0), (2, .int p1), (3, .ref b4), (4, .int x11)]) hC dX5_burst_69 (by decide) rfl ?_
      refine g_aload (r := (some b19)) hC 0 dX5_burst_71 rfl ?_
      obtain ⟨hc20, h⟩ := h
      refine g_callV hC (As := []) (fun l D dA ht => s_X0_isThere l D dA ht _ _ _ h) wm_2_109 wm_2_106 wm_2_107 wm_2_108 wm_1_6 (by decide +kernel : plainY yX0_isThere 0) kc0.1 kc0.2.1 dX5_burst_73 (by decide) (Nat.le_of_ble_eq_true rfl) hc20 (Or.inl ⟨rfl, rfl⟩) ?_
      intro M9 v9 h
      obtain ⟨x21, rfl, h⟩ := h
      obtain ⟨hM9, h⟩ := h
      rw [hM9]
      show G X 6 M12 k13 n14 76 [(5, .ref b19), (0, .ref a0), (1, .int p0), (2, .int p1), (3, .ref b4), (4, .int x11)] [.int x21]
      replace h := h (fun (M22 : Mem) (k23 : Nat) (n24 : Nat) => G X 6 M22 k23 n24 105 [(0, .ref a0), (1, .int p0), (2, .int p1), (3, .ref b4), (4, .int x11), (5, .ref b19)] []) (by
        intro M22 k23 n24 h
        show G X 6 M22 k23 n24 105 [(0, .ref a0), (1, .int p0), (2, .int p1), (3, .ref b4), (4, .int x11), (5, .ref b19)] []
        obtain ⟨x26, ex26⟩ : ∃ w, w = x11 + 1 := ⟨_, rfl⟩
        replace h := h x26 ex26
        refine g_pc (pc' := 105) rfl ?_
        refine g_iinc (v := x26) (lv' := [(4, .int x26), (0, .ref a0), (1, .int p0), (2, .int p1), (3, .ref b4), (5, .ref b19)]) hC 4 dX5_burst_105 rfl (by rw [ex26]; rfl) (by decide) rfl ?_
        refine g_goto hC 56 dX5_burst_108 (by decide) ?_
        refine g_sub [1, 2, 3, 4, 0] (lv' := [(0, .ref a0), (1, .int p0), (2, .int p1), (3, .ref b4), (4, .int x26)]) rfl ?_
        exact hK_K15 _ h)
      refine g_pc (pc' := 76) rfl ?_
      refine g_if_eq hC 105 dX5_burst_76 (by decide) (fun c40 => ?_) (fun c40 => ?_)
      · replace h := h.1 c40
        refine g_sub [1, 2, 3, 4, 5, 0] (lv' := [(0, .ref a0), (1, .int p0), (2, .int p1), (3, .ref b4), (4, .int x11), (5, .ref b19)]) rfl ?_
        exact h
      · replace h := h.2 c40
        refine g_aload_n (r := (some a0)) hC 1 dX5_burst_79 rfl ?_
        obtain ⟨hc27, h⟩ := h
        obtain ⟨b28, eb28, h⟩ := h
        refine g_getA hC kc5 1 (by decide) wm_1_148 dX5_burst_80 rfl hc27 eb28 ?_
        refine g_iload_n hC 2 dX5_burst_83 rfl ?_
        refine g_iload_n hC 3 dX5_burst_84 rfl ?_
        refine g_aload_n (r := (some a0)) hC 1 dX5_burst_85 rfl ?_
        obtain ⟨hc29, h⟩ := h
        obtain ⟨b30, eb30, h⟩ := h
        refine g_getA hC kc5 5 (by decide) wm_1_152 dX5_burst_86 rfl hc29 eb30 ?_
        refine g_iconst (v := 2) hC dX5_burst_89 (by decide) ?_
        refine g_pc (pc' := 90) rfl ?_
        refine g_iload hC 5 dX5_burst_90 rfl ?_
        refine g_aload (r := (some b19)) hC 0 dX5_burst_92 rfl ?_
        refine g_aload (r := (some b19)) hC 0 dX5_burst_94 rfl ?_
        obtain ⟨hc31, h⟩ := h
        refine g_getI hC kc0 3 (by decide) wm_1_128 dX5_burst_96 rfl hc31 ?_
        obtain ⟨hc32, h⟩ := h
        refine g_callV hC (As := [.int 2, .int x11, .ref b19, .int (gI M12 b19 3)]) (fun l D dA ht => s_X1_ofChannel l D dA ht _ _ _ _ _ _ _ h) wm_2_113 wm_2_110 wm_2_111 wm_2_112 wm_1_4 (by decide +kernel : plainY yX1_ofChannel 4) kc1.1 kc1.2.1 dX5_burst_99 (by decide) (Nat.le_of_ble_eq_true rfl) hc32 (Or.inl ⟨rfl, rfl⟩) ?_
        intro M9 v9 h
        obtain ⟨r34, rfl, h⟩ := h
        generalize M9 = M33 at h ⊢
        show G X 6 M33 k13 n14 102 [(5, .ref b19), (0, .ref a0), (1, .int p0), (2, .int p1), (3, .ref b4), (4, .int x11)] [va_rf r34, .int p1, .int p0, .ref b28]
        obtain ⟨b35, eb35, h⟩ := h
        subst eb35
        obtain ⟨hc36, h⟩ := h
        obtain ⟨c37, s38, hc37, h⟩ := h
        refine g_callV hC (As := [.int p0, .int p1, .ref b35]) (fun l D dA ht => s_X4_put l D dA ht _ _ _ _ _ _ _ _ h) wm_2_94 wm_2_91 wm_2_92 wm_2_93 wm_1_2 (by decide +kernel : plainY yX4_put 3) kc4.1 kc4.2.1 dX5_burst_102 (by decide) (Nat.le_of_ble_eq_true rfl) hc36 (Or.inr hc37) ?_
        intro M9 v9 h
        obtain ⟨rfl, h⟩ := h
        generalize M9 = M39 at h ⊢
        show G X 6 M39 (k13 + c37) (n14 + s38) 105 [(5, .ref b19), (0, .ref a0), (1, .int p0), (2, .int p1), (3, .ref b4), (4, .int x11)] []
        refine g_sub [1, 2, 3, 4, 5, 0] (lv' := [(0, .ref a0), (1, .int p0), (2, .int p1), (3, .ref b4), (4, .int x11), (5, .ref b19)]) rfl ?_
        exact h
  · replace h := h.2 c63
    refine g_aload_n (r := (some b4)) hC 3 dX5_burst_19 rfl ?_
    refine g_iload hC 4 dX5_burst_20 rfl ?_
    obtain ⟨hc43, h⟩ := h
    refine g_callV hC (As := [.int x5]) (fun l D dA ht => s_X3_knows l D dA ht _ _ _ _ h) wm_2_85 wm_2_82 wm_2_83 wm_2_84 wm_1_5 (by decide +kernel : plainY yX3_knows 1) kc3.1 kc3.2.1 dX5_burst_22 (by decide) (Nat.le_of_ble_eq_true rfl) hc43 (Or.inl ⟨rfl, rfl⟩) ?_
    intro M9 v9 h
    obtain ⟨x44, rfl, h⟩ := h
    obtain ⟨hM9, h⟩ := h
    rw [hM9]
    show G X 6 M6 k7 n8 25 [(0, .ref a0), (1, .int p0), (2, .int p1), (3, .ref b4), (4, .int x5)] [.int x44]
    replace h := h (fun (M45 : Mem) (k46 : Nat) (n47 : Nat) => G X 6 M45 k46 n47 47 [(0, .ref a0), (1, .int p0), (2, .int p1), (3, .ref b4), (4, .int x5)] []) (by
      intro M45 k46 n47 h
      show G X 6 M45 k46 n47 47 [(0, .ref a0), (1, .int p0), (2, .int p1), (3, .ref b4), (4, .int x5)] []
      obtain ⟨x49, ex49⟩ : ∃ w, w = x5 + 1 := ⟨_, rfl⟩
      replace h := h x49 ex49
      refine g_iinc (v := x49) (lv' := [(4, .int x49), (0, .ref a0), (1, .int p0), (2, .int p1), (3, .ref b4)]) hC 4 dX5_burst_47 rfl (by rw [ex49]; rfl) (by decide) rfl ?_
      refine g_pc (pc' := 50) rfl ?_
      refine g_goto hC 10 dX5_burst_50 (by decide) ?_
      refine g_sub [1, 2, 3, 4, 0] (lv' := [(0, .ref a0), (1, .int p0), (2, .int p1), (3, .ref b4), (4, .int x49)]) rfl ?_
      exact hK_K9 _ h)
    refine g_if_eq hC 47 dX5_burst_25 (by decide) (fun c62 => ?_) (fun c62 => ?_)
    · replace h := h.1 c62
      exact h
    · replace h := h.2 c62
      refine g_pc (pc' := 28) rfl ?_
      refine g_aload_n (r := (some a0)) hC 0 dX5_burst_28 rfl ?_
      obtain ⟨hc50, h⟩ := h
      obtain ⟨b51, eb51, h⟩ := h
      refine g_getA hC kc5 1 (by decide) wm_1_148 dX5_burst_29 rfl hc50 eb51 ?_
      refine g_iload_n hC 1 dX5_burst_32 rfl ?_
      refine g_iload_n hC 2 dX5_burst_33 rfl ?_
      refine g_aload_n (r := (some a0)) hC 0 dX5_burst_34 rfl ?_
      obtain ⟨hc52, h⟩ := h
      obtain ⟨b53, eb53, h⟩ := h
      refine g_getA hC kc5 5 (by decide) wm_1_152 dX5_burst_35 rfl hc52 eb53 ?_
      refine g_iconst (v := 0) hC dX5_burst_38 (by decide) ?_
      refine g_iload hC 4 dX5_burst_39 rfl ?_
      refine g_pc (pc' := 41) rfl ?_
      obtain ⟨hc54, h⟩ := h
      refine g_callV hC (As := [.int 0, .int x5]) (fun l D dA ht => s_X1_ofUser l D dA ht _ _ _ _ _ h) wm_2_90 wm_2_87 wm_2_88 wm_2_89 wm_1_4 (by decide +kernel : plainY yX1_ofUser 2) kc1.1 kc1.2.1 dX5_burst_41 (by decide) (Nat.le_of_ble_eq_true rfl) hc54 (Or.inl ⟨rfl, rfl⟩) ?_
      intro M9 v9 h
      obtain ⟨r56, rfl, h⟩ := h
      generalize M9 = M55 at h ⊢
      show G X 6 M55 k7 n8 44 [(0, .ref a0), (1, .int p0), (2, .int p1), (3, .ref b4), (4, .int x5)] [va_rf r56, .int p1, .int p0, .ref b51]
      obtain ⟨b57, eb57, h⟩ := h
      subst eb57
      obtain ⟨hc58, h⟩ := h
      obtain ⟨c59, s60, hc59, h⟩ := h
      refine g_callV hC (As := [.int p0, .int p1, .ref b57]) (fun l D dA ht => s_X4_put l D dA ht _ _ _ _ _ _ _ _ h) wm_2_94 wm_2_91 wm_2_92 wm_2_93 wm_1_2 (by decide +kernel : plainY yX4_put 3) kc4.1 kc4.2.1 dX5_burst_44 (by decide) (Nat.le_of_ble_eq_true rfl) hc58 (Or.inr hc59) ?_
      intro M9 v9 h
      obtain ⟨rfl, h⟩ := h
      generalize M9 = M61 at h ⊢
      show G X 6 M61 (k7 + c59) (n8 + s60) 47 [(0, .ref a0), (1, .int p0), (2, .int p1), (3, .ref b4), (4, .int x5)] []
      exact h

def w_X5_link (mc ms : Nat) (M : Mem) (a0 : Nat) (p0 : Int32) (p1 : Int32) (xp : String → Mem → Prop) (post : Mem → Int32 → Prop) : Prop :=
  ∃ c1 s2, (0 + c1 ≤ mc ∧ 0 + s2 ≤ ms) ∧ w_X5_checkServer c1 s2 M p0 (fun E M => xp E M) (∃ c3 s4, ((0 + c1) + c3 ≤ mc ∧ (0 + s2) + s4 ≤ ms) ∧ w_X5_checkServer c3 s4 M p1 (fun E M => xp E M) (gT M a0 = some (5, 0) ∧ ∃ b6, gR M a0 1 = some b6 ∧ gT M b6 = some (4, 0) ∧ w_X4_treeOf M b6 p0 (fun x8 => w_X5_has M x8 p1 (fun x9 => (x9 = 0 → gT M a0 = some (5, 0) ∧ ∃ b11, gR M a0 1 = some b11 ∧ gT M b11 = some (4, 0) ∧ ∀ x13, x13 = gI M b11 2 → gT M a0 = some (5, 0) ∧ ∃ b15, gR M a0 1 = some b15 ∧ gT M b15 = some (4, 0) ∧ w_X4_connect M b15 p0 p1 (fun M17 => gT M17 a0 = some (5, 0) ∧ ∃ c19 s20, ((0 + c1 + c3) + c19 ≤ mc ∧ (0 + s2 + s4) + s20 ≤ ms) ∧ w_X5_burst c19 s20 M17 a0 p0 p1 (fun M21 => gT M21 a0 = some (5, 0) ∧ ∃ c23 s24, ((0 + c1 + c3 + c19) + c23 ≤ mc ∧ (0 + s2 + s4 + s20) + s24 ≤ ms) ∧ w_X5_burst c23 s24 M21 a0 p1 p0 (fun M25 => gT M25 a0 = some (5, 0) ∧ gT M25 a0 = some (5, 0) ∧ ∀ M28, M28 = sI M25 a0 7 ((gI M25 a0 7) + 1) → gT M28 a0 = some (5, 0) ∧ ∃ b30, gR M28 a0 1 = some b30 ∧ gT M28 b30 = some (4, 0) ∧ post M28 ((gI M28 b30 2) - x13))))) ∧ (¬ (x9 = 0) → (0 + c1 + c3 + 1 ≤ mc ∧ 0 + s2 + s4 + 6 ≤ ms) ∧ xp ise M)))))
set_option maxRecDepth 100000 in
set_option maxHeartbeats 8000000 in
theorem s_X5_link (l : Launch) (D : va_G) (dA : Nat → ClassId) (htr : l.stackTraces = false) (mc ms : Nat) (M : Mem) (a0 : Nat) (p0 : Int32) (p1 : Int32) (xp : String → Mem → Prop) (post : Mem → Int32 → Prop) (h : w_X5_link mc ms M a0 p0 p1 xp post) : CtX l D dA yX5_link cX5_link 4 (some .int) 7 [.ref a0, .int p0, .int p1] M mc ms xp (pI post) := by
  refine ct_ofX htr (by decide) (Nat.le_of_ble_eq_true rfl) (by decide) rfl ?_
  intro X hC hR hThrow hOut
  show G X 4 M 0 0 0 [(0, .ref a0), (1, .int p0), (2, .int p1)] []
  unfold w_X5_link at h
  refine g_iload_n hC 1 dX5_link_0 rfl ?_
  obtain ⟨c1, s2, hc1, h⟩ := h
  refine gx_callS hC (As := [.int p0]) (fun l D dA ht => s_X5_checkServer l D dA ht _ _ _ _ _ _ h) wm_1_182 wm_1_180 wm_1_181 wm_1_1 (by decide +kernel : plainY yX5_checkServer 1) dX5_link_1 (by decide) (Nat.le_of_ble_eq_true rfl) (Or.inr hc1) ?_ ?_
  · exact fun M E h => hOut _ _ _ _ _ _ _ h
  · intro M9 v9 h
    obtain ⟨rfl, h⟩ := h
    obtain ⟨hM9, h⟩ := h
    rw [hM9]
    show G X 4 M (0 + c1) (0 + s2) 4 [(0, .ref a0), (1, .int p0), (2, .int p1)] []
    refine g_iload_n hC 2 dX5_link_4 rfl ?_
    obtain ⟨c3, s4, hc3, h⟩ := h
    refine gx_callS hC (As := [.int p1]) (fun l D dA ht => s_X5_checkServer l D dA ht _ _ _ _ _ _ h) wm_1_182 wm_1_180 wm_1_181 wm_1_1 (by decide +kernel : plainY yX5_checkServer 1) dX5_link_5 (by decide) (Nat.le_of_ble_eq_true rfl) (Or.inr hc3) ?_ ?_
    · exact fun M E h => hOut _ _ _ _ _ _ _ h
    · intro M9 v9 h
      obtain ⟨rfl, h⟩ := h
      obtain ⟨hM9, h⟩ := h
      rw [hM9]
      show G X 4 M (0 + c1 + c3) (0 + s2 + s4) 8 [(0, .ref a0), (1, .int p0), (2, .int p1)] []
      refine g_aload_n (r := (some a0)) hC 0 dX5_link_8 rfl ?_
      obtain ⟨hc5, h⟩ := h
      obtain ⟨b6, eb6, h⟩ := h
      refine g_getA hC kc5 1 (by decide) wm_1_148 dX5_link_9 rfl hc5 eb6 ?_
      refine g_iload_n hC 1 dX5_link_12 rfl ?_
      refine g_pc (pc' := 13) rfl ?_
      obtain ⟨hc7, h⟩ := h
      refine g_callV hC (As := [.int p0]) (fun l D dA ht => s_X4_treeOf l D dA ht _ _ _ _ h) wm_2_14 wm_2_11 wm_2_12 wm_2_13 wm_1_2 (by decide +kernel : plainY yX4_treeOf 1) kc4.1 kc4.2.1 dX5_link_13 (by decide) (Nat.le_of_ble_eq_true rfl) hc7 (Or.inl ⟨rfl, rfl⟩) ?_
      intro M9 v9 h
      obtain ⟨x8, rfl, h⟩ := h
      obtain ⟨hM9, h⟩ := h
      rw [hM9]
      show G X 4 M (0 + c1 + c3) (0 + s2 + s4) 16 [(0, .ref a0), (1, .int p0), (2, .int p1)] [.int x8]
      refine g_iload_n hC 2 dX5_link_16 rfl ?_
      refine g_callS hC (As := [.int x8, .int p1]) (fun l D dA ht => s_X5_has l D dA ht _ _ _ _ h) wm_2_17 wm_2_57 wm_2_16 wm_1_1 (by decide +kernel : plainY yX5_has 2) dX5_link_17 (by decide) (Nat.le_of_ble_eq_true rfl) (Or.inl ⟨rfl, rfl⟩) ?_
      intro M9 v9 h
      obtain ⟨x9, rfl, h⟩ := h
      obtain ⟨hM9, h⟩ := h
      rw [hM9]
      show G X 4 M (0 + c1 + c3) (0 + s2 + s4) 20 [(0, .ref a0), (1, .int p0), (2, .int p1)] [.int x9]
      refine g_if_eq hC 33 dX5_link_20 (by decide) (fun c32 => ?_) (fun c32 => ?_)
      · replace h := h.1 c32
        refine g_aload_n (r := (some a0)) hC 0 dX5_link_33 rfl ?_
        obtain ⟨hc10, h⟩ := h
        obtain ⟨b11, eb11, h⟩ := h
        refine g_getA hC kc5 1 (by decide) wm_1_148 dX5_link_34 rfl hc10 eb11 ?_
        obtain ⟨hc12, h⟩ := h
        refine g_getI hC kc4 2 (by decide) wm_1_49 dX5_link_37 rfl hc12 ?_
        obtain ⟨x13, ex13⟩ : ∃ w, w = gI M b11 2 := ⟨_, rfl⟩
        replace h := h x13 ex13
        rw [← ex13]
        refine g_istore_n (lv' := [(3, .int x13), (0, .ref a0), (1, .int p0), (2, .int p1)]) hC dX5_link_40 (by decide) rfl ?_
        refine g_pc (pc' := 41) rfl ?_
        refine g_aload_n (r := (some a0)) hC 1 dX5_link_41 rfl ?_
        obtain ⟨hc14, h⟩ := h
        obtain ⟨b15, eb15, h⟩ := h
        refine g_getA hC kc5 1 (by decide) wm_1_148 dX5_link_42 rfl hc14 eb15 ?_
        refine g_iload_n hC 2 dX5_link_45 rfl ?_
        refine g_iload_n hC 3 dX5_link_46 rfl ?_
        obtain ⟨hc16, h⟩ := h
        refine g_callV hC (As := [.int p0, .int p1]) (fun l D dA ht => s_X4_connect l D dA ht _ _ _ _ _ h) wm_2_77 wm_2_74 wm_2_75 wm_2_76 wm_1_2 (by decide +kernel : plainY yX4_connect 2) kc4.1 kc4.2.1 dX5_link_47 (by decide) (Nat.le_of_ble_eq_true rfl) hc16 (Or.inl ⟨rfl, rfl⟩) ?_
        intro M9 v9 h
        obtain ⟨rfl, h⟩ := h
        generalize M9 = M17 at h ⊢
        show G X 4 M17 (0 + c1 + c3) (0 + s2 + s4) 50 [(3, .int x13), (0, .ref a0), (1, .int p0), (2, .int p1)] []
        refine g_aload_n (r := (some a0)) hC 1 dX5_link_50 rfl ?_
        refine g_iload_n hC 2 dX5_link_51 rfl ?_
        refine g_iload_n hC 3 dX5_link_52 rfl ?_
        refine g_pc (pc' := 53) rfl ?_
        obtain ⟨hc18, h⟩ := h
        obtain ⟨c19, s20, hc19, h⟩ := h
        refine g_callV hC (As := [.int p0, .int p1]) (fun l D dA ht => s_X5_burst l D dA ht _ _ _ _ _ _ _ h) wm_2_81 wm_2_78 wm_2_80 wm_0_1 wm_1_1 (by decide +kernel : plainY yX5_burst 2) kc5.1 kc5.2.1 dX5_link_53 (by decide) (Nat.le_of_ble_eq_true rfl) hc18 (Or.inr hc19) ?_
        intro M9 v9 h
        obtain ⟨rfl, h⟩ := h
        generalize M9 = M21 at h ⊢
        show G X 4 M21 (0 + c1 + c3 + c19) (0 + s2 + s4 + s20) 56 [(3, .int x13), (0, .ref a0), (1, .int p0), (2, .int p1)] []
        refine g_aload_n (r := (some a0)) hC 1 dX5_link_56 rfl ?_
        refine g_iload_n hC 3 dX5_link_57 rfl ?_
        refine g_iload_n hC 2 dX5_link_58 rfl ?_
        obtain ⟨hc22, h⟩ := h
        obtain ⟨c23, s24, hc23, h⟩ := h
        refine g_callV hC (As := [.int p1, .int p0]) (fun l D dA ht => s_X5_burst l D dA ht _ _ _ _ _ _ _ h) wm_2_81 wm_2_78 wm_2_80 wm_0_1 wm_1_1 (by decide +kernel : plainY yX5_burst 2) kc5.1 kc5.2.1 dX5_link_59 (by decide) (Nat.le_of_ble_eq_true rfl) hc22 (Or.inr hc23) ?_
        intro M9 v9 h
        obtain ⟨rfl, h⟩ := h
        generalize M9 = M25 at h ⊢
        show G X 4 M25 (0 + c1 + c3 + c19 + c23) (0 + s2 + s4 + s20 + s24) 62 [(3, .int x13), (0, .ref a0), (1, .int p0), (2, .int p1)] []
        refine g_aload_n (r := (some a0)) hC 1 dX5_link_62 rfl ?_
        refine g_dup hC dX5_link_63 rfl ?_
        obtain ⟨hc26, h⟩ := h
        refine g_getI hC kc5 7 (by decide) wm_1_154 dX5_link_64 rfl hc26 ?_
        refine g_pc (pc' := 67) rfl ?_
        refine g_iconst (v := 1) hC dX5_link_67 (by decide) ?_
        refine g_iadd hC dX5_link_68 ?_
        obtain ⟨hc27, h⟩ := h
        refine g_putI hC kc5 7 (by decide) wm_1_154 dX5_link_69 rfl rfl (Or.inl rfl) hc27 ?_
        obtain ⟨M28, eM28⟩ : ∃ w, w = sI M25 a0 7 ((gI M25 a0 7) + 1) := ⟨_, rfl⟩
        replace h := h M28 eM28
        rw [← eM28]
        refine g_aload_n (r := (some a0)) hC 1 dX5_link_72 rfl ?_
        obtain ⟨hc29, h⟩ := h
        obtain ⟨b30, eb30, h⟩ := h
        refine g_getA hC kc5 1 (by decide) wm_1_148 dX5_link_73 rfl hc29 eb30 ?_
        obtain ⟨hc31, h⟩ := h
        refine g_getI hC kc4 2 (by decide) wm_1_49 dX5_link_76 rfl hc31 ?_
        refine g_iload_n hC 0 dX5_link_79 rfl ?_
        refine g_isub hC dX5_link_80 ?_
        refine g_pc (pc' := 81) rfl ?_
        exact hR.2.1 rfl _ _ _ _ _ _ dX5_link_81 ⟨_, rfl, h⟩
      · replace h := h.2 c32
        exact hThrow _ _ _ _ _ _ _ _ _ _ _ dX5_link_23 dX5_link_26 dX5_link_27 dX5_link_29 dX5_link_32 tw_ise xs_61 (by first | exact Nat.le_of_ble_eq_true rfl | decide) h.1 h.2

def w_X5_forgetUnreached (M : Mem) (a0 : Nat) (p0 : Int32) (post : Mem → Prop) : Prop :=
  gT M a0 = some (5, 0) ∧ ∃ b2, gR M a0 0 = some b2 ∧ inA M b2 12 p0 ∧ ∃ b4, gR M b2 (Int32.toNatClampNeg p0) = some b4 ∧ gT M a0 = some (5, 0) ∧ ∃ b6, gR M a0 1 = some b6 ∧ gT M b6 = some (4, 0) ∧ w_X4_treeOf M b6 p0 (fun x8 => Lp (fun (K11 : Int32 × Mem → Prop) (z : Int32 × Mem) => ∀ (x9 : Int32) (M10 : Mem), z = (x9, M10) → (gT M10 a0 = some (5, 0) ∧ ((gI M10 a0 6) ≤ x9 → post M10) ∧ (¬ ((gI M10 a0 6) ≤ x9) → gT M10 b4 = some (3, 0) ∧ w_X3_knows M10 b4 x9 (fun x14 => ∀ J16 : Mem → Prop, (∀ (M15 : Mem), (∀ x17, x17 = x9 + 1 → K11 (x17, M15)) → J16 M15) → ((x14 = 0 → J16 M10) ∧ (¬ (x14 = 0) → gT M10 a0 = some (5, 0) ∧ ∃ b19, gR M10 a0 2 = some b19 ∧ inA M10 b19 10 x9 ∧ w_X5_has M10 x8 (gI M10 b19 (Int32.toNatClampNeg x9)) (fun x21 => (x21 = 0 → gT M10 b4 = some (3, 0) ∧ w_X3_forget M10 b4 x9 (fun M23 => J16 M23)) ∧ (¬ (x21 = 0) → J16 M10)))))))) (0, M))
set_option maxRecDepth 100000 in
set_option maxHeartbeats 8000000 in
theorem s_X5_forgetUnreached (l : Launch) (D : va_G) (dA : Nat → ClassId) (htr : l.stackTraces = false) (M : Mem) (a0 : Nat) (p0 : Int32) (post : Mem → Prop) (h : w_X5_forgetUnreached M a0 p0 post) : CtN l D dA yX5_forgetUnreached cX5_forgetUnreached 5 (none) 3 [.ref a0, .int p0] M 0 0 (pV post) := by
  refine ct_ofN htr (by decide) (Nat.le_of_ble_eq_true rfl) ?_
  intro X hC hN hR
  show G X 5 M 0 0 0 [(0, .ref a0), (1, .int p0)] []
  unfold w_X5_forgetUnreached at h
  refine g_aload_n (r := (some a0)) hC 0 dX5_forgetUnreached_0 rfl ?_
  obtain ⟨hc1, h⟩ := h
  obtain ⟨b2, eb2, h⟩ := h
  refine g_getA hC kc5 0 (by decide) wm_1_147 dX5_forgetUnreached_1 rfl hc1 eb2 ?_
  refine g_iload_n hC 1 dX5_forgetUnreached_4 rfl ?_
  obtain ⟨hc3, h⟩ := h
  obtain ⟨b4, eb4, h⟩ := h
  refine g_aaldA hC (by decide) dX5_forgetUnreached_5 hc3 eb4 ?_
  refine g_astore_n (r := (some b4)) (lv' := [(2, .ref b4), (0, .ref a0), (1, .int p0)]) hC dX5_forgetUnreached_6 (by decide) rfl ?_
  refine g_aload_n (r := (some a0)) hC 1 dX5_forgetUnreached_7 rfl ?_
  obtain ⟨hc5, h⟩ := h
  obtain ⟨b6, eb6, h⟩ := h
  refine g_getA hC kc5 1 (by decide) wm_1_148 dX5_forgetUnreached_8 rfl hc5 eb6 ?_
  refine g_pc (pc' := 11) rfl ?_
  refine g_iload_n hC 2 dX5_forgetUnreached_11 rfl ?_
  obtain ⟨hc7, h⟩ := h
  refine g_callV hC (As := [.int p0]) (fun l D dA ht => s_X4_treeOf l D dA ht _ _ _ _ h) wm_2_14 wm_2_11 wm_2_12 wm_2_13 wm_1_2 (by decide +kernel : plainY yX4_treeOf 1) kc4.1 kc4.2.1 dX5_forgetUnreached_12 (by decide) (Nat.le_of_ble_eq_true rfl) hc7 (Or.inl ⟨rfl, rfl⟩) ?_
  intro M9 v9 h
  obtain ⟨x8, rfl, h⟩ := h
  obtain ⟨hM9, h⟩ := h
  rw [hM9]
  show G X 5 M 0 0 15 [(2, .ref b4), (0, .ref a0), (1, .int p0)] [.int x8]
  refine g_istore_n (lv' := [(3, .int x8), (2, .ref b4), (0, .ref a0), (1, .int p0)]) hC dX5_forgetUnreached_15 (by decide) rfl ?_
  refine g_iconst (v := 0) hC dX5_forgetUnreached_16 (by decide) ?_
  refine g_istore (lv' := [(4, .int 0), (3, .int x8), (2, .ref b4), (0, .ref a0), (1, .int p0)]) hC dX5_forgetUnreached_17 (by decide) rfl ?_
  refine g_sub [3, 4, 2, 1, 0] (lv' := [(0, .ref a0), (1, .int p0), (2, .ref b4), (3, .int x8), (4, .int 0)]) rfl ?_
  refine Lp_use (fun (z27 : Int32 × Mem) => G X 5 z27.2 0 0 19 [(0, .ref a0), (1, .int p0), (2, .ref b4), (3, .int x8), (4, .int z27.1)] []) h ?_
  intro K11 z hK_K11 h
  obtain ⟨x9, M10⟩ := z
  replace h := h _ _ rfl
  show G X 5 M10 0 0 19 [(0, .ref a0), (1, .int p0), (2, .ref b4), (3, .int x8), (4, .int x9)] []
  refine g_iload hC 4 dX5_forgetUnreached_19 rfl ?_
  refine g_aload_n (r := (some a0)) hC 0 dX5_forgetUnreached_21 rfl ?_
  obtain ⟨hc12, h⟩ := h
  refine g_getI hC kc5 6 (by decide) wm_1_153 dX5_forgetUnreached_22 rfl hc12 ?_
  refine g_pc (pc' := 25) rfl ?_
  refine g_icmp_ge hC 63 dX5_forgetUnreached_25 (by decide) (fun c26 => ?_) (fun c26 => ?_)
  · replace h := h.1 c26
    exact hR.1 rfl _ _ _ _ _ dX5_forgetUnreached_63 ⟨rfl, h⟩
  · replace h := h.2 c26
    refine g_aload_n (r := (some b4)) hC 2 dX5_forgetUnreached_28 rfl ?_
    refine g_iload hC 4 dX5_forgetUnreached_29 rfl ?_
    obtain ⟨hc13, h⟩ := h
    refine g_callV hC (As := [.int x9]) (fun l D dA ht => s_X3_knows l D dA ht _ _ _ _ h) wm_2_85 wm_2_82 wm_2_83 wm_2_84 wm_1_5 (by decide +kernel : plainY yX3_knows 1) kc3.1 kc3.2.1 dX5_forgetUnreached_31 (by decide) (Nat.le_of_ble_eq_true rfl) hc13 (Or.inl ⟨rfl, rfl⟩) ?_
    intro M9 v9 h
    obtain ⟨x14, rfl, h⟩ := h
    obtain ⟨hM9, h⟩ := h
    rw [hM9]
    show G X 5 M10 0 0 34 [(0, .ref a0), (1, .int p0), (2, .ref b4), (3, .int x8), (4, .int x9)] [.int x14]
    replace h := h (fun (M15 : Mem) => G X 5 M15 0 0 57 [(0, .ref a0), (1, .int p0), (2, .ref b4), (3, .int x8), (4, .int x9)] []) (by
      intro M15 h
      show G X 5 M15 0 0 57 [(0, .ref a0), (1, .int p0), (2, .ref b4), (3, .int x8), (4, .int x9)] []
      obtain ⟨x17, ex17⟩ : ∃ w, w = x9 + 1 := ⟨_, rfl⟩
      replace h := h x17 ex17
      refine g_iinc (v := x17) (lv' := [(4, .int x17), (0, .ref a0), (1, .int p0), (2, .ref b4), (3, .int x8)]) hC 4 dX5_forgetUnreached_57 rfl (by rw [ex17]; rfl) (by decide) rfl ?_
      refine g_goto hC 19 dX5_forgetUnreached_60 (by decide) ?_
      refine g_sub [1, 2, 3, 4, 0] (lv' := [(0, .ref a0), (1, .int p0), (2, .ref b4), (3, .int x8), (4, .int x17)]) rfl ?_
      exact hK_K11 _ h)
    refine g_if_eq hC 57 dX5_forgetUnreached_34 (by decide) (fun c25 => ?_) (fun c25 => ?_)
    · replace h := h.1 c25
      exact h
    · replace h := h.2 c25
      refine g_iload_n hC 3 dX5_forgetUnreached_37 rfl ?_
      refine g_aload_n (r := (some a0)) hC 0 dX5_forgetUnreached_38 rfl ?_
      obtain ⟨hc18, h⟩ := h
      obtain ⟨b19, eb19, h⟩ := h
      refine g_getA hC kc5 2 (by decide) wm_1_149 dX5_forgetUnreached_39 rfl hc18 eb19 ?_
      refine g_pc (pc' := 42) rfl ?_
      refine g_iload hC 4 dX5_forgetUnreached_42 rfl ?_
      obtain ⟨hc20, h⟩ := h
      refine g_ialdA hC dX5_forgetUnreached_44 hc20 ?_
      refine g_callS hC (As := [.int x8, .int (gI M10 b19 (Int32.toNatClampNeg x9))]) (fun l D dA ht => s_X5_has l D dA ht _ _ _ _ h) wm_2_17 wm_2_57 wm_2_16 wm_1_1 (by decide +kernel : plainY yX5_has 2) dX5_forgetUnreached_45 (by decide) (Nat.le_of_ble_eq_true rfl) (Or.inl ⟨rfl, rfl⟩) ?_
      intro M9 v9 h
      obtain ⟨x21, rfl, h⟩ := h
      obtain ⟨hM9, h⟩ := h
      rw [hM9]
      show G X 5 M10 0 0 48 [(0, .ref a0), (1, .int p0), (2, .ref b4), (3, .int x8), (4, .int x9)] [.int x21]
      refine g_if_ne hC 57 dX5_forgetUnreached_48 (by decide) (fun c24 => ?_) (fun c24 => ?_)
      · replace h := h.2 c24
        exact h
      · replace h := h.1 c24
        refine g_aload_n (r := (some b4)) hC 2 dX5_forgetUnreached_51 rfl ?_
        refine g_iload hC 4 dX5_forgetUnreached_52 rfl ?_
        obtain ⟨hc22, h⟩ := h
        refine g_callV hC (As := [.int x9]) (fun l D dA ht => s_X3_forget l D dA ht _ _ _ _ h) wm_2_150 wm_2_147 wm_2_148 wm_2_149 wm_1_5 (by decide +kernel : plainY yX3_forget 1) kc3.1 kc3.2.1 dX5_forgetUnreached_54 (by decide) (Nat.le_of_ble_eq_true rfl) hc22 (Or.inl ⟨rfl, rfl⟩) ?_
        intro M9 v9 h
        obtain ⟨rfl, h⟩ := h
        generalize M9 = M23 at h ⊢
        show G X 5 M23 0 0 57 [(0, .ref a0), (1, .int p0), (2, .ref b4), (3, .int x8), (4, .int x9)] []
        exact h

def w_X5_split (mc ms : Nat) (M : Mem) (a0 : Nat) (p0 : Int32) (p1 : Int32) (xp : String → Mem → Prop) (post : Mem → Int32 → Prop) : Prop :=
  ∃ c1 s2, (0 + c1 ≤ mc ∧ 0 + s2 ≤ ms) ∧ w_X5_checkServer c1 s2 M p0 (fun E M => xp E M) (∃ c3 s4, ((0 + c1) + c3 ≤ mc ∧ (0 + s2) + s4 ≤ ms) ∧ w_X5_checkServer c3 s4 M p1 (fun E M => xp E M) (gT M a0 = some (5, 0) ∧ ∃ b6, gR M a0 1 = some b6 ∧ gT M b6 = some (4, 0) ∧ w_X4_haveLink M b6 p0 p1 (fun x8 => (x8 = 0 → (0 + c1 + c3 + 1 ≤ mc ∧ 0 + s2 + s4 + 6 ≤ ms) ∧ xp ise M) ∧ (¬ (x8 = 0) → gT M a0 = some (5, 0) ∧ ∃ b10, gR M a0 1 = some b10 ∧ gT M b10 = some (4, 0) ∧ ∀ x12, x12 = gI M b10 2 → gT M a0 = some (5, 0) ∧ ∃ b14, gR M a0 1 = some b14 ∧ gT M b14 = some (4, 0) ∧ w_X4_cut M b14 p0 p1 (fun M16 => Lp (fun (K19 : Int32 × Mem → Prop) (z : Int32 × Mem) => ∀ (x17 : Int32) (M18 : Mem), z = (x17, M18) → ((6 ≤ x17 → gT M18 a0 = some (5, 0) ∧ gT M18 a0 = some (5, 0) ∧ ∀ M22, M22 = sI M18 a0 7 ((gI M18 a0 7) + 1) → gT M22 a0 = some (5, 0) ∧ ∃ b24, gR M22 a0 1 = some b24 ∧ gT M22 b24 = some (4, 0) ∧ post M22 (x12 - (gI M22 b24 2))) ∧ (¬ (6 ≤ x17) → gT M18 a0 = some (5, 0) ∧ w_X5_forgetUnreached M18 a0 x17 (fun M27 => ∀ x28, x28 = x17 + 1 → K19 (x28, M27))))) (0, M16))))))
set_option maxRecDepth 100000 in
set_option maxHeartbeats 8000000 in
theorem s_X5_split (l : Launch) (D : va_G) (dA : Nat → ClassId) (htr : l.stackTraces = false) (mc ms : Nat) (M : Mem) (a0 : Nat) (p0 : Int32) (p1 : Int32) (xp : String → Mem → Prop) (post : Mem → Int32 → Prop) (h : w_X5_split mc ms M a0 p0 p1 xp post) : CtX l D dA yX5_split cX5_split 5 (some .int) 7 [.ref a0, .int p0, .int p1] M mc ms xp (pI post) := by
  refine ct_ofX htr (by decide) (Nat.le_of_ble_eq_true rfl) (by decide) rfl ?_
  intro X hC hR hThrow hOut
  show G X 5 M 0 0 0 [(0, .ref a0), (1, .int p0), (2, .int p1)] []
  unfold w_X5_split at h
  refine g_iload_n hC 1 dX5_split_0 rfl ?_
  obtain ⟨c1, s2, hc1, h⟩ := h
  refine gx_callS hC (As := [.int p0]) (fun l D dA ht => s_X5_checkServer l D dA ht _ _ _ _ _ _ h) wm_1_182 wm_1_180 wm_1_181 wm_1_1 (by decide +kernel : plainY yX5_checkServer 1) dX5_split_1 (by decide) (Nat.le_of_ble_eq_true rfl) (Or.inr hc1) ?_ ?_
  · exact fun M E h => hOut _ _ _ _ _ _ _ h
  · intro M9 v9 h
    obtain ⟨rfl, h⟩ := h
    obtain ⟨hM9, h⟩ := h
    rw [hM9]
    show G X 5 M (0 + c1) (0 + s2) 4 [(0, .ref a0), (1, .int p0), (2, .int p1)] []
    refine g_iload_n hC 2 dX5_split_4 rfl ?_
    obtain ⟨c3, s4, hc3, h⟩ := h
    refine gx_callS hC (As := [.int p1]) (fun l D dA ht => s_X5_checkServer l D dA ht _ _ _ _ _ _ h) wm_1_182 wm_1_180 wm_1_181 wm_1_1 (by decide +kernel : plainY yX5_checkServer 1) dX5_split_5 (by decide) (Nat.le_of_ble_eq_true rfl) (Or.inr hc3) ?_ ?_
    · exact fun M E h => hOut _ _ _ _ _ _ _ h
    · intro M9 v9 h
      obtain ⟨rfl, h⟩ := h
      obtain ⟨hM9, h⟩ := h
      rw [hM9]
      show G X 5 M (0 + c1 + c3) (0 + s2 + s4) 8 [(0, .ref a0), (1, .int p0), (2, .int p1)] []
      refine g_aload_n (r := (some a0)) hC 0 dX5_split_8 rfl ?_
      obtain ⟨hc5, h⟩ := h
      obtain ⟨b6, eb6, h⟩ := h
      refine g_getA hC kc5 1 (by decide) wm_1_148 dX5_split_9 rfl hc5 eb6 ?_
      refine g_iload_n hC 1 dX5_split_12 rfl ?_
      refine g_pc (pc' := 13) rfl ?_
      refine g_iload_n hC 2 dX5_split_13 rfl ?_
      obtain ⟨hc7, h⟩ := h
      refine g_callV hC (As := [.int p0, .int p1]) (fun l D dA ht => s_X4_haveLink l D dA ht _ _ _ _ _ h) wm_2_121 wm_2_118 wm_2_119 wm_2_120 wm_1_2 (by decide +kernel : plainY yX4_haveLink 2) kc4.1 kc4.2.1 dX5_split_14 (by decide) (Nat.le_of_ble_eq_true rfl) hc7 (Or.inl ⟨rfl, rfl⟩) ?_
      intro M9 v9 h
      obtain ⟨x8, rfl, h⟩ := h
      obtain ⟨hM9, h⟩ := h
      rw [hM9]
      show G X 5 M (0 + c1 + c3) (0 + s2 + s4) 17 [(0, .ref a0), (1, .int p0), (2, .int p1)] [.int x8]
      refine g_if_ne hC 30 dX5_split_17 (by decide) (fun c31 => ?_) (fun c31 => ?_)
      · replace h := h.2 c31
        refine g_aload_n (r := (some a0)) hC 0 dX5_split_30 rfl ?_
        obtain ⟨hc9, h⟩ := h
        obtain ⟨b10, eb10, h⟩ := h
        refine g_getA hC kc5 1 (by decide) wm_1_148 dX5_split_31 rfl hc9 eb10 ?_
        obtain ⟨hc11, h⟩ := h
        refine g_getI hC kc4 2 (by decide) wm_1_49 dX5_split_34 rfl hc11 ?_
        obtain ⟨x12, ex12⟩ : ∃ w, w = gI M b10 2 := ⟨_, rfl⟩
        replace h := h x12 ex12
        rw [← ex12]
        refine g_istore_n (lv' := [(3, .int x12), (0, .ref a0), (1, .int p0), (2, .int p1)]) hC dX5_split_37 (by decide) rfl ?_
        refine g_aload_n (r := (some a0)) hC 1 dX5_split_38 rfl ?_
        obtain ⟨hc13, h⟩ := h
        obtain ⟨b14, eb14, h⟩ := h
        refine g_pc (pc' := 39) rfl ?_
        refine g_getA hC kc5 1 (by decide) wm_1_148 dX5_split_39 rfl hc13 eb14 ?_
        refine g_iload_n hC 2 dX5_split_42 rfl ?_
        refine g_iload_n hC 3 dX5_split_43 rfl ?_
        obtain ⟨hc15, h⟩ := h
        refine g_callV hC (As := [.int p0, .int p1]) (fun l D dA ht => s_X4_cut l D dA ht _ _ _ _ _ h) wm_2_126 wm_2_123 wm_2_124 wm_2_125 wm_1_2 (by decide +kernel : plainY yX4_cut 2) kc4.1 kc4.2.1 dX5_split_44 (by decide) (Nat.le_of_ble_eq_true rfl) hc15 (Or.inl ⟨rfl, rfl⟩) ?_
        intro M9 v9 h
        obtain ⟨rfl, h⟩ := h
        generalize M9 = M16 at h ⊢
        show G X 5 M16 (0 + c1 + c3) (0 + s2 + s4) 47 [(3, .int x12), (0, .ref a0), (1, .int p0), (2, .int p1)] []
        refine g_iconst (v := 0) hC dX5_split_47 (by decide) ?_
        refine g_istore (lv' := [(4, .int 0), (3, .int x12), (0, .ref a0), (1, .int p0), (2, .int p1)]) hC dX5_split_48 (by decide) rfl ?_
        refine g_sub [2, 3, 4, 1, 0] (lv' := [(0, .ref a0), (1, .int p0), (2, .int p1), (3, .int x12), (4, .int 0)]) rfl ?_
        refine Lp_use (fun (z30 : Int32 × Mem) => G X 5 z30.2 (0 + c1 + c3) (0 + s2 + s4) 50 [(0, .ref a0), (1, .int p0), (2, .int p1), (3, .int x12), (4, .int z30.1)] []) h ?_
        intro K19 z hK_K19 h
        obtain ⟨x17, M18⟩ := z
        replace h := h _ _ rfl
        show G X 5 M18 (0 + c1 + c3) (0 + s2 + s4) 50 [(0, .ref a0), (1, .int p0), (2, .int p1), (3, .int x12), (4, .int x17)] []
        refine g_iload hC 4 dX5_split_50 rfl ?_
        refine g_bipush (v := 6) hC dX5_split_52 (by decide) ?_
        refine g_pc (pc' := 54) rfl ?_
        refine g_icmp_ge hC 69 dX5_split_54 (by decide) (fun c29 => ?_) (fun c29 => ?_)
        · replace h := h.1 c29
          refine g_aload_n (r := (some a0)) hC 0 dX5_split_69 rfl ?_
          refine g_dup hC dX5_split_70 rfl ?_
          obtain ⟨hc20, h⟩ := h
          refine g_getI hC kc5 7 (by decide) wm_1_154 dX5_split_71 rfl hc20 ?_
          refine g_iconst (v := 1) hC dX5_split_74 (by decide) ?_
          refine g_iadd hC dX5_split_75 ?_
          obtain ⟨hc21, h⟩ := h
          refine g_putI hC kc5 7 (by decide) wm_1_154 dX5_split_76 rfl rfl (Or.inl rfl) hc21 ?_
          obtain ⟨M22, eM22⟩ : ∃ w, w = sI M18 a0 7 ((gI M18 a0 7) + 1) := ⟨_, rfl⟩
          replace h := h M22 eM22
          rw [← eM22]
          refine g_iload_n hC 3 dX5_split_79 rfl ?_
          refine g_pc (pc' := 80) rfl ?_
          refine g_aload_n (r := (some a0)) hC 0 dX5_split_80 rfl ?_
          obtain ⟨hc23, h⟩ := h
          obtain ⟨b24, eb24, h⟩ := h
          refine g_getA hC kc5 1 (by decide) wm_1_148 dX5_split_81 rfl hc23 eb24 ?_
          obtain ⟨hc25, h⟩ := h
          refine g_getI hC kc4 2 (by decide) wm_1_49 dX5_split_84 rfl hc25 ?_
          refine g_isub hC dX5_split_87 ?_
          exact hR.2.1 rfl _ _ _ _ _ _ dX5_split_88 ⟨_, rfl, h⟩
        · replace h := h.2 c29
          refine g_aload_n (r := (some a0)) hC 0 dX5_split_57 rfl ?_
          refine g_iload hC 4 dX5_split_58 rfl ?_
          obtain ⟨hc26, h⟩ := h
          refine g_callV hC (As := [.int x17]) (fun l D dA ht => s_X5_forgetUnreached l D dA ht _ _ _ _ h) wm_2_146 wm_2_143 wm_2_145 wm_0_2 wm_1_1 (by decide +kernel : plainY yX5_forgetUnreached 1) kc5.1 kc5.2.1 dX5_split_60 (by decide) (Nat.le_of_ble_eq_true rfl) hc26 (Or.inl ⟨rfl, rfl⟩) ?_
          intro M9 v9 h
          obtain ⟨rfl, h⟩ := h
          generalize M9 = M27 at h ⊢
          show G X 5 M27 (0 + c1 + c3) (0 + s2 + s4) 63 [(0, .ref a0), (1, .int p0), (2, .int p1), (3, .int x12), (4, .int x17)] []
          obtain ⟨x28, ex28⟩ : ∃ w, w = x17 + 1 := ⟨_, rfl⟩
          replace h := h x28 ex28
          refine g_iinc (v := x28) (lv' := [(4, .int x28), (0, .ref a0), (1, .int p0), (2, .int p1), (3, .int x12)]) hC 4 dX5_split_63 rfl (by rw [ex28]; rfl) (by decide) rfl ?_
          refine g_goto hC 50 dX5_split_66 (by decide) ?_
          refine g_sub [1, 2, 3, 4, 0] (lv' := [(0, .ref a0), (1, .int p0), (2, .int p1), (3, .int x12), (4, .int x28)]) rfl ?_
          exact hK_K19 _ h
      · replace h := h.1 c31
        exact hThrow _ _ _ _ _ _ _ _ _ _ _ dX5_split_20 dX5_split_23 dX5_split_24 dX5_split_26 dX5_split_29 tw_ise xs_79 (by first | exact Nat.le_of_ble_eq_true rfl | decide) h.1 h.2

def w_X5_namesake (M : Mem) (a0 : Nat) (b0 : Nat) (p1 : Int32) (p2 : Int32) (post : Int32 → Prop) : Prop :=
  Lp (fun (K2 : Int32 → Prop) (z : Int32) => ∀ (x1 : Int32), z = x1 → (gT M a0 = some (5, 0) ∧ ((gI M a0 6) ≤ x1 → post ((-1))) ∧ (¬ ((gI M a0 6) ≤ x1) → ∀ J4 : Prop, ((∀ x5, x5 = x1 + 1 → K2 x5) → J4) → ((x1 = p2 → J4) ∧ (¬ (x1 = p2) → gT M a0 = some (5, 0) ∧ ∃ b7, gR M a0 3 = some b7 ∧ inA M b7 10 x1 ∧ (gI M b7 (Int32.toNatClampNeg x1) = p1 → gT M b0 = some (3, 0) ∧ w_X3_knows M b0 x1 (fun x10 => (x10 = 0 → J4) ∧ (¬ (x10 = 0) → post x1))) ∧ (¬ (gI M b7 (Int32.toNatClampNeg x1) = p1) → J4)))))) 0
set_option maxRecDepth 100000 in
set_option maxHeartbeats 8000000 in
theorem s_X5_namesake (l : Launch) (D : va_G) (dA : Nat → ClassId) (htr : l.stackTraces = false) (M : Mem) (a0 : Nat) (b0 : Nat) (p1 : Int32) (p2 : Int32) (post : Int32 → Prop) (h : w_X5_namesake M a0 b0 p1 p2 post) : CtN l D dA yX5_namesake cX5_namesake 5 (some .int) 3 [.ref a0, .ref b0, .int p1, .int p2] M 0 0 (pI (fun M' r => M' = M ∧ post r)) := by
  refine ct_ofN htr (by decide) (Nat.le_of_ble_eq_true rfl) ?_
  intro X hC hN hR
  show G X 5 M 0 0 0 [(0, .ref a0), (1, .ref b0), (2, .int p1), (3, .int p2)] []
  unfold w_X5_namesake at h
  refine g_iconst (v := 0) hC dX5_namesake_0 (by decide) ?_
  refine g_istore (lv' := [(4, .int 0), (0, .ref a0), (1, .ref b0), (2, .int p1), (3, .int p2)]) hC dX5_namesake_1 (by decide) rfl ?_
  refine g_sub [1, 2, 3, 4, 0] (lv' := [(0, .ref a0), (1, .ref b0), (2, .int p1), (3, .int p2), (4, .int 0)]) rfl ?_
  refine Lp_use (fun (z15 : Int32) => G X 5 M 0 0 3 [(0, .ref a0), (1, .ref b0), (2, .int p1), (3, .int p2), (4, .int z15)] []) h ?_
  intro K2 z hK_K2 h
  obtain ⟨x1, hz⟩ : ∃ w, w = z := ⟨_, rfl⟩; subst hz
  replace h := h _ rfl
  show G X 5 M 0 0 3 [(0, .ref a0), (1, .ref b0), (2, .int p1), (3, .int p2), (4, .int x1)] []
  refine g_iload hC 4 dX5_namesake_3 rfl ?_
  refine g_aload_n (r := (some a0)) hC 0 dX5_namesake_5 rfl ?_
  obtain ⟨hc3, h⟩ := h
  refine g_getI hC kc5 6 (by decide) wm_1_153 dX5_namesake_6 rfl hc3 ?_
  refine g_icmp_ge hC 47 dX5_namesake_9 (by decide) (fun c14 => ?_) (fun c14 => ?_)
  · replace h := h.1 c14
    refine g_iconst (v := (-1)) hC dX5_namesake_47 (by decide) ?_
    refine g_pc (pc' := 48) rfl ?_
    exact hR.2.1 rfl _ _ _ _ _ _ dX5_namesake_48 ⟨_, rfl, rfl, h⟩
  · replace h := h.2 c14
    refine g_iload hC 4 dX5_namesake_12 rfl ?_
    refine g_pc (pc' := 14) rfl ?_
    refine g_iload_n hC 3 dX5_namesake_14 rfl ?_
    replace h := h (G X 5 M 0 0 41 [(0, .ref a0), (1, .ref b0), (2, .int p1), (3, .int p2), (4, .int x1)] []) (by
      intro h
      obtain ⟨x5, ex5⟩ : ∃ w, w = x1 + 1 := ⟨_, rfl⟩
      replace h := h x5 ex5
      refine g_iinc (v := x5) (lv' := [(4, .int x5), (0, .ref a0), (1, .ref b0), (2, .int p1), (3, .int p2)]) hC 4 dX5_namesake_41 rfl (by rw [ex5]; rfl) (by decide) rfl ?_
      refine g_goto hC 3 dX5_namesake_44 (by decide) ?_
      refine g_sub [1, 2, 3, 4, 0] (lv' := [(0, .ref a0), (1, .ref b0), (2, .int p1), (3, .int p2), (4, .int x5)]) rfl ?_
      exact hK_K2 _ h)
    refine g_icmp_eq hC 41 dX5_namesake_15 (by decide) (fun c13 => ?_) (fun c13 => ?_)
    · replace h := h.1 c13
      exact h
    · replace h := h.2 c13
      refine g_aload_n (r := (some a0)) hC 0 dX5_namesake_18 rfl ?_
      obtain ⟨hc6, h⟩ := h
      obtain ⟨b7, eb7, h⟩ := h
      refine g_getA hC kc5 3 (by decide) wm_1_150 dX5_namesake_19 rfl hc6 eb7 ?_
      refine g_iload hC 4 dX5_namesake_22 rfl ?_
      obtain ⟨hc8, h⟩ := h
      refine g_ialdA hC dX5_namesake_24 hc8 ?_
      refine g_iload_n hC 2 dX5_namesake_25 rfl ?_
      refine g_icmp_ne hC 41 dX5_namesake_26 (by decide) (fun c12 => ?_) (fun c12 => ?_)
      · replace h := h.2 c12
        exact h
      · replace h := h.1 c12
        refine g_pc (pc' := 29) rfl ?_
        refine g_aload_n (r := (some b0)) hC 1 dX5_namesake_29 rfl ?_
        refine g_iload hC 4 dX5_namesake_30 rfl ?_
        obtain ⟨hc9, h⟩ := h
        refine g_callV hC (As := [.int x1]) (fun l D dA ht => s_X3_knows l D dA ht _ _ _ _ h) wm_2_85 wm_2_82 wm_2_83 wm_2_84 wm_1_5 (by decide +kernel : plainY yX3_knows 1) kc3.1 kc3.2.1 dX5_namesake_32 (by decide) (Nat.le_of_ble_eq_true rfl) hc9 (Or.inl ⟨rfl, rfl⟩) ?_
        intro M9 v9 h
        obtain ⟨x10, rfl, h⟩ := h
        obtain ⟨hM9, h⟩ := h
        rw [hM9]
        show G X 5 M 0 0 35 [(0, .ref a0), (1, .ref b0), (2, .int p1), (3, .int p2), (4, .int x1)] [.int x10]
        refine g_if_eq hC 41 dX5_namesake_35 (by decide) (fun c11 => ?_) (fun c11 => ?_)
        · replace h := h.1 c11
          exact h
        · replace h := h.2 c11
          refine g_iload hC 4 dX5_namesake_38 rfl ?_
          exact hR.2.1 rfl _ _ _ _ _ _ dX5_namesake_40 ⟨_, rfl, rfl, h⟩

def w_X5_receiveUser (mc ms : Nat) (M : Mem) (a0 : Nat) (b0 : Nat) (p1 : Int32) (p2 : Int32) (post : Mem → Prop) : Prop :=
  gT M b0 = some (1, 0) ∧ ∀ x2, x2 = gI M b0 1 → gT M a0 = some (5, 0) ∧ ∃ b4, gR M a0 1 = some b4 ∧ gT M b4 = some (4, 0) ∧ w_X4_treeOf M b4 p2 (fun x6 => gT M a0 = some (5, 0) ∧ ∃ b8, gR M a0 2 = some b8 ∧ inA M b8 10 x2 ∧ w_X5_has M x6 (gI M b8 (Int32.toNatClampNeg x2)) (fun x10 => (x10 = 0 → post M) ∧ (¬ (x10 = 0) → gT M a0 = some (5, 0) ∧ ∃ b12, gR M a0 0 = some b12 ∧ inA M b12 12 p2 ∧ ∃ b14, gR M b12 (Int32.toNatClampNeg p2) = some b14 ∧ gT M a0 = some (5, 0) ∧ ∃ b16, gR M a0 3 = some b16 ∧ inA M b16 10 x2 ∧ gT M a0 = some (5, 0) ∧ w_X5_namesake M a0 b14 (gI M b16 (Int32.toNatClampNeg x2)) x2 (fun x19 => ∀ J20 : Prop, ((∀ J24 : Mem → Nat → Nat → Prop, (∀ (M21 : Mem) (k22 : Nat) (n23 : Nat), (gT M21 b14 = some (3, 0) ∧ w_X3_learn M21 b14 x2 (fun M26 => gT M26 a0 = some (5, 0) ∧ ∃ b28, gR M26 a0 1 = some b28 ∧ gT M26 b28 = some (4, 0) ∧ ∃ c30 s31, (k22 + c30 ≤ mc ∧ n23 + s31 ≤ ms) ∧ w_X4_spread c30 s31 M26 b28 p2 p1 b0 (fun M32 => post M32))) → J24 M21 k22 n23) → ((x19 = (-1) → J24 M 0 0) ∧ (¬ (x19 = (-1)) → gT M b14 = some (3, 0) ∧ w_X3_forget M b14 x19 (fun M34 => gT M34 a0 = some (5, 0) ∧ ∃ b36, gR M34 a0 1 = some b36 ∧ gT M34 a0 = some (5, 0) ∧ ∃ b38, gR M34 a0 5 = some b38 ∧ gT M34 b38 = some (1, 0) ∧ w_X1_ofUser M34 b38 1 x19 (fun M40 r41 => ∃ b42, r41 = some b42 ∧ gT M40 b36 = some (4, 0) ∧ ∃ c44 s45, (0 + c44 ≤ mc ∧ 0 + s45 ≤ ms) ∧ w_X4_spread c44 s45 M40 b36 p2 ((-1)) b42 (fun M46 => J24 M46 (0 + c44) (0 + s45))))))) → J20) → ((x19 = (-1) → J20) ∧ (¬ (x19 = (-1)) → gT M a0 = some (5, 0) ∧ ∃ b49, gR M a0 4 = some b49 ∧ inA M b49 10 x19 ∧ gT M a0 = some (5, 0) ∧ ∃ b52, gR M a0 4 = some b52 ∧ inA M b52 10 x2 ∧ ((gI M b52 (Int32.toNatClampNeg x2)) ≤ (gI M b49 (Int32.toNatClampNeg x19)) → J20) ∧ (¬ ((gI M b52 (Int32.toNatClampNeg x2)) ≤ (gI M b49 (Int32.toNatClampNeg x19))) → gT M a0 = some (5, 0) ∧ ∃ b55, gR M a0 1 = some b55 ∧ gT M a0 = some (5, 0) ∧ ∃ b57, gR M a0 5 = some b57 ∧ gT M b57 = some (1, 0) ∧ w_X1_ofUser M b57 1 x2 (fun M59 r60 => ∃ b61, r60 = some b61 ∧ gT M59 b55 = some (4, 0) ∧ ∃ c63 s64, (0 + c63 ≤ mc ∧ 0 + s64 ≤ ms) ∧ w_X4_put c63 s64 M59 b55 p2 p1 b61 (fun M65 => post M65)))))))))
set_option maxRecDepth 100000 in
set_option maxHeartbeats 8000000 in
theorem s_X5_receiveUser (l : Launch) (D : va_G) (dA : Nat → ClassId) (htr : l.stackTraces = false) (mc ms : Nat) (M : Mem) (a0 : Nat) (b0 : Nat) (p1 : Int32) (p2 : Int32) (post : Mem → Prop) (h : w_X5_receiveUser mc ms M a0 b0 p1 p2 post) : CtN l D dA yX5_receiveUser cX5_receiveUser 7 (none) 5 [.ref a0, .ref b0, .int p1, .int p2] M mc ms (pV post) := by
  refine ct_ofN htr (by decide) (Nat.le_of_ble_eq_true rfl) ?_
  intro X hC hN hR
  show G X 7 M 0 0 0 [(0, .ref a0), (1, .ref b0), (2, .int p1), (3, .int p2)] []
  unfold w_X5_receiveUser at h
  refine g_aload_n (r := (some b0)) hC 1 dX5_receiveUser_0 rfl ?_
  obtain ⟨hc1, h⟩ := h
  refine g_getI hC kc1 1 (by decide) wm_1_72 dX5_receiveUser_1 rfl hc1 ?_
  obtain ⟨x2, ex2⟩ : ∃ w, w = gI M b0 1 := ⟨_, rfl⟩
  replace h := h x2 ex2
  rw [← ex2]
  refine g_istore (lv' := [(4, .int x2), (0, .ref a0), (1, .ref b0), (2, .int p1), (3, .int p2)]) hC dX5_receiveUser_4 (by decide) rfl ?_
  refine g_aload_n (r := (some a0)) hC 1 dX5_receiveUser_6 rfl ?_
  obtain ⟨hc3, h⟩ := h
  obtain ⟨b4, eb4, h⟩ := h
  refine g_getA hC kc5 1 (by decide) wm_1_148 dX5_receiveUser_7 rfl hc3 eb4 ?_
  refine g_iload_n hC 4 dX5_receiveUser_10 rfl ?_
  obtain ⟨hc5, h⟩ := h
  refine g_callV hC (As := [.int p2]) (fun l D dA ht => s_X4_treeOf l D dA ht _ _ _ _ h) wm_2_14 wm_2_11 wm_2_12 wm_2_13 wm_1_2 (by decide +kernel : plainY yX4_treeOf 1) kc4.1 kc4.2.1 dX5_receiveUser_11 (by decide) (Nat.le_of_ble_eq_true rfl) hc5 (Or.inl ⟨rfl, rfl⟩) ?_
  intro M9 v9 h
  obtain ⟨x6, rfl, h⟩ := h
  obtain ⟨hM9, h⟩ := h
  rw [hM9]
  show G X 7 M 0 0 14 [(4, .int x2), (0, .ref a0), (1, .ref b0), (2, .int p1), (3, .int p2)] [.int x6]
  refine g_pc (pc' := 14) rfl ?_
  refine g_aload_n (r := (some a0)) hC 1 dX5_receiveUser_14 rfl ?_
  obtain ⟨hc7, h⟩ := h
  obtain ⟨b8, eb8, h⟩ := h
  refine g_getA hC kc5 2 (by decide) wm_1_149 dX5_receiveUser_15 rfl hc7 eb8 ?_
  refine g_iload hC 0 dX5_receiveUser_18 rfl ?_
  obtain ⟨hc9, h⟩ := h
  refine g_ialdA hC dX5_receiveUser_20 hc9 ?_
  refine g_callS hC (As := [.int x6, .int (gI M b8 (Int32.toNatClampNeg x2))]) (fun l D dA ht => s_X5_has l D dA ht _ _ _ _ h) wm_2_17 wm_2_57 wm_2_16 wm_1_1 (by decide +kernel : plainY yX5_has 2) dX5_receiveUser_21 (by decide) (Nat.le_of_ble_eq_true rfl) (Or.inl ⟨rfl, rfl⟩) ?_
  intro M9 v9 h
  obtain ⟨x10, rfl, h⟩ := h
  obtain ⟨hM9, h⟩ := h
  rw [hM9]
  show G X 7 M 0 0 24 [(4, .int x2), (0, .ref a0), (1, .ref b0), (2, .int p1), (3, .int p2)] [.int x10]
  refine g_if_ne hC 28 dX5_receiveUser_24 (by decide) (fun c68 => ?_) (fun c68 => ?_)
  · replace h := h.2 c68
    refine g_aload_n (r := (some a0)) hC 1 dX5_receiveUser_28 rfl ?_
    obtain ⟨hc11, h⟩ := h
    obtain ⟨b12, eb12, h⟩ := h
    refine g_getA hC kc5 0 (by decide) wm_1_147 dX5_receiveUser_29 rfl hc11 eb12 ?_
    refine g_pc (pc' := 32) rfl ?_
    refine g_iload_n hC 4 dX5_receiveUser_32 rfl ?_
    obtain ⟨hc13, h⟩ := h
    obtain ⟨b14, eb14, h⟩ := h
    refine g_aaldA hC (by decide) dX5_receiveUser_33 hc13 eb14 ?_
    refine g_astore (r := (some b14)) (lv' := [(5, .ref b14), (4, .int x2), (0, .ref a0), (1, .ref b0), (2, .int p1), (3, .int p2)]) hC dX5_receiveUser_34 (by decide) rfl ?_
    refine g_aload_n (r := (some a0)) hC 2 dX5_receiveUser_36 rfl ?_
    refine g_aload (r := (some b14)) hC 0 dX5_receiveUser_37 rfl ?_
    refine g_aload_n (r := (some a0)) hC 2 dX5_receiveUser_39 rfl ?_
    obtain ⟨hc15, h⟩ := h
    obtain ⟨b16, eb16, h⟩ := h
    refine g_getA hC kc5 3 (by decide) wm_1_150 dX5_receiveUser_40 rfl hc15 eb16 ?_
    refine g_iload hC 1 dX5_receiveUser_43 rfl ?_
    obtain ⟨hc17, h⟩ := h
    refine g_pc (pc' := 45) rfl ?_
    refine g_ialdA hC dX5_receiveUser_45 hc17 ?_
    refine g_iload hC 1 dX5_receiveUser_46 rfl ?_
    obtain ⟨hc18, h⟩ := h
    refine g_callV hC (As := [.ref b14, .int (gI M b16 (Int32.toNatClampNeg x2)), .int x2]) (fun l D dA ht => s_X5_namesake l D dA ht _ _ _ _ _ _ h) wm_2_187 wm_2_184 wm_2_186 wm_0_3 wm_1_1 (by decide +kernel : plainY yX5_namesake 3) kc5.1 kc5.2.1 dX5_receiveUser_48 (by decide) (Nat.le_of_ble_eq_true rfl) hc18 (Or.inl ⟨rfl, rfl⟩) ?_
    intro M9 v9 h
    obtain ⟨x19, rfl, h⟩ := h
    obtain ⟨hM9, h⟩ := h
    rw [hM9]
    show G X 7 M 0 0 51 [(5, .ref b14), (4, .int x2), (0, .ref a0), (1, .ref b0), (2, .int p1), (3, .int p2)] [.int x19]
    refine g_istore (lv' := [(6, .int x19), (5, .ref b14), (4, .int x2), (0, .ref a0), (1, .ref b0), (2, .int p1), (3, .int p2)]) hC dX5_receiveUser_51 (by decide) rfl ?_
    refine g_iload hC 0 dX5_receiveUser_53 rfl ?_
    refine g_iconst (v := (-1)) hC dX5_receiveUser_55 (by decide) ?_
    replace h := h (G X 7 M 0 0 96 [(0, .ref a0), (1, .ref b0), (2, .int p1), (3, .int p2), (4, .int x2), (5, .ref b14), (6, .int x19)] []) (by
      intro h
      refine g_iload hC 6 dX5_receiveUser_96 rfl ?_
      refine g_iconst (v := (-1)) hC dX5_receiveUser_98 (by decide) ?_
      replace h := h (fun (M21 : Mem) (k22 : Nat) (n23 : Nat) => G X 7 M21 k22 n23 128 [(0, .ref a0), (1, .ref b0), (2, .int p1), (3, .int p2), (4, .int x2), (5, .ref b14), (6, .int x19)] []) (by
        intro M21 k22 n23 h
        show G X 7 M21 k22 n23 128 [(0, .ref a0), (1, .ref b0), (2, .int p1), (3, .int p2), (4, .int x2), (5, .ref b14), (6, .int x19)] []
        refine g_pc (pc' := 128) rfl ?_
        refine g_aload (r := (some b14)) hC 5 dX5_receiveUser_128 rfl ?_
        refine g_iload hC 4 dX5_receiveUser_130 rfl ?_
        obtain ⟨hc25, h⟩ := h
        refine g_callV hC (As := [.int x2]) (fun l D dA ht => s_X3_learn l D dA ht _ _ _ _ h) wm_2_192 wm_2_189 wm_2_190 wm_2_191 wm_1_5 (by decide +kernel : plainY yX3_learn 1) kc3.1 kc3.2.1 dX5_receiveUser_132 (by decide) (Nat.le_of_ble_eq_true rfl) hc25 (Or.inl ⟨rfl, rfl⟩) ?_
        intro M9 v9 h
        obtain ⟨rfl, h⟩ := h
        generalize M9 = M26 at h ⊢
        show G X 7 M26 k22 n23 135 [(0, .ref a0), (1, .ref b0), (2, .int p1), (3, .int p2), (4, .int x2), (5, .ref b14), (6, .int x19)] []
        refine g_aload_n (r := (some a0)) hC 0 dX5_receiveUser_135 rfl ?_
        obtain ⟨hc27, h⟩ := h
        obtain ⟨b28, eb28, h⟩ := h
        refine g_getA hC kc5 1 (by decide) wm_1_148 dX5_receiveUser_136 rfl hc27 eb28 ?_
        refine g_iload_n hC 3 dX5_receiveUser_139 rfl ?_
        refine g_iload_n hC 2 dX5_receiveUser_140 rfl ?_
        refine g_aload_n (r := (some b0)) hC 1 dX5_receiveUser_141 rfl ?_
        refine g_pc (pc' := 142) rfl ?_
        obtain ⟨hc29, h⟩ := h
        obtain ⟨c30, s31, hc30, h⟩ := h
        refine g_callV hC (As := [.int p2, .int p1, .ref b0]) (fun l D dA ht => s_X4_spread l D dA ht _ _ _ _ _ _ _ _ h) wm_2_196 wm_2_193 wm_2_194 wm_2_195 wm_1_2 (by decide +kernel : plainY yX4_spread 3) kc4.1 kc4.2.1 dX5_receiveUser_142 (by decide) (Nat.le_of_ble_eq_true rfl) hc29 (Or.inr hc30) ?_
        intro M9 v9 h
        obtain ⟨rfl, h⟩ := h
        generalize M9 = M32 at h ⊢
        show G X 7 M32 (k22 + c30) (n23 + s31) 145 [(0, .ref a0), (1, .ref b0), (2, .int p1), (3, .int p2), (4, .int x2), (5, .ref b14), (6, .int x19)] []
        exact hR.1 rfl _ _ _ _ _ dX5_receiveUser_145 ⟨rfl, h⟩)
      refine g_pc (pc' := 99) rfl ?_
      refine g_icmp_eq hC 128 dX5_receiveUser_99 (by decide) (fun c47 => ?_) (fun c47 => ?_)
      · replace h := h.1 c47
        exact h
      · replace h := h.2 c47
        refine g_aload (r := (some b14)) hC 5 dX5_receiveUser_102 rfl ?_
        refine g_iload hC 6 dX5_receiveUser_104 rfl ?_
        obtain ⟨hc33, h⟩ := h
        refine g_callV hC (As := [.int x19]) (fun l D dA ht => s_X3_forget l D dA ht _ _ _ _ h) wm_2_150 wm_2_147 wm_2_148 wm_2_149 wm_1_5 (by decide +kernel : plainY yX3_forget 1) kc3.1 kc3.2.1 dX5_receiveUser_106 (by decide) (Nat.le_of_ble_eq_true rfl) hc33 (Or.inl ⟨rfl, rfl⟩) ?_
        intro M9 v9 h
        obtain ⟨rfl, h⟩ := h
        generalize M9 = M34 at h ⊢
        show G X 7 M34 0 0 109 [(0, .ref a0), (1, .ref b0), (2, .int p1), (3, .int p2), (4, .int x2), (5, .ref b14), (6, .int x19)] []
        refine g_aload_n (r := (some a0)) hC 0 dX5_receiveUser_109 rfl ?_
        obtain ⟨hc35, h⟩ := h
        obtain ⟨b36, eb36, h⟩ := h
        refine g_getA hC kc5 1 (by decide) wm_1_148 dX5_receiveUser_110 rfl hc35 eb36 ?_
        refine g_iload_n hC 3 dX5_receiveUser_113 rfl ?_
        refine g_iconst (v := (-1)) hC dX5_receiveUser_114 (by decide) ?_
        refine g_pc (pc' := 115) rfl ?_
        refine g_aload_n (r := (some a0)) hC 0 dX5_receiveUser_115 rfl ?_
        obtain ⟨hc37, h⟩ := h
        obtain ⟨b38, eb38, h⟩ := h
        refine g_getA hC kc5 5 (by decide) wm_1_152 dX5_receiveUser_116 rfl hc37 eb38 ?_
        refine g_iconst (v := 1) hC dX5_receiveUser_119 (by decide) ?_
        refine g_iload hC 6 dX5_receiveUser_120 rfl ?_
        obtain ⟨hc39, h⟩ := h
        refine g_callV hC (As := [.int 1, .int x19]) (fun l D dA ht => s_X1_ofUser l D dA ht _ _ _ _ _ h) wm_2_90 wm_2_87 wm_2_88 wm_2_89 wm_1_4 (by decide +kernel : plainY yX1_ofUser 2) kc1.1 kc1.2.1 dX5_receiveUser_122 (by decide) (Nat.le_of_ble_eq_true rfl) hc39 (Or.inl ⟨rfl, rfl⟩) ?_
        intro M9 v9 h
        obtain ⟨r41, rfl, h⟩ := h
        generalize M9 = M40 at h ⊢
        show G X 7 M40 0 0 125 [(0, .ref a0), (1, .ref b0), (2, .int p1), (3, .int p2), (4, .int x2), (5, .ref b14), (6, .int x19)] [va_rf r41, .int ((-1)), .int p2, .ref b36]
        obtain ⟨b42, eb42, h⟩ := h
        subst eb42
        obtain ⟨hc43, h⟩ := h
        obtain ⟨c44, s45, hc44, h⟩ := h
        refine g_callV hC (As := [.int p2, .int ((-1)), .ref b42]) (fun l D dA ht => s_X4_spread l D dA ht _ _ _ _ _ _ _ _ h) wm_2_196 wm_2_193 wm_2_194 wm_2_195 wm_1_2 (by decide +kernel : plainY yX4_spread 3) kc4.1 kc4.2.1 dX5_receiveUser_125 (by decide) (Nat.le_of_ble_eq_true rfl) hc43 (Or.inr hc44) ?_
        intro M9 v9 h
        obtain ⟨rfl, h⟩ := h
        generalize M9 = M46 at h ⊢
        show G X 7 M46 (0 + c44) (0 + s45) 128 [(0, .ref a0), (1, .ref b0), (2, .int p1), (3, .int p2), (4, .int x2), (5, .ref b14), (6, .int x19)] []
        exact h)
    refine g_icmp_eq hC 96 dX5_receiveUser_56 (by decide) (fun c67 => ?_) (fun c67 => ?_)
    · replace h := h.1 c67
      refine g_sub [3, 4, 5, 6, 2, 1, 0] (lv' := [(0, .ref a0), (1, .ref b0), (2, .int p1), (3, .int p2), (4, .int x2), (5, .ref b14), (6, .int x19)]) rfl ?_
      exact h
    · replace h := h.2 c67
      refine g_aload_n (r := (some a0)) hC 3 dX5_receiveUser_59 rfl ?_
      obtain ⟨hc48, h⟩ := h
      obtain ⟨b49, eb49, h⟩ := h
      refine g_pc (pc' := 60) rfl ?_
      refine g_getA hC kc5 4 (by decide) wm_1_151 dX5_receiveUser_60 rfl hc48 eb49 ?_
      refine g_iload hC 0 dX5_receiveUser_63 rfl ?_
      obtain ⟨hc50, h⟩ := h
      refine g_ialdA hC dX5_receiveUser_65 hc50 ?_
      refine g_aload_n (r := (some a0)) hC 3 dX5_receiveUser_66 rfl ?_
      obtain ⟨hc51, h⟩ := h
      obtain ⟨b52, eb52, h⟩ := h
      refine g_getA hC kc5 4 (by decide) wm_1_151 dX5_receiveUser_67 rfl hc51 eb52 ?_
      refine g_iload hC 2 dX5_receiveUser_70 rfl ?_
      obtain ⟨hc53, h⟩ := h
      refine g_ialdA hC dX5_receiveUser_72 hc53 ?_
      refine g_icmp_ge hC 96 dX5_receiveUser_73 (by decide) (fun c66 => ?_) (fun c66 => ?_)
      · replace h := h.1 c66
        refine g_sub [3, 4, 5, 6, 2, 1, 0] (lv' := [(0, .ref a0), (1, .ref b0), (2, .int p1), (3, .int p2), (4, .int x2), (5, .ref b14), (6, .int x19)]) rfl ?_
        exact h
      · replace h := h.2 c66
        refine g_pc (pc' := 76) rfl ?_
        refine g_aload_n (r := (some a0)) hC 3 dX5_receiveUser_76 rfl ?_
        obtain ⟨hc54, h⟩ := h
        obtain ⟨b55, eb55, h⟩ := h
        refine g_getA hC kc5 1 (by decide) wm_1_148 dX5_receiveUser_77 rfl hc54 eb55 ?_
        refine g_iload_n hC 6 dX5_receiveUser_80 rfl ?_
        refine g_iload_n hC 5 dX5_receiveUser_81 rfl ?_
        refine g_aload_n (r := (some a0)) hC 3 dX5_receiveUser_82 rfl ?_
        obtain ⟨hc56, h⟩ := h
        obtain ⟨b57, eb57, h⟩ := h
        refine g_getA hC kc5 5 (by decide) wm_1_152 dX5_receiveUser_83 rfl hc56 eb57 ?_
        refine g_iconst (v := 1) hC dX5_receiveUser_86 (by decide) ?_
        refine g_iload hC 2 dX5_receiveUser_87 rfl ?_
        refine g_pc (pc' := 89) rfl ?_
        obtain ⟨hc58, h⟩ := h
        refine g_callV hC (As := [.int 1, .int x2]) (fun l D dA ht => s_X1_ofUser l D dA ht _ _ _ _ _ h) wm_2_90 wm_2_87 wm_2_88 wm_2_89 wm_1_4 (by decide +kernel : plainY yX1_ofUser 2) kc1.1 kc1.2.1 dX5_receiveUser_89 (by decide) (Nat.le_of_ble_eq_true rfl) hc58 (Or.inl ⟨rfl, rfl⟩) ?_
        intro M9 v9 h
        obtain ⟨r60, rfl, h⟩ := h
        generalize M9 = M59 at h ⊢
        show G X 7 M59 0 0 92 [(6, .int x19), (5, .ref b14), (4, .int x2), (0, .ref a0), (1, .ref b0), (2, .int p1), (3, .int p2)] [va_rf r60, .int p1, .int p2, .ref b55]
        obtain ⟨b61, eb61, h⟩ := h
        subst eb61
        obtain ⟨hc62, h⟩ := h
        obtain ⟨c63, s64, hc63, h⟩ := h
        refine g_callV hC (As := [.int p2, .int p1, .ref b61]) (fun l D dA ht => s_X4_put l D dA ht _ _ _ _ _ _ _ _ h) wm_2_94 wm_2_91 wm_2_92 wm_2_93 wm_1_2 (by decide +kernel : plainY yX4_put 3) kc4.1 kc4.2.1 dX5_receiveUser_92 (by decide) (Nat.le_of_ble_eq_true rfl) hc62 (Or.inr hc63) ?_
        intro M9 v9 h
        obtain ⟨rfl, h⟩ := h
        generalize M9 = M65 at h ⊢
        show G X 7 M65 (0 + c63) (0 + s64) 95 [(6, .int x19), (5, .ref b14), (4, .int x2), (0, .ref a0), (1, .ref b0), (2, .int p1), (3, .int p2)] []
        exact hR.1 rfl _ _ _ _ _ dX5_receiveUser_95 ⟨rfl, h⟩
  · replace h := h.1 c68
    exact hR.1 rfl _ _ _ _ _ dX5_receiveUser_27 ⟨rfl, h⟩

def w_X5_receiveQuit (mc ms : Nat) (M : Mem) (a0 : Nat) (b0 : Nat) (p1 : Int32) (p2 : Int32) (post : Mem → Prop) : Prop :=
  gT M a0 = some (5, 0) ∧ ∃ b2, gR M a0 0 = some b2 ∧ inA M b2 12 p2 ∧ ∃ b4, gR M b2 (Int32.toNatClampNeg p2) = some b4 ∧ gT M b0 = some (1, 0) ∧ gT M b4 = some (3, 0) ∧ w_X3_knows M b4 (gI M b0 1) (fun x7 => ∀ J11 : Mem → Nat → Nat → Prop, (∀ (M8 : Mem) (k9 : Nat) (n10 : Nat), (post M8) → J11 M8 k9 n10) → ((x7 = 0 → J11 M 0 0) ∧ (¬ (x7 = 0) → gT M b0 = some (1, 0) ∧ gT M b4 = some (3, 0) ∧ w_X3_forget M b4 (gI M b0 1) (fun M14 => gT M14 a0 = some (5, 0) ∧ ∃ b16, gR M14 a0 1 = some b16 ∧ gT M14 b16 = some (4, 0) ∧ ∃ c18 s19, (0 + c18 ≤ mc ∧ 0 + s19 ≤ ms) ∧ w_X4_spread c18 s19 M14 b16 p2 p1 b0 (fun M20 => J11 M20 (0 + c18) (0 + s19))))))
set_option maxRecDepth 100000 in
set_option maxHeartbeats 8000000 in
theorem s_X5_receiveQuit (l : Launch) (D : va_G) (dA : Nat → ClassId) (htr : l.stackTraces = false) (mc ms : Nat) (M : Mem) (a0 : Nat) (b0 : Nat) (p1 : Int32) (p2 : Int32) (post : Mem → Prop) (h : w_X5_receiveQuit mc ms M a0 b0 p1 p2 post) : CtN l D dA yX5_receiveQuit cX5_receiveQuit 5 (none) 5 [.ref a0, .ref b0, .int p1, .int p2] M mc ms (pV post) := by
  refine ct_ofN htr (by decide) (Nat.le_of_ble_eq_true rfl) ?_
  intro X hC hN hR
  show G X 5 M 0 0 0 [(0, .ref a0), (1, .ref b0), (2, .int p1), (3, .int p2)] []
  unfold w_X5_receiveQuit at h
  refine g_aload_n (r := (some a0)) hC 0 dX5_receiveQuit_0 rfl ?_
  obtain ⟨hc1, h⟩ := h
  obtain ⟨b2, eb2, h⟩ := h
  refine g_getA hC kc5 0 (by decide) wm_1_147 dX5_receiveQuit_1 rfl hc1 eb2 ?_
  refine g_iload_n hC 3 dX5_receiveQuit_4 rfl ?_
  obtain ⟨hc3, h⟩ := h
  obtain ⟨b4, eb4, h⟩ := h
  refine g_aaldA hC (by decide) dX5_receiveQuit_5 hc3 eb4 ?_
  refine g_astore (r := (some b4)) (lv' := [(4, .ref b4), (0, .ref a0), (1, .ref b0), (2, .int p1), (3, .int p2)]) hC dX5_receiveQuit_6 (by decide) rfl ?_
  refine g_aload (r := (some b4)) hC 0 dX5_receiveQuit_8 rfl ?_
  refine g_aload_n (r := (some b0)) hC 2 dX5_receiveQuit_10 rfl ?_
  obtain ⟨hc5, h⟩ := h
  refine g_pc (pc' := 11) rfl ?_
  refine g_getI hC kc1 1 (by decide) wm_1_72 dX5_receiveQuit_11 rfl hc5 ?_
  obtain ⟨hc6, h⟩ := h
  refine g_callV hC (As := [.int (gI M b0 1)]) (fun l D dA ht => s_X3_knows l D dA ht _ _ _ _ h) wm_2_85 wm_2_82 wm_2_83 wm_2_84 wm_1_5 (by decide +kernel : plainY yX3_knows 1) kc3.1 kc3.2.1 dX5_receiveQuit_14 (by decide) (Nat.le_of_ble_eq_true rfl) hc6 (Or.inl ⟨rfl, rfl⟩) ?_
  intro M9 v9 h
  obtain ⟨x7, rfl, h⟩ := h
  obtain ⟨hM9, h⟩ := h
  rw [hM9]
  show G X 5 M 0 0 17 [(4, .ref b4), (0, .ref a0), (1, .ref b0), (2, .int p1), (3, .int p2)] [.int x7]
  replace h := h (fun (M8 : Mem) (k9 : Nat) (n10 : Nat) => G X 5 M8 k9 n10 39 [(0, .ref a0), (1, .ref b0), (2, .int p1), (3, .int p2), (4, .ref b4)] []) (by
    intro M8 k9 n10 h
    show G X 5 M8 k9 n10 39 [(0, .ref a0), (1, .ref b0), (2, .int p1), (3, .int p2), (4, .ref b4)] []
    exact hR.1 rfl _ _ _ _ _ dX5_receiveQuit_39 ⟨rfl, h⟩)
  refine g_if_eq hC 39 dX5_receiveQuit_17 (by decide) (fun c21 => ?_) (fun c21 => ?_)
  · replace h := h.1 c21
    refine g_sub [1, 2, 3, 4, 0] (lv' := [(0, .ref a0), (1, .ref b0), (2, .int p1), (3, .int p2), (4, .ref b4)]) rfl ?_
    exact h
  · replace h := h.2 c21
    refine g_aload (r := (some b4)) hC 0 dX5_receiveQuit_20 rfl ?_
    refine g_aload_n (r := (some b0)) hC 2 dX5_receiveQuit_22 rfl ?_
    obtain ⟨hc12, h⟩ := h
    refine g_getI hC kc1 1 (by decide) wm_1_72 dX5_receiveQuit_23 rfl hc12 ?_
    obtain ⟨hc13, h⟩ := h
    refine g_callV hC (As := [.int (gI M b0 1)]) (fun l D dA ht => s_X3_forget l D dA ht _ _ _ _ h) wm_2_150 wm_2_147 wm_2_148 wm_2_149 wm_1_5 (by decide +kernel : plainY yX3_forget 1) kc3.1 kc3.2.1 dX5_receiveQuit_26 (by decide) (Nat.le_of_ble_eq_true rfl) hc13 (Or.inl ⟨rfl, rfl⟩) ?_
    intro M9 v9 h
    obtain ⟨rfl, h⟩ := h
    generalize M9 = M14 at h ⊢
    show G X 5 M14 0 0 29 [(4, .ref b4), (0, .ref a0), (1, .ref b0), (2, .int p1), (3, .int p2)] []
    refine g_aload_n (r := (some a0)) hC 1 dX5_receiveQuit_29 rfl ?_
    obtain ⟨hc15, h⟩ := h
    obtain ⟨b16, eb16, h⟩ := h
    refine g_pc (pc' := 30) rfl ?_
    refine g_getA hC kc5 1 (by decide) wm_1_148 dX5_receiveQuit_30 rfl hc15 eb16 ?_
    refine g_iload_n hC 4 dX5_receiveQuit_33 rfl ?_
    refine g_iload_n hC 3 dX5_receiveQuit_34 rfl ?_
    refine g_aload_n (r := (some b0)) hC 2 dX5_receiveQuit_35 rfl ?_
    obtain ⟨hc17, h⟩ := h
    obtain ⟨c18, s19, hc18, h⟩ := h
    refine g_callV hC (As := [.int p2, .int p1, .ref b0]) (fun l D dA ht => s_X4_spread l D dA ht _ _ _ _ _ _ _ _ h) wm_2_196 wm_2_193 wm_2_194 wm_2_195 wm_1_2 (by decide +kernel : plainY yX4_spread 3) kc4.1 kc4.2.1 dX5_receiveQuit_36 (by decide) (Nat.le_of_ble_eq_true rfl) hc17 (Or.inr hc18) ?_
    intro M9 v9 h
    obtain ⟨rfl, h⟩ := h
    generalize M9 = M20 at h ⊢
    show G X 5 M20 (0 + c18) (0 + s19) 39 [(4, .ref b4), (0, .ref a0), (1, .ref b0), (2, .int p1), (3, .int p2)] []
    refine g_sub [1, 2, 3, 4, 0] (lv' := [(0, .ref a0), (1, .ref b0), (2, .int p1), (3, .int p2), (4, .ref b4)]) rfl ?_
    exact h

def w_X5_receiveChannel (mc ms : Nat) (M : Mem) (a0 : Nat) (b0 : Nat) (p1 : Int32) (p2 : Int32) (post : Mem → Prop) : Prop :=
  gT M a0 = some (5, 0) ∧ ∃ b2, gR M a0 0 = some b2 ∧ inA M b2 12 p2 ∧ ∃ b4, gR M b2 (Int32.toNatClampNeg p2) = some b4 ∧ gT M b0 = some (1, 0) ∧ gT M b4 = some (3, 0) ∧ ∀ x7, x7 = (gI M b0 6) &&& (gI M b4 0) → ∀ J9 : Mem → Prop, (∀ (M8 : Mem), (gT M8 a0 = some (5, 0) ∧ ∃ b11, gR M8 a0 1 = some b11 ∧ gT M8 b11 = some (4, 0) ∧ ∃ c13 s14, (0 + c13 ≤ mc ∧ 0 + s14 ≤ ms) ∧ w_X4_spread c13 s14 M8 b11 p2 p1 b0 (fun M15 => post M15)) → J9 M8) → ((x7 = 0 → J9 M) ∧ (¬ (x7 = 0) → gT M b4 = some (3, 0) ∧ ∃ b17, gR M b4 1 = some b17 ∧ gT M b0 = some (1, 0) ∧ inA M b17 13 (gI M b0 2) ∧ ∃ b20, gR M b17 (Int32.toNatClampNeg (gI M b0 2)) = some b20 ∧ gT M b20 = some (0, 0) ∧ w_X0_takeIn M b20 b0 x7 (fun M22 => J9 M22)))
set_option maxRecDepth 100000 in
set_option maxHeartbeats 8000000 in
theorem s_X5_receiveChannel (l : Launch) (D : va_G) (dA : Nat → ClassId) (htr : l.stackTraces = false) (mc ms : Nat) (M : Mem) (a0 : Nat) (b0 : Nat) (p1 : Int32) (p2 : Int32) (post : Mem → Prop) (h : w_X5_receiveChannel mc ms M a0 b0 p1 p2 post) : CtN l D dA yX5_receiveChannel cX5_receiveChannel 6 (none) 5 [.ref a0, .ref b0, .int p1, .int p2] M mc ms (pV post) := by
  refine ct_ofN htr (by decide) (Nat.le_of_ble_eq_true rfl) ?_
  intro X hC hN hR
  show G X 6 M 0 0 0 [(0, .ref a0), (1, .ref b0), (2, .int p1), (3, .int p2)] []
  unfold w_X5_receiveChannel at h
  refine g_aload_n (r := (some a0)) hC 0 dX5_receiveChannel_0 rfl ?_
  obtain ⟨hc1, h⟩ := h
  obtain ⟨b2, eb2, h⟩ := h
  refine g_getA hC kc5 0 (by decide) wm_1_147 dX5_receiveChannel_1 rfl hc1 eb2 ?_
  refine g_iload_n hC 3 dX5_receiveChannel_4 rfl ?_
  obtain ⟨hc3, h⟩ := h
  obtain ⟨b4, eb4, h⟩ := h
  refine g_aaldA hC (by decide) dX5_receiveChannel_5 hc3 eb4 ?_
  refine g_astore (r := (some b4)) (lv' := [(4, .ref b4), (0, .ref a0), (1, .ref b0), (2, .int p1), (3, .int p2)]) hC dX5_receiveChannel_6 (by decide) rfl ?_
  refine g_aload_n (r := (some b0)) hC 2 dX5_receiveChannel_8 rfl ?_
  obtain ⟨hc5, h⟩ := h
  refine g_getI hC kc1 6 (by decide) wm_1_85 dX5_receiveChannel_9 rfl hc5 ?_
  refine g_pc (pc' := 12) rfl ?_
  refine g_aload (r := (some b4)) hC 0 dX5_receiveChannel_12 rfl ?_
  obtain ⟨hc6, h⟩ := h
  refine g_getI hC kc3 0 (by decide) wm_1_139 dX5_receiveChannel_14 rfl hc6 ?_
  refine g_iand hC dX5_receiveChannel_17 ?_
  obtain ⟨x7, ex7⟩ : ∃ w, w = (gI M b0 6) &&& (gI M b4 0) := ⟨_, rfl⟩
  replace h := h x7 ex7
  rw [← ex7]
  refine g_istore (lv' := [(5, .int x7), (4, .ref b4), (0, .ref a0), (1, .ref b0), (2, .int p1), (3, .int p2)]) hC dX5_receiveChannel_18 (by decide) rfl ?_
  refine g_iload hC 0 dX5_receiveChannel_20 rfl ?_
  replace h := h (fun (M8 : Mem) => G X 6 M8 0 0 41 [(0, .ref a0), (1, .ref b0), (2, .int p1), (3, .int p2), (4, .ref b4), (5, .int x7)] []) (by
    intro M8 h
    show G X 6 M8 0 0 41 [(0, .ref a0), (1, .ref b0), (2, .int p1), (3, .int p2), (4, .ref b4), (5, .int x7)] []
    refine g_aload_n (r := (some a0)) hC 0 dX5_receiveChannel_41 rfl ?_
    obtain ⟨hc10, h⟩ := h
    obtain ⟨b11, eb11, h⟩ := h
    refine g_getA hC kc5 1 (by decide) wm_1_148 dX5_receiveChannel_42 rfl hc10 eb11 ?_
    refine g_iload_n hC 3 dX5_receiveChannel_45 rfl ?_
    refine g_pc (pc' := 46) rfl ?_
    refine g_iload_n hC 2 dX5_receiveChannel_46 rfl ?_
    refine g_aload_n (r := (some b0)) hC 1 dX5_receiveChannel_47 rfl ?_
    obtain ⟨hc12, h⟩ := h
    obtain ⟨c13, s14, hc13, h⟩ := h
    refine g_callV hC (As := [.int p2, .int p1, .ref b0]) (fun l D dA ht => s_X4_spread l D dA ht _ _ _ _ _ _ _ _ h) wm_2_196 wm_2_193 wm_2_194 wm_2_195 wm_1_2 (by decide +kernel : plainY yX4_spread 3) kc4.1 kc4.2.1 dX5_receiveChannel_48 (by decide) (Nat.le_of_ble_eq_true rfl) hc12 (Or.inr hc13) ?_
    intro M9 v9 h
    obtain ⟨rfl, h⟩ := h
    generalize M9 = M15 at h ⊢
    show G X 6 M15 (0 + c13) (0 + s14) 51 [(0, .ref a0), (1, .ref b0), (2, .int p1), (3, .int p2), (4, .ref b4), (5, .int x7)] []
    exact hR.1 rfl _ _ _ _ _ dX5_receiveChannel_51 ⟨rfl, h⟩)
  refine g_if_eq hC 41 dX5_receiveChannel_22 (by decide) (fun c23 => ?_) (fun c23 => ?_)
  · replace h := h.1 c23
    refine g_sub [2, 3, 4, 5, 1, 0] (lv' := [(0, .ref a0), (1, .ref b0), (2, .int p1), (3, .int p2), (4, .ref b4), (5, .int x7)]) rfl ?_
    exact h
  · replace h := h.2 c23
    refine g_aload (r := (some b4)) hC 1 dX5_receiveChannel_25 rfl ?_
    obtain ⟨hc16, h⟩ := h
    obtain ⟨b17, eb17, h⟩ := h
    refine g_getA hC kc3 1 (by decide) wm_1_141 dX5_receiveChannel_27 rfl hc16 eb17 ?_
    refine g_pc (pc' := 30) rfl ?_
    refine g_aload_n (r := (some b0)) hC 3 dX5_receiveChannel_30 rfl ?_
    obtain ⟨hc18, h⟩ := h
    refine g_getI hC kc1 2 (by decide) wm_1_74 dX5_receiveChannel_31 rfl hc18 ?_
    obtain ⟨hc19, h⟩ := h
    obtain ⟨b20, eb20, h⟩ := h
    refine g_aaldA hC (by decide) dX5_receiveChannel_34 hc19 eb20 ?_
    refine g_aload_n (r := (some b0)) hC 3 dX5_receiveChannel_35 rfl ?_
    refine g_iload hC 0 dX5_receiveChannel_36 rfl ?_
    obtain ⟨hc21, h⟩ := h
    refine g_callV hC (As := [.ref b0, .int x7]) (fun l D dA ht => s_X0_takeIn l D dA ht _ _ _ _ _ h) wm_2_226 wm_2_223 wm_2_224 wm_2_225 wm_1_6 (by decide +kernel : plainY yX0_takeIn 2) kc0.1 kc0.2.1 dX5_receiveChannel_38 (by decide) (Nat.le_of_ble_eq_true rfl) hc21 (Or.inl ⟨rfl, rfl⟩) ?_
    intro M9 v9 h
    obtain ⟨rfl, h⟩ := h
    generalize M9 = M22 at h ⊢
    show G X 6 M22 0 0 41 [(5, .int x7), (4, .ref b4), (0, .ref a0), (1, .ref b0), (2, .int p1), (3, .int p2)] []
    refine g_sub [2, 3, 4, 5, 1, 0] (lv' := [(0, .ref a0), (1, .ref b0), (2, .int p1), (3, .int p2), (4, .ref b4), (5, .int x7)]) rfl ?_
    exact h

def w_X5_receiveModes (mc ms : Nat) (M : Mem) (a0 : Nat) (b0 : Nat) (p1 : Int32) (p2 : Int32) (post : Mem → Prop) : Prop :=
  gT M a0 = some (5, 0) ∧ ∃ b2, gR M a0 0 = some b2 ∧ inA M b2 12 p2 ∧ ∃ b4, gR M b2 (Int32.toNatClampNeg p2) = some b4 ∧ gT M b4 = some (3, 0) ∧ ∃ b6, gR M b4 1 = some b6 ∧ gT M b0 = some (1, 0) ∧ inA M b6 13 (gI M b0 2) ∧ ∃ b9, gR M b6 (Int32.toNatClampNeg (gI M b0 2)) = some b9 ∧ gT M b9 = some (0, 0) ∧ w_X0_isThere M b9 (fun x11 => ∀ J13 : Mem → Prop, (∀ (M12 : Mem), (gT M12 a0 = some (5, 0) ∧ ∃ b15, gR M12 a0 1 = some b15 ∧ gT M12 b15 = some (4, 0) ∧ ∃ c17 s18, (0 + c17 ≤ mc ∧ 0 + s18 ≤ ms) ∧ w_X4_spread c17 s18 M12 b15 p2 p1 b0 (fun M19 => post M19)) → J13 M12) → ((x11 = 0 → J13 M) ∧ (¬ (x11 = 0) → gT M b9 = some (0, 0) ∧ gT M b0 = some (1, 0) ∧ (gI M b9 0 = gI M b0 3 → gT M b0 = some (1, 0) ∧ gT M b9 = some (0, 0) ∧ ∀ M24, M24 = sI M b9 1 (gI M b0 4) → gT M24 b0 = some (1, 0) ∧ gT M24 b9 = some (0, 0) ∧ ∀ M27, M27 = sI M24 b9 2 (gI M24 b0 5) → J13 M27) ∧ (¬ (gI M b9 0 = gI M b0 3) → J13 M))))
set_option maxRecDepth 100000 in
set_option maxHeartbeats 8000000 in
theorem s_X5_receiveModes (l : Launch) (D : va_G) (dA : Nat → ClassId) (htr : l.stackTraces = false) (mc ms : Nat) (M : Mem) (a0 : Nat) (b0 : Nat) (p1 : Int32) (p2 : Int32) (post : Mem → Prop) (h : w_X5_receiveModes mc ms M a0 b0 p1 p2 post) : CtN l D dA yX5_receiveModes cX5_receiveModes 5 (none) 5 [.ref a0, .ref b0, .int p1, .int p2] M mc ms (pV post) := by
  refine ct_ofN htr (by decide) (Nat.le_of_ble_eq_true rfl) ?_
  intro X hC hN hR
  show G X 5 M 0 0 0 [(0, .ref a0), (1, .ref b0), (2, .int p1), (3, .int p2)] []
  unfold w_X5_receiveModes at h
  refine g_aload_n (r := (some a0)) hC 0 dX5_receiveModes_0 rfl ?_
  obtain ⟨hc1, h⟩ := h
  obtain ⟨b2, eb2, h⟩ := h
  refine g_getA hC kc5 0 (by decide) wm_1_147 dX5_receiveModes_1 rfl hc1 eb2 ?_
  refine g_iload_n hC 3 dX5_receiveModes_4 rfl ?_
  obtain ⟨hc3, h⟩ := h
  obtain ⟨b4, eb4, h⟩ := h
  refine g_aaldA hC (by decide) dX5_receiveModes_5 hc3 eb4 ?_
  obtain ⟨hc5, h⟩ := h
  obtain ⟨b6, eb6, h⟩ := h
  refine g_getA hC kc3 1 (by decide) wm_1_141 dX5_receiveModes_6 rfl hc5 eb6 ?_
  refine g_aload_n (r := (some b0)) hC 1 dX5_receiveModes_9 rfl ?_
  obtain ⟨hc7, h⟩ := h
  refine g_getI hC kc1 2 (by decide) wm_1_74 dX5_receiveModes_10 rfl hc7 ?_
  obtain ⟨hc8, h⟩ := h
  obtain ⟨b9, eb9, h⟩ := h
  refine g_pc (pc' := 13) rfl ?_
  refine g_aaldA hC (by decide) dX5_receiveModes_13 hc8 eb9 ?_
  refine g_astore (r := (some b9)) (lv' := [(4, .ref b9), (0, .ref a0), (1, .ref b0), (2, .int p1), (3, .int p2)]) hC dX5_receiveModes_14 (by decide) rfl ?_
  refine g_aload (r := (some b9)) hC 0 dX5_receiveModes_16 rfl ?_
  obtain ⟨hc10, h⟩ := h
  refine g_callV hC (As := []) (fun l D dA ht => s_X0_isThere l D dA ht _ _ _ h) wm_2_109 wm_2_106 wm_2_107 wm_2_108 wm_1_6 (by decide +kernel : plainY yX0_isThere 0) kc0.1 kc0.2.1 dX5_receiveModes_18 (by decide) (Nat.le_of_ble_eq_true rfl) hc10 (Or.inl ⟨rfl, rfl⟩) ?_
  intro M9 v9 h
  obtain ⟨x11, rfl, h⟩ := h
  obtain ⟨hM9, h⟩ := h
  rw [hM9]
  show G X 5 M 0 0 21 [(4, .ref b9), (0, .ref a0), (1, .ref b0), (2, .int p1), (3, .int p2)] [.int x11]
  replace h := h (fun (M12 : Mem) => G X 5 M12 0 0 54 [(0, .ref a0), (1, .ref b0), (2, .int p1), (3, .int p2), (4, .ref b9)] []) (by
    intro M12 h
    show G X 5 M12 0 0 54 [(0, .ref a0), (1, .ref b0), (2, .int p1), (3, .int p2), (4, .ref b9)] []
    refine g_aload_n (r := (some a0)) hC 0 dX5_receiveModes_54 rfl ?_
    obtain ⟨hc14, h⟩ := h
    obtain ⟨b15, eb15, h⟩ := h
    refine g_getA hC kc5 1 (by decide) wm_1_148 dX5_receiveModes_55 rfl hc14 eb15 ?_
    refine g_iload_n hC 3 dX5_receiveModes_58 rfl ?_
    refine g_iload_n hC 2 dX5_receiveModes_59 rfl ?_
    refine g_pc (pc' := 60) rfl ?_
    refine g_aload_n (r := (some b0)) hC 1 dX5_receiveModes_60 rfl ?_
    obtain ⟨hc16, h⟩ := h
    obtain ⟨c17, s18, hc17, h⟩ := h
    refine g_callV hC (As := [.int p2, .int p1, .ref b0]) (fun l D dA ht => s_X4_spread l D dA ht _ _ _ _ _ _ _ _ h) wm_2_196 wm_2_193 wm_2_194 wm_2_195 wm_1_2 (by decide +kernel : plainY yX4_spread 3) kc4.1 kc4.2.1 dX5_receiveModes_61 (by decide) (Nat.le_of_ble_eq_true rfl) hc16 (Or.inr hc17) ?_
    intro M9 v9 h
    obtain ⟨rfl, h⟩ := h
    generalize M9 = M19 at h ⊢
    show G X 5 M19 (0 + c17) (0 + s18) 64 [(0, .ref a0), (1, .ref b0), (2, .int p1), (3, .int p2), (4, .ref b9)] []
    exact hR.1 rfl _ _ _ _ _ dX5_receiveModes_64 ⟨rfl, h⟩)
  refine g_if_eq hC 54 dX5_receiveModes_21 (by decide) (fun c29 => ?_) (fun c29 => ?_)
  · replace h := h.1 c29
    refine g_sub [1, 2, 3, 4, 0] (lv' := [(0, .ref a0), (1, .ref b0), (2, .int p1), (3, .int p2), (4, .ref b9)]) rfl ?_
    exact h
  · replace h := h.2 c29
    refine g_aload (r := (some b9)) hC 0 dX5_receiveModes_24 rfl ?_
    obtain ⟨hc20, h⟩ := h
    refine g_getI hC kc0 0 (by decide) wm_1_120 dX5_receiveModes_26 rfl hc20 ?_
    refine g_aload_n (r := (some b0)) hC 2 dX5_receiveModes_29 rfl ?_
    obtain ⟨hc21, h⟩ := h
    refine g_pc (pc' := 30) rfl ?_
    refine g_getI hC kc1 3 (by decide) wm_1_77 dX5_receiveModes_30 rfl hc21 ?_
    refine g_icmp_ne hC 54 dX5_receiveModes_33 (by decide) (fun c28 => ?_) (fun c28 => ?_)
    · replace h := h.2 c28
      refine g_sub [1, 2, 3, 4, 0] (lv' := [(0, .ref a0), (1, .ref b0), (2, .int p1), (3, .int p2), (4, .ref b9)]) rfl ?_
      exact h
    · replace h := h.1 c28
      refine g_aload (r := (some b9)) hC 0 dX5_receiveModes_36 rfl ?_
      refine g_aload_n (r := (some b0)) hC 2 dX5_receiveModes_38 rfl ?_
      obtain ⟨hc22, h⟩ := h
      refine g_getI hC kc1 4 (by decide) wm_1_80 dX5_receiveModes_39 rfl hc22 ?_
      obtain ⟨hc23, h⟩ := h
      refine g_putI hC kc0 1 (by decide) wm_1_123 dX5_receiveModes_42 rfl rfl (Or.inl rfl) hc23 ?_
      obtain ⟨M24, eM24⟩ : ∃ w, w = sI M b9 1 (gI M b0 4) := ⟨_, rfl⟩
      replace h := h M24 eM24
      rw [← eM24]
      refine g_aload (r := (some b9)) hC 0 dX5_receiveModes_45 rfl ?_
      refine g_aload_n (r := (some b0)) hC 2 dX5_receiveModes_47 rfl ?_
      obtain ⟨hc25, h⟩ := h
      refine g_pc (pc' := 48) rfl ?_
      refine g_getI hC kc1 5 (by decide) wm_1_83 dX5_receiveModes_48 rfl hc25 ?_
      obtain ⟨hc26, h⟩ := h
      refine g_putI hC kc0 2 (by decide) wm_1_126 dX5_receiveModes_51 rfl rfl (Or.inl rfl) hc26 ?_
      obtain ⟨M27, eM27⟩ : ∃ w, w = sI M24 b9 2 (gI M24 b0 5) := ⟨_, rfl⟩
      replace h := h M27 eM27
      rw [← eM27]
      refine g_sub [1, 2, 3, 4, 0] (lv' := [(0, .ref a0), (1, .ref b0), (2, .int p1), (3, .int p2), (4, .ref b9)]) rfl ?_
      exact h

def w_X5_deliverFirst (mc ms : Nat) (M : Mem) (a0 : Nat) (p0 : Int32) (p1 : Int32) (post : Mem → Int32 → Prop) : Prop :=
  gT M a0 = some (5, 0) ∧ ∃ b2, gR M a0 1 = some b2 ∧ gT M b2 = some (4, 0) ∧ w_X4_take M b2 p0 p1 (fun M4 r5 => (r5 = none → ((0 : Int32) = 0 ∨ (0 : Int32) = 1) ∧ post M4 0) ∧ (∀ b6, r5 = some b6 → gT M4 b6 = some (1, 0) ∧ ∀ J11 : Mem → Nat → Nat → Prop, (∀ (M8 : Mem) (k9 : Nat) (n10 : Nat), (gT M8 a0 = some (5, 0) ∧ ∃ b13, gR M8 a0 1 = some b13 ∧ gT M8 b13 = some (4, 0) ∧ w_X4_keepSpare M8 b13 b6 (fun M15 => ((1 : Int32) = 0 ∨ (1 : Int32) = 1) ∧ post M15 1)) → J11 M8 k9 n10) → ((gI M4 b6 0 = 0 → gT M4 a0 = some (5, 0) ∧ ∃ c18 s19, (0 + c18 ≤ mc ∧ 0 + s19 ≤ ms) ∧ w_X5_receiveUser c18 s19 M4 a0 b6 p0 p1 (fun M20 => J11 M20 (0 + c18) (0 + s19))) ∧ (gI M4 b6 0 = 1 → gT M4 a0 = some (5, 0) ∧ ∃ c22 s23, (0 + c22 ≤ mc ∧ 0 + s23 ≤ ms) ∧ w_X5_receiveQuit c22 s23 M4 a0 b6 p0 p1 (fun M24 => J11 M24 (0 + c22) (0 + s23))) ∧ (gI M4 b6 0 = 2 → gT M4 a0 = some (5, 0) ∧ ∃ c26 s27, (0 + c26 ≤ mc ∧ 0 + s27 ≤ ms) ∧ w_X5_receiveChannel c26 s27 M4 a0 b6 p0 p1 (fun M28 => J11 M28 (0 + c26) (0 + s27))) ∧ (gI M4 b6 0 = 3 → gT M4 a0 = some (5, 0) ∧ ∃ b30, gR M4 a0 0 = some b30 ∧ inA M4 b30 12 p1 ∧ ∃ b32, gR M4 b30 (Int32.toNatClampNeg p1) = some b32 ∧ gT M4 b32 = some (3, 0) ∧ ∃ b34, gR M4 b32 1 = some b34 ∧ gT M4 b6 = some (1, 0) ∧ inA M4 b34 13 (gI M4 b6 2) ∧ ∃ b37, gR M4 b34 (Int32.toNatClampNeg (gI M4 b6 2)) = some b37 ∧ gT M4 b6 = some (1, 0) ∧ gT M4 b37 = some (0, 0) ∧ w_X0_drop M4 b37 (gI M4 b6 1) (fun M40 => gT M40 a0 = some (5, 0) ∧ ∃ b42, gR M40 a0 1 = some b42 ∧ gT M40 b42 = some (4, 0) ∧ ∃ c44 s45, (0 + c44 ≤ mc ∧ 0 + s45 ≤ ms) ∧ w_X4_spread c44 s45 M40 b42 p1 p0 b6 (fun M46 => J11 M46 (0 + c44) (0 + s45)))) ∧ (¬ gI M4 b6 0 = 0 ∧ ¬ gI M4 b6 0 = 1 ∧ ¬ gI M4 b6 0 = 2 ∧ ¬ gI M4 b6 0 = 3 → gT M4 a0 = some (5, 0) ∧ ∃ c48 s49, (0 + c48 ≤ mc ∧ 0 + s49 ≤ ms) ∧ w_X5_receiveModes c48 s49 M4 a0 b6 p0 p1 (fun M50 => J11 M50 (0 + c48) (0 + s49))))))
set_option maxRecDepth 100000 in
set_option maxHeartbeats 8000000 in
theorem s_X5_deliverFirst (l : Launch) (D : va_G) (dA : Nat → ClassId) (htr : l.stackTraces = false) (mc ms : Nat) (M : Mem) (a0 : Nat) (p0 : Int32) (p1 : Int32) (post : Mem → Int32 → Prop) (h : w_X5_deliverFirst mc ms M a0 p0 p1 post) : CtN l D dA yX5_deliverFirst cX5_deliverFirst 4 (some .boolean) 6 [.ref a0, .int p0, .int p1] M mc ms (pI post) := by
  refine ct_ofN htr (by decide) (Nat.le_of_ble_eq_true rfl) ?_
  intro X hC hN hR
  show G X 4 M 0 0 0 [(0, .ref a0), (1, .int p0), (2, .int p1)] []
  unfold w_X5_deliverFirst at h
  refine g_aload_n (r := (some a0)) hC 0 dX5_deliverFirst_0 rfl ?_
  obtain ⟨hc1, h⟩ := h
  obtain ⟨b2, eb2, h⟩ := h
  refine g_getA hC kc5 1 (by decide) wm_1_148 dX5_deliverFirst_1 rfl hc1 eb2 ?_
  refine g_iload_n hC 1 dX5_deliverFirst_4 rfl ?_
  refine g_iload_n hC 2 dX5_deliverFirst_5 rfl ?_
  obtain ⟨hc3, h⟩ := h
  refine g_callV hC (As := [.int p0, .int p1]) (fun l D dA ht => s_X4_take l D dA ht _ _ _ _ _ h) wm_2_134 wm_2_210 wm_2_132 wm_2_133 wm_1_2 (by decide +kernel : plainY yX4_take 2) kc4.1 kc4.2.1 dX5_deliverFirst_6 (by decide) (Nat.le_of_ble_eq_true rfl) hc3 (Or.inl ⟨rfl, rfl⟩) ?_
  intro M9 v9 h
  obtain ⟨r5, rfl, h⟩ := h
  generalize M9 = M4 at h ⊢
  show G X 4 M4 0 0 9 [(0, .ref a0), (1, .int p0), (2, .int p1)] [va_rf r5]
  refine g_astore_n (r := r5) (lv' := [(3, va_rf r5), (0, .ref a0), (1, .int p0), (2, .int p1)]) hC dX5_deliverFirst_9 (by decide) rfl ?_
  refine g_aload_n (r := r5) hC 0 dX5_deliverFirst_10 rfl ?_
  refine g_pc (pc' := 11) rfl ?_
  refine g_ifnonnull hC 16 dX5_deliverFirst_11 (by decide) (fun b6 eb6 => ?_) (fun eb6 => ?_)
  · replace h := h.2 b6 eb6
    subst eb6
    refine g_aload_n (r := (some b6)) hC 0 dX5_deliverFirst_16 rfl ?_
    obtain ⟨hc7, h⟩ := h
    refine g_getI hC kc1 0 (by decide) wm_1_70 dX5_deliverFirst_17 rfl hc7 ?_
    replace h := h (fun (M8 : Mem) (k9 : Nat) (n10 : Nat) => G X 4 M8 k9 n10 123 [(0, .ref a0), (1, .int p0), (2, .int p1), (3, .ref b6)] []) (by
      intro M8 k9 n10 h
      show G X 4 M8 k9 n10 123 [(0, .ref a0), (1, .int p0), (2, .int p1), (3, .ref b6)] []
      refine g_aload_n (r := (some a0)) hC 0 dX5_deliverFirst_123 rfl ?_
      obtain ⟨hc12, h⟩ := h
      obtain ⟨b13, eb13, h⟩ := h
      refine g_getA hC kc5 1 (by decide) wm_1_148 dX5_deliverFirst_124 rfl hc12 eb13 ?_
      refine g_aload_n (r := (some b6)) hC 3 dX5_deliverFirst_127 rfl ?_
      obtain ⟨hc14, h⟩ := h
      refine g_callV hC (As := [.ref b6]) (fun l D dA ht => s_X4_keepSpare l D dA ht _ _ _ _ h) wm_2_142 wm_2_238 wm_2_140 wm_2_141 wm_1_2 (by decide +kernel : plainY yX4_keepSpare 1) kc4.1 kc4.2.1 dX5_deliverFirst_128 (by decide) (Nat.le_of_ble_eq_true rfl) hc14 (Or.inl ⟨rfl, rfl⟩) ?_
      intro M9 v9 h
      obtain ⟨rfl, h⟩ := h
      generalize M9 = M15 at h ⊢
      show G X 4 M15 k9 n10 131 [(0, .ref a0), (1, .int p0), (2, .int p1), (3, .ref b6)] []
      refine g_iconst (v := 1) hC dX5_deliverFirst_131 (by decide) ?_
      refine g_pc (pc' := 132) rfl ?_
      exact hR.2.2.1 rfl _ _ _ _ _ _ dX5_deliverFirst_132 ⟨h.1, ⟨_, rfl, h.2⟩⟩)
    obtain ⟨sx, esx⟩ : ∃ w, w = gI M4 b6 0 := ⟨_, rfl⟩
    rw [← esx] at h ⊢
    by_cases c160 : sx = 0
    · replace h := h.1 c160
      refine g_tableIn (off := 32) hC 52 dX5_deliverFirst_20 (by rw [c160]; decide) (by rw [c160]; decide) (by rw [c160]; decide) (by decide) ?_
      refine g_aload_n (r := (some a0)) hC 1 dX5_deliverFirst_52 rfl ?_
      refine g_aload_n (r := (some b6)) hC 0 dX5_deliverFirst_53 rfl ?_
      refine g_iload_n hC 2 dX5_deliverFirst_54 rfl ?_
      refine g_iload_n hC 3 dX5_deliverFirst_55 rfl ?_
      refine g_pc (pc' := 56) rfl ?_
      obtain ⟨hc17, h⟩ := h
      obtain ⟨c18, s19, hc18, h⟩ := h
      refine g_callV hC (As := [.ref b6, .int p0, .int p1]) (fun l D dA ht => s_X5_receiveUser l D dA ht _ _ _ _ _ _ _ _ h) wm_2_214 wm_2_211 wm_2_213 wm_0_5 wm_1_1 (by decide +kernel : plainY yX5_receiveUser 3) kc5.1 kc5.2.1 dX5_deliverFirst_56 (by decide) (Nat.le_of_ble_eq_true rfl) hc17 (Or.inr hc18) ?_
      intro M9 v9 h
      obtain ⟨rfl, h⟩ := h
      generalize M9 = M20 at h ⊢
      show G X 4 M20 (0 + c18) (0 + s19) 59 [(3, .ref b6), (0, .ref a0), (1, .int p0), (2, .int p1)] []
      refine g_goto hC 123 dX5_deliverFirst_59 (by decide) ?_
      refine g_sub [1, 2, 3, 0] (lv' := [(0, .ref a0), (1, .int p0), (2, .int p1), (3, .ref b6)]) rfl ?_
      exact h
    by_cases c161 : sx = 1
    · replace h := h.2.1 c161
      refine g_tableIn (off := 42) hC 62 dX5_deliverFirst_20 (by rw [c161]; decide) (by rw [c161]; decide) (by rw [c161]; decide) (by decide) ?_
      refine g_aload_n (r := (some a0)) hC 1 dX5_deliverFirst_62 rfl ?_
      refine g_aload_n (r := (some b6)) hC 0 dX5_deliverFirst_63 rfl ?_
      refine g_iload_n hC 2 dX5_deliverFirst_64 rfl ?_
      refine g_iload_n hC 3 dX5_deliverFirst_65 rfl ?_
      refine g_pc (pc' := 66) rfl ?_
      obtain ⟨hc21, h⟩ := h
      obtain ⟨c22, s23, hc22, h⟩ := h
      refine g_callV hC (As := [.ref b6, .int p0, .int p1]) (fun l D dA ht => s_X5_receiveQuit l D dA ht _ _ _ _ _ _ _ _ h) wm_2_218 wm_2_215 wm_2_217 wm_0_6 wm_1_1 (by decide +kernel : plainY yX5_receiveQuit 3) kc5.1 kc5.2.1 dX5_deliverFirst_66 (by decide) (Nat.le_of_ble_eq_true rfl) hc21 (Or.inr hc22) ?_
      intro M9 v9 h
      obtain ⟨rfl, h⟩ := h
      generalize M9 = M24 at h ⊢
      show G X 4 M24 (0 + c22) (0 + s23) 69 [(3, .ref b6), (0, .ref a0), (1, .int p0), (2, .int p1)] []
      refine g_goto hC 123 dX5_deliverFirst_69 (by decide) ?_
      refine g_sub [1, 2, 3, 0] (lv' := [(0, .ref a0), (1, .int p0), (2, .int p1), (3, .ref b6)]) rfl ?_
      exact h
    by_cases c162 : sx = 2
    · replace h := h.2.2.1 c162
      refine g_tableIn (off := 52) hC 72 dX5_deliverFirst_20 (by rw [c162]; decide) (by rw [c162]; decide) (by rw [c162]; decide) (by decide) ?_
      refine g_aload_n (r := (some a0)) hC 1 dX5_deliverFirst_72 rfl ?_
      refine g_aload_n (r := (some b6)) hC 0 dX5_deliverFirst_73 rfl ?_
      refine g_iload_n hC 2 dX5_deliverFirst_74 rfl ?_
      refine g_iload_n hC 3 dX5_deliverFirst_75 rfl ?_
      refine g_pc (pc' := 76) rfl ?_
      obtain ⟨hc25, h⟩ := h
      obtain ⟨c26, s27, hc26, h⟩ := h
      refine g_callV hC (As := [.ref b6, .int p0, .int p1]) (fun l D dA ht => s_X5_receiveChannel l D dA ht _ _ _ _ _ _ _ _ h) wm_2_222 wm_2_219 wm_2_221 wm_0_7 wm_1_1 (by decide +kernel : plainY yX5_receiveChannel 3) kc5.1 kc5.2.1 dX5_deliverFirst_76 (by decide) (Nat.le_of_ble_eq_true rfl) hc25 (Or.inr hc26) ?_
      intro M9 v9 h
      obtain ⟨rfl, h⟩ := h
      generalize M9 = M28 at h ⊢
      show G X 4 M28 (0 + c26) (0 + s27) 79 [(3, .ref b6), (0, .ref a0), (1, .int p0), (2, .int p1)] []
      refine g_goto hC 123 dX5_deliverFirst_79 (by decide) ?_
      refine g_sub [1, 2, 3, 0] (lv' := [(0, .ref a0), (1, .int p0), (2, .int p1), (3, .ref b6)]) rfl ?_
      exact h
    by_cases c163 : sx = 3
    · replace h := h.2.2.2.1 c163
      refine g_tableIn (off := 62) hC 82 dX5_deliverFirst_20 (by rw [c163]; decide) (by rw [c163]; decide) (by rw [c163]; decide) (by decide) ?_
      refine g_aload_n (r := (some a0)) hC 1 dX5_deliverFirst_82 rfl ?_
      obtain ⟨hc29, h⟩ := h
      obtain ⟨b30, eb30, h⟩ := h
      refine g_getA hC kc5 0 (by decide) wm_1_147 dX5_deliverFirst_83 rfl hc29 eb30 ?_
      refine g_iload_n hC 3 dX5_deliverFirst_86 rfl ?_
      obtain ⟨hc31, h⟩ := h
      obtain ⟨b32, eb32, h⟩ := h
      refine g_aaldA hC (by decide) dX5_deliverFirst_87 hc31 eb32 ?_
      obtain ⟨hc33, h⟩ := h
      obtain ⟨b34, eb34, h⟩ := h
      refine g_pc (pc' := 88) rfl ?_
      refine g_getA hC kc3 1 (by decide) wm_1_141 dX5_deliverFirst_88 rfl hc33 eb34 ?_
      refine g_aload_n (r := (some b6)) hC 0 dX5_deliverFirst_91 rfl ?_
      obtain ⟨hc35, h⟩ := h
      refine g_getI hC kc1 2 (by decide) wm_1_74 dX5_deliverFirst_92 rfl hc35 ?_
      obtain ⟨hc36, h⟩ := h
      obtain ⟨b37, eb37, h⟩ := h
      refine g_aaldA hC (by decide) dX5_deliverFirst_95 hc36 eb37 ?_
      refine g_aload_n (r := (some b6)) hC 0 dX5_deliverFirst_96 rfl ?_
      obtain ⟨hc38, h⟩ := h
      refine g_getI hC kc1 1 (by decide) wm_1_72 dX5_deliverFirst_97 rfl hc38 ?_
      obtain ⟨hc39, h⟩ := h
      refine g_callV hC (As := [.int (gI M4 b6 1)]) (fun l D dA ht => s_X0_drop l D dA ht _ _ _ _ h) wm_2_154 wm_2_233 wm_2_152 wm_2_153 wm_1_6 (by decide +kernel : plainY yX0_drop 1) kc0.1 kc0.2.1 dX5_deliverFirst_100 (by decide) (Nat.le_of_ble_eq_true rfl) hc39 (Or.inl ⟨rfl, rfl⟩) ?_
      intro M9 v9 h
      obtain ⟨rfl, h⟩ := h
      generalize M9 = M40 at h ⊢
      show G X 4 M40 0 0 103 [(3, .ref b6), (0, .ref a0), (1, .int p0), (2, .int p1)] []
      refine g_aload_n (r := (some a0)) hC 1 dX5_deliverFirst_103 rfl ?_
      obtain ⟨hc41, h⟩ := h
      obtain ⟨b42, eb42, h⟩ := h
      refine g_pc (pc' := 104) rfl ?_
      refine g_getA hC kc5 1 (by decide) wm_1_148 dX5_deliverFirst_104 rfl hc41 eb42 ?_
      refine g_iload_n hC 3 dX5_deliverFirst_107 rfl ?_
      refine g_iload_n hC 2 dX5_deliverFirst_108 rfl ?_
      refine g_aload_n (r := (some b6)) hC 0 dX5_deliverFirst_109 rfl ?_
      obtain ⟨hc43, h⟩ := h
      obtain ⟨c44, s45, hc44, h⟩ := h
      refine g_callV hC (As := [.int p1, .int p0, .ref b6]) (fun l D dA ht => s_X4_spread l D dA ht _ _ _ _ _ _ _ _ h) wm_2_196 wm_2_193 wm_2_194 wm_2_195 wm_1_2 (by decide +kernel : plainY yX4_spread 3) kc4.1 kc4.2.1 dX5_deliverFirst_110 (by decide) (Nat.le_of_ble_eq_true rfl) hc43 (Or.inr hc44) ?_
      intro M9 v9 h
      obtain ⟨rfl, h⟩ := h
      generalize M9 = M46 at h ⊢
      show G X 4 M46 (0 + c44) (0 + s45) 113 [(3, .ref b6), (0, .ref a0), (1, .int p0), (2, .int p1)] []
      refine g_goto hC 123 dX5_deliverFirst_113 (by decide) ?_
      refine g_sub [1, 2, 3, 0] (lv' := [(0, .ref a0), (1, .int p0), (2, .int p1), (3, .ref b6)]) rfl ?_
      exact h
    replace h := h.2.2.2.2 ⟨c160, c161, c162, c163⟩
    refine g_tableOut hC 116 dX5_deliverFirst_20 (sw_out4 c160 c161 c162 c163) (by decide) ?_
    refine g_aload_n (r := (some a0)) hC 1 dX5_deliverFirst_116 rfl ?_
    refine g_aload_n (r := (some b6)) hC 0 dX5_deliverFirst_117 rfl ?_
    refine g_iload_n hC 2 dX5_deliverFirst_118 rfl ?_
    refine g_iload_n hC 3 dX5_deliverFirst_119 rfl ?_
    refine g_pc (pc' := 120) rfl ?_
    obtain ⟨hc47, h⟩ := h
    obtain ⟨c48, s49, hc48, h⟩ := h
    refine g_callV hC (As := [.ref b6, .int p0, .int p1]) (fun l D dA ht => s_X5_receiveModes l D dA ht _ _ _ _ _ _ _ _ h) wm_2_237 wm_2_234 wm_2_236 wm_0_8 wm_1_1 (by decide +kernel : plainY yX5_receiveModes 3) kc5.1 kc5.2.1 dX5_deliverFirst_120 (by decide) (Nat.le_of_ble_eq_true rfl) hc47 (Or.inr hc48) ?_
    intro M9 v9 h
    obtain ⟨rfl, h⟩ := h
    generalize M9 = M50 at h ⊢
    show G X 4 M50 (0 + c48) (0 + s49) 123 [(3, .ref b6), (0, .ref a0), (1, .int p0), (2, .int p1)] []
    refine g_sub [1, 2, 3, 0] (lv' := [(0, .ref a0), (1, .int p0), (2, .int p1), (3, .ref b6)]) rfl ?_
    exact h
  · replace h := h.1 eb6
    subst eb6
    refine g_iconst (v := 0) hC dX5_deliverFirst_14 (by decide) ?_
    exact hR.2.2.1 rfl _ _ _ _ _ _ dX5_deliverFirst_15 ⟨h.1, ⟨_, rfl, h.2⟩⟩

def w_X5_deliver (mc ms : Nat) (M : Mem) (a0 : Nat) (p0 : Int32) (p1 : Int32) (xp : String → Mem → Prop) (post : Mem → Int32 → Prop) : Prop :=
  ∃ c1 s2, (0 + c1 ≤ mc ∧ 0 + s2 ≤ ms) ∧ w_X5_checkServer c1 s2 M p0 (fun E M => xp E M) (∃ c3 s4, ((0 + c1) + c3 ≤ mc ∧ (0 + s2) + s4 ≤ ms) ∧ w_X5_checkServer c3 s4 M p1 (fun E M => xp E M) (gT M a0 = some (5, 0) ∧ ∃ b6, gR M a0 1 = some b6 ∧ gT M b6 = some (4, 0) ∧ w_X4_haveLink M b6 p0 p1 (fun x8 => (x8 = 0 → (0 + c1 + c3 + 1 ≤ mc ∧ 0 + s2 + s4 + 6 ≤ ms) ∧ xp ise M) ∧ (¬ (x8 = 0) → gT M a0 = some (5, 0) ∧ ∃ c10 s11, ((0 + c1 + c3) + c10 ≤ mc ∧ (0 + s2 + s4) + s11 ≤ ms) ∧ w_X5_deliverFirst c10 s11 M a0 p0 p1 (fun M12 x13 => (x13 = 0 → (0 + c1 + c3 + c10 + 1 ≤ mc ∧ 0 + s2 + s4 + s11 + 6 ≤ ms) ∧ xp ise M12) ∧ (¬ (x13 = 0) → gT M12 a0 = some (5, 0) ∧ gT M12 a0 = some (5, 0) ∧ ∀ M16, M16 = sI M12 a0 7 ((gI M12 a0 7) + 1) → gT M16 a0 = some (5, 0) ∧ ∃ b18, gR M16 a0 1 = some b18 ∧ gT M16 b18 = some (4, 0) ∧ post M16 (gI M16 b18 2)))))))
set_option maxRecDepth 100000 in
set_option maxHeartbeats 8000000 in
theorem s_X5_deliver (l : Launch) (D : va_G) (dA : Nat → ClassId) (htr : l.stackTraces = false) (mc ms : Nat) (M : Mem) (a0 : Nat) (p0 : Int32) (p1 : Int32) (xp : String → Mem → Prop) (post : Mem → Int32 → Prop) (h : w_X5_deliver mc ms M a0 p0 p1 xp post) : CtX l D dA yX5_deliver cX5_deliver 3 (some .int) 7 [.ref a0, .int p0, .int p1] M mc ms xp (pI post) := by
  refine ct_ofX htr (by decide) (Nat.le_of_ble_eq_true rfl) (by decide) rfl ?_
  intro X hC hR hThrow hOut
  show G X 3 M 0 0 0 [(0, .ref a0), (1, .int p0), (2, .int p1)] []
  unfold w_X5_deliver at h
  refine g_iload_n hC 1 dX5_deliver_0 rfl ?_
  obtain ⟨c1, s2, hc1, h⟩ := h
  refine gx_callS hC (As := [.int p0]) (fun l D dA ht => s_X5_checkServer l D dA ht _ _ _ _ _ _ h) wm_1_182 wm_1_180 wm_1_181 wm_1_1 (by decide +kernel : plainY yX5_checkServer 1) dX5_deliver_1 (by decide) (Nat.le_of_ble_eq_true rfl) (Or.inr hc1) ?_ ?_
  · exact fun M E h => hOut _ _ _ _ _ _ _ h
  · intro M9 v9 h
    obtain ⟨rfl, h⟩ := h
    obtain ⟨hM9, h⟩ := h
    rw [hM9]
    show G X 3 M (0 + c1) (0 + s2) 4 [(0, .ref a0), (1, .int p0), (2, .int p1)] []
    refine g_iload_n hC 2 dX5_deliver_4 rfl ?_
    obtain ⟨c3, s4, hc3, h⟩ := h
    refine gx_callS hC (As := [.int p1]) (fun l D dA ht => s_X5_checkServer l D dA ht _ _ _ _ _ _ h) wm_1_182 wm_1_180 wm_1_181 wm_1_1 (by decide +kernel : plainY yX5_checkServer 1) dX5_deliver_5 (by decide) (Nat.le_of_ble_eq_true rfl) (Or.inr hc3) ?_ ?_
    · exact fun M E h => hOut _ _ _ _ _ _ _ h
    · intro M9 v9 h
      obtain ⟨rfl, h⟩ := h
      obtain ⟨hM9, h⟩ := h
      rw [hM9]
      show G X 3 M (0 + c1 + c3) (0 + s2 + s4) 8 [(0, .ref a0), (1, .int p0), (2, .int p1)] []
      refine g_aload_n (r := (some a0)) hC 0 dX5_deliver_8 rfl ?_
      obtain ⟨hc5, h⟩ := h
      obtain ⟨b6, eb6, h⟩ := h
      refine g_getA hC kc5 1 (by decide) wm_1_148 dX5_deliver_9 rfl hc5 eb6 ?_
      refine g_iload_n hC 1 dX5_deliver_12 rfl ?_
      refine g_pc (pc' := 13) rfl ?_
      refine g_iload_n hC 2 dX5_deliver_13 rfl ?_
      obtain ⟨hc7, h⟩ := h
      refine g_callV hC (As := [.int p0, .int p1]) (fun l D dA ht => s_X4_haveLink l D dA ht _ _ _ _ _ h) wm_2_121 wm_2_118 wm_2_119 wm_2_120 wm_1_2 (by decide +kernel : plainY yX4_haveLink 2) kc4.1 kc4.2.1 dX5_deliver_14 (by decide) (Nat.le_of_ble_eq_true rfl) hc7 (Or.inl ⟨rfl, rfl⟩) ?_
      intro M9 v9 h
      obtain ⟨x8, rfl, h⟩ := h
      obtain ⟨hM9, h⟩ := h
      rw [hM9]
      show G X 3 M (0 + c1 + c3) (0 + s2 + s4) 17 [(0, .ref a0), (1, .int p0), (2, .int p1)] [.int x8]
      refine g_if_ne hC 30 dX5_deliver_17 (by decide) (fun c21 => ?_) (fun c21 => ?_)
      · replace h := h.2 c21
        refine g_aload_n (r := (some a0)) hC 0 dX5_deliver_30 rfl ?_
        refine g_iload_n hC 1 dX5_deliver_31 rfl ?_
        refine g_iload_n hC 2 dX5_deliver_32 rfl ?_
        obtain ⟨hc9, h⟩ := h
        obtain ⟨c10, s11, hc10, h⟩ := h
        refine g_callV hC (As := [.int p0, .int p1]) (fun l D dA ht => s_X5_deliverFirst l D dA ht _ _ _ _ _ _ _ h) wm_2_209 wm_2_206 wm_2_208 wm_0_4 wm_1_1 (by decide +kernel : plainY yX5_deliverFirst 2) kc5.1 kc5.2.1 dX5_deliver_33 (by decide) (Nat.le_of_ble_eq_true rfl) hc9 (Or.inr hc10) ?_
        intro M9 v9 h
        obtain ⟨x13, rfl, h⟩ := h
        generalize M9 = M12 at h ⊢
        show G X 3 M12 (0 + c1 + c3 + c10) (0 + s2 + s4 + s11) 36 [(0, .ref a0), (1, .int p0), (2, .int p1)] [.int x13]
        refine g_if_ne hC 49 dX5_deliver_36 (by decide) (fun c20 => ?_) (fun c20 => ?_)
        · replace h := h.2 c20
          refine g_pc (pc' := 49) rfl ?_
          refine g_aload_n (r := (some a0)) hC 0 dX5_deliver_49 rfl ?_
          refine g_dup hC dX5_deliver_50 rfl ?_
          obtain ⟨hc14, h⟩ := h
          refine g_getI hC kc5 7 (by decide) wm_1_154 dX5_deliver_51 rfl hc14 ?_
          refine g_iconst (v := 1) hC dX5_deliver_54 (by decide) ?_
          refine g_iadd hC dX5_deliver_55 ?_
          obtain ⟨hc15, h⟩ := h
          refine g_putI hC kc5 7 (by decide) wm_1_154 dX5_deliver_56 rfl rfl (Or.inl rfl) hc15 ?_
          obtain ⟨M16, eM16⟩ : ∃ w, w = sI M12 a0 7 ((gI M12 a0 7) + 1) := ⟨_, rfl⟩
          replace h := h M16 eM16
          rw [← eM16]
          refine g_aload_n (r := (some a0)) hC 0 dX5_deliver_59 rfl ?_
          obtain ⟨hc17, h⟩ := h
          obtain ⟨b18, eb18, h⟩ := h
          refine g_getA hC kc5 1 (by decide) wm_1_148 dX5_deliver_60 rfl hc17 eb18 ?_
          obtain ⟨hc19, h⟩ := h
          refine g_pc (pc' := 63) rfl ?_
          refine g_getI hC kc4 2 (by decide) wm_1_49 dX5_deliver_63 rfl hc19 ?_
          exact hR.2.1 rfl _ _ _ _ _ _ dX5_deliver_66 ⟨_, rfl, h⟩
        · replace h := h.1 c20
          refine g_pc (pc' := 39) rfl ?_
          exact hThrow _ _ _ _ _ _ _ _ _ _ _ dX5_deliver_39 dX5_deliver_42 dX5_deliver_43 dX5_deliver_45 dX5_deliver_48 tw_ise xs_90 (by first | exact Nat.le_of_ble_eq_true rfl | decide) h.1 h.2
      · replace h := h.1 c21
        exact hThrow _ _ _ _ _ _ _ _ _ _ _ dX5_deliver_20 dX5_deliver_23 dX5_deliver_24 dX5_deliver_26 dX5_deliver_29 tw_ise xs_79 (by first | exact Nat.le_of_ble_eq_true rfl | decide) h.1 h.2

def w_X5_deliverRound (mc ms : Nat) (M : Mem) (a0 : Nat) (post : Mem → Int32 → Prop) : Prop :=
  Lp (fun (K6 : Int32 × Int32 × Mem × Nat × Nat → Prop) (z : Int32 × Int32 × Mem × Nat × Nat) => ∀ (x1 : Int32) (x2 : Int32) (M3 : Mem) (k4 : Nat) (n5 : Nat), z = (x1, x2, M3, k4, n5) → ((6 ≤ x2 → post M3 x1) ∧ (¬ (6 ≤ x2) → Lp (fun (K12 : Int32 × Int32 × Mem × Nat × Nat → Prop) (z : Int32 × Int32 × Mem × Nat × Nat) => ∀ (x7 : Int32) (x8 : Int32) (M9 : Mem) (k10 : Nat) (n11 : Nat), z = (x7, x8, M9, k10, n11) → ((6 ≤ x8 → ∀ x13, x13 = x2 + 1 → K6 (x7, x13, M9, k10, n11)) ∧ (¬ (6 ≤ x8) → gT M9 a0 = some (5, 0) ∧ ∃ c15 s16, (k10 + c15 ≤ mc ∧ n11 + s16 ≤ ms) ∧ w_X5_deliverFirst c15 s16 M9 a0 x2 x8 (fun M17 x18 => ∀ J20 : Int32 → Prop, (∀ (x19 : Int32), (∀ x21, x21 = x8 + 1 → K12 (x19, x21, M17, k10 + c15, n11 + s16)) → J20 x19) → ((x18 = 0 → J20 x7) ∧ (¬ (x18 = 0) → ∀ x22, x22 = x7 + 1 → J20 x22)))))) (x1, 0, M3, k4, n5)))) (0, 0, M, 0, 0)
set_option maxRecDepth 100000 in
set_option maxHeartbeats 8000000 in
theorem s_X5_deliverRound (l : Launch) (D : va_G) (dA : Nat → ClassId) (htr : l.stackTraces = false) (mc ms : Nat) (M : Mem) (a0 : Nat) (post : Mem → Int32 → Prop) (h : w_X5_deliverRound mc ms M a0 post) : CtN l D dA yX5_deliverRound cX5_deliverRound 4 (some .int) 7 [.ref a0] M mc ms (pI post) := by
  refine ct_ofN htr (by decide) (Nat.le_of_ble_eq_true rfl) ?_
  intro X hC hN hR
  show G X 4 M 0 0 0 [(0, .ref a0)] []
  unfold w_X5_deliverRound at h
  refine g_iconst (v := 0) hC dX5_deliverRound_0 (by decide) ?_
  refine g_istore_n (lv' := [(1, .int 0), (0, .ref a0)]) hC dX5_deliverRound_1 (by decide) rfl ?_
  refine g_iconst (v := 0) hC dX5_deliverRound_2 (by decide) ?_
  refine g_istore_n (lv' := [(2, .int 0), (1, .int 0), (0, .ref a0)]) hC dX5_deliverRound_3 (by decide) rfl ?_
  refine g_sub [2, 1, 0] (lv' := [(0, .ref a0), (1, .int 0), (2, .int 0)]) rfl ?_
  refine Lp_use (fun (z27 : Int32 × Int32 × Mem × Nat × Nat) => G X 4 z27.2.2.1 z27.2.2.2.1 z27.2.2.2.2 4 [(0, .ref a0), (1, .int z27.1), (2, .int z27.2.1)] []) h ?_
  intro K6 z hK_K6 h
  obtain ⟨x1, x2, M3, k4, n5⟩ := z
  replace h := h _ _ _ _ _ rfl
  show G X 4 M3 k4 n5 4 [(0, .ref a0), (1, .int x1), (2, .int x2)] []
  refine g_iload_n hC 2 dX5_deliverRound_4 rfl ?_
  refine g_bipush (v := 6) hC dX5_deliverRound_5 (by decide) ?_
  refine g_icmp_ge hC 42 dX5_deliverRound_7 (by decide) (fun c26 => ?_) (fun c26 => ?_)
  · replace h := h.1 c26
    refine g_pc (pc' := 42) rfl ?_
    refine g_iload_n hC 1 dX5_deliverRound_42 rfl ?_
    exact hR.2.1 rfl _ _ _ _ _ _ dX5_deliverRound_43 ⟨_, rfl, h⟩
  · replace h := h.2 c26
    refine g_pc (pc' := 10) rfl ?_
    refine g_iconst (v := 0) hC dX5_deliverRound_10 (by decide) ?_
    refine g_istore_n (lv' := [(3, .int 0), (0, .ref a0), (1, .int x1), (2, .int x2)]) hC dX5_deliverRound_11 (by decide) rfl ?_
    refine g_sub [1, 2, 3, 0] (lv' := [(0, .ref a0), (1, .int x1), (2, .int x2), (3, .int 0)]) rfl ?_
    refine Lp_use (fun (z25 : Int32 × Int32 × Mem × Nat × Nat) => G X 4 z25.2.2.1 z25.2.2.2.1 z25.2.2.2.2 12 [(0, .ref a0), (1, .int z25.1), (2, .int x2), (3, .int z25.2.1)] []) h ?_
    intro K12 z hK_K12 h
    obtain ⟨x7, x8, M9, k10, n11⟩ := z
    replace h := h _ _ _ _ _ rfl
    show G X 4 M9 k10 n11 12 [(0, .ref a0), (1, .int x7), (2, .int x2), (3, .int x8)] []
    refine g_iload_n hC 3 dX5_deliverRound_12 rfl ?_
    refine g_bipush (v := 6) hC dX5_deliverRound_13 (by decide) ?_
    refine g_icmp_ge hC 36 dX5_deliverRound_15 (by decide) (fun c24 => ?_) (fun c24 => ?_)
    · replace h := h.1 c24
      obtain ⟨x13, ex13⟩ : ∃ w, w = x2 + 1 := ⟨_, rfl⟩
      replace h := h x13 ex13
      refine g_iinc (v := x13) (lv' := [(2, .int x13), (0, .ref a0), (1, .int x7), (3, .int x8)]) hC 2 dX5_deliverRound_36 rfl (by rw [ex13]; rfl) (by decide) rfl ?_
      refine g_goto hC 4 dX5_deliverRound_39 (by decide) ?_
      refine g_sub [1, 2, 0] (lv' := [(0, .ref a0), (1, .int x7), (2, .int x13)]) rfl ?_
      exact hK_K6 _ h
    · replace h := h.2 c24
      refine g_aload_n (r := (some a0)) hC 0 dX5_deliverRound_18 rfl ?_
      refine g_iload_n hC 2 dX5_deliverRound_19 rfl ?_
      refine g_iload_n hC 3 dX5_deliverRound_20 rfl ?_
      refine g_pc (pc' := 21) rfl ?_
      obtain ⟨hc14, h⟩ := h
      obtain ⟨c15, s16, hc15, h⟩ := h
      refine g_callV hC (As := [.int x2, .int x8]) (fun l D dA ht => s_X5_deliverFirst l D dA ht _ _ _ _ _ _ _ h) wm_2_209 wm_2_206 wm_2_208 wm_0_4 wm_1_1 (by decide +kernel : plainY yX5_deliverFirst 2) kc5.1 kc5.2.1 dX5_deliverRound_21 (by decide) (Nat.le_of_ble_eq_true rfl) hc14 (Or.inr hc15) ?_
      intro M9 v9 h
      obtain ⟨x18, rfl, h⟩ := h
      generalize M9 = M17 at h ⊢
      show G X 4 M17 (k10 + c15) (n11 + s16) 24 [(0, .ref a0), (1, .int x7), (2, .int x2), (3, .int x8)] [.int x18]
      replace h := h (fun (x19 : Int32) => G X 4 M17 (k10 + c15) (n11 + s16) 30 [(0, .ref a0), (1, .int x19), (2, .int x2), (3, .int x8)] []) (by
        intro x19 h
        show G X 4 M17 (k10 + c15) (n11 + s16) 30 [(0, .ref a0), (1, .int x19), (2, .int x2), (3, .int x8)] []
        obtain ⟨x21, ex21⟩ : ∃ w, w = x8 + 1 := ⟨_, rfl⟩
        replace h := h x21 ex21
        refine g_iinc (v := x21) (lv' := [(3, .int x21), (0, .ref a0), (1, .int x19), (2, .int x2)]) hC 3 dX5_deliverRound_30 rfl (by rw [ex21]; rfl) (by decide) rfl ?_
        refine g_goto hC 12 dX5_deliverRound_33 (by decide) ?_
        refine g_sub [1, 2, 3, 0] (lv' := [(0, .ref a0), (1, .int x19), (2, .int x2), (3, .int x21)]) rfl ?_
        exact hK_K12 _ h)
      refine g_if_eq hC 30 dX5_deliverRound_24 (by decide) (fun c23 => ?_) (fun c23 => ?_)
      · replace h := h.1 c23
        exact h
      · replace h := h.2 c23
        obtain ⟨x22, ex22⟩ : ∃ w, w = x7 + 1 := ⟨_, rfl⟩
        replace h := h x22 ex22
        refine g_iinc (v := x22) (lv' := [(1, .int x22), (0, .ref a0), (2, .int x2), (3, .int x8)]) hC 1 dX5_deliverRound_27 rfl (by rw [ex22]; rfl) (by decide) rfl ?_
        refine g_sub [1, 0, 2, 3] (lv' := [(0, .ref a0), (1, .int x22), (2, .int x2), (3, .int x8)]) rfl ?_
        exact h

def w_X5_deliverAll (mc ms : Nat) (M : Mem) (a0 : Nat) (post : Mem → Int32 → Prop) : Prop :=
  Lp (fun (K6 : Int32 × Int32 × Mem × Nat × Nat → Prop) (z : Int32 × Int32 × Mem × Nat × Nat) => ∀ (x1 : Int32) (x2 : Int32) (M3 : Mem) (k4 : Nat) (n5 : Nat), z = (x1, x2, M3, k4, n5) → (∀ J7 : Prop, ((gT M3 a0 = some (5, 0) ∧ gT M3 a0 = some (5, 0) ∧ ∀ M10, M10 = sI M3 a0 7 ((gI M3 a0 7) + 1) → post M10 x1) → J7) → ((1000000 ≤ x2 → J7) ∧ (¬ (1000000 ≤ x2) → gT M3 a0 = some (5, 0) ∧ ∃ b12, gR M3 a0 1 = some b12 ∧ gT M3 b12 = some (4, 0) ∧ (gI M3 b12 2 ≤ 0 → J7) ∧ (¬ (gI M3 b12 2 ≤ 0) → gT M3 a0 = some (5, 0) ∧ ∃ c15 s16, (k4 + c15 ≤ mc ∧ n5 + s16 ≤ ms) ∧ w_X5_deliverRound c15 s16 M3 a0 (fun M17 x18 => ∀ x19, x19 = x1 + x18 → ∀ x20, x20 = x2 + 1 → K6 (x19, x20, M17, k4 + c15, n5 + s16))))))) (0, 0, M, 0, 0)
set_option maxRecDepth 100000 in
set_option maxHeartbeats 8000000 in
theorem s_X5_deliverAll (l : Launch) (D : va_G) (dA : Nat → ClassId) (htr : l.stackTraces = false) (mc ms : Nat) (M : Mem) (a0 : Nat) (post : Mem → Int32 → Prop) (h : w_X5_deliverAll mc ms M a0 post) : CtN l D dA yX5_deliverAll cX5_deliverAll 3 (some .int) 8 [.ref a0] M mc ms (pI post) := by
  refine ct_ofN htr (by decide) (Nat.le_of_ble_eq_true rfl) ?_
  intro X hC hN hR
  show G X 3 M 0 0 0 [(0, .ref a0)] []
  unfold w_X5_deliverAll at h
  refine g_iconst (v := 0) hC dX5_deliverAll_0 (by decide) ?_
  refine g_istore_n (lv' := [(1, .int 0), (0, .ref a0)]) hC dX5_deliverAll_1 (by decide) rfl ?_
  refine g_iconst (v := 0) hC dX5_deliverAll_2 (by decide) ?_
  refine g_istore_n (lv' := [(2, .int 0), (1, .int 0), (0, .ref a0)]) hC dX5_deliverAll_3 (by decide) rfl ?_
  refine g_sub [2, 1, 0] (lv' := [(0, .ref a0), (1, .int 0), (2, .int 0)]) rfl ?_
  refine Lp_use (fun (z23 : Int32 × Int32 × Mem × Nat × Nat) => G X 3 z23.2.2.1 z23.2.2.2.1 z23.2.2.2.2 4 [(0, .ref a0), (1, .int z23.1), (2, .int z23.2.1)] []) h ?_
  intro K6 z hK_K6 h
  obtain ⟨x1, x2, M3, k4, n5⟩ := z
  replace h := h _ _ _ _ _ rfl
  show G X 3 M3 k4 n5 4 [(0, .ref a0), (1, .int x1), (2, .int x2)] []
  refine g_iload_n hC 2 dX5_deliverAll_4 rfl ?_
  refine g_ldc hC wm_3_99 dX5_deliverAll_5 ?_
  replace h := h (G X 3 M3 k4 n5 33 [(0, .ref a0), (1, .int x1), (2, .int x2)] []) (by
    intro h
    refine g_aload_n (r := (some a0)) hC 0 dX5_deliverAll_33 rfl ?_
    refine g_pc (pc' := 34) rfl ?_
    refine g_dup hC dX5_deliverAll_34 rfl ?_
    obtain ⟨hc8, h⟩ := h
    refine g_getI hC kc5 7 (by decide) wm_1_154 dX5_deliverAll_35 rfl hc8 ?_
    refine g_iconst (v := 1) hC dX5_deliverAll_38 (by decide) ?_
    refine g_iadd hC dX5_deliverAll_39 ?_
    obtain ⟨hc9, h⟩ := h
    refine g_putI hC kc5 7 (by decide) wm_1_154 dX5_deliverAll_40 rfl rfl (Or.inl rfl) hc9 ?_
    obtain ⟨M10, eM10⟩ : ∃ w, w = sI M3 a0 7 ((gI M3 a0 7) + 1) := ⟨_, rfl⟩
    replace h := h M10 eM10
    rw [← eM10]
    refine g_iload_n hC 1 dX5_deliverAll_43 rfl ?_
    exact hR.2.1 rfl _ _ _ _ _ _ dX5_deliverAll_44 ⟨_, rfl, h⟩)
  refine g_icmp_ge hC 33 dX5_deliverAll_7 (by decide) (fun c22 => ?_) (fun c22 => ?_)
  · replace h := h.1 c22
    exact h
  · replace h := h.2 c22
    refine g_pc (pc' := 10) rfl ?_
    refine g_aload_n (r := (some a0)) hC 0 dX5_deliverAll_10 rfl ?_
    obtain ⟨hc11, h⟩ := h
    obtain ⟨b12, eb12, h⟩ := h
    refine g_getA hC kc5 1 (by decide) wm_1_148 dX5_deliverAll_11 rfl hc11 eb12 ?_
    obtain ⟨hc13, h⟩ := h
    refine g_getI hC kc4 2 (by decide) wm_1_49 dX5_deliverAll_14 rfl hc13 ?_
    refine g_if_le hC 33 dX5_deliverAll_17 (by decide) (fun c21 => ?_) (fun c21 => ?_)
    · replace h := h.1 c21
      exact h
    · replace h := h.2 c21
      refine g_iload_n hC 1 dX5_deliverAll_20 rfl ?_
      refine g_aload_n (r := (some a0)) hC 0 dX5_deliverAll_21 rfl ?_
      obtain ⟨hc14, h⟩ := h
      obtain ⟨c15, s16, hc15, h⟩ := h
      refine g_callV hC (As := []) (fun l D dA ht => s_X5_deliverRound l D dA ht _ _ _ _ _ h) wm_3_103 wm_3_100 wm_3_102 wm_0_15 wm_1_1 (by decide +kernel : plainY yX5_deliverRound 0) kc5.1 kc5.2.1 dX5_deliverAll_22 (by decide) (Nat.le_of_ble_eq_true rfl) hc14 (Or.inr hc15) ?_
      intro M9 v9 h
      obtain ⟨x18, rfl, h⟩ := h
      generalize M9 = M17 at h ⊢
      show G X 3 M17 (k4 + c15) (n5 + s16) 25 [(0, .ref a0), (1, .int x1), (2, .int x2)] [.int x18, .int x1]
      refine g_iadd hC dX5_deliverAll_25 ?_
      obtain ⟨x19, ex19⟩ : ∃ w, w = x1 + x18 := ⟨_, rfl⟩
      replace h := h x19 ex19
      rw [← ex19]
      refine g_pc (pc' := 26) rfl ?_
      refine g_istore_n (lv' := [(1, .int x19), (0, .ref a0), (2, .int x2)]) hC dX5_deliverAll_26 (by decide) rfl ?_
      obtain ⟨x20, ex20⟩ : ∃ w, w = x2 + 1 := ⟨_, rfl⟩
      replace h := h x20 ex20
      refine g_iinc (v := x20) (lv' := [(2, .int x20), (1, .int x19), (0, .ref a0)]) hC 2 dX5_deliverAll_27 rfl (by rw [ex20]; rfl) (by decide) rfl ?_
      refine g_goto hC 4 dX5_deliverAll_30 (by decide) ?_
      refine g_sub [2, 1, 0] (lv' := [(0, .ref a0), (1, .int x19), (2, .int x20)]) rfl ?_
      exact hK_K6 _ h

def w_X5_lines (M : Mem) (a0 : Nat) (post : Int32 → Prop) : Prop :=
  gT M a0 = some (5, 0) ∧ ∃ b2, gR M a0 1 = some b2 ∧ gT M b2 = some (4, 0) ∧ post (gI M b2 2)
set_option maxRecDepth 100000 in
set_option maxHeartbeats 8000000 in
theorem s_X5_lines (l : Launch) (D : va_G) (dA : Nat → ClassId) (htr : l.stackTraces = false) (M : Mem) (a0 : Nat) (post : Int32 → Prop) (h : w_X5_lines M a0 post) : CtN l D dA yX5_lines cX5_lines 1 (some .int) 1 [.ref a0] M 0 0 (pI (fun M' r => M' = M ∧ post r)) := by
  refine ct_ofN htr (by decide) (Nat.le_of_ble_eq_true rfl) ?_
  intro X hC hN hR
  show G X 1 M 0 0 0 [(0, .ref a0)] []
  unfold w_X5_lines at h
  refine g_aload_n (r := (some a0)) hC 0 dX5_lines_0 rfl ?_
  obtain ⟨hc1, h⟩ := h
  obtain ⟨b2, eb2, h⟩ := h
  refine g_getA hC kc5 1 (by decide) wm_1_148 dX5_lines_1 rfl hc1 eb2 ?_
  obtain ⟨hc3, h⟩ := h
  refine g_getI hC kc4 2 (by decide) wm_1_49 dX5_lines_4 rfl hc3 ?_
  exact hR.2.1 rfl _ _ _ _ _ _ dX5_lines_7 ⟨_, rfl, rfl, h⟩

def w_X5_tree (mc ms : Nat) (M : Mem) (a0 : Nat) (p0 : Int32) (xp : String → Mem → Prop) (post : Int32 → Prop) : Prop :=
  ∃ c1 s2, (0 + c1 ≤ mc ∧ 0 + s2 ≤ ms) ∧ w_X5_checkServer c1 s2 M p0 (fun E M => xp E M) (gT M a0 = some (5, 0) ∧ ∃ b4, gR M a0 1 = some b4 ∧ gT M b4 = some (4, 0) ∧ w_X4_treeOf M b4 p0 (fun x6 => post x6))
set_option maxRecDepth 100000 in
set_option maxHeartbeats 8000000 in
theorem s_X5_tree (l : Launch) (D : va_G) (dA : Nat → ClassId) (htr : l.stackTraces = false) (mc ms : Nat) (M : Mem) (a0 : Nat) (p0 : Int32) (xp : String → Mem → Prop) (post : Int32 → Prop) (h : w_X5_tree mc ms M a0 p0 xp post) : CtX l D dA yX5_tree cX5_tree 2 (some .int) 7 [.ref a0, .int p0] M mc ms xp (pI (fun M' r => M' = M ∧ post r)) := by
  refine ct_ofX htr (by decide) (Nat.le_of_ble_eq_true rfl) (by decide) rfl ?_
  intro X hC hR hThrow hOut
  show G X 2 M 0 0 0 [(0, .ref a0), (1, .int p0)] []
  unfold w_X5_tree at h
  refine g_iload_n hC 1 dX5_tree_0 rfl ?_
  obtain ⟨c1, s2, hc1, h⟩ := h
  refine gx_callS hC (As := [.int p0]) (fun l D dA ht => s_X5_checkServer l D dA ht _ _ _ _ _ _ h) wm_1_182 wm_1_180 wm_1_181 wm_1_1 (by decide +kernel : plainY yX5_checkServer 1) dX5_tree_1 (by decide) (Nat.le_of_ble_eq_true rfl) (Or.inr hc1) ?_ ?_
  · exact fun M E h => hOut _ _ _ _ _ _ _ h
  · intro M9 v9 h
    obtain ⟨rfl, h⟩ := h
    obtain ⟨hM9, h⟩ := h
    rw [hM9]
    show G X 2 M (0 + c1) (0 + s2) 4 [(0, .ref a0), (1, .int p0)] []
    refine g_aload_n (r := (some a0)) hC 0 dX5_tree_4 rfl ?_
    obtain ⟨hc3, h⟩ := h
    obtain ⟨b4, eb4, h⟩ := h
    refine g_getA hC kc5 1 (by decide) wm_1_148 dX5_tree_5 rfl hc3 eb4 ?_
    refine g_iload_n hC 1 dX5_tree_8 rfl ?_
    obtain ⟨hc5, h⟩ := h
    refine g_callV hC (As := [.int p0]) (fun l D dA ht => s_X4_treeOf l D dA ht _ _ _ _ h) wm_2_14 wm_2_11 wm_2_12 wm_2_13 wm_1_2 (by decide +kernel : plainY yX4_treeOf 1) kc4.1 kc4.2.1 dX5_tree_9 (by decide) (Nat.le_of_ble_eq_true rfl) hc5 (Or.inl ⟨rfl, rfl⟩) ?_
    intro M9 v9 h
    obtain ⟨x6, rfl, h⟩ := h
    obtain ⟨hM9, h⟩ := h
    rw [hM9]
    show G X 2 M (0 + c1) (0 + s2) 12 [(0, .ref a0), (1, .int p0)] [.int x6]
    exact hR.2.1 rfl _ _ _ _ _ _ dX5_tree_12 ⟨_, rfl, rfl, h⟩

def w_X5_letterIn (M : Mem) (p0 : Int32) (post : Int32 → Prop) : Prop :=
  ∀ J1 : Prop, ((∀ J2 : Prop, ((post ((-1))) → J2) → ((p0 < 65 → J2) ∧ (¬ (p0 < 65) → (90 < p0 → J2) ∧ (¬ (90 < p0) → post (p0 - 65))))) → J1) → ((p0 < 97 → J1) ∧ (¬ (p0 < 97) → (122 < p0 → J1) ∧ (¬ (122 < p0) → post (p0 - 97))))
set_option maxRecDepth 100000 in
set_option maxHeartbeats 8000000 in
theorem s_X5_letterIn (l : Launch) (D : va_G) (dA : Nat → ClassId) (htr : l.stackTraces = false) (M : Mem) (p0 : Int32) (post : Int32 → Prop) (h : w_X5_letterIn M p0 post) : CtN l D dA yX5_letterIn cX5_letterIn 1 (some .int) 1 [.int p0] M 0 0 (pI (fun M' r => M' = M ∧ post r)) := by
  refine ct_ofN htr (by decide) (Nat.le_of_ble_eq_true rfl) ?_
  intro X hC hN hR
  show G X 1 M 0 0 0 [(0, .int p0)] []
  unfold w_X5_letterIn at h
  refine g_iload_n hC 0 dX5_letterIn_0 rfl ?_
  refine g_bipush (v := 97) hC dX5_letterIn_1 (by decide) ?_
  replace h := h (G X 1 M 0 0 17 [(0, .int p0)] []) (by
    intro h
    refine g_iload_n hC 0 dX5_letterIn_17 rfl ?_
    refine g_bipush (v := 65) hC dX5_letterIn_18 (by decide) ?_
    replace h := h (G X 1 M 0 0 34 [(0, .int p0)] []) (by
      intro h
      refine g_iconst (v := (-1)) hC dX5_letterIn_34 (by decide) ?_
      exact hR.2.1 rfl _ _ _ _ _ _ dX5_letterIn_35 ⟨_, rfl, rfl, h⟩)
    refine g_icmp_lt hC 34 dX5_letterIn_20 (by decide) (fun c4 => ?_) (fun c4 => ?_)
    · replace h := h.1 c4
      exact h
    · replace h := h.2 c4
      refine g_iload_n hC 0 dX5_letterIn_23 rfl ?_
      refine g_bipush (v := 90) hC dX5_letterIn_24 (by decide) ?_
      refine g_pc (pc' := 26) rfl ?_
      refine g_icmp_gt hC 34 dX5_letterIn_26 (by decide) (fun c3 => ?_) (fun c3 => ?_)
      · replace h := h.1 c3
        exact h
      · replace h := h.2 c3
        refine g_iload_n hC 0 dX5_letterIn_29 rfl ?_
        refine g_bipush (v := 65) hC dX5_letterIn_30 (by decide) ?_
        refine g_isub hC dX5_letterIn_32 ?_
        exact hR.2.1 rfl _ _ _ _ _ _ dX5_letterIn_33 ⟨_, rfl, rfl, h⟩)
  refine g_icmp_lt hC 17 dX5_letterIn_3 (by decide) (fun c6 => ?_) (fun c6 => ?_)
  · replace h := h.1 c6
    exact h
  · replace h := h.2 c6
    refine g_iload_n hC 0 dX5_letterIn_6 rfl ?_
    refine g_bipush (v := 122) hC dX5_letterIn_7 (by decide) ?_
    refine g_icmp_gt hC 17 dX5_letterIn_9 (by decide) (fun c5 => ?_) (fun c5 => ?_)
    · replace h := h.1 c5
      exact h
    · replace h := h.2 c5
      refine g_iload_n hC 0 dX5_letterIn_12 rfl ?_
      refine g_pc (pc' := 13) rfl ?_
      refine g_bipush (v := 97) hC dX5_letterIn_13 (by decide) ?_
      refine g_isub hC dX5_letterIn_15 ?_
      exact hR.2.1 rfl _ _ _ _ _ _ dX5_letterIn_16 ⟨_, rfl, rfl, h⟩

def w_X5_signOn (mc ms : Nat) (M : Mem) (a0 : Nat) (p0 : Int32) (p1 : Int32) (xp : String → Mem → Prop) (post : Mem → Int32 → Prop) : Prop :=
  ∃ c1 s2, (0 + c1 ≤ mc ∧ 0 + s2 ≤ ms) ∧ w_X5_checkServer c1 s2 M p0 (fun E M => xp E M) (w_X5_letterIn M p1 (fun x3 => (x3 = (-1) → (0 + c1 + 1 ≤ mc ∧ 0 + s2 + 6 ≤ ms) ∧ xp iae M) ∧ (¬ (x3 = (-1)) → gT M a0 = some (5, 0) ∧ ∃ b5, gR M a0 0 = some b5 ∧ inA M b5 12 p0 ∧ ∃ b7, gR M b5 (Int32.toNatClampNeg p0) = some b7 ∧ gT M a0 = some (5, 0) ∧ ∀ J9 : Prop, (((0 + c1 + 1 ≤ mc ∧ 0 + s2 + 6 ≤ ms) ∧ xp ise M) → J9) → ((20 ≤ (gI M a0 6) → J9) ∧ (¬ (20 ≤ (gI M a0 6)) → gT M a0 = some (5, 0) ∧ w_X5_namesake M a0 b7 x3 ((-1)) (fun x11 => (x11 = (-1) → gT M a0 = some (5, 0) ∧ ∀ x13, x13 = gI M a0 6 → gT M a0 = some (5, 0) ∧ ∃ b15, gR M a0 2 = some b15 ∧ inA M b15 10 x13 ∧ ∀ M16, M16 = sI M b15 (Int32.toNatClampNeg x13) p0 → gT M16 a0 = some (5, 0) ∧ ∃ b19, gR M16 a0 3 = some b19 ∧ inA M16 b19 10 x13 ∧ ∀ M20, M20 = sI M16 b19 (Int32.toNatClampNeg x13) x3 → gT M20 a0 = some (5, 0) ∧ ∃ b23, gR M20 a0 4 = some b23 ∧ gT M20 a0 = some (5, 0) ∧ inA M20 b23 10 x13 ∧ ∀ M25, M25 = sI M20 b23 (Int32.toNatClampNeg x13) (gI M20 a0 7) → gT M25 a0 = some (5, 0) ∧ gT M25 a0 = some (5, 0) ∧ ∀ M29, M29 = sI M25 a0 6 ((gI M25 a0 6) + 1) → gT M29 b7 = some (3, 0) ∧ w_X3_learn M29 b7 x13 (fun M31 => gT M31 a0 = some (5, 0) ∧ ∃ b33, gR M31 a0 1 = some b33 ∧ gT M31 a0 = some (5, 0) ∧ ∃ b35, gR M31 a0 5 = some b35 ∧ gT M31 b35 = some (1, 0) ∧ w_X1_ofUser M31 b35 0 x13 (fun M37 r38 => ∃ b39, r38 = some b39 ∧ gT M37 b33 = some (4, 0) ∧ ∃ c41 s42, ((0 + c1) + c41 ≤ mc ∧ (0 + s2) + s42 ≤ ms) ∧ w_X4_spread c41 s42 M37 b33 p0 ((-1)) b39 (fun M43 => gT M43 a0 = some (5, 0) ∧ gT M43 a0 = some (5, 0) ∧ ∀ M46, M46 = sI M43 a0 7 ((gI M43 a0 7) + 1) → post M46 x13)))) ∧ (¬ (x11 = (-1)) → J9)))))))
set_option maxRecDepth 100000 in
set_option maxHeartbeats 8000000 in
theorem s_X5_signOn (l : Launch) (D : va_G) (dA : Nat → ClassId) (htr : l.stackTraces = false) (mc ms : Nat) (M : Mem) (a0 : Nat) (p0 : Int32) (p1 : Int32) (xp : String → Mem → Prop) (post : Mem → Int32 → Prop) (h : w_X5_signOn mc ms M a0 p0 p1 xp post) : CtX l D dA yX5_signOn cX5_signOn 6 (some .int) 7 [.ref a0, .int p0, .int p1] M mc ms xp (pI post) := by
  refine ct_ofX htr (by decide) (Nat.le_of_ble_eq_true rfl) (by decide) rfl ?_
  intro X hC hR hThrow hOut
  show G X 6 M 0 0 0 [(0, .ref a0), (1, .int p0), (2, .int p1)] []
  unfold w_X5_signOn at h
  refine g_iload_n hC 1 dX5_signOn_0 rfl ?_
  obtain ⟨c1, s2, hc1, h⟩ := h
  refine gx_callS hC (As := [.int p0]) (fun l D dA ht => s_X5_checkServer l D dA ht _ _ _ _ _ _ h) wm_1_182 wm_1_180 wm_1_181 wm_1_1 (by decide +kernel : plainY yX5_checkServer 1) dX5_signOn_1 (by decide) (Nat.le_of_ble_eq_true rfl) (Or.inr hc1) ?_ ?_
  · exact fun M E h => hOut _ _ _ _ _ _ _ h
  · intro M9 v9 h
    obtain ⟨rfl, h⟩ := h
    obtain ⟨hM9, h⟩ := h
    rw [hM9]
    show G X 6 M (0 + c1) (0 + s2) 4 [(0, .ref a0), (1, .int p0), (2, .int p1)] []
    refine g_iload_n hC 2 dX5_signOn_4 rfl ?_
    refine g_callS hC (As := [.int p1]) (fun l D dA ht => s_X5_letterIn l D dA ht _ _ _ h) wm_2_167 wm_2_165 wm_2_166 wm_1_1 (by decide +kernel : plainY yX5_letterIn 1) dX5_signOn_5 (by decide) (Nat.le_of_ble_eq_true rfl) (Or.inl ⟨rfl, rfl⟩) ?_
    intro M9 v9 h
    obtain ⟨x3, rfl, h⟩ := h
    obtain ⟨hM9, h⟩ := h
    rw [hM9]
    show G X 6 M (0 + c1) (0 + s2) 8 [(0, .ref a0), (1, .int p0), (2, .int p1)] [.int x3]
    refine g_istore_n (lv' := [(3, .int x3), (0, .ref a0), (1, .int p0), (2, .int p1)]) hC dX5_signOn_8 (by decide) rfl ?_
    refine g_iload_n hC 0 dX5_signOn_9 rfl ?_
    refine g_iconst (v := (-1)) hC dX5_signOn_10 (by decide) ?_
    refine g_pc (pc' := 11) rfl ?_
    refine g_icmp_ne hC 24 dX5_signOn_11 (by decide) (fun c49 => ?_) (fun c49 => ?_)
    · replace h := h.2 c49
      refine g_aload_n (r := (some a0)) hC 1 dX5_signOn_24 rfl ?_
      obtain ⟨hc4, h⟩ := h
      obtain ⟨b5, eb5, h⟩ := h
      refine g_getA hC kc5 0 (by decide) wm_1_147 dX5_signOn_25 rfl hc4 eb5 ?_
      refine g_iload_n hC 2 dX5_signOn_28 rfl ?_
      obtain ⟨hc6, h⟩ := h
      obtain ⟨b7, eb7, h⟩ := h
      refine g_aaldA hC (by decide) dX5_signOn_29 hc6 eb7 ?_
      refine g_astore (r := (some b7)) (lv' := [(4, .ref b7), (3, .int x3), (0, .ref a0), (1, .int p0), (2, .int p1)]) hC dX5_signOn_30 (by decide) rfl ?_
      refine g_aload_n (r := (some a0)) hC 2 dX5_signOn_32 rfl ?_
      obtain ⟨hc8, h⟩ := h
      refine g_getI hC kc5 6 (by decide) wm_1_153 dX5_signOn_33 rfl hc8 ?_
      refine g_pc (pc' := 36) rfl ?_
      refine g_bipush (v := 20) hC dX5_signOn_36 (by decide) ?_
      replace h := h (G X 6 M (0 + c1) (0 + s2) 53 [(0, .ref a0), (1, .int p0), (2, .int p1), (3, .int x3), (4, .ref b7)] []) (by
        intro h
        exact hThrow _ _ _ _ _ _ _ _ _ _ _ dX5_signOn_53 dX5_signOn_56 dX5_signOn_57 dX5_signOn_59 dX5_signOn_62 tw_ise xs_110 (by first | exact Nat.le_of_ble_eq_true rfl | decide) h.1 h.2)
      refine g_icmp_ge hC 53 dX5_signOn_38 (by decide) (fun c48 => ?_) (fun c48 => ?_)
      · replace h := h.1 c48
        refine g_sub [2, 3, 4, 1, 0] (lv' := [(0, .ref a0), (1, .int p0), (2, .int p1), (3, .int x3), (4, .ref b7)]) rfl ?_
        exact h
      · replace h := h.2 c48
        refine g_aload_n (r := (some a0)) hC 2 dX5_signOn_41 rfl ?_
        refine g_aload (r := (some b7)) hC 0 dX5_signOn_42 rfl ?_
        refine g_iload_n hC 1 dX5_signOn_44 rfl ?_
        refine g_iconst (v := (-1)) hC dX5_signOn_45 (by decide) ?_
        obtain ⟨hc10, h⟩ := h
        refine g_callV hC (As := [.ref b7, .int x3, .int ((-1))]) (fun l D dA ht => s_X5_namesake l D dA ht _ _ _ _ _ _ h) wm_2_187 wm_2_184 wm_2_186 wm_0_3 wm_1_1 (by decide +kernel : plainY yX5_namesake 3) kc5.1 kc5.2.1 dX5_signOn_46 (by decide) (Nat.le_of_ble_eq_true rfl) hc10 (Or.inl ⟨rfl, rfl⟩) ?_
        intro M9 v9 h
        obtain ⟨x11, rfl, h⟩ := h
        obtain ⟨hM9, h⟩ := h
        rw [hM9]
        show G X 6 M (0 + c1) (0 + s2) 49 [(4, .ref b7), (3, .int x3), (0, .ref a0), (1, .int p0), (2, .int p1)] [.int x11]
        refine g_iconst (v := (-1)) hC dX5_signOn_49 (by decide) ?_
        refine g_pc (pc' := 50) rfl ?_
        refine g_icmp_eq hC 63 dX5_signOn_50 (by decide) (fun c47 => ?_) (fun c47 => ?_)
        · replace h := h.1 c47
          refine g_aload_n (r := (some a0)) hC 2 dX5_signOn_63 rfl ?_
          obtain ⟨hc12, h⟩ := h
          refine g_getI hC kc5 6 (by decide) wm_1_153 dX5_signOn_64 rfl hc12 ?_
          obtain ⟨x13, ex13⟩ : ∃ w, w = gI M a0 6 := ⟨_, rfl⟩
          replace h := h x13 ex13
          rw [← ex13]
          refine g_istore (lv' := [(5, .int x13), (4, .ref b7), (3, .int x3), (0, .ref a0), (1, .int p0), (2, .int p1)]) hC dX5_signOn_67 (by decide) rfl ?_
          refine g_aload_n (r := (some a0)) hC 3 dX5_signOn_69 rfl ?_
          obtain ⟨hc14, h⟩ := h
          obtain ⟨b15, eb15, h⟩ := h
          refine g_getA hC kc5 2 (by decide) wm_1_149 dX5_signOn_70 rfl hc14 eb15 ?_
          refine g_iload hC 0 dX5_signOn_73 rfl ?_
          refine g_iload_n hC 4 dX5_signOn_75 rfl ?_
          obtain ⟨hc17, h⟩ := h
          refine g_pc (pc' := 76) rfl ?_
          refine g_iastA hC dX5_signOn_76 hc17 ?_
          obtain ⟨M16, eM16⟩ : ∃ w, w = sI M b15 (Int32.toNatClampNeg x13) p0 := ⟨_, rfl⟩
          replace h := h M16 eM16
          rw [← eM16]
          refine g_aload_n (r := (some a0)) hC 3 dX5_signOn_77 rfl ?_
          obtain ⟨hc18, h⟩ := h
          obtain ⟨b19, eb19, h⟩ := h
          refine g_getA hC kc5 3 (by decide) wm_1_150 dX5_signOn_78 rfl hc18 eb19 ?_
          refine g_iload hC 0 dX5_signOn_81 rfl ?_
          refine g_iload_n hC 2 dX5_signOn_83 rfl ?_
          obtain ⟨hc21, h⟩ := h
          refine g_iastA hC dX5_signOn_84 hc21 ?_
          obtain ⟨M20, eM20⟩ : ∃ w, w = sI M16 b19 (Int32.toNatClampNeg x13) x3 := ⟨_, rfl⟩
          replace h := h M20 eM20
          rw [← eM20]
          refine g_aload_n (r := (some a0)) hC 3 dX5_signOn_85 rfl ?_
          obtain ⟨hc22, h⟩ := h
          obtain ⟨b23, eb23, h⟩ := h
          refine g_getA hC kc5 4 (by decide) wm_1_151 dX5_signOn_86 rfl hc22 eb23 ?_
          refine g_pc (pc' := 89) rfl ?_
          refine g_iload hC 0 dX5_signOn_89 rfl ?_
          refine g_aload_n (r := (some a0)) hC 3 dX5_signOn_91 rfl ?_
          obtain ⟨hc24, h⟩ := h
          refine g_getI hC kc5 7 (by decide) wm_1_154 dX5_signOn_92 rfl hc24 ?_
          obtain ⟨hc26, h⟩ := h
          refine g_iastA hC dX5_signOn_95 hc26 ?_
          obtain ⟨M25, eM25⟩ : ∃ w, w = sI M20 b23 (Int32.toNatClampNeg x13) (gI M20 a0 7) := ⟨_, rfl⟩
          replace h := h M25 eM25
          rw [← eM25]
          refine g_aload_n (r := (some a0)) hC 3 dX5_signOn_96 rfl ?_
          refine g_dup hC dX5_signOn_97 rfl ?_
          obtain ⟨hc27, h⟩ := h
          refine g_getI hC kc5 6 (by decide) wm_1_153 dX5_signOn_98 rfl hc27 ?_
          refine g_iconst (v := 1) hC dX5_signOn_101 (by decide) ?_
          refine g_pc (pc' := 102) rfl ?_
          refine g_iadd hC dX5_signOn_102 ?_
          obtain ⟨hc28, h⟩ := h
          refine g_putI hC kc5 6 (by decide) wm_1_153 dX5_signOn_103 rfl rfl (Or.inl rfl) hc28 ?_
          obtain ⟨M29, eM29⟩ : ∃ w, w = sI M25 a0 6 ((gI M25 a0 6) + 1) := ⟨_, rfl⟩
          replace h := h M29 eM29
          rw [← eM29]
          refine g_aload (r := (some b7)) hC 1 dX5_signOn_106 rfl ?_
          refine g_iload hC 0 dX5_signOn_108 rfl ?_
          obtain ⟨hc30, h⟩ := h
          refine g_callV hC (As := [.int x13]) (fun l D dA ht => s_X3_learn l D dA ht _ _ _ _ h) wm_2_192 wm_2_189 wm_2_190 wm_2_191 wm_1_5 (by decide +kernel : plainY yX3_learn 1) kc3.1 kc3.2.1 dX5_signOn_110 (by decide) (Nat.le_of_ble_eq_true rfl) hc30 (Or.inl ⟨rfl, rfl⟩) ?_
          intro M9 v9 h
          obtain ⟨rfl, h⟩ := h
          generalize M9 = M31 at h ⊢
          show G X 6 M31 (0 + c1) (0 + s2) 113 [(5, .int x13), (4, .ref b7), (3, .int x3), (0, .ref a0), (1, .int p0), (2, .int p1)] []
          refine g_aload_n (r := (some a0)) hC 3 dX5_signOn_113 rfl ?_
          obtain ⟨hc32, h⟩ := h
          obtain ⟨b33, eb33, h⟩ := h
          refine g_getA hC kc5 1 (by decide) wm_1_148 dX5_signOn_114 rfl hc32 eb33 ?_
          refine g_iload_n hC 4 dX5_signOn_117 rfl ?_
          refine g_pc (pc' := 118) rfl ?_
          refine g_iconst (v := (-1)) hC dX5_signOn_118 (by decide) ?_
          refine g_aload_n (r := (some a0)) hC 3 dX5_signOn_119 rfl ?_
          obtain ⟨hc34, h⟩ := h
          obtain ⟨b35, eb35, h⟩ := h
          refine g_getA hC kc5 5 (by decide) wm_1_152 dX5_signOn_120 rfl hc34 eb35 ?_
          refine g_iconst (v := 0) hC dX5_signOn_123 (by decide) ?_
          refine g_iload hC 0 dX5_signOn_124 rfl ?_
          obtain ⟨hc36, h⟩ := h
          refine g_callV hC (As := [.int 0, .int x13]) (fun l D dA ht => s_X1_ofUser l D dA ht _ _ _ _ _ h) wm_2_90 wm_2_87 wm_2_88 wm_2_89 wm_1_4 (by decide +kernel : plainY yX1_ofUser 2) kc1.1 kc1.2.1 dX5_signOn_126 (by decide) (Nat.le_of_ble_eq_true rfl) hc36 (Or.inl ⟨rfl, rfl⟩) ?_
          intro M9 v9 h
          obtain ⟨r38, rfl, h⟩ := h
          generalize M9 = M37 at h ⊢
          show G X 6 M37 (0 + c1) (0 + s2) 129 [(5, .int x13), (4, .ref b7), (3, .int x3), (0, .ref a0), (1, .int p0), (2, .int p1)] [va_rf r38, .int ((-1)), .int p0, .ref b33]
          obtain ⟨b39, eb39, h⟩ := h
          subst eb39
          obtain ⟨hc40, h⟩ := h
          obtain ⟨c41, s42, hc41, h⟩ := h
          refine g_callV hC (As := [.int p0, .int ((-1)), .ref b39]) (fun l D dA ht => s_X4_spread l D dA ht _ _ _ _ _ _ _ _ h) wm_2_196 wm_2_193 wm_2_194 wm_2_195 wm_1_2 (by decide +kernel : plainY yX4_spread 3) kc4.1 kc4.2.1 dX5_signOn_129 (by decide) (Nat.le_of_ble_eq_true rfl) hc40 (Or.inr hc41) ?_
          intro M9 v9 h
          obtain ⟨rfl, h⟩ := h
          generalize M9 = M43 at h ⊢
          show G X 6 M43 (0 + c1 + c41) (0 + s2 + s42) 132 [(5, .int x13), (4, .ref b7), (3, .int x3), (0, .ref a0), (1, .int p0), (2, .int p1)] []
          refine g_aload_n (r := (some a0)) hC 3 dX5_signOn_132 rfl ?_
          refine g_pc (pc' := 133) rfl ?_
          refine g_dup hC dX5_signOn_133 rfl ?_
          obtain ⟨hc44, h⟩ := h
          refine g_getI hC kc5 7 (by decide) wm_1_154 dX5_signOn_134 rfl hc44 ?_
          refine g_iconst (v := 1) hC dX5_signOn_137 (by decide) ?_
          refine g_iadd hC dX5_signOn_138 ?_
          obtain ⟨hc45, h⟩ := h
          refine g_putI hC kc5 7 (by decide) wm_1_154 dX5_signOn_139 rfl rfl (Or.inl rfl) hc45 ?_
          obtain ⟨M46, eM46⟩ : ∃ w, w = sI M43 a0 7 ((gI M43 a0 7) + 1) := ⟨_, rfl⟩
          replace h := h M46 eM46
          rw [← eM46]
          refine g_iload hC 0 dX5_signOn_142 rfl ?_
          exact hR.2.1 rfl _ _ _ _ _ _ dX5_signOn_144 ⟨_, rfl, h⟩
        · replace h := h.2 c47
          refine g_sub [2, 3, 4, 1, 0] (lv' := [(0, .ref a0), (1, .int p0), (2, .int p1), (3, .int x3), (4, .ref b7)]) rfl ?_
          exact h
    · replace h := h.1 c49
      exact hThrow _ _ _ _ _ _ _ _ _ _ _ dX5_signOn_14 dX5_signOn_17 dX5_signOn_18 dX5_signOn_20 dX5_signOn_23 tw_iae xs_103 (by first | exact Nat.le_of_ble_eq_true rfl | decide) h.1 h.2

def w_X5_quit (mc ms : Nat) (M : Mem) (a0 : Nat) (p0 : Int32) (xp : String → Mem → Prop) (post : Mem → Prop) : Prop :=
  gT M a0 = some (5, 0) ∧ ∃ c2 s3, (0 + c2 ≤ mc ∧ 0 + s3 ≤ ms) ∧ w_X5_checkUser c2 s3 M a0 p0 (fun E M => xp E M) (gT M a0 = some (5, 0) ∧ ∃ c5 s6, ((0 + c2) + c5 ≤ mc ∧ (0 + s3) + s6 ≤ ms) ∧ w_X5_checkNotGone c5 s6 M a0 p0 (fun E M => xp E M) (gT M a0 = some (5, 0) ∧ ∃ b8, gR M a0 2 = some b8 ∧ inA M b8 10 p0 ∧ ∀ x10, x10 = gI M b8 (Int32.toNatClampNeg p0) → gT M a0 = some (5, 0) ∧ ∃ b12, gR M a0 0 = some b12 ∧ inA M b12 12 x10 ∧ ∃ b14, gR M b12 (Int32.toNatClampNeg x10) = some b14 ∧ gT M b14 = some (3, 0) ∧ w_X3_forget M b14 p0 (fun M16 => gT M16 a0 = some (5, 0) ∧ ∃ b18, gR M16 a0 1 = some b18 ∧ gT M16 a0 = some (5, 0) ∧ ∃ b20, gR M16 a0 5 = some b20 ∧ gT M16 b20 = some (1, 0) ∧ w_X1_ofUser M16 b20 1 p0 (fun M22 r23 => ∃ b24, r23 = some b24 ∧ gT M22 b18 = some (4, 0) ∧ ∃ c26 s27, ((0 + c2 + c5) + c26 ≤ mc ∧ (0 + s3 + s6) + s27 ≤ ms) ∧ w_X4_spread c26 s27 M22 b18 x10 ((-1)) b24 (fun M28 => gT M28 a0 = some (5, 0) ∧ gT M28 a0 = some (5, 0) ∧ ∀ M31, M31 = sI M28 a0 7 ((gI M28 a0 7) + 1) → post M31)))))
set_option maxRecDepth 100000 in
set_option maxHeartbeats 8000000 in
theorem s_X5_quit (l : Launch) (D : va_G) (dA : Nat → ClassId) (htr : l.stackTraces = false) (mc ms : Nat) (M : Mem) (a0 : Nat) (p0 : Int32) (xp : String → Mem → Prop) (post : Mem → Prop) (h : w_X5_quit mc ms M a0 p0 xp post) : CtX l D dA yX5_quit cX5_quit 3 (none) 7 [.ref a0, .int p0] M mc ms xp (pV post) := by
  refine ct_ofX htr (by decide) (Nat.le_of_ble_eq_true rfl) (by decide) rfl ?_
  intro X hC hR hThrow hOut
  show G X 3 M 0 0 0 [(0, .ref a0), (1, .int p0)] []
  unfold w_X5_quit at h
  refine g_aload_n (r := (some a0)) hC 0 dX5_quit_0 rfl ?_
  refine g_iload_n hC 1 dX5_quit_1 rfl ?_
  obtain ⟨hc1, h⟩ := h
  obtain ⟨c2, s3, hc2, h⟩ := h
  refine gx_callV hC (As := [.int p0]) (fun l D dA ht => s_X5_checkUser l D dA ht _ _ _ _ _ _ _ h) wm_3_21 wm_3_18 wm_3_20 wm_0_9 wm_1_1 (by decide +kernel : plainY yX5_checkUser 1) kc5.1 kc5.2.1 dX5_quit_2 (by decide) (Nat.le_of_ble_eq_true rfl) hc1 (Or.inr hc2) ?_ ?_
  · exact fun M E h => hOut _ _ _ _ _ _ _ h
  · intro M9 v9 h
    obtain ⟨rfl, h⟩ := h
    obtain ⟨hM9, h⟩ := h
    rw [hM9]
    show G X 3 M (0 + c2) (0 + s3) 5 [(0, .ref a0), (1, .int p0)] []
    refine g_aload_n (r := (some a0)) hC 0 dX5_quit_5 rfl ?_
    refine g_iload_n hC 1 dX5_quit_6 rfl ?_
    obtain ⟨hc4, h⟩ := h
    obtain ⟨c5, s6, hc5, h⟩ := h
    refine gx_callV hC (As := [.int p0]) (fun l D dA ht => s_X5_checkNotGone l D dA ht _ _ _ _ _ _ _ h) wm_3_53 wm_3_50 wm_3_52 wm_0_13 wm_1_1 (by decide +kernel : plainY yX5_checkNotGone 1) kc5.1 kc5.2.1 dX5_quit_7 (by decide) (Nat.le_of_ble_eq_true rfl) hc4 (Or.inr hc5) ?_ ?_
    · exact fun M E h => hOut _ _ _ _ _ _ _ h
    · intro M9 v9 h
      obtain ⟨rfl, h⟩ := h
      obtain ⟨hM9, h⟩ := h
      rw [hM9]
      show G X 3 M (0 + c2 + c5) (0 + s3 + s6) 10 [(0, .ref a0), (1, .int p0)] []
      refine g_aload_n (r := (some a0)) hC 0 dX5_quit_10 rfl ?_
      obtain ⟨hc7, h⟩ := h
      obtain ⟨b8, eb8, h⟩ := h
      refine g_pc (pc' := 11) rfl ?_
      refine g_getA hC kc5 2 (by decide) wm_1_149 dX5_quit_11 rfl hc7 eb8 ?_
      refine g_iload_n hC 1 dX5_quit_14 rfl ?_
      obtain ⟨hc9, h⟩ := h
      refine g_ialdA hC dX5_quit_15 hc9 ?_
      obtain ⟨x10, ex10⟩ : ∃ w, w = gI M b8 (Int32.toNatClampNeg p0) := ⟨_, rfl⟩
      replace h := h x10 ex10
      rw [← ex10]
      refine g_istore_n (lv' := [(2, .int x10), (0, .ref a0), (1, .int p0)]) hC dX5_quit_16 (by decide) rfl ?_
      refine g_aload_n (r := (some a0)) hC 1 dX5_quit_17 rfl ?_
      obtain ⟨hc11, h⟩ := h
      obtain ⟨b12, eb12, h⟩ := h
      refine g_getA hC kc5 0 (by decide) wm_1_147 dX5_quit_18 rfl hc11 eb12 ?_
      refine g_iload_n hC 0 dX5_quit_21 rfl ?_
      obtain ⟨hc13, h⟩ := h
      obtain ⟨b14, eb14, h⟩ := h
      refine g_aaldA hC (by decide) dX5_quit_22 hc13 eb14 ?_
      refine g_pc (pc' := 23) rfl ?_
      refine g_iload_n hC 2 dX5_quit_23 rfl ?_
      obtain ⟨hc15, h⟩ := h
      refine g_callV hC (As := [.int p0]) (fun l D dA ht => s_X3_forget l D dA ht _ _ _ _ h) wm_2_150 wm_2_147 wm_2_148 wm_2_149 wm_1_5 (by decide +kernel : plainY yX3_forget 1) kc3.1 kc3.2.1 dX5_quit_24 (by decide) (Nat.le_of_ble_eq_true rfl) hc15 (Or.inl ⟨rfl, rfl⟩) ?_
      intro M9 v9 h
      obtain ⟨rfl, h⟩ := h
      generalize M9 = M16 at h ⊢
      show G X 3 M16 (0 + c2 + c5) (0 + s3 + s6) 27 [(2, .int x10), (0, .ref a0), (1, .int p0)] []
      refine g_aload_n (r := (some a0)) hC 1 dX5_quit_27 rfl ?_
      obtain ⟨hc17, h⟩ := h
      obtain ⟨b18, eb18, h⟩ := h
      refine g_getA hC kc5 1 (by decide) wm_1_148 dX5_quit_28 rfl hc17 eb18 ?_
      refine g_iload_n hC 0 dX5_quit_31 rfl ?_
      refine g_iconst (v := (-1)) hC dX5_quit_32 (by decide) ?_
      refine g_aload_n (r := (some a0)) hC 1 dX5_quit_33 rfl ?_
      obtain ⟨hc19, h⟩ := h
      obtain ⟨b20, eb20, h⟩ := h
      refine g_getA hC kc5 5 (by decide) wm_1_152 dX5_quit_34 rfl hc19 eb20 ?_
      refine g_pc (pc' := 37) rfl ?_
      refine g_iconst (v := 1) hC dX5_quit_37 (by decide) ?_
      refine g_iload_n hC 2 dX5_quit_38 rfl ?_
      obtain ⟨hc21, h⟩ := h
      refine g_callV hC (As := [.int 1, .int p0]) (fun l D dA ht => s_X1_ofUser l D dA ht _ _ _ _ _ h) wm_2_90 wm_2_87 wm_2_88 wm_2_89 wm_1_4 (by decide +kernel : plainY yX1_ofUser 2) kc1.1 kc1.2.1 dX5_quit_39 (by decide) (Nat.le_of_ble_eq_true rfl) hc21 (Or.inl ⟨rfl, rfl⟩) ?_
      intro M9 v9 h
      obtain ⟨r23, rfl, h⟩ := h
      generalize M9 = M22 at h ⊢
      show G X 3 M22 (0 + c2 + c5) (0 + s3 + s6) 42 [(2, .int x10), (0, .ref a0), (1, .int p0)] [va_rf r23, .int ((-1)), .int x10, .ref b18]
      obtain ⟨b24, eb24, h⟩ := h
      subst eb24
      obtain ⟨hc25, h⟩ := h
      obtain ⟨c26, s27, hc26, h⟩ := h
      refine g_callV hC (As := [.int x10, .int ((-1)), .ref b24]) (fun l D dA ht => s_X4_spread l D dA ht _ _ _ _ _ _ _ _ h) wm_2_196 wm_2_193 wm_2_194 wm_2_195 wm_1_2 (by decide +kernel : plainY yX4_spread 3) kc4.1 kc4.2.1 dX5_quit_42 (by decide) (Nat.le_of_ble_eq_true rfl) hc25 (Or.inr hc26) ?_
      intro M9 v9 h
      obtain ⟨rfl, h⟩ := h
      generalize M9 = M28 at h ⊢
      show G X 3 M28 (0 + c2 + c5 + c26) (0 + s3 + s6 + s27) 45 [(2, .int x10), (0, .ref a0), (1, .int p0)] []
      refine g_aload_n (r := (some a0)) hC 1 dX5_quit_45 rfl ?_
      refine g_dup hC dX5_quit_46 rfl ?_
      obtain ⟨hc29, h⟩ := h
      refine g_getI hC kc5 7 (by decide) wm_1_154 dX5_quit_47 rfl hc29 ?_
      refine g_iconst (v := 1) hC dX5_quit_50 (by decide) ?_
      refine g_pc (pc' := 51) rfl ?_
      refine g_iadd hC dX5_quit_51 ?_
      obtain ⟨hc30, h⟩ := h
      refine g_putI hC kc5 7 (by decide) wm_1_154 dX5_quit_52 rfl rfl (Or.inl rfl) hc30 ?_
      obtain ⟨M31, eM31⟩ : ∃ w, w = sI M28 a0 7 ((gI M28 a0 7) + 1) := ⟨_, rfl⟩
      replace h := h M31 eM31
      rw [← eM31]
      exact hR.1 rfl _ _ _ _ _ dX5_quit_55 ⟨rfl, h⟩

def w_X5_join (mc ms : Nat) (M : Mem) (a0 : Nat) (p0 : Int32) (p1 : Int32) (xp : String → Mem → Prop) (post : Mem → Int32 → Prop) : Prop :=
  gT M a0 = some (5, 0) ∧ ∃ c2 s3, (0 + c2 ≤ mc ∧ 0 + s3 ≤ ms) ∧ w_X5_checkUser c2 s3 M a0 p0 (fun E M => xp E M) (∃ c4 s5, ((0 + c2) + c4 ≤ mc ∧ (0 + s3) + s5 ≤ ms) ∧ w_X5_checkChannel c4 s5 M p1 (fun E M => xp E M) (gT M a0 = some (5, 0) ∧ ∃ c7 s8, ((0 + c2 + c4) + c7 ≤ mc ∧ (0 + s3 + s5) + s8 ≤ ms) ∧ w_X5_checkNotGone c7 s8 M a0 p0 (fun E M => xp E M) (gT M a0 = some (5, 0) ∧ ∃ b10, gR M a0 2 = some b10 ∧ inA M b10 10 p0 ∧ ∀ x12, x12 = gI M b10 (Int32.toNatClampNeg p0) → gT M a0 = some (5, 0) ∧ ∃ b14, gR M a0 0 = some b14 ∧ inA M b14 12 x12 ∧ ∃ b16, gR M b14 (Int32.toNatClampNeg x12) = some b16 ∧ gT M b16 = some (3, 0) ∧ ∃ b18, gR M b16 1 = some b18 ∧ inA M b18 13 p1 ∧ ∃ b20, gR M b18 (Int32.toNatClampNeg p1) = some b20 ∧ gT M b20 = some (0, 0) ∧ w_X5_has M (gI M b20 3) p0 (fun x22 => (x22 = 0 → gT M b20 = some (0, 0) ∧ w_X0_isThere M b20 (fun x24 => ∀ J25 : Prop, ((gT M a0 = some (5, 0) ∧ gT M b20 = some (0, 0) ∧ w_X0_enter M b20 p0 (gI M a0 7) (fun M28 => gT M28 a0 = some (5, 0) ∧ ∃ b30, gR M28 a0 1 = some b30 ∧ gT M28 a0 = some (5, 0) ∧ ∃ b32, gR M28 a0 5 = some b32 ∧ gT M28 b32 = some (1, 0) ∧ w_X1_ofChannel M28 b32 2 p1 b20 (1 <<< (p0 &&& 31)) (fun M34 r35 => ∃ b36, r35 = some b36 ∧ gT M34 b30 = some (4, 0) ∧ ∃ c38 s39, ((0 + c2 + c4 + c7) + c38 ≤ mc ∧ (0 + s3 + s5 + s8) + s39 ≤ ms) ∧ w_X4_spread c38 s39 M34 b30 x12 ((-1)) b36 (fun M40 => gT M40 a0 = some (5, 0) ∧ gT M40 a0 = some (5, 0) ∧ ∀ M43, M43 = sI M40 a0 7 ((gI M40 a0 7) + 1) → gT M43 b20 = some (0, 0) ∧ w_J_bitCount M43 (gI M43 b20 3) (fun x45 => post M43 x45))))) → J25) → ((x24 = 0 → J25) ∧ (¬ (x24 = 0) → gT M b20 = some (0, 0) ∧ gT M a0 = some (5, 0) ∧ ∃ b48, gR M a0 3 = some b48 ∧ inA M b48 10 p0 ∧ w_X5_has M (gI M b20 2) (gI M b48 (Int32.toNatClampNeg p0)) (fun x50 => (x50 = 0 → J25) ∧ (¬ (x50 = 0) → (0 + c2 + c4 + c7 + 1 ≤ mc ∧ 0 + s3 + s5 + s8 + 6 ≤ ms) ∧ xp ise M)))))) ∧ (¬ (x22 = 0) → (0 + c2 + c4 + c7 + 1 ≤ mc ∧ 0 + s3 + s5 + s8 + 6 ≤ ms) ∧ xp ise M)))))
set_option maxRecDepth 100000 in
set_option maxHeartbeats 8000000 in
theorem s_X5_join (l : Launch) (D : va_G) (dA : Nat → ClassId) (htr : l.stackTraces = false) (mc ms : Nat) (M : Mem) (a0 : Nat) (p0 : Int32) (p1 : Int32) (xp : String → Mem → Prop) (post : Mem → Int32 → Prop) (h : w_X5_join mc ms M a0 p0 p1 xp post) : CtX l D dA yX5_join cX5_join 5 (some .int) 7 [.ref a0, .int p0, .int p1] M mc ms xp (pI post) := by
  refine ct_ofX htr (by decide) (Nat.le_of_ble_eq_true rfl) (by decide) rfl ?_
  intro X hC hR hThrow hOut
  show G X 5 M 0 0 0 [(0, .ref a0), (1, .int p0), (2, .int p1)] []
  unfold w_X5_join at h
  refine g_aload_n (r := (some a0)) hC 0 dX5_join_0 rfl ?_
  refine g_iload_n hC 1 dX5_join_1 rfl ?_
  obtain ⟨hc1, h⟩ := h
  obtain ⟨c2, s3, hc2, h⟩ := h
  refine gx_callV hC (As := [.int p0]) (fun l D dA ht => s_X5_checkUser l D dA ht _ _ _ _ _ _ _ h) wm_3_21 wm_3_18 wm_3_20 wm_0_9 wm_1_1 (by decide +kernel : plainY yX5_checkUser 1) kc5.1 kc5.2.1 dX5_join_2 (by decide) (Nat.le_of_ble_eq_true rfl) hc1 (Or.inr hc2) ?_ ?_
  · exact fun M E h => hOut _ _ _ _ _ _ _ h
  · intro M9 v9 h
    obtain ⟨rfl, h⟩ := h
    obtain ⟨hM9, h⟩ := h
    rw [hM9]
    show G X 5 M (0 + c2) (0 + s3) 5 [(0, .ref a0), (1, .int p0), (2, .int p1)] []
    refine g_iload_n hC 2 dX5_join_5 rfl ?_
    obtain ⟨c4, s5, hc4, h⟩ := h
    refine gx_callS hC (As := [.int p1]) (fun l D dA ht => s_X5_checkChannel l D dA ht _ _ _ _ _ _ h) wm_2_51 wm_2_49 wm_2_50 wm_1_1 (by decide +kernel : plainY yX5_checkChannel 1) dX5_join_6 (by decide) (Nat.le_of_ble_eq_true rfl) (Or.inr hc4) ?_ ?_
    · exact fun M E h => hOut _ _ _ _ _ _ _ h
    · intro M9 v9 h
      obtain ⟨rfl, h⟩ := h
      obtain ⟨hM9, h⟩ := h
      rw [hM9]
      show G X 5 M (0 + c2 + c4) (0 + s3 + s5) 9 [(0, .ref a0), (1, .int p0), (2, .int p1)] []
      refine g_aload_n (r := (some a0)) hC 0 dX5_join_9 rfl ?_
      refine g_iload_n hC 1 dX5_join_10 rfl ?_
      refine g_pc (pc' := 11) rfl ?_
      obtain ⟨hc6, h⟩ := h
      obtain ⟨c7, s8, hc7, h⟩ := h
      refine gx_callV hC (As := [.int p0]) (fun l D dA ht => s_X5_checkNotGone l D dA ht _ _ _ _ _ _ _ h) wm_3_53 wm_3_50 wm_3_52 wm_0_13 wm_1_1 (by decide +kernel : plainY yX5_checkNotGone 1) kc5.1 kc5.2.1 dX5_join_11 (by decide) (Nat.le_of_ble_eq_true rfl) hc6 (Or.inr hc7) ?_ ?_
      · exact fun M E h => hOut _ _ _ _ _ _ _ h
      · intro M9 v9 h
        obtain ⟨rfl, h⟩ := h
        obtain ⟨hM9, h⟩ := h
        rw [hM9]
        show G X 5 M (0 + c2 + c4 + c7) (0 + s3 + s5 + s8) 14 [(0, .ref a0), (1, .int p0), (2, .int p1)] []
        refine g_aload_n (r := (some a0)) hC 0 dX5_join_14 rfl ?_
        obtain ⟨hc9, h⟩ := h
        obtain ⟨b10, eb10, h⟩ := h
        refine g_getA hC kc5 2 (by decide) wm_1_149 dX5_join_15 rfl hc9 eb10 ?_
        refine g_iload_n hC 1 dX5_join_18 rfl ?_
        obtain ⟨hc11, h⟩ := h
        refine g_ialdA hC dX5_join_19 hc11 ?_
        obtain ⟨x12, ex12⟩ : ∃ w, w = gI M b10 (Int32.toNatClampNeg p0) := ⟨_, rfl⟩
        replace h := h x12 ex12
        rw [← ex12]
        refine g_istore_n (lv' := [(3, .int x12), (0, .ref a0), (1, .int p0), (2, .int p1)]) hC dX5_join_20 (by decide) rfl ?_
        refine g_aload_n (r := (some a0)) hC 1 dX5_join_21 rfl ?_
        obtain ⟨hc13, h⟩ := h
        obtain ⟨b14, eb14, h⟩ := h
        refine g_getA hC kc5 0 (by decide) wm_1_147 dX5_join_22 rfl hc13 eb14 ?_
        refine g_pc (pc' := 25) rfl ?_
        refine g_iload_n hC 0 dX5_join_25 rfl ?_
        obtain ⟨hc15, h⟩ := h
        obtain ⟨b16, eb16, h⟩ := h
        refine g_aaldA hC (by decide) dX5_join_26 hc15 eb16 ?_
        obtain ⟨hc17, h⟩ := h
        obtain ⟨b18, eb18, h⟩ := h
        refine g_getA hC kc3 1 (by decide) wm_1_141 dX5_join_27 rfl hc17 eb18 ?_
        refine g_iload_n hC 3 dX5_join_30 rfl ?_
        obtain ⟨hc19, h⟩ := h
        obtain ⟨b20, eb20, h⟩ := h
        refine g_aaldA hC (by decide) dX5_join_31 hc19 eb20 ?_
        refine g_astore (r := (some b20)) (lv' := [(4, .ref b20), (3, .int x12), (0, .ref a0), (1, .int p0), (2, .int p1)]) hC dX5_join_32 (by decide) rfl ?_
        refine g_aload (r := (some b20)) hC 0 dX5_join_34 rfl ?_
        obtain ⟨hc21, h⟩ := h
        refine g_getI hC kc0 3 (by decide) wm_1_128 dX5_join_36 rfl hc21 ?_
        refine g_pc (pc' := 39) rfl ?_
        refine g_iload_n hC 3 dX5_join_39 rfl ?_
        refine g_callS hC (As := [.int (gI M b20 3), .int p0]) (fun l D dA ht => s_X5_has l D dA ht _ _ _ _ h) wm_2_17 wm_2_57 wm_2_16 wm_1_1 (by decide +kernel : plainY yX5_has 2) dX5_join_40 (by decide) (Nat.le_of_ble_eq_true rfl) (Or.inl ⟨rfl, rfl⟩) ?_
        intro M9 v9 h
        obtain ⟨x22, rfl, h⟩ := h
        obtain ⟨hM9, h⟩ := h
        rw [hM9]
        show G X 5 M (0 + c2 + c4 + c7) (0 + s3 + s5 + s8) 43 [(4, .ref b20), (3, .int x12), (0, .ref a0), (1, .int p0), (2, .int p1)] [.int x22]
        refine g_if_eq hC 56 dX5_join_43 (by decide) (fun c53 => ?_) (fun c53 => ?_)
        · replace h := h.1 c53
          refine g_aload (r := (some b20)) hC 0 dX5_join_56 rfl ?_
          obtain ⟨hc23, h⟩ := h
          refine g_callV hC (As := []) (fun l D dA ht => s_X0_isThere l D dA ht _ _ _ h) wm_2_109 wm_2_106 wm_2_107 wm_2_108 wm_1_6 (by decide +kernel : plainY yX0_isThere 0) kc0.1 kc0.2.1 dX5_join_58 (by decide) (Nat.le_of_ble_eq_true rfl) hc23 (Or.inl ⟨rfl, rfl⟩) ?_
          intro M9 v9 h
          obtain ⟨x24, rfl, h⟩ := h
          obtain ⟨hM9, h⟩ := h
          rw [hM9]
          show G X 5 M (0 + c2 + c4 + c7) (0 + s3 + s5 + s8) 61 [(4, .ref b20), (3, .int x12), (0, .ref a0), (1, .int p0), (2, .int p1)] [.int x24]
          replace h := h (G X 5 M (0 + c2 + c4 + c7) (0 + s3 + s5 + s8) 91 [(0, .ref a0), (1, .int p0), (2, .int p1), (3, .int x12), (4, .ref b20)] []) (by
            intro h
            refine g_aload (r := (some b20)) hC 4 dX5_join_91 rfl ?_
            refine g_iload_n hC 1 dX5_join_93 rfl ?_
            refine g_aload_n (r := (some a0)) hC 0 dX5_join_94 rfl ?_
            obtain ⟨hc26, h⟩ := h
            refine g_pc (pc' := 95) rfl ?_
            refine g_getI hC kc5 7 (by decide) wm_1_154 dX5_join_95 rfl hc26 ?_
            obtain ⟨hc27, h⟩ := h
            refine g_callV hC (As := [.int p0, .int (gI M a0 7)]) (fun l D dA ht => s_X0_enter l D dA ht _ _ _ _ _ h) wm_3_60 wm_3_57 wm_3_58 wm_3_59 wm_1_6 (by decide +kernel : plainY yX0_enter 2) kc0.1 kc0.2.1 dX5_join_98 (by decide) (Nat.le_of_ble_eq_true rfl) hc27 (Or.inl ⟨rfl, rfl⟩) ?_
            intro M9 v9 h
            obtain ⟨rfl, h⟩ := h
            generalize M9 = M28 at h ⊢
            show G X 5 M28 (0 + c2 + c4 + c7) (0 + s3 + s5 + s8) 101 [(0, .ref a0), (1, .int p0), (2, .int p1), (3, .int x12), (4, .ref b20)] []
            refine g_aload_n (r := (some a0)) hC 0 dX5_join_101 rfl ?_
            obtain ⟨hc29, h⟩ := h
            obtain ⟨b30, eb30, h⟩ := h
            refine g_getA hC kc5 1 (by decide) wm_1_148 dX5_join_102 rfl hc29 eb30 ?_
            refine g_iload_n hC 3 dX5_join_105 rfl ?_
            refine g_iconst (v := (-1)) hC dX5_join_106 (by decide) ?_
            refine g_aload_n (r := (some a0)) hC 0 dX5_join_107 rfl ?_
            obtain ⟨hc31, h⟩ := h
            obtain ⟨b32, eb32, h⟩ := h
            refine g_getA hC kc5 5 (by decide) wm_1_152 dX5_join_108 rfl hc31 eb32 ?_
            refine g_pc (pc' := 111) rfl ?_
            refine g_iconst (v := 2) hC dX5_join_111 (by decide) ?_
            refine g_iload_n hC 2 dX5_join_112 rfl ?_
            refine g_aload (r := (some b20)) hC 4 dX5_join_113 rfl ?_
            refine g_iconst (v := 1) hC dX5_join_115 (by decide) ?_
            refine g_iload_n hC 1 dX5_join_116 rfl ?_
            refine g_ishl hC dX5_join_117 ?_
            obtain ⟨hc33, h⟩ := h
            refine g_callV hC (As := [.int 2, .int p1, .ref b20, .int (1 <<< (p0 &&& 31))]) (fun l D dA ht => s_X1_ofChannel l D dA ht _ _ _ _ _ _ _ h) wm_2_113 wm_2_110 wm_2_111 wm_2_112 wm_1_4 (by decide +kernel : plainY yX1_ofChannel 4) kc1.1 kc1.2.1 dX5_join_118 (by decide) (Nat.le_of_ble_eq_true rfl) hc33 (Or.inl ⟨rfl, rfl⟩) ?_
            intro M9 v9 h
            obtain ⟨r35, rfl, h⟩ := h
            generalize M9 = M34 at h ⊢
            show G X 5 M34 (0 + c2 + c4 + c7) (0 + s3 + s5 + s8) 121 [(0, .ref a0), (1, .int p0), (2, .int p1), (3, .int x12), (4, .ref b20)] [va_rf r35, .int ((-1)), .int x12, .ref b30]
            obtain ⟨b36, eb36, h⟩ := h
            subst eb36
            obtain ⟨hc37, h⟩ := h
            obtain ⟨c38, s39, hc38, h⟩ := h
            refine g_callV hC (As := [.int x12, .int ((-1)), .ref b36]) (fun l D dA ht => s_X4_spread l D dA ht _ _ _ _ _ _ _ _ h) wm_2_196 wm_2_193 wm_2_194 wm_2_195 wm_1_2 (by decide +kernel : plainY yX4_spread 3) kc4.1 kc4.2.1 dX5_join_121 (by decide) (Nat.le_of_ble_eq_true rfl) hc37 (Or.inr hc38) ?_
            intro M9 v9 h
            obtain ⟨rfl, h⟩ := h
            generalize M9 = M40 at h ⊢
            show G X 5 M40 (0 + c2 + c4 + c7 + c38) (0 + s3 + s5 + s8 + s39) 124 [(0, .ref a0), (1, .int p0), (2, .int p1), (3, .int x12), (4, .ref b20)] []
            refine g_pc (pc' := 124) rfl ?_
            refine g_aload_n (r := (some a0)) hC 0 dX5_join_124 rfl ?_
            refine g_dup hC dX5_join_125 rfl ?_
            obtain ⟨hc41, h⟩ := h
            refine g_getI hC kc5 7 (by decide) wm_1_154 dX5_join_126 rfl hc41 ?_
            refine g_iconst (v := 1) hC dX5_join_129 (by decide) ?_
            refine g_iadd hC dX5_join_130 ?_
            obtain ⟨hc42, h⟩ := h
            refine g_putI hC kc5 7 (by decide) wm_1_154 dX5_join_131 rfl rfl (Or.inl rfl) hc42 ?_
            obtain ⟨M43, eM43⟩ : ∃ w, w = sI M40 a0 7 ((gI M40 a0 7) + 1) := ⟨_, rfl⟩
            replace h := h M43 eM43
            rw [← eM43]
            refine g_aload (r := (some b20)) hC 4 dX5_join_134 rfl ?_
            obtain ⟨hc44, h⟩ := h
            refine g_getI hC kc0 3 (by decide) wm_1_128 dX5_join_136 rfl hc44 ?_
            refine g_pc (pc' := 139) rfl ?_
            refine g_callS hC (As := [.int (gI M43 b20 3)]) (fun l D dA ht => s_J_bitCount l D dA ht _ _ _ h) wm_3_42 wm_3_61 wm_3_41 wm_1_14 (by decide +kernel : plainY yJ6_bitCount_0f7a4 1) dX5_join_139 (by decide) (Nat.le_of_ble_eq_true rfl) (Or.inl ⟨rfl, rfl⟩) ?_
            intro M9 v9 h
            obtain ⟨x45, rfl, h⟩ := h
            obtain ⟨hM9, h⟩ := h
            rw [hM9]
            show G X 5 M43 (0 + c2 + c4 + c7 + c38) (0 + s3 + s5 + s8 + s39) 142 [(0, .ref a0), (1, .int p0), (2, .int p1), (3, .int x12), (4, .ref b20)] [.int x45]
            exact hR.2.1 rfl _ _ _ _ _ _ dX5_join_142 ⟨_, rfl, h⟩)
          refine g_if_eq hC 91 dX5_join_61 (by decide) (fun c52 => ?_) (fun c52 => ?_)
          · replace h := h.1 c52
            refine g_sub [2, 3, 4, 1, 0] (lv' := [(0, .ref a0), (1, .int p0), (2, .int p1), (3, .int x12), (4, .ref b20)]) rfl ?_
            exact h
          · replace h := h.2 c52
            refine g_aload (r := (some b20)) hC 0 dX5_join_64 rfl ?_
            obtain ⟨hc46, h⟩ := h
            refine g_getI hC kc0 2 (by decide) wm_1_126 dX5_join_66 rfl hc46 ?_
            refine g_pc (pc' := 69) rfl ?_
            refine g_aload_n (r := (some a0)) hC 2 dX5_join_69 rfl ?_
            obtain ⟨hc47, h⟩ := h
            obtain ⟨b48, eb48, h⟩ := h
            refine g_getA hC kc5 3 (by decide) wm_1_150 dX5_join_70 rfl hc47 eb48 ?_
            refine g_iload_n hC 3 dX5_join_73 rfl ?_
            obtain ⟨hc49, h⟩ := h
            refine g_ialdA hC dX5_join_74 hc49 ?_
            refine g_callS hC (As := [.int (gI M b20 2), .int (gI M b48 (Int32.toNatClampNeg p0))]) (fun l D dA ht => s_X5_has l D dA ht _ _ _ _ h) wm_2_17 wm_2_57 wm_2_16 wm_1_1 (by decide +kernel : plainY yX5_has 2) dX5_join_75 (by decide) (Nat.le_of_ble_eq_true rfl) (Or.inl ⟨rfl, rfl⟩) ?_
            intro M9 v9 h
            obtain ⟨x50, rfl, h⟩ := h
            obtain ⟨hM9, h⟩ := h
            rw [hM9]
            show G X 5 M (0 + c2 + c4 + c7) (0 + s3 + s5 + s8) 78 [(4, .ref b20), (3, .int x12), (0, .ref a0), (1, .int p0), (2, .int p1)] [.int x50]
            refine g_if_eq hC 91 dX5_join_78 (by decide) (fun c51 => ?_) (fun c51 => ?_)
            · replace h := h.1 c51
              refine g_sub [2, 3, 4, 1, 0] (lv' := [(0, .ref a0), (1, .int p0), (2, .int p1), (3, .int x12), (4, .ref b20)]) rfl ?_
              exact h
            · replace h := h.2 c51
              exact hThrow _ _ _ _ _ _ _ _ _ _ _ dX5_join_81 dX5_join_84 dX5_join_85 dX5_join_87 dX5_join_90 tw_ise xs_153 (by first | exact Nat.le_of_ble_eq_true rfl | decide) h.1 h.2
        · replace h := h.2 c53
          exact hThrow _ _ _ _ _ _ _ _ _ _ _ dX5_join_46 dX5_join_49 dX5_join_50 dX5_join_52 dX5_join_55 tw_ise xs_144 (by first | exact Nat.le_of_ble_eq_true rfl | decide) h.1 h.2

def w_X5_leave (mc ms : Nat) (M : Mem) (a0 : Nat) (p0 : Int32) (p1 : Int32) (xp : String → Mem → Prop) (post : Mem → Prop) : Prop :=
  gT M a0 = some (5, 0) ∧ ∃ c2 s3, (0 + c2 ≤ mc ∧ 0 + s3 ≤ ms) ∧ w_X5_checkUser c2 s3 M a0 p0 (fun E M => xp E M) (∃ c4 s5, ((0 + c2) + c4 ≤ mc ∧ (0 + s3) + s5 ≤ ms) ∧ w_X5_checkChannel c4 s5 M p1 (fun E M => xp E M) (gT M a0 = some (5, 0) ∧ ∃ c7 s8, ((0 + c2 + c4) + c7 ≤ mc ∧ (0 + s3 + s5) + s8 ≤ ms) ∧ w_X5_checkNotGone c7 s8 M a0 p0 (fun E M => xp E M) (gT M a0 = some (5, 0) ∧ ∃ c10 s11, ((0 + c2 + c4 + c7) + c10 ≤ mc ∧ (0 + s3 + s5 + s8) + s11 ≤ ms) ∧ w_X5_checkMember c10 s11 M a0 p0 p1 (fun E M => xp E M) (gT M a0 = some (5, 0) ∧ ∃ b13, gR M a0 2 = some b13 ∧ inA M b13 10 p0 ∧ ∀ x15, x15 = gI M b13 (Int32.toNatClampNeg p0) → gT M a0 = some (5, 0) ∧ ∃ b17, gR M a0 0 = some b17 ∧ inA M b17 12 x15 ∧ ∃ b19, gR M b17 (Int32.toNatClampNeg x15) = some b19 ∧ gT M b19 = some (3, 0) ∧ ∃ b21, gR M b19 1 = some b21 ∧ inA M b21 13 p1 ∧ ∃ b23, gR M b21 (Int32.toNatClampNeg p1) = some b23 ∧ gT M b23 = some (0, 0) ∧ w_X0_drop M b23 p0 (fun M25 => gT M25 a0 = some (5, 0) ∧ ∃ b27, gR M25 a0 1 = some b27 ∧ gT M25 a0 = some (5, 0) ∧ ∃ b29, gR M25 a0 5 = some b29 ∧ gT M25 b29 = some (1, 0) ∧ w_X1_ofLeave M25 b29 p1 p0 (fun M31 r32 => ∃ b33, r32 = some b33 ∧ gT M31 b27 = some (4, 0) ∧ ∃ c35 s36, ((0 + c2 + c4 + c7 + c10) + c35 ≤ mc ∧ (0 + s3 + s5 + s8 + s11) + s36 ≤ ms) ∧ w_X4_spread c35 s36 M31 b27 x15 ((-1)) b33 (fun M37 => gT M37 a0 = some (5, 0) ∧ gT M37 a0 = some (5, 0) ∧ ∀ M40, M40 = sI M37 a0 7 ((gI M37 a0 7) + 1) → post M40)))))))
set_option maxRecDepth 100000 in
set_option maxHeartbeats 8000000 in
theorem s_X5_leave (l : Launch) (D : va_G) (dA : Nat → ClassId) (htr : l.stackTraces = false) (mc ms : Nat) (M : Mem) (a0 : Nat) (p0 : Int32) (p1 : Int32) (xp : String → Mem → Prop) (post : Mem → Prop) (h : w_X5_leave mc ms M a0 p0 p1 xp post) : CtX l D dA yX5_leave cX5_leave 4 (none) 7 [.ref a0, .int p0, .int p1] M mc ms xp (pV post) := by
  refine ct_ofX htr (by decide) (Nat.le_of_ble_eq_true rfl) (by decide) rfl ?_
  intro X hC hR hThrow hOut
  show G X 4 M 0 0 0 [(0, .ref a0), (1, .int p0), (2, .int p1)] []
  unfold w_X5_leave at h
  refine g_aload_n (r := (some a0)) hC 0 dX5_leave_0 rfl ?_
  refine g_iload_n hC 1 dX5_leave_1 rfl ?_
  obtain ⟨hc1, h⟩ := h
  obtain ⟨c2, s3, hc2, h⟩ := h
  refine gx_callV hC (As := [.int p0]) (fun l D dA ht => s_X5_checkUser l D dA ht _ _ _ _ _ _ _ h) wm_3_21 wm_3_18 wm_3_20 wm_0_9 wm_1_1 (by decide +kernel : plainY yX5_checkUser 1) kc5.1 kc5.2.1 dX5_leave_2 (by decide) (Nat.le_of_ble_eq_true rfl) hc1 (Or.inr hc2) ?_ ?_
  · exact fun M E h => hOut _ _ _ _ _ _ _ h
  · intro M9 v9 h
    obtain ⟨rfl, h⟩ := h
    obtain ⟨hM9, h⟩ := h
    rw [hM9]
    show G X 4 M (0 + c2) (0 + s3) 5 [(0, .ref a0), (1, .int p0), (2, .int p1)] []
    refine g_iload_n hC 2 dX5_leave_5 rfl ?_
    obtain ⟨c4, s5, hc4, h⟩ := h
    refine gx_callS hC (As := [.int p1]) (fun l D dA ht => s_X5_checkChannel l D dA ht _ _ _ _ _ _ h) wm_2_51 wm_2_49 wm_2_50 wm_1_1 (by decide +kernel : plainY yX5_checkChannel 1) dX5_leave_6 (by decide) (Nat.le_of_ble_eq_true rfl) (Or.inr hc4) ?_ ?_
    · exact fun M E h => hOut _ _ _ _ _ _ _ h
    · intro M9 v9 h
      obtain ⟨rfl, h⟩ := h
      obtain ⟨hM9, h⟩ := h
      rw [hM9]
      show G X 4 M (0 + c2 + c4) (0 + s3 + s5) 9 [(0, .ref a0), (1, .int p0), (2, .int p1)] []
      refine g_aload_n (r := (some a0)) hC 0 dX5_leave_9 rfl ?_
      refine g_iload_n hC 1 dX5_leave_10 rfl ?_
      refine g_pc (pc' := 11) rfl ?_
      obtain ⟨hc6, h⟩ := h
      obtain ⟨c7, s8, hc7, h⟩ := h
      refine gx_callV hC (As := [.int p0]) (fun l D dA ht => s_X5_checkNotGone l D dA ht _ _ _ _ _ _ _ h) wm_3_53 wm_3_50 wm_3_52 wm_0_13 wm_1_1 (by decide +kernel : plainY yX5_checkNotGone 1) kc5.1 kc5.2.1 dX5_leave_11 (by decide) (Nat.le_of_ble_eq_true rfl) hc6 (Or.inr hc7) ?_ ?_
      · exact fun M E h => hOut _ _ _ _ _ _ _ h
      · intro M9 v9 h
        obtain ⟨rfl, h⟩ := h
        obtain ⟨hM9, h⟩ := h
        rw [hM9]
        show G X 4 M (0 + c2 + c4 + c7) (0 + s3 + s5 + s8) 14 [(0, .ref a0), (1, .int p0), (2, .int p1)] []
        refine g_aload_n (r := (some a0)) hC 0 dX5_leave_14 rfl ?_
        refine g_iload_n hC 1 dX5_leave_15 rfl ?_
        refine g_iload_n hC 2 dX5_leave_16 rfl ?_
        obtain ⟨hc9, h⟩ := h
        obtain ⟨c10, s11, hc10, h⟩ := h
        refine gx_callV hC (As := [.int p0, .int p1]) (fun l D dA ht => s_X5_checkMember l D dA ht _ _ _ _ _ _ _ _ h) wm_3_80 wm_3_77 wm_3_79 wm_0_14 wm_1_1 (by decide +kernel : plainY yX5_checkMember 2) kc5.1 kc5.2.1 dX5_leave_17 (by decide) (Nat.le_of_ble_eq_true rfl) hc9 (Or.inr hc10) ?_ ?_
        · exact fun M E h => hOut _ _ _ _ _ _ _ h
        · intro M9 v9 h
          obtain ⟨rfl, h⟩ := h
          obtain ⟨hM9, h⟩ := h
          rw [hM9]
          show G X 4 M (0 + c2 + c4 + c7 + c10) (0 + s3 + s5 + s8 + s11) 20 [(0, .ref a0), (1, .int p0), (2, .int p1)] []
          refine g_aload_n (r := (some a0)) hC 0 dX5_leave_20 rfl ?_
          obtain ⟨hc12, h⟩ := h
          obtain ⟨b13, eb13, h⟩ := h
          refine g_getA hC kc5 2 (by decide) wm_1_149 dX5_leave_21 rfl hc12 eb13 ?_
          refine g_iload_n hC 1 dX5_leave_24 rfl ?_
          obtain ⟨hc14, h⟩ := h
          refine g_pc (pc' := 25) rfl ?_
          refine g_ialdA hC dX5_leave_25 hc14 ?_
          obtain ⟨x15, ex15⟩ : ∃ w, w = gI M b13 (Int32.toNatClampNeg p0) := ⟨_, rfl⟩
          replace h := h x15 ex15
          rw [← ex15]
          refine g_istore_n (lv' := [(3, .int x15), (0, .ref a0), (1, .int p0), (2, .int p1)]) hC dX5_leave_26 (by decide) rfl ?_
          refine g_aload_n (r := (some a0)) hC 1 dX5_leave_27 rfl ?_
          obtain ⟨hc16, h⟩ := h
          obtain ⟨b17, eb17, h⟩ := h
          refine g_getA hC kc5 0 (by decide) wm_1_147 dX5_leave_28 rfl hc16 eb17 ?_
          refine g_iload_n hC 0 dX5_leave_31 rfl ?_
          obtain ⟨hc18, h⟩ := h
          obtain ⟨b19, eb19, h⟩ := h
          refine g_aaldA hC (by decide) dX5_leave_32 hc18 eb19 ?_
          obtain ⟨hc20, h⟩ := h
          obtain ⟨b21, eb21, h⟩ := h
          refine g_getA hC kc3 1 (by decide) wm_1_141 dX5_leave_33 rfl hc20 eb21 ?_
          refine g_iload_n hC 3 dX5_leave_36 rfl ?_
          obtain ⟨hc22, h⟩ := h
          obtain ⟨b23, eb23, h⟩ := h
          refine g_pc (pc' := 37) rfl ?_
          refine g_aaldA hC (by decide) dX5_leave_37 hc22 eb23 ?_
          refine g_iload_n hC 2 dX5_leave_38 rfl ?_
          obtain ⟨hc24, h⟩ := h
          refine g_callV hC (As := [.int p0]) (fun l D dA ht => s_X0_drop l D dA ht _ _ _ _ h) wm_2_154 wm_2_233 wm_2_152 wm_2_153 wm_1_6 (by decide +kernel : plainY yX0_drop 1) kc0.1 kc0.2.1 dX5_leave_39 (by decide) (Nat.le_of_ble_eq_true rfl) hc24 (Or.inl ⟨rfl, rfl⟩) ?_
          intro M9 v9 h
          obtain ⟨rfl, h⟩ := h
          generalize M9 = M25 at h ⊢
          show G X 4 M25 (0 + c2 + c4 + c7 + c10) (0 + s3 + s5 + s8 + s11) 42 [(3, .int x15), (0, .ref a0), (1, .int p0), (2, .int p1)] []
          refine g_aload_n (r := (some a0)) hC 1 dX5_leave_42 rfl ?_
          obtain ⟨hc26, h⟩ := h
          obtain ⟨b27, eb27, h⟩ := h
          refine g_getA hC kc5 1 (by decide) wm_1_148 dX5_leave_43 rfl hc26 eb27 ?_
          refine g_iload_n hC 0 dX5_leave_46 rfl ?_
          refine g_iconst (v := (-1)) hC dX5_leave_47 (by decide) ?_
          refine g_aload_n (r := (some a0)) hC 1 dX5_leave_48 rfl ?_
          obtain ⟨hc28, h⟩ := h
          obtain ⟨b29, eb29, h⟩ := h
          refine g_pc (pc' := 49) rfl ?_
          refine g_getA hC kc5 5 (by decide) wm_1_152 dX5_leave_49 rfl hc28 eb29 ?_
          refine g_iload_n hC 3 dX5_leave_52 rfl ?_
          refine g_iload_n hC 2 dX5_leave_53 rfl ?_
          obtain ⟨hc30, h⟩ := h
          refine g_callV hC (As := [.int p1, .int p0]) (fun l D dA ht => s_X1_ofLeave l D dA ht _ _ _ _ _ h) wm_3_85 wm_3_82 wm_3_83 wm_3_84 wm_1_4 (by decide +kernel : plainY yX1_ofLeave 2) kc1.1 kc1.2.1 dX5_leave_54 (by decide) (Nat.le_of_ble_eq_true rfl) hc30 (Or.inl ⟨rfl, rfl⟩) ?_
          intro M9 v9 h
          obtain ⟨r32, rfl, h⟩ := h
          generalize M9 = M31 at h ⊢
          show G X 4 M31 (0 + c2 + c4 + c7 + c10) (0 + s3 + s5 + s8 + s11) 57 [(3, .int x15), (0, .ref a0), (1, .int p0), (2, .int p1)] [va_rf r32, .int ((-1)), .int x15, .ref b27]
          obtain ⟨b33, eb33, h⟩ := h
          subst eb33
          obtain ⟨hc34, h⟩ := h
          obtain ⟨c35, s36, hc35, h⟩ := h
          refine g_callV hC (As := [.int x15, .int ((-1)), .ref b33]) (fun l D dA ht => s_X4_spread l D dA ht _ _ _ _ _ _ _ _ h) wm_2_196 wm_2_193 wm_2_194 wm_2_195 wm_1_2 (by decide +kernel : plainY yX4_spread 3) kc4.1 kc4.2.1 dX5_leave_57 (by decide) (Nat.le_of_ble_eq_true rfl) hc34 (Or.inr hc35) ?_
          intro M9 v9 h
          obtain ⟨rfl, h⟩ := h
          generalize M9 = M37 at h ⊢
          show G X 4 M37 (0 + c2 + c4 + c7 + c10 + c35) (0 + s3 + s5 + s8 + s11 + s36) 60 [(3, .int x15), (0, .ref a0), (1, .int p0), (2, .int p1)] []
          refine g_aload_n (r := (some a0)) hC 1 dX5_leave_60 rfl ?_
          refine g_dup hC dX5_leave_61 rfl ?_
          obtain ⟨hc38, h⟩ := h
          refine g_getI hC kc5 7 (by decide) wm_1_154 dX5_leave_62 rfl hc38 ?_
          refine g_pc (pc' := 65) rfl ?_
          refine g_iconst (v := 1) hC dX5_leave_65 (by decide) ?_
          refine g_iadd hC dX5_leave_66 ?_
          obtain ⟨hc39, h⟩ := h
          refine g_putI hC kc5 7 (by decide) wm_1_154 dX5_leave_67 rfl rfl (Or.inl rfl) hc39 ?_
          obtain ⟨M40, eM40⟩ : ∃ w, w = sI M37 a0 7 ((gI M37 a0 7) + 1) := ⟨_, rfl⟩
          replace h := h M40 eM40
          rw [← eM40]
          exact hR.1 rfl _ _ _ _ _ dX5_leave_70 ⟨rfl, h⟩

def w_X5_setModes (mc ms : Nat) (M : Mem) (a0 : Nat) (p0 : Int32) (p1 : Int32) (p2 : Int32) (p3 : Int32) (xp : String → Mem → Prop) (post : Mem → Int32 → Prop) : Prop :=
  gT M a0 = some (5, 0) ∧ ∃ c2 s3, (0 + c2 ≤ mc ∧ 0 + s3 ≤ ms) ∧ w_X5_checkUser c2 s3 M a0 p0 (fun E M => xp E M) (∃ c4 s5, ((0 + c2) + c4 ≤ mc ∧ (0 + s3) + s5 ≤ ms) ∧ w_X5_checkChannel c4 s5 M p1 (fun E M => xp E M) (∀ J6 : Prop, (((0 + c2 + c4 + 1 ≤ mc ∧ 0 + s3 + s5 + 6 ≤ ms) ∧ xp iae M) → J6) → ((p2 < 0 → J6) ∧ (¬ (p2 < 0) → (15 < p2 → J6) ∧ (¬ (15 < p2) → (p3 < 0 → J6) ∧ (¬ (p3 < 0) → (p3 ≤ 67108863 → gT M a0 = some (5, 0) ∧ ∃ c8 s9, ((0 + c2 + c4) + c8 ≤ mc ∧ (0 + s3 + s5) + s9 ≤ ms) ∧ w_X5_checkNotGone c8 s9 M a0 p0 (fun E M => xp E M) (gT M a0 = some (5, 0) ∧ ∃ c11 s12, ((0 + c2 + c4 + c8) + c11 ≤ mc ∧ (0 + s3 + s5 + s9) + s12 ≤ ms) ∧ w_X5_checkMember c11 s12 M a0 p0 p1 (fun E M => xp E M) (gT M a0 = some (5, 0) ∧ ∃ b14, gR M a0 2 = some b14 ∧ inA M b14 10 p0 ∧ ∀ x16, x16 = gI M b14 (Int32.toNatClampNeg p0) → gT M a0 = some (5, 0) ∧ ∃ b18, gR M a0 0 = some b18 ∧ inA M b18 12 x16 ∧ ∃ b20, gR M b18 (Int32.toNatClampNeg x16) = some b20 ∧ gT M b20 = some (3, 0) ∧ ∃ b22, gR M b20 1 = some b22 ∧ inA M b22 13 p1 ∧ ∃ b24, gR M b22 (Int32.toNatClampNeg p1) = some b24 ∧ gT M b24 = some (0, 0) ∧ ∀ x26, x26 = gI M b24 1 → gT M b24 = some (0, 0) ∧ ∀ M28, M28 = sI M b24 1 p2 → gT M28 b24 = some (0, 0) ∧ ∀ M30, M30 = sI M28 b24 2 p3 → gT M30 a0 = some (5, 0) ∧ ∃ b32, gR M30 a0 1 = some b32 ∧ gT M30 a0 = some (5, 0) ∧ ∃ b34, gR M30 a0 5 = some b34 ∧ gT M30 b34 = some (1, 0) ∧ w_X1_ofChannel M30 b34 4 p1 b24 0 (fun M36 r37 => ∃ b38, r37 = some b38 ∧ gT M36 b32 = some (4, 0) ∧ ∃ c40 s41, ((0 + c2 + c4 + c8 + c11) + c40 ≤ mc ∧ (0 + s3 + s5 + s9 + s12) + s41 ≤ ms) ∧ w_X4_spread c40 s41 M36 b32 x16 ((-1)) b38 (fun M42 => gT M42 a0 = some (5, 0) ∧ gT M42 a0 = some (5, 0) ∧ ∀ M45, M45 = sI M42 a0 7 ((gI M42 a0 7) + 1) → post M45 x26))))) ∧ (¬ (p3 ≤ 67108863) → J6)))))))
set_option maxRecDepth 100000 in
set_option maxHeartbeats 8000000 in
theorem s_X5_setModes (l : Launch) (D : va_G) (dA : Nat → ClassId) (htr : l.stackTraces = false) (mc ms : Nat) (M : Mem) (a0 : Nat) (p0 : Int32) (p1 : Int32) (p2 : Int32) (p3 : Int32) (xp : String → Mem → Prop) (post : Mem → Int32 → Prop) (h : w_X5_setModes mc ms M a0 p0 p1 p2 p3 xp post) : CtX l D dA yX5_setModes cX5_setModes 8 (some .int) 7 [.ref a0, .int p0, .int p1, .int p2, .int p3] M mc ms xp (pI post) := by
  refine ct_ofX htr (by decide) (Nat.le_of_ble_eq_true rfl) (by decide) rfl ?_
  intro X hC hR hThrow hOut
  show G X 8 M 0 0 0 [(0, .ref a0), (1, .int p0), (2, .int p1), (3, .int p2), (4, .int p3)] []
  unfold w_X5_setModes at h
  refine g_aload_n (r := (some a0)) hC 0 dX5_setModes_0 rfl ?_
  refine g_iload_n hC 1 dX5_setModes_1 rfl ?_
  obtain ⟨hc1, h⟩ := h
  obtain ⟨c2, s3, hc2, h⟩ := h
  refine gx_callV hC (As := [.int p0]) (fun l D dA ht => s_X5_checkUser l D dA ht _ _ _ _ _ _ _ h) wm_3_21 wm_3_18 wm_3_20 wm_0_9 wm_1_1 (by decide +kernel : plainY yX5_checkUser 1) kc5.1 kc5.2.1 dX5_setModes_2 (by decide) (Nat.le_of_ble_eq_true rfl) hc1 (Or.inr hc2) ?_ ?_
  · exact fun M E h => hOut _ _ _ _ _ _ _ h
  · intro M9 v9 h
    obtain ⟨rfl, h⟩ := h
    obtain ⟨hM9, h⟩ := h
    rw [hM9]
    show G X 8 M (0 + c2) (0 + s3) 5 [(0, .ref a0), (1, .int p0), (2, .int p1), (3, .int p2), (4, .int p3)] []
    refine g_iload_n hC 2 dX5_setModes_5 rfl ?_
    obtain ⟨c4, s5, hc4, h⟩ := h
    refine gx_callS hC (As := [.int p1]) (fun l D dA ht => s_X5_checkChannel l D dA ht _ _ _ _ _ _ h) wm_2_51 wm_2_49 wm_2_50 wm_1_1 (by decide +kernel : plainY yX5_checkChannel 1) dX5_setModes_6 (by decide) (Nat.le_of_ble_eq_true rfl) (Or.inr hc4) ?_ ?_
    · exact fun M E h => hOut _ _ _ _ _ _ _ h
    · intro M9 v9 h
      obtain ⟨rfl, h⟩ := h
      obtain ⟨hM9, h⟩ := h
      rw [hM9]
      show G X 8 M (0 + c2 + c4) (0 + s3 + s5) 9 [(0, .ref a0), (1, .int p0), (2, .int p1), (3, .int p2), (4, .int p3)] []
      refine g_iload_n hC 3 dX5_setModes_9 rfl ?_
      replace h := h (G X 8 M (0 + c2 + c4) (0 + s3 + s5) 31 [(0, .ref a0), (1, .int p0), (2, .int p1), (3, .int p2), (4, .int p3)] []) (by
        intro h
        exact hThrow _ _ _ _ _ _ _ _ _ _ _ dX5_setModes_31 dX5_setModes_34 dX5_setModes_35 dX5_setModes_37 dX5_setModes_40 tw_iae xs_177 (by first | exact Nat.le_of_ble_eq_true rfl | decide) h.1 h.2)
      refine g_if_lt hC 31 dX5_setModes_10 (by decide) (fun c49 => ?_) (fun c49 => ?_)
      · replace h := h.1 c49
        exact h
      · replace h := h.2 c49
        refine g_pc (pc' := 13) rfl ?_
        refine g_iload_n hC 3 dX5_setModes_13 rfl ?_
        refine g_bipush (v := 15) hC dX5_setModes_14 (by decide) ?_
        refine g_icmp_gt hC 31 dX5_setModes_16 (by decide) (fun c48 => ?_) (fun c48 => ?_)
        · replace h := h.1 c48
          exact h
        · replace h := h.2 c48
          refine g_iload hC 4 dX5_setModes_19 rfl ?_
          refine g_if_lt hC 31 dX5_setModes_21 (by decide) (fun c47 => ?_) (fun c47 => ?_)
          · replace h := h.1 c47
            exact h
          · replace h := h.2 c47
            refine g_iload hC 4 dX5_setModes_24 rfl ?_
            refine g_ldc hC wm_3_93 dX5_setModes_26 ?_
            refine g_icmp_le hC 41 dX5_setModes_28 (by decide) (fun c46 => ?_) (fun c46 => ?_)
            · replace h := h.1 c46
              refine g_pc (pc' := 41) rfl ?_
              refine g_aload_n (r := (some a0)) hC 0 dX5_setModes_41 rfl ?_
              refine g_iload_n hC 1 dX5_setModes_42 rfl ?_
              obtain ⟨hc7, h⟩ := h
              obtain ⟨c8, s9, hc8, h⟩ := h
              refine gx_callV hC (As := [.int p0]) (fun l D dA ht => s_X5_checkNotGone l D dA ht _ _ _ _ _ _ _ h) wm_3_53 wm_3_50 wm_3_52 wm_0_13 wm_1_1 (by decide +kernel : plainY yX5_checkNotGone 1) kc5.1 kc5.2.1 dX5_setModes_43 (by decide) (Nat.le_of_ble_eq_true rfl) hc7 (Or.inr hc8) ?_ ?_
              · exact fun M E h => hOut _ _ _ _ _ _ _ h
              · intro M9 v9 h
                obtain ⟨rfl, h⟩ := h
                obtain ⟨hM9, h⟩ := h
                rw [hM9]
                show G X 8 M (0 + c2 + c4 + c8) (0 + s3 + s5 + s9) 46 [(0, .ref a0), (1, .int p0), (2, .int p1), (3, .int p2), (4, .int p3)] []
                refine g_aload_n (r := (some a0)) hC 0 dX5_setModes_46 rfl ?_
                refine g_iload_n hC 1 dX5_setModes_47 rfl ?_
                refine g_iload_n hC 2 dX5_setModes_48 rfl ?_
                obtain ⟨hc10, h⟩ := h
                obtain ⟨c11, s12, hc11, h⟩ := h
                refine gx_callV hC (As := [.int p0, .int p1]) (fun l D dA ht => s_X5_checkMember l D dA ht _ _ _ _ _ _ _ _ h) wm_3_80 wm_3_77 wm_3_79 wm_0_14 wm_1_1 (by decide +kernel : plainY yX5_checkMember 2) kc5.1 kc5.2.1 dX5_setModes_49 (by decide) (Nat.le_of_ble_eq_true rfl) hc10 (Or.inr hc11) ?_ ?_
                · exact fun M E h => hOut _ _ _ _ _ _ _ h
                · intro M9 v9 h
                  obtain ⟨rfl, h⟩ := h
                  obtain ⟨hM9, h⟩ := h
                  rw [hM9]
                  show G X 8 M (0 + c2 + c4 + c8 + c11) (0 + s3 + s5 + s9 + s12) 52 [(0, .ref a0), (1, .int p0), (2, .int p1), (3, .int p2), (4, .int p3)] []
                  refine g_aload_n (r := (some a0)) hC 0 dX5_setModes_52 rfl ?_
                  obtain ⟨hc13, h⟩ := h
                  obtain ⟨b14, eb14, h⟩ := h
                  refine g_pc (pc' := 53) rfl ?_
                  refine g_getA hC kc5 2 (by decide) wm_1_149 dX5_setModes_53 rfl hc13 eb14 ?_
                  refine g_iload_n hC 1 dX5_setModes_56 rfl ?_
                  obtain ⟨hc15, h⟩ := h
                  refine g_ialdA hC dX5_setModes_57 hc15 ?_
                  obtain ⟨x16, ex16⟩ : ∃ w, w = gI M b14 (Int32.toNatClampNeg p0) := ⟨_, rfl⟩
                  replace h := h x16 ex16
                  rw [← ex16]
                  refine g_istore (lv' := [(5, .int x16), (0, .ref a0), (1, .int p0), (2, .int p1), (3, .int p2), (4, .int p3)]) hC dX5_setModes_58 (by decide) rfl ?_
                  refine g_aload_n (r := (some a0)) hC 1 dX5_setModes_60 rfl ?_
                  obtain ⟨hc17, h⟩ := h
                  obtain ⟨b18, eb18, h⟩ := h
                  refine g_getA hC kc5 0 (by decide) wm_1_147 dX5_setModes_61 rfl hc17 eb18 ?_
                  refine g_iload hC 0 dX5_setModes_64 rfl ?_
                  obtain ⟨hc19, h⟩ := h
                  obtain ⟨b20, eb20, h⟩ := h
                  refine g_aaldA hC (by decide) dX5_setModes_66 hc19 eb20 ?_
                  obtain ⟨hc21, h⟩ := h
                  obtain ⟨b22, eb22, h⟩ := h
                  refine g_pc (pc' := 67) rfl ?_
                  refine g_getA hC kc3 1 (by decide) wm_1_141 dX5_setModes_67 rfl hc21 eb22 ?_
                  refine g_iload_n hC 3 dX5_setModes_70 rfl ?_
                  obtain ⟨hc23, h⟩ := h
                  obtain ⟨b24, eb24, h⟩ := h
                  refine g_aaldA hC (by decide) dX5_setModes_71 hc23 eb24 ?_
                  refine g_astore (r := (some b24)) (lv' := [(6, .ref b24), (5, .int x16), (0, .ref a0), (1, .int p0), (2, .int p1), (3, .int p2), (4, .int p3)]) hC dX5_setModes_72 (by decide) rfl ?_
                  refine g_aload (r := (some b24)) hC 0 dX5_setModes_74 rfl ?_
                  obtain ⟨hc25, h⟩ := h
                  refine g_getI hC kc0 1 (by decide) wm_1_123 dX5_setModes_76 rfl hc25 ?_
                  obtain ⟨x26, ex26⟩ : ∃ w, w = gI M b24 1 := ⟨_, rfl⟩
                  replace h := h x26 ex26
                  rw [← ex26]
                  refine g_istore (lv' := [(7, .int x26), (6, .ref b24), (5, .int x16), (0, .ref a0), (1, .int p0), (2, .int p1), (3, .int p2), (4, .int p3)]) hC dX5_setModes_79 (by decide) rfl ?_
                  refine g_aload (r := (some b24)) hC 1 dX5_setModes_81 rfl ?_
                  refine g_pc (pc' := 83) rfl ?_
                  refine g_iload_n hC 6 dX5_setModes_83 rfl ?_
                  obtain ⟨hc27, h⟩ := h
                  refine g_putI hC kc0 1 (by decide) wm_1_123 dX5_setModes_84 rfl rfl (Or.inl rfl) hc27 ?_
                  obtain ⟨M28, eM28⟩ : ∃ w, w = sI M b24 1 p2 := ⟨_, rfl⟩
                  replace h := h M28 eM28
                  rw [← eM28]
                  refine g_aload (r := (some b24)) hC 1 dX5_setModes_87 rfl ?_
                  refine g_iload hC 7 dX5_setModes_89 rfl ?_
                  obtain ⟨hc29, h⟩ := h
                  refine g_putI hC kc0 2 (by decide) wm_1_126 dX5_setModes_91 rfl rfl (Or.inl rfl) hc29 ?_
                  obtain ⟨M30, eM30⟩ : ∃ w, w = sI M28 b24 2 p3 := ⟨_, rfl⟩
                  replace h := h M30 eM30
                  rw [← eM30]
                  refine g_aload_n (r := (some a0)) hC 3 dX5_setModes_94 rfl ?_
                  obtain ⟨hc31, h⟩ := h
                  obtain ⟨b32, eb32, h⟩ := h
                  refine g_getA hC kc5 1 (by decide) wm_1_148 dX5_setModes_95 rfl hc31 eb32 ?_
                  refine g_iload hC 2 dX5_setModes_98 rfl ?_
                  refine g_pc (pc' := 100) rfl ?_
                  refine g_iconst (v := (-1)) hC dX5_setModes_100 (by decide) ?_
                  refine g_aload_n (r := (some a0)) hC 3 dX5_setModes_101 rfl ?_
                  obtain ⟨hc33, h⟩ := h
                  obtain ⟨b34, eb34, h⟩ := h
                  refine g_getA hC kc5 5 (by decide) wm_1_152 dX5_setModes_102 rfl hc33 eb34 ?_
                  refine g_iconst (v := 4) hC dX5_setModes_105 (by decide) ?_
                  refine g_iload_n hC 5 dX5_setModes_106 rfl ?_
                  refine g_aload (r := (some b24)) hC 1 dX5_setModes_107 rfl ?_
                  refine g_iconst (v := 0) hC dX5_setModes_109 (by decide) ?_
                  obtain ⟨hc35, h⟩ := h
                  refine g_callV hC (As := [.int 4, .int p1, .ref b24, .int 0]) (fun l D dA ht => s_X1_ofChannel l D dA ht _ _ _ _ _ _ _ h) wm_2_113 wm_2_110 wm_2_111 wm_2_112 wm_1_4 (by decide +kernel : plainY yX1_ofChannel 4) kc1.1 kc1.2.1 dX5_setModes_110 (by decide) (Nat.le_of_ble_eq_true rfl) hc35 (Or.inl ⟨rfl, rfl⟩) ?_
                  intro M9 v9 h
                  obtain ⟨r37, rfl, h⟩ := h
                  generalize M9 = M36 at h ⊢
                  show G X 8 M36 (0 + c2 + c4 + c8 + c11) (0 + s3 + s5 + s9 + s12) 113 [(7, .int x26), (6, .ref b24), (5, .int x16), (0, .ref a0), (1, .int p0), (2, .int p1), (3, .int p2), (4, .int p3)] [va_rf r37, .int ((-1)), .int x16, .ref b32]
                  refine g_pc (pc' := 113) rfl ?_
                  obtain ⟨b38, eb38, h⟩ := h
                  subst eb38
                  obtain ⟨hc39, h⟩ := h
                  obtain ⟨c40, s41, hc40, h⟩ := h
                  refine g_callV hC (As := [.int x16, .int ((-1)), .ref b38]) (fun l D dA ht => s_X4_spread l D dA ht _ _ _ _ _ _ _ _ h) wm_2_196 wm_2_193 wm_2_194 wm_2_195 wm_1_2 (by decide +kernel : plainY yX4_spread 3) kc4.1 kc4.2.1 dX5_setModes_113 (by decide) (Nat.le_of_ble_eq_true rfl) hc39 (Or.inr hc40) ?_
                  intro M9 v9 h
                  obtain ⟨rfl, h⟩ := h
                  generalize M9 = M42 at h ⊢
                  show G X 8 M42 (0 + c2 + c4 + c8 + c11 + c40) (0 + s3 + s5 + s9 + s12 + s41) 116 [(7, .int x26), (6, .ref b24), (5, .int x16), (0, .ref a0), (1, .int p0), (2, .int p1), (3, .int p2), (4, .int p3)] []
                  refine g_aload_n (r := (some a0)) hC 3 dX5_setModes_116 rfl ?_
                  refine g_dup hC dX5_setModes_117 rfl ?_
                  obtain ⟨hc43, h⟩ := h
                  refine g_getI hC kc5 7 (by decide) wm_1_154 dX5_setModes_118 rfl hc43 ?_
                  refine g_iconst (v := 1) hC dX5_setModes_121 (by decide) ?_
                  refine g_iadd hC dX5_setModes_122 ?_
                  obtain ⟨hc44, h⟩ := h
                  refine g_putI hC kc5 7 (by decide) wm_1_154 dX5_setModes_123 rfl rfl (Or.inl rfl) hc44 ?_
                  obtain ⟨M45, eM45⟩ : ∃ w, w = sI M42 a0 7 ((gI M42 a0 7) + 1) := ⟨_, rfl⟩
                  replace h := h M45 eM45
                  rw [← eM45]
                  refine g_iload hC 0 dX5_setModes_126 rfl ?_
                  refine g_pc (pc' := 128) rfl ?_
                  exact hR.2.1 rfl _ _ _ _ _ _ dX5_setModes_128 ⟨_, rfl, h⟩
            · replace h := h.2 c46
              exact h

def w_X5_eldestOf (M : Mem) (a0 : Nat) (p0 : Int32) (post : Int32 → Prop) : Prop :=
  Lp (fun (K3 : Int32 × Int32 → Prop) (z : Int32 × Int32) => ∀ (x1 : Int32) (x2 : Int32), z = (x1, x2) → (gT M a0 = some (5, 0) ∧ ((gI M a0 6) ≤ x2 → post x1) ∧ (¬ ((gI M a0 6) ≤ x2) → w_X5_has M p0 x2 (fun x5 => ∀ J7 : Int32 → Prop, (∀ (x6 : Int32), (∀ x8, x8 = x2 + 1 → K3 (x6, x8)) → J7 x6) → ((x5 = 0 → J7 x1) ∧ (¬ (x5 = 0) → ∀ J9 : Prop, ((J7 x2) → J9) → ((x1 = (-1) → J9) ∧ (¬ (x1 = (-1)) → gT M a0 = some (5, 0) ∧ ∃ b11, gR M a0 4 = some b11 ∧ inA M b11 10 x2 ∧ gT M a0 = some (5, 0) ∧ ∃ b14, gR M a0 4 = some b14 ∧ inA M b14 10 x1 ∧ ((gI M b14 (Int32.toNatClampNeg x1)) ≤ (gI M b11 (Int32.toNatClampNeg x2)) → J7 x1) ∧ (¬ ((gI M b14 (Int32.toNatClampNeg x1)) ≤ (gI M b11 (Int32.toNatClampNeg x2))) → J9))))))))) ((-1), 0)
set_option maxRecDepth 100000 in
set_option maxHeartbeats 8000000 in
theorem s_X5_eldestOf (l : Launch) (D : va_G) (dA : Nat → ClassId) (htr : l.stackTraces = false) (M : Mem) (a0 : Nat) (p0 : Int32) (post : Int32 → Prop) (h : w_X5_eldestOf M a0 p0 post) : CtN l D dA yX5_eldestOf cX5_eldestOf 4 (some .int) 2 [.ref a0, .int p0] M 0 0 (pI (fun M' r => M' = M ∧ post r)) := by
  refine ct_ofN htr (by decide) (Nat.le_of_ble_eq_true rfl) ?_
  intro X hC hN hR
  show G X 4 M 0 0 0 [(0, .ref a0), (1, .int p0)] []
  unfold w_X5_eldestOf at h
  refine g_iconst (v := (-1)) hC dX5_eldestOf_0 (by decide) ?_
  refine g_istore_n (lv' := [(2, .int ((-1))), (0, .ref a0), (1, .int p0)]) hC dX5_eldestOf_1 (by decide) rfl ?_
  refine g_iconst (v := 0) hC dX5_eldestOf_2 (by decide) ?_
  refine g_istore_n (lv' := [(3, .int 0), (2, .int ((-1))), (0, .ref a0), (1, .int p0)]) hC dX5_eldestOf_3 (by decide) rfl ?_
  refine g_sub [2, 3, 1, 0] (lv' := [(0, .ref a0), (1, .int p0), (2, .int ((-1))), (3, .int 0)]) rfl ?_
  refine Lp_use (fun (z20 : Int32 × Int32) => G X 4 M 0 0 4 [(0, .ref a0), (1, .int p0), (2, .int z20.1), (3, .int z20.2)] []) h ?_
  intro K3 z hK_K3 h
  obtain ⟨x1, x2⟩ := z
  replace h := h _ _ rfl
  show G X 4 M 0 0 4 [(0, .ref a0), (1, .int p0), (2, .int x1), (3, .int x2)] []
  refine g_iload_n hC 3 dX5_eldestOf_4 rfl ?_
  refine g_aload_n (r := (some a0)) hC 0 dX5_eldestOf_5 rfl ?_
  obtain ⟨hc4, h⟩ := h
  refine g_getI hC kc5 6 (by decide) wm_1_153 dX5_eldestOf_6 rfl hc4 ?_
  refine g_pc (pc' := 9) rfl ?_
  refine g_icmp_ge hC 48 dX5_eldestOf_9 (by decide) (fun c19 => ?_) (fun c19 => ?_)
  · replace h := h.1 c19
    refine g_iload_n hC 2 dX5_eldestOf_48 rfl ?_
    exact hR.2.1 rfl _ _ _ _ _ _ dX5_eldestOf_49 ⟨_, rfl, rfl, h⟩
  · replace h := h.2 c19
    refine g_iload_n hC 1 dX5_eldestOf_12 rfl ?_
    refine g_iload_n hC 3 dX5_eldestOf_13 rfl ?_
    refine g_callS hC (As := [.int p0, .int x2]) (fun l D dA ht => s_X5_has l D dA ht _ _ _ _ h) wm_2_17 wm_2_57 wm_2_16 wm_1_1 (by decide +kernel : plainY yX5_has 2) dX5_eldestOf_14 (by decide) (Nat.le_of_ble_eq_true rfl) (Or.inl ⟨rfl, rfl⟩) ?_
    intro M9 v9 h
    obtain ⟨x5, rfl, h⟩ := h
    obtain ⟨hM9, h⟩ := h
    rw [hM9]
    show G X 4 M 0 0 17 [(0, .ref a0), (1, .int p0), (2, .int x1), (3, .int x2)] [.int x5]
    replace h := h (fun (x6 : Int32) => G X 4 M 0 0 42 [(0, .ref a0), (1, .int p0), (2, .int x6), (3, .int x2)] []) (by
      intro x6 h
      show G X 4 M 0 0 42 [(0, .ref a0), (1, .int p0), (2, .int x6), (3, .int x2)] []
      obtain ⟨x8, ex8⟩ : ∃ w, w = x2 + 1 := ⟨_, rfl⟩
      replace h := h x8 ex8
      refine g_iinc (v := x8) (lv' := [(3, .int x8), (0, .ref a0), (1, .int p0), (2, .int x6)]) hC 3 dX5_eldestOf_42 rfl (by rw [ex8]; rfl) (by decide) rfl ?_
      refine g_goto hC 4 dX5_eldestOf_45 (by decide) ?_
      refine g_sub [1, 2, 3, 0] (lv' := [(0, .ref a0), (1, .int p0), (2, .int x6), (3, .int x8)]) rfl ?_
      exact hK_K3 _ h)
    refine g_if_eq hC 42 dX5_eldestOf_17 (by decide) (fun c18 => ?_) (fun c18 => ?_)
    · replace h := h.1 c18
      exact h
    · replace h := h.2 c18
      refine g_iload_n hC 2 dX5_eldestOf_20 rfl ?_
      refine g_iconst (v := (-1)) hC dX5_eldestOf_21 (by decide) ?_
      replace h := h (G X 4 M 0 0 40 [(0, .ref a0), (1, .int p0), (2, .int x1), (3, .int x2)] []) (by
        intro h
        refine g_iload_n hC 3 dX5_eldestOf_40 rfl ?_
        refine g_pc (pc' := 41) rfl ?_
        refine g_istore_n (lv' := [(2, .int x2), (0, .ref a0), (1, .int p0), (3, .int x2)]) hC dX5_eldestOf_41 (by decide) rfl ?_
        refine g_sub [1, 2, 0, 3] (lv' := [(0, .ref a0), (1, .int p0), (2, .int x2), (3, .int x2)]) rfl ?_
        exact h)
      refine g_icmp_eq hC 40 dX5_eldestOf_22 (by decide) (fun c17 => ?_) (fun c17 => ?_)
      · replace h := h.1 c17
        exact h
      · replace h := h.2 c17
        refine g_pc (pc' := 25) rfl ?_
        refine g_aload_n (r := (some a0)) hC 0 dX5_eldestOf_25 rfl ?_
        obtain ⟨hc10, h⟩ := h
        obtain ⟨b11, eb11, h⟩ := h
        refine g_getA hC kc5 4 (by decide) wm_1_151 dX5_eldestOf_26 rfl hc10 eb11 ?_
        refine g_iload_n hC 3 dX5_eldestOf_29 rfl ?_
        obtain ⟨hc12, h⟩ := h
        refine g_ialdA hC dX5_eldestOf_30 hc12 ?_
        refine g_aload_n (r := (some a0)) hC 0 dX5_eldestOf_31 rfl ?_
        obtain ⟨hc13, h⟩ := h
        obtain ⟨b14, eb14, h⟩ := h
        refine g_getA hC kc5 4 (by decide) wm_1_151 dX5_eldestOf_32 rfl hc13 eb14 ?_
        refine g_iload_n hC 2 dX5_eldestOf_35 rfl ?_
        obtain ⟨hc15, h⟩ := h
        refine g_ialdA hC dX5_eldestOf_36 hc15 ?_
        refine g_pc (pc' := 37) rfl ?_
        refine g_icmp_ge hC 42 dX5_eldestOf_37 (by decide) (fun c16 => ?_) (fun c16 => ?_)
        · replace h := h.1 c16
          exact h
        · replace h := h.2 c16
          exact h

def w_X5_homesOf (M : Mem) (a0 : Nat) (p0 : Int32) (post : Int32 → Prop) : Prop :=
  Lp (fun (K3 : Int32 × Int32 → Prop) (z : Int32 × Int32) => ∀ (x1 : Int32) (x2 : Int32), z = (x1, x2) → (gT M a0 = some (5, 0) ∧ ((gI M a0 6) ≤ x2 → post x1) ∧ (¬ ((gI M a0 6) ≤ x2) → w_X5_has M p0 x2 (fun x5 => ∀ J7 : Int32 → Prop, (∀ (x6 : Int32), (∀ x8, x8 = x2 + 1 → K3 (x6, x8)) → J7 x6) → ((x5 = 0 → J7 x1) ∧ (¬ (x5 = 0) → gT M a0 = some (5, 0) ∧ ∃ b10, gR M a0 2 = some b10 ∧ inA M b10 10 x2 ∧ ∀ x12, x12 = x1 ||| (1 <<< ((gI M b10 (Int32.toNatClampNeg x2)) &&& 31)) → J7 x12)))))) (0, 0)
set_option maxRecDepth 100000 in
set_option maxHeartbeats 8000000 in
theorem s_X5_homesOf (l : Launch) (D : va_G) (dA : Nat → ClassId) (htr : l.stackTraces = false) (M : Mem) (a0 : Nat) (p0 : Int32) (post : Int32 → Prop) (h : w_X5_homesOf M a0 p0 post) : CtN l D dA yX5_homesOf cX5_homesOf 4 (some .int) 2 [.ref a0, .int p0] M 0 0 (pI (fun M' r => M' = M ∧ post r)) := by
  refine ct_ofN htr (by decide) (Nat.le_of_ble_eq_true rfl) ?_
  intro X hC hN hR
  show G X 4 M 0 0 0 [(0, .ref a0), (1, .int p0)] []
  unfold w_X5_homesOf at h
  refine g_iconst (v := 0) hC dX5_homesOf_0 (by decide) ?_
  refine g_istore_n (lv' := [(2, .int 0), (0, .ref a0), (1, .int p0)]) hC dX5_homesOf_1 (by decide) rfl ?_
  refine g_iconst (v := 0) hC dX5_homesOf_2 (by decide) ?_
  refine g_istore_n (lv' := [(3, .int 0), (2, .int 0), (0, .ref a0), (1, .int p0)]) hC dX5_homesOf_3 (by decide) rfl ?_
  refine g_sub [2, 3, 1, 0] (lv' := [(0, .ref a0), (1, .int p0), (2, .int 0), (3, .int 0)]) rfl ?_
  refine Lp_use (fun (z15 : Int32 × Int32) => G X 4 M 0 0 4 [(0, .ref a0), (1, .int p0), (2, .int z15.1), (3, .int z15.2)] []) h ?_
  intro K3 z hK_K3 h
  obtain ⟨x1, x2⟩ := z
  replace h := h _ _ rfl
  show G X 4 M 0 0 4 [(0, .ref a0), (1, .int p0), (2, .int x1), (3, .int x2)] []
  refine g_iload_n hC 3 dX5_homesOf_4 rfl ?_
  refine g_aload_n (r := (some a0)) hC 0 dX5_homesOf_5 rfl ?_
  obtain ⟨hc4, h⟩ := h
  refine g_getI hC kc5 6 (by decide) wm_1_153 dX5_homesOf_6 rfl hc4 ?_
  refine g_pc (pc' := 9) rfl ?_
  refine g_icmp_ge hC 37 dX5_homesOf_9 (by decide) (fun c14 => ?_) (fun c14 => ?_)
  · replace h := h.1 c14
    refine g_iload_n hC 2 dX5_homesOf_37 rfl ?_
    exact hR.2.1 rfl _ _ _ _ _ _ dX5_homesOf_38 ⟨_, rfl, rfl, h⟩
  · replace h := h.2 c14
    refine g_iload_n hC 1 dX5_homesOf_12 rfl ?_
    refine g_iload_n hC 3 dX5_homesOf_13 rfl ?_
    refine g_callS hC (As := [.int p0, .int x2]) (fun l D dA ht => s_X5_has l D dA ht _ _ _ _ h) wm_2_17 wm_2_57 wm_2_16 wm_1_1 (by decide +kernel : plainY yX5_has 2) dX5_homesOf_14 (by decide) (Nat.le_of_ble_eq_true rfl) (Or.inl ⟨rfl, rfl⟩) ?_
    intro M9 v9 h
    obtain ⟨x5, rfl, h⟩ := h
    obtain ⟨hM9, h⟩ := h
    rw [hM9]
    show G X 4 M 0 0 17 [(0, .ref a0), (1, .int p0), (2, .int x1), (3, .int x2)] [.int x5]
    replace h := h (fun (x6 : Int32) => G X 4 M 0 0 31 [(0, .ref a0), (1, .int p0), (2, .int x6), (3, .int x2)] []) (by
      intro x6 h
      show G X 4 M 0 0 31 [(0, .ref a0), (1, .int p0), (2, .int x6), (3, .int x2)] []
      obtain ⟨x8, ex8⟩ : ∃ w, w = x2 + 1 := ⟨_, rfl⟩
      replace h := h x8 ex8
      refine g_iinc (v := x8) (lv' := [(3, .int x8), (0, .ref a0), (1, .int p0), (2, .int x6)]) hC 3 dX5_homesOf_31 rfl (by rw [ex8]; rfl) (by decide) rfl ?_
      refine g_goto hC 4 dX5_homesOf_34 (by decide) ?_
      refine g_sub [1, 2, 3, 0] (lv' := [(0, .ref a0), (1, .int p0), (2, .int x6), (3, .int x8)]) rfl ?_
      exact hK_K3 _ h)
    refine g_if_eq hC 31 dX5_homesOf_17 (by decide) (fun c13 => ?_) (fun c13 => ?_)
    · replace h := h.1 c13
      exact h
    · replace h := h.2 c13
      refine g_iload_n hC 2 dX5_homesOf_20 rfl ?_
      refine g_iconst (v := 1) hC dX5_homesOf_21 (by decide) ?_
      refine g_aload_n (r := (some a0)) hC 0 dX5_homesOf_22 rfl ?_
      obtain ⟨hc9, h⟩ := h
      obtain ⟨b10, eb10, h⟩ := h
      refine g_pc (pc' := 23) rfl ?_
      refine g_getA hC kc5 2 (by decide) wm_1_149 dX5_homesOf_23 rfl hc9 eb10 ?_
      refine g_iload_n hC 3 dX5_homesOf_26 rfl ?_
      obtain ⟨hc11, h⟩ := h
      refine g_ialdA hC dX5_homesOf_27 hc11 ?_
      refine g_ishl hC dX5_homesOf_28 ?_
      refine g_ior hC dX5_homesOf_29 ?_
      obtain ⟨x12, ex12⟩ : ∃ w, w = x1 ||| (1 <<< ((gI M b10 (Int32.toNatClampNeg x2)) &&& 31)) := ⟨_, rfl⟩
      replace h := h x12 ex12
      rw [← ex12]
      refine g_istore_n (lv' := [(2, .int x12), (0, .ref a0), (1, .int p0), (3, .int x2)]) hC dX5_homesOf_30 (by decide) rfl ?_
      refine g_sub [1, 2, 0, 3] (lv' := [(0, .ref a0), (1, .int p0), (2, .int x12), (3, .int x2)]) rfl ?_
      exact h

def w_X5_say (mc ms : Nat) (M : Mem) (a0 : Nat) (p0 : Int32) (p1 : Int32) (xp : String → Mem → Prop) (post : Int32 → Prop) : Prop :=
  gT M a0 = some (5, 0) ∧ ∃ c2 s3, (0 + c2 ≤ mc ∧ 0 + s3 ≤ ms) ∧ w_X5_checkUser c2 s3 M a0 p0 (fun E M => xp E M) (∃ c4 s5, ((0 + c2) + c4 ≤ mc ∧ (0 + s3) + s5 ≤ ms) ∧ w_X5_checkChannel c4 s5 M p1 (fun E M => xp E M) (gT M a0 = some (5, 0) ∧ w_X5_isGone M a0 p0 (fun x7 => (x7 = 0 → gT M a0 = some (5, 0) ∧ ∃ b9, gR M a0 0 = some b9 ∧ gT M a0 = some (5, 0) ∧ ∃ b11, gR M a0 2 = some b11 ∧ inA M b11 10 p0 ∧ inA M b9 12 (gI M b11 (Int32.toNatClampNeg p0)) ∧ ∃ b14, gR M b9 (Int32.toNatClampNeg (gI M b11 (Int32.toNatClampNeg p0))) = some b14 ∧ gT M b14 = some (3, 0) ∧ ∃ b16, gR M b14 1 = some b16 ∧ inA M b16 13 p1 ∧ ∃ b18, gR M b16 (Int32.toNatClampNeg p1) = some b18 ∧ gT M b18 = some (0, 0) ∧ w_X5_has M (gI M b18 3) p0 (fun x20 => (x20 = 0 → post ((-3))) ∧ (¬ (x20 = 0) → gT M b18 = some (0, 0) ∧ gT M a0 = some (5, 0) ∧ ∃ b23, gR M a0 3 = some b23 ∧ inA M b23 10 p0 ∧ w_X5_has M (gI M b18 2) (gI M b23 (Int32.toNatClampNeg p0)) (fun x25 => (x25 = 0 → gT M b18 = some (0, 0) ∧ w_X5_has M (gI M b18 1) 0 (fun x27 => ∀ J28 : Prop, ((gT M a0 = some (5, 0) ∧ ∃ b30, gR M a0 1 = some b30 ∧ gT M a0 = some (5, 0) ∧ ∃ b32, gR M a0 2 = some b32 ∧ inA M b32 10 p0 ∧ gT M b18 = some (0, 0) ∧ gT M a0 = some (5, 0) ∧ w_X5_homesOf M a0 ((gI M b18 3) &&& ((1 <<< (p0 &&& 31)) ^^^ ((-1)))) (fun x36 => gT M b30 = some (4, 0) ∧ w_X4_linksTowards M b30 (gI M b32 (Int32.toNatClampNeg p0)) x36 (fun x38 => post x38))) → J28) → ((x27 = 0 → J28) ∧ (¬ (x27 = 0) → gT M b18 = some (0, 0) ∧ gT M a0 = some (5, 0) ∧ w_X5_eldestOf M a0 (gI M b18 3) (fun x41 => (x41 = p0 → J28) ∧ (¬ (x41 = p0) → post ((-5)))))))) ∧ (¬ (x25 = 0) → post ((-4))))))) ∧ (¬ (x7 = 0) → post ((-2))))))
set_option maxRecDepth 100000 in
set_option maxHeartbeats 8000000 in
theorem s_X5_say (l : Launch) (D : va_G) (dA : Nat → ClassId) (htr : l.stackTraces = false) (mc ms : Nat) (M : Mem) (a0 : Nat) (p0 : Int32) (p1 : Int32) (xp : String → Mem → Prop) (post : Int32 → Prop) (h : w_X5_say mc ms M a0 p0 p1 xp post) : CtX l D dA yX5_say cX5_say 4 (some .int) 7 [.ref a0, .int p0, .int p1] M mc ms xp (pI (fun M' r => M' = M ∧ post r)) := by
  refine ct_ofX htr (by decide) (Nat.le_of_ble_eq_true rfl) (by decide) rfl ?_
  intro X hC hR hThrow hOut
  show G X 4 M 0 0 0 [(0, .ref a0), (1, .int p0), (2, .int p1)] []
  unfold w_X5_say at h
  refine g_aload_n (r := (some a0)) hC 0 dX5_say_0 rfl ?_
  refine g_iload_n hC 1 dX5_say_1 rfl ?_
  obtain ⟨hc1, h⟩ := h
  obtain ⟨c2, s3, hc2, h⟩ := h
  refine gx_callV hC (As := [.int p0]) (fun l D dA ht => s_X5_checkUser l D dA ht _ _ _ _ _ _ _ h) wm_3_21 wm_3_18 wm_3_20 wm_0_9 wm_1_1 (by decide +kernel : plainY yX5_checkUser 1) kc5.1 kc5.2.1 dX5_say_2 (by decide) (Nat.le_of_ble_eq_true rfl) hc1 (Or.inr hc2) ?_ ?_
  · exact fun M E h => hOut _ _ _ _ _ _ _ h
  · intro M9 v9 h
    obtain ⟨rfl, h⟩ := h
    obtain ⟨hM9, h⟩ := h
    rw [hM9]
    show G X 4 M (0 + c2) (0 + s3) 5 [(0, .ref a0), (1, .int p0), (2, .int p1)] []
    refine g_iload_n hC 2 dX5_say_5 rfl ?_
    obtain ⟨c4, s5, hc4, h⟩ := h
    refine gx_callS hC (As := [.int p1]) (fun l D dA ht => s_X5_checkChannel l D dA ht _ _ _ _ _ _ h) wm_2_51 wm_2_49 wm_2_50 wm_1_1 (by decide +kernel : plainY yX5_checkChannel 1) dX5_say_6 (by decide) (Nat.le_of_ble_eq_true rfl) (Or.inr hc4) ?_ ?_
    · exact fun M E h => hOut _ _ _ _ _ _ _ h
    · intro M9 v9 h
      obtain ⟨rfl, h⟩ := h
      obtain ⟨hM9, h⟩ := h
      rw [hM9]
      show G X 4 M (0 + c2 + c4) (0 + s3 + s5) 9 [(0, .ref a0), (1, .int p0), (2, .int p1)] []
      refine g_aload_n (r := (some a0)) hC 0 dX5_say_9 rfl ?_
      refine g_iload_n hC 1 dX5_say_10 rfl ?_
      refine g_pc (pc' := 11) rfl ?_
      obtain ⟨hc6, h⟩ := h
      refine g_callV hC (As := [.int p0]) (fun l D dA ht => s_X5_isGone l D dA ht _ _ _ _ h) wm_3_26 wm_3_23 wm_3_25 wm_0_10 wm_1_1 (by decide +kernel : plainY yX5_isGone 1) kc5.1 kc5.2.1 dX5_say_11 (by decide) (Nat.le_of_ble_eq_true rfl) hc6 (Or.inl ⟨rfl, rfl⟩) ?_
      intro M9 v9 h
      obtain ⟨x7, rfl, h⟩ := h
      obtain ⟨hM9, h⟩ := h
      rw [hM9]
      show G X 4 M (0 + c2 + c4) (0 + s3 + s5) 14 [(0, .ref a0), (1, .int p0), (2, .int p1)] [.int x7]
      refine g_if_eq hC 20 dX5_say_14 (by decide) (fun c46 => ?_) (fun c46 => ?_)
      · replace h := h.1 c46
        refine g_aload_n (r := (some a0)) hC 0 dX5_say_20 rfl ?_
        obtain ⟨hc8, h⟩ := h
        obtain ⟨b9, eb9, h⟩ := h
        refine g_getA hC kc5 0 (by decide) wm_1_147 dX5_say_21 rfl hc8 eb9 ?_
        refine g_aload_n (r := (some a0)) hC 0 dX5_say_24 rfl ?_
        obtain ⟨hc10, h⟩ := h
        obtain ⟨b11, eb11, h⟩ := h
        refine g_getA hC kc5 2 (by decide) wm_1_149 dX5_say_25 rfl hc10 eb11 ?_
        refine g_iload_n hC 1 dX5_say_28 rfl ?_
        obtain ⟨hc12, h⟩ := h
        refine g_ialdA hC dX5_say_29 hc12 ?_
        obtain ⟨hc13, h⟩ := h
        obtain ⟨b14, eb14, h⟩ := h
        refine g_pc (pc' := 30) rfl ?_
        refine g_aaldA hC (by decide) dX5_say_30 hc13 eb14 ?_
        obtain ⟨hc15, h⟩ := h
        obtain ⟨b16, eb16, h⟩ := h
        refine g_getA hC kc3 1 (by decide) wm_1_141 dX5_say_31 rfl hc15 eb16 ?_
        refine g_iload_n hC 2 dX5_say_34 rfl ?_
        obtain ⟨hc17, h⟩ := h
        obtain ⟨b18, eb18, h⟩ := h
        refine g_aaldA hC (by decide) dX5_say_35 hc17 eb18 ?_
        refine g_astore_n (r := (some b18)) (lv' := [(3, .ref b18), (0, .ref a0), (1, .int p0), (2, .int p1)]) hC dX5_say_36 (by decide) rfl ?_
        refine g_aload_n (r := (some b18)) hC 0 dX5_say_37 rfl ?_
        obtain ⟨hc19, h⟩ := h
        refine g_getI hC kc0 3 (by decide) wm_1_128 dX5_say_38 rfl hc19 ?_
        refine g_iload_n hC 2 dX5_say_41 rfl ?_
        refine g_pc (pc' := 42) rfl ?_
        refine g_callS hC (As := [.int (gI M b18 3), .int p0]) (fun l D dA ht => s_X5_has l D dA ht _ _ _ _ h) wm_2_17 wm_2_57 wm_2_16 wm_1_1 (by decide +kernel : plainY yX5_has 2) dX5_say_42 (by decide) (Nat.le_of_ble_eq_true rfl) (Or.inl ⟨rfl, rfl⟩) ?_
        intro M9 v9 h
        obtain ⟨x20, rfl, h⟩ := h
        obtain ⟨hM9, h⟩ := h
        rw [hM9]
        show G X 4 M (0 + c2 + c4) (0 + s3 + s5) 45 [(3, .ref b18), (0, .ref a0), (1, .int p0), (2, .int p1)] [.int x20]
        refine g_if_ne hC 51 dX5_say_45 (by decide) (fun c45 => ?_) (fun c45 => ?_)
        · replace h := h.2 c45
          refine g_aload_n (r := (some b18)) hC 0 dX5_say_51 rfl ?_
          obtain ⟨hc21, h⟩ := h
          refine g_getI hC kc0 2 (by decide) wm_1_126 dX5_say_52 rfl hc21 ?_
          refine g_aload_n (r := (some a0)) hC 1 dX5_say_55 rfl ?_
          obtain ⟨hc22, h⟩ := h
          obtain ⟨b23, eb23, h⟩ := h
          refine g_getA hC kc5 3 (by decide) wm_1_150 dX5_say_56 rfl hc22 eb23 ?_
          refine g_iload_n hC 2 dX5_say_59 rfl ?_
          obtain ⟨hc24, h⟩ := h
          refine g_ialdA hC dX5_say_60 hc24 ?_
          refine g_pc (pc' := 61) rfl ?_
          refine g_callS hC (As := [.int (gI M b18 2), .int (gI M b23 (Int32.toNatClampNeg p0))]) (fun l D dA ht => s_X5_has l D dA ht _ _ _ _ h) wm_2_17 wm_2_57 wm_2_16 wm_1_1 (by decide +kernel : plainY yX5_has 2) dX5_say_61 (by decide) (Nat.le_of_ble_eq_true rfl) (Or.inl ⟨rfl, rfl⟩) ?_
          intro M9 v9 h
          obtain ⟨x25, rfl, h⟩ := h
          obtain ⟨hM9, h⟩ := h
          rw [hM9]
          show G X 4 M (0 + c2 + c4) (0 + s3 + s5) 64 [(3, .ref b18), (0, .ref a0), (1, .int p0), (2, .int p1)] [.int x25]
          refine g_if_eq hC 70 dX5_say_64 (by decide) (fun c44 => ?_) (fun c44 => ?_)
          · replace h := h.1 c44
            refine g_aload_n (r := (some b18)) hC 0 dX5_say_70 rfl ?_
            obtain ⟨hc26, h⟩ := h
            refine g_getI hC kc0 1 (by decide) wm_1_123 dX5_say_71 rfl hc26 ?_
            refine g_iconst (v := 0) hC dX5_say_74 (by decide) ?_
            refine g_callS hC (As := [.int (gI M b18 1), .int 0]) (fun l D dA ht => s_X5_has l D dA ht _ _ _ _ h) wm_2_17 wm_2_57 wm_2_16 wm_1_1 (by decide +kernel : plainY yX5_has 2) dX5_say_75 (by decide) (Nat.le_of_ble_eq_true rfl) (Or.inl ⟨rfl, rfl⟩) ?_
            intro M9 v9 h
            obtain ⟨x27, rfl, h⟩ := h
            obtain ⟨hM9, h⟩ := h
            rw [hM9]
            show G X 4 M (0 + c2 + c4) (0 + s3 + s5) 78 [(3, .ref b18), (0, .ref a0), (1, .int p0), (2, .int p1)] [.int x27]
            replace h := h (G X 4 M (0 + c2 + c4) (0 + s3 + s5) 96 [(0, .ref a0), (1, .int p0), (2, .int p1), (3, .ref b18)] []) (by
              intro h
              refine g_aload_n (r := (some a0)) hC 0 dX5_say_96 rfl ?_
              obtain ⟨hc29, h⟩ := h
              obtain ⟨b30, eb30, h⟩ := h
              refine g_getA hC kc5 1 (by decide) wm_1_148 dX5_say_97 rfl hc29 eb30 ?_
              refine g_pc (pc' := 100) rfl ?_
              refine g_aload_n (r := (some a0)) hC 0 dX5_say_100 rfl ?_
              obtain ⟨hc31, h⟩ := h
              obtain ⟨b32, eb32, h⟩ := h
              refine g_getA hC kc5 2 (by decide) wm_1_149 dX5_say_101 rfl hc31 eb32 ?_
              refine g_iload_n hC 1 dX5_say_104 rfl ?_
              obtain ⟨hc33, h⟩ := h
              refine g_ialdA hC dX5_say_105 hc33 ?_
              refine g_aload_n (r := (some a0)) hC 0 dX5_say_106 rfl ?_
              refine g_aload_n (r := (some b18)) hC 3 dX5_say_107 rfl ?_
              obtain ⟨hc34, h⟩ := h
              refine g_getI hC kc0 3 (by decide) wm_1_128 dX5_say_108 rfl hc34 ?_
              refine g_iconst (v := 1) hC dX5_say_111 (by decide) ?_
              refine g_pc (pc' := 112) rfl ?_
              refine g_iload_n hC 1 dX5_say_112 rfl ?_
              refine g_ishl hC dX5_say_113 ?_
              refine g_iconst (v := (-1)) hC dX5_say_114 (by decide) ?_
              refine g_ixor hC dX5_say_115 ?_
              refine g_iand hC dX5_say_116 ?_
              obtain ⟨hc35, h⟩ := h
              refine g_callV hC (As := [.int ((gI M b18 3) &&& ((1 <<< (p0 &&& 31)) ^^^ ((-1))))]) (fun l D dA ht => s_X5_homesOf l D dA ht _ _ _ _ h) wm_3_34 wm_3_31 wm_3_33 wm_0_12 wm_1_1 (by decide +kernel : plainY yX5_homesOf 1) kc5.1 kc5.2.1 dX5_say_117 (by decide) (Nat.le_of_ble_eq_true rfl) hc35 (Or.inl ⟨rfl, rfl⟩) ?_
              intro M9 v9 h
              obtain ⟨x36, rfl, h⟩ := h
              obtain ⟨hM9, h⟩ := h
              rw [hM9]
              show G X 4 M (0 + c2 + c4) (0 + s3 + s5) 120 [(0, .ref a0), (1, .int p0), (2, .int p1), (3, .ref b18)] [.int x36, .int (gI M b32 (Int32.toNatClampNeg p0)), .ref b30]
              obtain ⟨hc37, h⟩ := h
              refine g_callV hC (As := [.int (gI M b32 (Int32.toNatClampNeg p0)), .int x36]) (fun l D dA ht => s_X4_linksTowards l D dA ht _ _ _ _ _ h) wm_3_38 wm_3_35 wm_3_36 wm_3_37 wm_1_2 (by decide +kernel : plainY yX4_linksTowards 2) kc4.1 kc4.2.1 dX5_say_120 (by decide) (Nat.le_of_ble_eq_true rfl) hc37 (Or.inl ⟨rfl, rfl⟩) ?_
              intro M9 v9 h
              obtain ⟨x38, rfl, h⟩ := h
              obtain ⟨hM9, h⟩ := h
              rw [hM9]
              show G X 4 M (0 + c2 + c4) (0 + s3 + s5) 123 [(0, .ref a0), (1, .int p0), (2, .int p1), (3, .ref b18)] [.int x38]
              exact hR.2.1 rfl _ _ _ _ _ _ dX5_say_123 ⟨_, rfl, rfl, h⟩)
            refine g_if_eq hC 96 dX5_say_78 (by decide) (fun c43 => ?_) (fun c43 => ?_)
            · replace h := h.1 c43
              refine g_sub [1, 2, 3, 0] (lv' := [(0, .ref a0), (1, .int p0), (2, .int p1), (3, .ref b18)]) rfl ?_
              exact h
            · replace h := h.2 c43
              refine g_aload_n (r := (some a0)) hC 1 dX5_say_81 rfl ?_
              refine g_pc (pc' := 82) rfl ?_
              refine g_aload_n (r := (some b18)) hC 0 dX5_say_82 rfl ?_
              obtain ⟨hc39, h⟩ := h
              refine g_getI hC kc0 3 (by decide) wm_1_128 dX5_say_83 rfl hc39 ?_
              obtain ⟨hc40, h⟩ := h
              refine g_callV hC (As := [.int (gI M b18 3)]) (fun l D dA ht => s_X5_eldestOf l D dA ht _ _ _ _ h) wm_3_30 wm_3_27 wm_3_29 wm_0_11 wm_1_1 (by decide +kernel : plainY yX5_eldestOf 1) kc5.1 kc5.2.1 dX5_say_86 (by decide) (Nat.le_of_ble_eq_true rfl) hc40 (Or.inl ⟨rfl, rfl⟩) ?_
              intro M9 v9 h
              obtain ⟨x41, rfl, h⟩ := h
              obtain ⟨hM9, h⟩ := h
              rw [hM9]
              show G X 4 M (0 + c2 + c4) (0 + s3 + s5) 89 [(3, .ref b18), (0, .ref a0), (1, .int p0), (2, .int p1)] [.int x41]
              refine g_iload_n hC 2 dX5_say_89 rfl ?_
              refine g_icmp_eq hC 96 dX5_say_90 (by decide) (fun c42 => ?_) (fun c42 => ?_)
              · replace h := h.1 c42
                refine g_sub [1, 2, 3, 0] (lv' := [(0, .ref a0), (1, .int p0), (2, .int p1), (3, .ref b18)]) rfl ?_
                exact h
              · replace h := h.2 c42
                refine g_bipush (v := (-5)) hC dX5_say_93 (by decide) ?_
                exact hR.2.1 rfl _ _ _ _ _ _ dX5_say_95 ⟨_, rfl, rfl, h⟩
          · replace h := h.2 c44
            refine g_bipush (v := (-4)) hC dX5_say_67 (by decide) ?_
            exact hR.2.1 rfl _ _ _ _ _ _ dX5_say_69 ⟨_, rfl, rfl, h⟩
        · replace h := h.1 c45
          refine g_bipush (v := (-3)) hC dX5_say_48 (by decide) ?_
          exact hR.2.1 rfl _ _ _ _ _ _ dX5_say_50 ⟨_, rfl, rfl, h⟩
      · replace h := h.2 c46
        refine g_bipush (v := (-2)) hC dX5_say_17 (by decide) ?_
        exact hR.2.1 rfl _ _ _ _ _ _ dX5_say_19 ⟨_, rfl, rfl, h⟩

def w_X5_users (M : Mem) (a0 : Nat) (post : Int32 → Prop) : Prop :=
  gT M a0 = some (5, 0) ∧ post (gI M a0 6)
set_option maxRecDepth 100000 in
set_option maxHeartbeats 8000000 in
theorem s_X5_users (l : Launch) (D : va_G) (dA : Nat → ClassId) (htr : l.stackTraces = false) (M : Mem) (a0 : Nat) (post : Int32 → Prop) (h : w_X5_users M a0 post) : CtN l D dA yX5_users cX5_users 1 (some .int) 1 [.ref a0] M 0 0 (pI (fun M' r => M' = M ∧ post r)) := by
  refine ct_ofN htr (by decide) (Nat.le_of_ble_eq_true rfl) ?_
  intro X hC hN hR
  show G X 1 M 0 0 0 [(0, .ref a0)] []
  unfold w_X5_users at h
  refine g_aload_n (r := (some a0)) hC 0 dX5_users_0 rfl ?_
  obtain ⟨hc1, h⟩ := h
  refine g_getI hC kc5 6 (by decide) wm_1_153 dX5_users_1 rfl hc1 ?_
  exact hR.2.1 rfl _ _ _ _ _ _ dX5_users_4 ⟨_, rfl, rfl, h⟩

def w_X5_clock (M : Mem) (a0 : Nat) (post : Int32 → Prop) : Prop :=
  gT M a0 = some (5, 0) ∧ post (gI M a0 7)
set_option maxRecDepth 100000 in
set_option maxHeartbeats 8000000 in
theorem s_X5_clock (l : Launch) (D : va_G) (dA : Nat → ClassId) (htr : l.stackTraces = false) (M : Mem) (a0 : Nat) (post : Int32 → Prop) (h : w_X5_clock M a0 post) : CtN l D dA yX5_clock cX5_clock 1 (some .int) 1 [.ref a0] M 0 0 (pI (fun M' r => M' = M ∧ post r)) := by
  refine ct_ofN htr (by decide) (Nat.le_of_ble_eq_true rfl) ?_
  intro X hC hN hR
  show G X 1 M 0 0 0 [(0, .ref a0)] []
  unfold w_X5_clock at h
  refine g_aload_n (r := (some a0)) hC 0 dX5_clock_0 rfl ?_
  obtain ⟨hc1, h⟩ := h
  refine g_getI hC kc5 7 (by decide) wm_1_154 dX5_clock_1 rfl hc1 ?_
  exact hR.2.1 rfl _ _ _ _ _ _ dX5_clock_4 ⟨_, rfl, rfl, h⟩

def w_X5_known (mc ms : Nat) (M : Mem) (a0 : Nat) (p0 : Int32) (xp : String → Mem → Prop) (post : Int32 → Prop) : Prop :=
  ∃ c1 s2, (0 + c1 ≤ mc ∧ 0 + s2 ≤ ms) ∧ w_X5_checkServer c1 s2 M p0 (fun E M => xp E M) (gT M a0 = some (5, 0) ∧ ∃ b4, gR M a0 0 = some b4 ∧ inA M b4 12 p0 ∧ ∃ b6, gR M b4 (Int32.toNatClampNeg p0) = some b6 ∧ gT M b6 = some (3, 0) ∧ post (gI M b6 0))
set_option maxRecDepth 100000 in
set_option maxHeartbeats 8000000 in
theorem s_X5_known (l : Launch) (D : va_G) (dA : Nat → ClassId) (htr : l.stackTraces = false) (mc ms : Nat) (M : Mem) (a0 : Nat) (p0 : Int32) (xp : String → Mem → Prop) (post : Int32 → Prop) (h : w_X5_known mc ms M a0 p0 xp post) : CtX l D dA yX5_known cX5_known 2 (some .int) 7 [.ref a0, .int p0] M mc ms xp (pI (fun M' r => M' = M ∧ post r)) := by
  refine ct_ofX htr (by decide) (Nat.le_of_ble_eq_true rfl) (by decide) rfl ?_
  intro X hC hR hThrow hOut
  show G X 2 M 0 0 0 [(0, .ref a0), (1, .int p0)] []
  unfold w_X5_known at h
  refine g_iload_n hC 1 dX5_known_0 rfl ?_
  obtain ⟨c1, s2, hc1, h⟩ := h
  refine gx_callS hC (As := [.int p0]) (fun l D dA ht => s_X5_checkServer l D dA ht _ _ _ _ _ _ h) wm_1_182 wm_1_180 wm_1_181 wm_1_1 (by decide +kernel : plainY yX5_checkServer 1) dX5_known_1 (by decide) (Nat.le_of_ble_eq_true rfl) (Or.inr hc1) ?_ ?_
  · exact fun M E h => hOut _ _ _ _ _ _ _ h
  · intro M9 v9 h
    obtain ⟨rfl, h⟩ := h
    obtain ⟨hM9, h⟩ := h
    rw [hM9]
    show G X 2 M (0 + c1) (0 + s2) 4 [(0, .ref a0), (1, .int p0)] []
    refine g_aload_n (r := (some a0)) hC 0 dX5_known_4 rfl ?_
    obtain ⟨hc3, h⟩ := h
    obtain ⟨b4, eb4, h⟩ := h
    refine g_getA hC kc5 0 (by decide) wm_1_147 dX5_known_5 rfl hc3 eb4 ?_
    refine g_iload_n hC 1 dX5_known_8 rfl ?_
    obtain ⟨hc5, h⟩ := h
    obtain ⟨b6, eb6, h⟩ := h
    refine g_aaldA hC (by decide) dX5_known_9 hc5 eb6 ?_
    obtain ⟨hc7, h⟩ := h
    refine g_getI hC kc3 0 (by decide) wm_1_139 dX5_known_10 rfl hc7 ?_
    refine g_pc (pc' := 13) rfl ?_
    exact hR.2.1 rfl _ _ _ _ _ _ dX5_known_13 ⟨_, rfl, rfl, h⟩

def w_X5_members (mc ms : Nat) (M : Mem) (a0 : Nat) (p0 : Int32) (p1 : Int32) (xp : String → Mem → Prop) (post : Int32 → Prop) : Prop :=
  ∃ c1 s2, (0 + c1 ≤ mc ∧ 0 + s2 ≤ ms) ∧ w_X5_checkServer c1 s2 M p0 (fun E M => xp E M) (∃ c3 s4, ((0 + c1) + c3 ≤ mc ∧ (0 + s2) + s4 ≤ ms) ∧ w_X5_checkChannel c3 s4 M p1 (fun E M => xp E M) (gT M a0 = some (5, 0) ∧ ∃ b6, gR M a0 0 = some b6 ∧ inA M b6 12 p0 ∧ ∃ b8, gR M b6 (Int32.toNatClampNeg p0) = some b8 ∧ gT M b8 = some (3, 0) ∧ ∃ b10, gR M b8 1 = some b10 ∧ inA M b10 13 p1 ∧ ∃ b12, gR M b10 (Int32.toNatClampNeg p1) = some b12 ∧ gT M b12 = some (0, 0) ∧ post (gI M b12 3)))
set_option maxRecDepth 100000 in
set_option maxHeartbeats 8000000 in
theorem s_X5_members (l : Launch) (D : va_G) (dA : Nat → ClassId) (htr : l.stackTraces = false) (mc ms : Nat) (M : Mem) (a0 : Nat) (p0 : Int32) (p1 : Int32) (xp : String → Mem → Prop) (post : Int32 → Prop) (h : w_X5_members mc ms M a0 p0 p1 xp post) : CtX l D dA yX5_members cX5_members 3 (some .int) 7 [.ref a0, .int p0, .int p1] M mc ms xp (pI (fun M' r => M' = M ∧ post r)) := by
  refine ct_ofX htr (by decide) (Nat.le_of_ble_eq_true rfl) (by decide) rfl ?_
  intro X hC hR hThrow hOut
  show G X 3 M 0 0 0 [(0, .ref a0), (1, .int p0), (2, .int p1)] []
  unfold w_X5_members at h
  refine g_iload_n hC 1 dX5_members_0 rfl ?_
  obtain ⟨c1, s2, hc1, h⟩ := h
  refine gx_callS hC (As := [.int p0]) (fun l D dA ht => s_X5_checkServer l D dA ht _ _ _ _ _ _ h) wm_1_182 wm_1_180 wm_1_181 wm_1_1 (by decide +kernel : plainY yX5_checkServer 1) dX5_members_1 (by decide) (Nat.le_of_ble_eq_true rfl) (Or.inr hc1) ?_ ?_
  · exact fun M E h => hOut _ _ _ _ _ _ _ h
  · intro M9 v9 h
    obtain ⟨rfl, h⟩ := h
    obtain ⟨hM9, h⟩ := h
    rw [hM9]
    show G X 3 M (0 + c1) (0 + s2) 4 [(0, .ref a0), (1, .int p0), (2, .int p1)] []
    refine g_iload_n hC 2 dX5_members_4 rfl ?_
    obtain ⟨c3, s4, hc3, h⟩ := h
    refine gx_callS hC (As := [.int p1]) (fun l D dA ht => s_X5_checkChannel l D dA ht _ _ _ _ _ _ h) wm_2_51 wm_2_49 wm_2_50 wm_1_1 (by decide +kernel : plainY yX5_checkChannel 1) dX5_members_5 (by decide) (Nat.le_of_ble_eq_true rfl) (Or.inr hc3) ?_ ?_
    · exact fun M E h => hOut _ _ _ _ _ _ _ h
    · intro M9 v9 h
      obtain ⟨rfl, h⟩ := h
      obtain ⟨hM9, h⟩ := h
      rw [hM9]
      show G X 3 M (0 + c1 + c3) (0 + s2 + s4) 8 [(0, .ref a0), (1, .int p0), (2, .int p1)] []
      refine g_aload_n (r := (some a0)) hC 0 dX5_members_8 rfl ?_
      obtain ⟨hc5, h⟩ := h
      obtain ⟨b6, eb6, h⟩ := h
      refine g_getA hC kc5 0 (by decide) wm_1_147 dX5_members_9 rfl hc5 eb6 ?_
      refine g_iload_n hC 1 dX5_members_12 rfl ?_
      obtain ⟨hc7, h⟩ := h
      obtain ⟨b8, eb8, h⟩ := h
      refine g_pc (pc' := 13) rfl ?_
      refine g_aaldA hC (by decide) dX5_members_13 hc7 eb8 ?_
      obtain ⟨hc9, h⟩ := h
      obtain ⟨b10, eb10, h⟩ := h
      refine g_getA hC kc3 1 (by decide) wm_1_141 dX5_members_14 rfl hc9 eb10 ?_
      refine g_iload_n hC 2 dX5_members_17 rfl ?_
      obtain ⟨hc11, h⟩ := h
      obtain ⟨b12, eb12, h⟩ := h
      refine g_aaldA hC (by decide) dX5_members_18 hc11 eb12 ?_
      obtain ⟨hc13, h⟩ := h
      refine g_getI hC kc0 3 (by decide) wm_1_128 dX5_members_19 rfl hc13 ?_
      exact hR.2.1 rfl _ _ _ _ _ _ dX5_members_22 ⟨_, rfl, rfl, h⟩

def w_X5_age (mc ms : Nat) (M : Mem) (a0 : Nat) (p0 : Int32) (p1 : Int32) (xp : String → Mem → Prop) (post : Int32 → Prop) : Prop :=
  ∃ c1 s2, (0 + c1 ≤ mc ∧ 0 + s2 ≤ ms) ∧ w_X5_checkServer c1 s2 M p0 (fun E M => xp E M) (∃ c3 s4, ((0 + c1) + c3 ≤ mc ∧ (0 + s2) + s4 ≤ ms) ∧ w_X5_checkChannel c3 s4 M p1 (fun E M => xp E M) (gT M a0 = some (5, 0) ∧ ∃ b6, gR M a0 0 = some b6 ∧ inA M b6 12 p0 ∧ ∃ b8, gR M b6 (Int32.toNatClampNeg p0) = some b8 ∧ gT M b8 = some (3, 0) ∧ ∃ b10, gR M b8 1 = some b10 ∧ inA M b10 13 p1 ∧ ∃ b12, gR M b10 (Int32.toNatClampNeg p1) = some b12 ∧ gT M b12 = some (0, 0) ∧ post (gI M b12 0)))
set_option maxRecDepth 100000 in
set_option maxHeartbeats 8000000 in
theorem s_X5_age (l : Launch) (D : va_G) (dA : Nat → ClassId) (htr : l.stackTraces = false) (mc ms : Nat) (M : Mem) (a0 : Nat) (p0 : Int32) (p1 : Int32) (xp : String → Mem → Prop) (post : Int32 → Prop) (h : w_X5_age mc ms M a0 p0 p1 xp post) : CtX l D dA yX5_age cX5_age 3 (some .int) 7 [.ref a0, .int p0, .int p1] M mc ms xp (pI (fun M' r => M' = M ∧ post r)) := by
  refine ct_ofX htr (by decide) (Nat.le_of_ble_eq_true rfl) (by decide) rfl ?_
  intro X hC hR hThrow hOut
  show G X 3 M 0 0 0 [(0, .ref a0), (1, .int p0), (2, .int p1)] []
  unfold w_X5_age at h
  refine g_iload_n hC 1 dX5_age_0 rfl ?_
  obtain ⟨c1, s2, hc1, h⟩ := h
  refine gx_callS hC (As := [.int p0]) (fun l D dA ht => s_X5_checkServer l D dA ht _ _ _ _ _ _ h) wm_1_182 wm_1_180 wm_1_181 wm_1_1 (by decide +kernel : plainY yX5_checkServer 1) dX5_age_1 (by decide) (Nat.le_of_ble_eq_true rfl) (Or.inr hc1) ?_ ?_
  · exact fun M E h => hOut _ _ _ _ _ _ _ h
  · intro M9 v9 h
    obtain ⟨rfl, h⟩ := h
    obtain ⟨hM9, h⟩ := h
    rw [hM9]
    show G X 3 M (0 + c1) (0 + s2) 4 [(0, .ref a0), (1, .int p0), (2, .int p1)] []
    refine g_iload_n hC 2 dX5_age_4 rfl ?_
    obtain ⟨c3, s4, hc3, h⟩ := h
    refine gx_callS hC (As := [.int p1]) (fun l D dA ht => s_X5_checkChannel l D dA ht _ _ _ _ _ _ h) wm_2_51 wm_2_49 wm_2_50 wm_1_1 (by decide +kernel : plainY yX5_checkChannel 1) dX5_age_5 (by decide) (Nat.le_of_ble_eq_true rfl) (Or.inr hc3) ?_ ?_
    · exact fun M E h => hOut _ _ _ _ _ _ _ h
    · intro M9 v9 h
      obtain ⟨rfl, h⟩ := h
      obtain ⟨hM9, h⟩ := h
      rw [hM9]
      show G X 3 M (0 + c1 + c3) (0 + s2 + s4) 8 [(0, .ref a0), (1, .int p0), (2, .int p1)] []
      refine g_aload_n (r := (some a0)) hC 0 dX5_age_8 rfl ?_
      obtain ⟨hc5, h⟩ := h
      obtain ⟨b6, eb6, h⟩ := h
      refine g_getA hC kc5 0 (by decide) wm_1_147 dX5_age_9 rfl hc5 eb6 ?_
      refine g_iload_n hC 1 dX5_age_12 rfl ?_
      obtain ⟨hc7, h⟩ := h
      obtain ⟨b8, eb8, h⟩ := h
      refine g_pc (pc' := 13) rfl ?_
      refine g_aaldA hC (by decide) dX5_age_13 hc7 eb8 ?_
      obtain ⟨hc9, h⟩ := h
      obtain ⟨b10, eb10, h⟩ := h
      refine g_getA hC kc3 1 (by decide) wm_1_141 dX5_age_14 rfl hc9 eb10 ?_
      refine g_iload_n hC 2 dX5_age_17 rfl ?_
      obtain ⟨hc11, h⟩ := h
      obtain ⟨b12, eb12, h⟩ := h
      refine g_aaldA hC (by decide) dX5_age_18 hc11 eb12 ?_
      obtain ⟨hc13, h⟩ := h
      refine g_getI hC kc0 0 (by decide) wm_1_120 dX5_age_19 rfl hc13 ?_
      exact hR.2.1 rfl _ _ _ _ _ _ dX5_age_22 ⟨_, rfl, rfl, h⟩

def w_X5_modes (mc ms : Nat) (M : Mem) (a0 : Nat) (p0 : Int32) (p1 : Int32) (xp : String → Mem → Prop) (post : Int32 → Prop) : Prop :=
  ∃ c1 s2, (0 + c1 ≤ mc ∧ 0 + s2 ≤ ms) ∧ w_X5_checkServer c1 s2 M p0 (fun E M => xp E M) (∃ c3 s4, ((0 + c1) + c3 ≤ mc ∧ (0 + s2) + s4 ≤ ms) ∧ w_X5_checkChannel c3 s4 M p1 (fun E M => xp E M) (gT M a0 = some (5, 0) ∧ ∃ b6, gR M a0 0 = some b6 ∧ inA M b6 12 p0 ∧ ∃ b8, gR M b6 (Int32.toNatClampNeg p0) = some b8 ∧ gT M b8 = some (3, 0) ∧ ∃ b10, gR M b8 1 = some b10 ∧ inA M b10 13 p1 ∧ ∃ b12, gR M b10 (Int32.toNatClampNeg p1) = some b12 ∧ gT M b12 = some (0, 0) ∧ post (gI M b12 1)))
set_option maxRecDepth 100000 in
set_option maxHeartbeats 8000000 in
theorem s_X5_modes (l : Launch) (D : va_G) (dA : Nat → ClassId) (htr : l.stackTraces = false) (mc ms : Nat) (M : Mem) (a0 : Nat) (p0 : Int32) (p1 : Int32) (xp : String → Mem → Prop) (post : Int32 → Prop) (h : w_X5_modes mc ms M a0 p0 p1 xp post) : CtX l D dA yX5_modes cX5_modes 3 (some .int) 7 [.ref a0, .int p0, .int p1] M mc ms xp (pI (fun M' r => M' = M ∧ post r)) := by
  refine ct_ofX htr (by decide) (Nat.le_of_ble_eq_true rfl) (by decide) rfl ?_
  intro X hC hR hThrow hOut
  show G X 3 M 0 0 0 [(0, .ref a0), (1, .int p0), (2, .int p1)] []
  unfold w_X5_modes at h
  refine g_iload_n hC 1 dX5_modes_0 rfl ?_
  obtain ⟨c1, s2, hc1, h⟩ := h
  refine gx_callS hC (As := [.int p0]) (fun l D dA ht => s_X5_checkServer l D dA ht _ _ _ _ _ _ h) wm_1_182 wm_1_180 wm_1_181 wm_1_1 (by decide +kernel : plainY yX5_checkServer 1) dX5_modes_1 (by decide) (Nat.le_of_ble_eq_true rfl) (Or.inr hc1) ?_ ?_
  · exact fun M E h => hOut _ _ _ _ _ _ _ h
  · intro M9 v9 h
    obtain ⟨rfl, h⟩ := h
    obtain ⟨hM9, h⟩ := h
    rw [hM9]
    show G X 3 M (0 + c1) (0 + s2) 4 [(0, .ref a0), (1, .int p0), (2, .int p1)] []
    refine g_iload_n hC 2 dX5_modes_4 rfl ?_
    obtain ⟨c3, s4, hc3, h⟩ := h
    refine gx_callS hC (As := [.int p1]) (fun l D dA ht => s_X5_checkChannel l D dA ht _ _ _ _ _ _ h) wm_2_51 wm_2_49 wm_2_50 wm_1_1 (by decide +kernel : plainY yX5_checkChannel 1) dX5_modes_5 (by decide) (Nat.le_of_ble_eq_true rfl) (Or.inr hc3) ?_ ?_
    · exact fun M E h => hOut _ _ _ _ _ _ _ h
    · intro M9 v9 h
      obtain ⟨rfl, h⟩ := h
      obtain ⟨hM9, h⟩ := h
      rw [hM9]
      show G X 3 M (0 + c1 + c3) (0 + s2 + s4) 8 [(0, .ref a0), (1, .int p0), (2, .int p1)] []
      refine g_aload_n (r := (some a0)) hC 0 dX5_modes_8 rfl ?_
      obtain ⟨hc5, h⟩ := h
      obtain ⟨b6, eb6, h⟩ := h
      refine g_getA hC kc5 0 (by decide) wm_1_147 dX5_modes_9 rfl hc5 eb6 ?_
      refine g_iload_n hC 1 dX5_modes_12 rfl ?_
      obtain ⟨hc7, h⟩ := h
      obtain ⟨b8, eb8, h⟩ := h
      refine g_pc (pc' := 13) rfl ?_
      refine g_aaldA hC (by decide) dX5_modes_13 hc7 eb8 ?_
      obtain ⟨hc9, h⟩ := h
      obtain ⟨b10, eb10, h⟩ := h
      refine g_getA hC kc3 1 (by decide) wm_1_141 dX5_modes_14 rfl hc9 eb10 ?_
      refine g_iload_n hC 2 dX5_modes_17 rfl ?_
      obtain ⟨hc11, h⟩ := h
      obtain ⟨b12, eb12, h⟩ := h
      refine g_aaldA hC (by decide) dX5_modes_18 hc11 eb12 ?_
      obtain ⟨hc13, h⟩ := h
      refine g_getI hC kc0 1 (by decide) wm_1_123 dX5_modes_19 rfl hc13 ?_
      exact hR.2.1 rfl _ _ _ _ _ _ dX5_modes_22 ⟨_, rfl, rfl, h⟩

def w_X5_bans (mc ms : Nat) (M : Mem) (a0 : Nat) (p0 : Int32) (p1 : Int32) (xp : String → Mem → Prop) (post : Int32 → Prop) : Prop :=
  ∃ c1 s2, (0 + c1 ≤ mc ∧ 0 + s2 ≤ ms) ∧ w_X5_checkServer c1 s2 M p0 (fun E M => xp E M) (∃ c3 s4, ((0 + c1) + c3 ≤ mc ∧ (0 + s2) + s4 ≤ ms) ∧ w_X5_checkChannel c3 s4 M p1 (fun E M => xp E M) (gT M a0 = some (5, 0) ∧ ∃ b6, gR M a0 0 = some b6 ∧ inA M b6 12 p0 ∧ ∃ b8, gR M b6 (Int32.toNatClampNeg p0) = some b8 ∧ gT M b8 = some (3, 0) ∧ ∃ b10, gR M b8 1 = some b10 ∧ inA M b10 13 p1 ∧ ∃ b12, gR M b10 (Int32.toNatClampNeg p1) = some b12 ∧ gT M b12 = some (0, 0) ∧ post (gI M b12 2)))
set_option maxRecDepth 100000 in
set_option maxHeartbeats 8000000 in
theorem s_X5_bans (l : Launch) (D : va_G) (dA : Nat → ClassId) (htr : l.stackTraces = false) (mc ms : Nat) (M : Mem) (a0 : Nat) (p0 : Int32) (p1 : Int32) (xp : String → Mem → Prop) (post : Int32 → Prop) (h : w_X5_bans mc ms M a0 p0 p1 xp post) : CtX l D dA yX5_bans cX5_bans 3 (some .int) 7 [.ref a0, .int p0, .int p1] M mc ms xp (pI (fun M' r => M' = M ∧ post r)) := by
  refine ct_ofX htr (by decide) (Nat.le_of_ble_eq_true rfl) (by decide) rfl ?_
  intro X hC hR hThrow hOut
  show G X 3 M 0 0 0 [(0, .ref a0), (1, .int p0), (2, .int p1)] []
  unfold w_X5_bans at h
  refine g_iload_n hC 1 dX5_bans_0 rfl ?_
  obtain ⟨c1, s2, hc1, h⟩ := h
  refine gx_callS hC (As := [.int p0]) (fun l D dA ht => s_X5_checkServer l D dA ht _ _ _ _ _ _ h) wm_1_182 wm_1_180 wm_1_181 wm_1_1 (by decide +kernel : plainY yX5_checkServer 1) dX5_bans_1 (by decide) (Nat.le_of_ble_eq_true rfl) (Or.inr hc1) ?_ ?_
  · exact fun M E h => hOut _ _ _ _ _ _ _ h
  · intro M9 v9 h
    obtain ⟨rfl, h⟩ := h
    obtain ⟨hM9, h⟩ := h
    rw [hM9]
    show G X 3 M (0 + c1) (0 + s2) 4 [(0, .ref a0), (1, .int p0), (2, .int p1)] []
    refine g_iload_n hC 2 dX5_bans_4 rfl ?_
    obtain ⟨c3, s4, hc3, h⟩ := h
    refine gx_callS hC (As := [.int p1]) (fun l D dA ht => s_X5_checkChannel l D dA ht _ _ _ _ _ _ h) wm_2_51 wm_2_49 wm_2_50 wm_1_1 (by decide +kernel : plainY yX5_checkChannel 1) dX5_bans_5 (by decide) (Nat.le_of_ble_eq_true rfl) (Or.inr hc3) ?_ ?_
    · exact fun M E h => hOut _ _ _ _ _ _ _ h
    · intro M9 v9 h
      obtain ⟨rfl, h⟩ := h
      obtain ⟨hM9, h⟩ := h
      rw [hM9]
      show G X 3 M (0 + c1 + c3) (0 + s2 + s4) 8 [(0, .ref a0), (1, .int p0), (2, .int p1)] []
      refine g_aload_n (r := (some a0)) hC 0 dX5_bans_8 rfl ?_
      obtain ⟨hc5, h⟩ := h
      obtain ⟨b6, eb6, h⟩ := h
      refine g_getA hC kc5 0 (by decide) wm_1_147 dX5_bans_9 rfl hc5 eb6 ?_
      refine g_iload_n hC 1 dX5_bans_12 rfl ?_
      obtain ⟨hc7, h⟩ := h
      obtain ⟨b8, eb8, h⟩ := h
      refine g_pc (pc' := 13) rfl ?_
      refine g_aaldA hC (by decide) dX5_bans_13 hc7 eb8 ?_
      obtain ⟨hc9, h⟩ := h
      obtain ⟨b10, eb10, h⟩ := h
      refine g_getA hC kc3 1 (by decide) wm_1_141 dX5_bans_14 rfl hc9 eb10 ?_
      refine g_iload_n hC 2 dX5_bans_17 rfl ?_
      obtain ⟨hc11, h⟩ := h
      obtain ⟨b12, eb12, h⟩ := h
      refine g_aaldA hC (by decide) dX5_bans_18 hc11 eb12 ?_
      obtain ⟨hc13, h⟩ := h
      refine g_getI hC kc0 2 (by decide) wm_1_126 dX5_bans_19 rfl hc13 ?_
      exact hR.2.1 rfl _ _ _ _ _ _ dX5_bans_22 ⟨_, rfl, rfl, h⟩

def w_X5_areSame (mc ms : Nat) (M : Mem) (a0 : Nat) (p0 : Int32) (p1 : Int32) (xp : String → Mem → Prop) (post : Int32 → Prop) : Prop :=
  ∃ c1 s2, (0 + c1 ≤ mc ∧ 0 + s2 ≤ ms) ∧ w_X5_checkServer c1 s2 M p0 (fun E M => xp E M) (∃ c3 s4, ((0 + c1) + c3 ≤ mc ∧ (0 + s2) + s4 ≤ ms) ∧ w_X5_checkServer c3 s4 M p1 (fun E M => xp E M) (gT M a0 = some (5, 0) ∧ ∃ b6, gR M a0 0 = some b6 ∧ inA M b6 12 p0 ∧ ∃ b8, gR M b6 (Int32.toNatClampNeg p0) = some b8 ∧ gT M a0 = some (5, 0) ∧ ∃ b10, gR M a0 0 = some b10 ∧ inA M b10 12 p1 ∧ ∃ b12, gR M b10 (Int32.toNatClampNeg p1) = some b12 ∧ gT M b8 = some (3, 0) ∧ w_X3_looksLike M b8 b12 (fun x14 => ((x14 : Int32) = 0 ∨ (x14 : Int32) = 1) ∧ post x14)))
set_option maxRecDepth 100000 in
set_option maxHeartbeats 8000000 in
theorem s_X5_areSame (l : Launch) (D : va_G) (dA : Nat → ClassId) (htr : l.stackTraces = false) (mc ms : Nat) (M : Mem) (a0 : Nat) (p0 : Int32) (p1 : Int32) (xp : String → Mem → Prop) (post : Int32 → Prop) (h : w_X5_areSame mc ms M a0 p0 p1 xp post) : CtX l D dA yX5_areSame cX5_areSame 3 (some .boolean) 7 [.ref a0, .int p0, .int p1] M mc ms xp (pI (fun M' r => M' = M ∧ post r)) := by
  refine ct_ofX htr (by decide) (Nat.le_of_ble_eq_true rfl) (by decide) rfl ?_
  intro X hC hR hThrow hOut
  show G X 3 M 0 0 0 [(0, .ref a0), (1, .int p0), (2, .int p1)] []
  unfold w_X5_areSame at h
  refine g_iload_n hC 1 dX5_areSame_0 rfl ?_
  obtain ⟨c1, s2, hc1, h⟩ := h
  refine gx_callS hC (As := [.int p0]) (fun l D dA ht => s_X5_checkServer l D dA ht _ _ _ _ _ _ h) wm_1_182 wm_1_180 wm_1_181 wm_1_1 (by decide +kernel : plainY yX5_checkServer 1) dX5_areSame_1 (by decide) (Nat.le_of_ble_eq_true rfl) (Or.inr hc1) ?_ ?_
  · exact fun M E h => hOut _ _ _ _ _ _ _ h
  · intro M9 v9 h
    obtain ⟨rfl, h⟩ := h
    obtain ⟨hM9, h⟩ := h
    rw [hM9]
    show G X 3 M (0 + c1) (0 + s2) 4 [(0, .ref a0), (1, .int p0), (2, .int p1)] []
    refine g_iload_n hC 2 dX5_areSame_4 rfl ?_
    obtain ⟨c3, s4, hc3, h⟩ := h
    refine gx_callS hC (As := [.int p1]) (fun l D dA ht => s_X5_checkServer l D dA ht _ _ _ _ _ _ h) wm_1_182 wm_1_180 wm_1_181 wm_1_1 (by decide +kernel : plainY yX5_checkServer 1) dX5_areSame_5 (by decide) (Nat.le_of_ble_eq_true rfl) (Or.inr hc3) ?_ ?_
    · exact fun M E h => hOut _ _ _ _ _ _ _ h
    · intro M9 v9 h
      obtain ⟨rfl, h⟩ := h
      obtain ⟨hM9, h⟩ := h
      rw [hM9]
      show G X 3 M (0 + c1 + c3) (0 + s2 + s4) 8 [(0, .ref a0), (1, .int p0), (2, .int p1)] []
      refine g_aload_n (r := (some a0)) hC 0 dX5_areSame_8 rfl ?_
      obtain ⟨hc5, h⟩ := h
      obtain ⟨b6, eb6, h⟩ := h
      refine g_getA hC kc5 0 (by decide) wm_1_147 dX5_areSame_9 rfl hc5 eb6 ?_
      refine g_iload_n hC 1 dX5_areSame_12 rfl ?_
      obtain ⟨hc7, h⟩ := h
      obtain ⟨b8, eb8, h⟩ := h
      refine g_pc (pc' := 13) rfl ?_
      refine g_aaldA hC (by decide) dX5_areSame_13 hc7 eb8 ?_
      refine g_aload_n (r := (some a0)) hC 0 dX5_areSame_14 rfl ?_
      obtain ⟨hc9, h⟩ := h
      obtain ⟨b10, eb10, h⟩ := h
      refine g_getA hC kc5 0 (by decide) wm_1_147 dX5_areSame_15 rfl hc9 eb10 ?_
      refine g_iload_n hC 2 dX5_areSame_18 rfl ?_
      obtain ⟨hc11, h⟩ := h
      obtain ⟨b12, eb12, h⟩ := h
      refine g_aaldA hC (by decide) dX5_areSame_19 hc11 eb12 ?_
      obtain ⟨hc13, h⟩ := h
      refine g_callV hC (As := [.ref b12]) (fun l D dA ht => s_X3_looksLike l D dA ht _ _ _ _ h) wm_3_114 wm_3_111 wm_3_112 wm_3_113 wm_1_5 (by decide +kernel : plainY yX3_looksLike 1) kc3.1 kc3.2.1 dX5_areSame_20 (by decide) (Nat.le_of_ble_eq_true rfl) hc13 (Or.inl ⟨rfl, rfl⟩) ?_
      intro M9 v9 h
      obtain ⟨x14, rfl, h⟩ := h
      obtain ⟨hM9, h⟩ := h
      rw [hM9]
      show G X 3 M (0 + c1 + c3) (0 + s2 + s4) 23 [(0, .ref a0), (1, .int p0), (2, .int p1)] [.int x14]
      exact hR.2.2.1 rfl _ _ _ _ _ _ dX5_areSame_23 ⟨h.1, ⟨_, rfl, rfl, h.2⟩⟩

def w_X5_joinedModes (mc ms : Nat) (M : Mem) (a0 : Nat) (p0 : Int32) (p1 : Int32) (p2 : Int32) (xp : String → Mem → Prop) (post : Int32 → Prop) : Prop :=
  ∃ c1 s2, (0 + c1 ≤ mc ∧ 0 + s2 ≤ ms) ∧ w_X5_checkServer c1 s2 M p0 (fun E M => xp E M) (∃ c3 s4, ((0 + c1) + c3 ≤ mc ∧ (0 + s2) + s4 ≤ ms) ∧ w_X5_checkServer c3 s4 M p1 (fun E M => xp E M) (∃ c5 s6, ((0 + c1 + c3) + c5 ≤ mc ∧ (0 + s2 + s4) + s6 ≤ ms) ∧ w_X5_checkChannel c5 s6 M p2 (fun E M => xp E M) (gT M a0 = some (5, 0) ∧ ∃ b8, gR M a0 0 = some b8 ∧ inA M b8 12 p0 ∧ ∃ b10, gR M b8 (Int32.toNatClampNeg p0) = some b10 ∧ gT M b10 = some (3, 0) ∧ ∃ b12, gR M b10 1 = some b12 ∧ inA M b12 13 p2 ∧ ∃ b14, gR M b12 (Int32.toNatClampNeg p2) = some b14 ∧ gT M a0 = some (5, 0) ∧ ∃ b16, gR M a0 0 = some b16 ∧ inA M b16 12 p1 ∧ ∃ b18, gR M b16 (Int32.toNatClampNeg p1) = some b18 ∧ gT M b18 = some (3, 0) ∧ ∃ b20, gR M b18 1 = some b20 ∧ inA M b20 13 p2 ∧ ∃ b22, gR M b20 (Int32.toNatClampNeg p2) = some b22 ∧ gT M b14 = some (0, 0) ∧ gT M b14 = some (0, 0) ∧ gT M b22 = some (0, 0) ∧ gT M b22 = some (0, 0) ∧ w_X5_settledSet M (gI M b14 0) (gI M b14 1) (gI M b22 0) (gI M b22 1) (fun x27 => post x27))))
set_option maxRecDepth 100000 in
set_option maxHeartbeats 8000000 in
theorem s_X5_joinedModes (l : Launch) (D : va_G) (dA : Nat → ClassId) (htr : l.stackTraces = false) (mc ms : Nat) (M : Mem) (a0 : Nat) (p0 : Int32) (p1 : Int32) (p2 : Int32) (xp : String → Mem → Prop) (post : Int32 → Prop) (h : w_X5_joinedModes mc ms M a0 p0 p1 p2 xp post) : CtX l D dA yX5_joinedModes cX5_joinedModes 6 (some .int) 7 [.ref a0, .int p0, .int p1, .int p2] M mc ms xp (pI (fun M' r => M' = M ∧ post r)) := by
  refine ct_ofX htr (by decide) (Nat.le_of_ble_eq_true rfl) (by decide) rfl ?_
  intro X hC hR hThrow hOut
  show G X 6 M 0 0 0 [(0, .ref a0), (1, .int p0), (2, .int p1), (3, .int p2)] []
  unfold w_X5_joinedModes at h
  refine g_iload_n hC 1 dX5_joinedModes_0 rfl ?_
  obtain ⟨c1, s2, hc1, h⟩ := h
  refine gx_callS hC (As := [.int p0]) (fun l D dA ht => s_X5_checkServer l D dA ht _ _ _ _ _ _ h) wm_1_182 wm_1_180 wm_1_181 wm_1_1 (by decide +kernel : plainY yX5_checkServer 1) dX5_joinedModes_1 (by decide) (Nat.le_of_ble_eq_true rfl) (Or.inr hc1) ?_ ?_
  · exact fun M E h => hOut _ _ _ _ _ _ _ h
  · intro M9 v9 h
    obtain ⟨rfl, h⟩ := h
    obtain ⟨hM9, h⟩ := h
    rw [hM9]
    show G X 6 M (0 + c1) (0 + s2) 4 [(0, .ref a0), (1, .int p0), (2, .int p1), (3, .int p2)] []
    refine g_iload_n hC 2 dX5_joinedModes_4 rfl ?_
    obtain ⟨c3, s4, hc3, h⟩ := h
    refine gx_callS hC (As := [.int p1]) (fun l D dA ht => s_X5_checkServer l D dA ht _ _ _ _ _ _ h) wm_1_182 wm_1_180 wm_1_181 wm_1_1 (by decide +kernel : plainY yX5_checkServer 1) dX5_joinedModes_5 (by decide) (Nat.le_of_ble_eq_true rfl) (Or.inr hc3) ?_ ?_
    · exact fun M E h => hOut _ _ _ _ _ _ _ h
    · intro M9 v9 h
      obtain ⟨rfl, h⟩ := h
      obtain ⟨hM9, h⟩ := h
      rw [hM9]
      show G X 6 M (0 + c1 + c3) (0 + s2 + s4) 8 [(0, .ref a0), (1, .int p0), (2, .int p1), (3, .int p2)] []
      refine g_iload_n hC 3 dX5_joinedModes_8 rfl ?_
      obtain ⟨c5, s6, hc5, h⟩ := h
      refine gx_callS hC (As := [.int p2]) (fun l D dA ht => s_X5_checkChannel l D dA ht _ _ _ _ _ _ h) wm_2_51 wm_2_49 wm_2_50 wm_1_1 (by decide +kernel : plainY yX5_checkChannel 1) dX5_joinedModes_9 (by decide) (Nat.le_of_ble_eq_true rfl) (Or.inr hc5) ?_ ?_
      · exact fun M E h => hOut _ _ _ _ _ _ _ h
      · intro M9 v9 h
        obtain ⟨rfl, h⟩ := h
        obtain ⟨hM9, h⟩ := h
        rw [hM9]
        show G X 6 M (0 + c1 + c3 + c5) (0 + s2 + s4 + s6) 12 [(0, .ref a0), (1, .int p0), (2, .int p1), (3, .int p2)] []
        refine g_aload_n (r := (some a0)) hC 0 dX5_joinedModes_12 rfl ?_
        obtain ⟨hc7, h⟩ := h
        obtain ⟨b8, eb8, h⟩ := h
        refine g_pc (pc' := 13) rfl ?_
        refine g_getA hC kc5 0 (by decide) wm_1_147 dX5_joinedModes_13 rfl hc7 eb8 ?_
        refine g_iload_n hC 1 dX5_joinedModes_16 rfl ?_
        obtain ⟨hc9, h⟩ := h
        obtain ⟨b10, eb10, h⟩ := h
        refine g_aaldA hC (by decide) dX5_joinedModes_17 hc9 eb10 ?_
        obtain ⟨hc11, h⟩ := h
        obtain ⟨b12, eb12, h⟩ := h
        refine g_getA hC kc3 1 (by decide) wm_1_141 dX5_joinedModes_18 rfl hc11 eb12 ?_
        refine g_iload_n hC 3 dX5_joinedModes_21 rfl ?_
        obtain ⟨hc13, h⟩ := h
        obtain ⟨b14, eb14, h⟩ := h
        refine g_aaldA hC (by decide) dX5_joinedModes_22 hc13 eb14 ?_
        refine g_astore (r := (some b14)) (lv' := [(4, .ref b14), (0, .ref a0), (1, .int p0), (2, .int p1), (3, .int p2)]) hC dX5_joinedModes_23 (by decide) rfl ?_
        refine g_aload_n (r := (some a0)) hC 1 dX5_joinedModes_25 rfl ?_
        obtain ⟨hc15, h⟩ := h
        obtain ⟨b16, eb16, h⟩ := h
        refine g_pc (pc' := 26) rfl ?_
        refine g_getA hC kc5 0 (by decide) wm_1_147 dX5_joinedModes_26 rfl hc15 eb16 ?_
        refine g_iload_n hC 3 dX5_joinedModes_29 rfl ?_
        obtain ⟨hc17, h⟩ := h
        obtain ⟨b18, eb18, h⟩ := h
        refine g_aaldA hC (by decide) dX5_joinedModes_30 hc17 eb18 ?_
        obtain ⟨hc19, h⟩ := h
        obtain ⟨b20, eb20, h⟩ := h
        refine g_getA hC kc3 1 (by decide) wm_1_141 dX5_joinedModes_31 rfl hc19 eb20 ?_
        refine g_iload_n hC 4 dX5_joinedModes_34 rfl ?_
        obtain ⟨hc21, h⟩ := h
        obtain ⟨b22, eb22, h⟩ := h
        refine g_aaldA hC (by decide) dX5_joinedModes_35 hc21 eb22 ?_
        refine g_astore (r := (some b22)) (lv' := [(5, .ref b22), (4, .ref b14), (0, .ref a0), (1, .int p0), (2, .int p1), (3, .int p2)]) hC dX5_joinedModes_36 (by decide) rfl ?_
        refine g_aload (r := (some b14)) hC 1 dX5_joinedModes_38 rfl ?_
        obtain ⟨hc23, h⟩ := h
        refine g_pc (pc' := 40) rfl ?_
        refine g_getI hC kc0 0 (by decide) wm_1_120 dX5_joinedModes_40 rfl hc23 ?_
        refine g_aload (r := (some b14)) hC 1 dX5_joinedModes_43 rfl ?_
        obtain ⟨hc24, h⟩ := h
        refine g_getI hC kc0 1 (by decide) wm_1_123 dX5_joinedModes_45 rfl hc24 ?_
        refine g_aload (r := (some b22)) hC 0 dX5_joinedModes_48 rfl ?_
        obtain ⟨hc25, h⟩ := h
        refine g_getI hC kc0 0 (by decide) wm_1_120 dX5_joinedModes_50 rfl hc25 ?_
        refine g_aload (r := (some b22)) hC 0 dX5_joinedModes_53 rfl ?_
        obtain ⟨hc26, h⟩ := h
        refine g_getI hC kc0 1 (by decide) wm_1_123 dX5_joinedModes_55 rfl hc26 ?_
        refine g_callS hC (As := [.int (gI M b14 0), .int (gI M b14 1), .int (gI M b22 0), .int (gI M b22 1)]) (fun l D dA ht => s_X5_settledSet l D dA ht _ _ _ _ _ _ h) wm_2_229 wm_3_126 wm_2_228 wm_1_1 (by decide +kernel : plainY yX5_settledSet 4) dX5_joinedModes_58 (by decide) (Nat.le_of_ble_eq_true rfl) (Or.inl ⟨rfl, rfl⟩) ?_
        intro M9 v9 h
        obtain ⟨x27, rfl, h⟩ := h
        obtain ⟨hM9, h⟩ := h
        rw [hM9]
        show G X 6 M (0 + c1 + c3 + c5) (0 + s2 + s4 + s6) 61 [(5, .ref b22), (4, .ref b14), (0, .ref a0), (1, .int p0), (2, .int p1), (3, .int p2)] [.int x27]
        refine g_pc (pc' := 61) rfl ?_
        exact hR.2.1 rfl _ _ _ _ _ _ dX5_joinedModes_61 ⟨_, rfl, rfl, h⟩
