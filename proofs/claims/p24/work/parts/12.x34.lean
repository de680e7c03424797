def w_X3_init (mc ms : Nat) (M : Mem) (a0 : Nat) (post : Mem → Prop) : Prop :=
  gT M a0 = some (3, 0) ∧ ∀ M2, M2 = sI M a0 0 0 → (0 + 1 ≤ mc ∧ 0 + 4 ≤ ms) ∧ ∀ q3, gT M2 q3 = none → ∀ M4, M4 = sN M2 q3 (13, 4) → gT M4 a0 = some (3, 0) ∧ ∀ M7, M7 = sR M4 a0 1 ((some q3)) → Lp (fun (K12 : Int32 × Mem × Nat × Nat → Prop) (z : Int32 × Mem × Nat × Nat) => ∀ (x8 : Int32) (M9 : Mem) (k10 : Nat) (n11 : Nat), z = (x8, M9, k10, n11) → ((4 ≤ x8 → post M9) ∧ (¬ (4 ≤ x8) → gT M9 a0 = some (3, 0) ∧ ∃ b14, gR M9 a0 1 = some b14 ∧ (k10 + 1 ≤ mc ∧ n11 + 4 ≤ ms) ∧ ∀ q15, gT M9 q15 = none → ∀ M16, M16 = sN M9 q15 (0, 0) → w_X0_init M16 q15 (fun M18 => gT M18 q15 = some (0, 0) ∧ inA M18 b14 13 x8 ∧ ∀ M19, M19 = sR M18 b14 (Int32.toNatClampNeg x8) ((some q15)) → ∀ x21, x21 = x8 + 1 → K12 (x21, M19, k10 + 1, n11 + 4))))) (0, M7, 0 + 1, 0 + 4)
set_option maxRecDepth 100000 in
set_option maxHeartbeats 8000000 in
theorem s_X3_init (l : Launch) (D : va_G) (dA : Nat → ClassId) (htr : l.stackTraces = false) (mc ms : Nat) (M : Mem) (a0 : Nat) (post : Mem → Prop) (h : w_X3_init mc ms M a0 post) : CtN l D dA yX3_init cX3_init 2 (none) 3 [.ref a0] M mc ms (pV post) := by
  refine ct_ofN htr (by decide) (Nat.le_of_ble_eq_true rfl) ?_
  intro X hC hN hR
  show G X 2 M 0 0 0 [(0, .ref a0)] []
  unfold w_X3_init at h
  refine g_aload_n (r := (some a0)) hC 0 dX3_init_0 rfl ?_
  refine g_objInit hC wm_1_110 wm_1_21 wm_1_22 dX3_init_1 (Nat.le_of_ble_eq_true rfl) ?_
  refine g_aload_n (r := (some a0)) hC 0 dX3_init_4 rfl ?_
  refine g_iconst (v := 0) hC dX3_init_5 (by decide) ?_
  obtain ⟨hc1, h⟩ := h
  refine g_putI hC kc3 0 (by decide) wm_1_138 dX3_init_6 rfl rfl (Or.inl rfl) hc1 ?_
  obtain ⟨M2, eM2⟩ : ∃ w, w = sI M a0 0 0 := ⟨_, rfl⟩
  replace h := h M2 eM2
  rw [← eM2]
  refine g_aload_n (r := (some a0)) hC 0 dX3_init_9 rfl ?_
  refine g_iconst (v := 4) hC dX3_init_10 (by decide) ?_
  obtain ⟨hc5, h⟩ := h
  refine g_pc (pc' := 11) rfl ?_
  refine g_newq (ck := 13) (j0 := 3) (N' := 4) hC (by decide) rfl (by decide +kernel) wm_1_111 (by decide) (by decide +kernel) (by decide +kernel) dX3_init_11 hc5 (fun q3 hqq3 => ?_)
  obtain ⟨M4, eM4⟩ : ∃ w, w = sN M2 q3 (13, 4) := ⟨_, rfl⟩
  replace h := h q3 hqq3 M4 eM4
  rw [← eM4]
  obtain ⟨hc6, h⟩ := h
  refine g_putR (r := (some q3)) hC kc3 1 (by decide) wm_1_140 dX3_init_14 rfl (nar_a _) (Or.inr ⟨rfl, hN, rfl⟩) hc6 ?_
  obtain ⟨M7, eM7⟩ : ∃ w, w = sR M4 a0 1 ((some q3)) := ⟨_, rfl⟩
  replace h := h M7 eM7
  rw [← eM7]
  refine g_iconst (v := 0) hC dX3_init_17 (by decide) ?_
  refine g_istore_n (lv' := [(1, .int 0), (0, .ref a0)]) hC dX3_init_18 (by decide) rfl ?_
  refine g_sub [1, 0] (lv' := [(0, .ref a0), (1, .int 0)]) rfl ?_
  refine Lp_use (fun (z23 : Int32 × Mem × Nat × Nat) => G X 2 z23.2.1 z23.2.2.1 z23.2.2.2 19 [(0, .ref a0), (1, .int z23.1)] []) h ?_
  intro K12 z hK_K12 h
  obtain ⟨x8, M9, k10, n11⟩ := z
  replace h := h _ _ _ _ rfl
  show G X 2 M9 k10 n11 19 [(0, .ref a0), (1, .int x8)] []
  refine g_iload_n hC 1 dX3_init_19 rfl ?_
  refine g_iconst (v := 4) hC dX3_init_20 (by decide) ?_
  refine g_icmp_ge hC 43 dX3_init_21 (by decide) (fun c22 => ?_) (fun c22 => ?_)
  · replace h := h.1 c22
    exact hR.1 rfl _ _ _ _ _ dX3_init_43 ⟨rfl, h⟩
  · replace h := h.2 c22
    refine g_aload_n (r := (some a0)) hC 0 dX3_init_24 rfl ?_
    obtain ⟨hc13, h⟩ := h
    obtain ⟨b14, eb14, h⟩ := h
    refine g_pc (pc' := 25) rfl ?_
    refine g_getA hC kc3 1 (by decide) wm_1_140 dX3_init_25 rfl hc13 eb14 ?_
    refine g_iload_n hC 1 dX3_init_28 rfl ?_
    obtain ⟨hc17, h⟩ := h
    refine g_newK hC kc0 wm_1_111 wm_1_113 wm_1_6 dX3_init_29 hc17 (fun q15 hqq15 => ?_)
    obtain ⟨M16, eM16⟩ : ∃ w, w = sN M9 q15 (0, 0) := ⟨_, rfl⟩
    replace h := h q15 hqq15 M16 eM16
    rw [← eM16]
    refine g_dup hC dX3_init_32 rfl ?_
    refine g_callIN hC (As := []) (fun l D dA ht => s_X0_init l D dA ht _ _ _ h) rfl wm_1_116 (by decide +kernel) wm_1_115 wm_1_6 (by decide +kernel : plainY yX0_init 0) dX3_init_33 (by decide) (Nat.le_of_ble_eq_true rfl) (Or.inl ⟨rfl, rfl⟩) ?_
    intro M9 v9 h
    obtain ⟨rfl, h⟩ := h
    generalize M9 = M18 at h ⊢
    show G X 2 M18 (k10 + 1) (n11 + 4) 36 [(0, .ref a0), (1, .int x8)] [.ref q15, .int x8, .ref b14]
    obtain ⟨hvc20, h⟩ := h
    obtain ⟨hc20, h⟩ := h
    refine g_aastA hC 0 (by decide) dX3_init_36 hc20 hvc20 ?_
    obtain ⟨M19, eM19⟩ : ∃ w, w = sR M18 b14 (Int32.toNatClampNeg x8) ((some q15)) := ⟨_, rfl⟩
    replace h := h M19 eM19
    rw [← eM19]
    obtain ⟨x21, ex21⟩ : ∃ w, w = x8 + 1 := ⟨_, rfl⟩
    replace h := h x21 ex21
    refine g_iinc (v := x21) (lv' := [(1, .int x21), (0, .ref a0)]) hC 1 dX3_init_37 rfl (by rw [ex21]; rfl) (by decide) rfl ?_
    refine g_goto hC 19 dX3_init_40 (by decide) ?_
    refine g_sub [1, 0] (lv' := [(0, .ref a0), (1, .int x21)]) rfl ?_
    exact hK_K12 _ h

def w_X5_has (M : Mem) (p0 : Int32) (p1 : Int32) (post : Int32 → Prop) : Prop :=
  ∀ J2 : Int32 → Prop, (∀ (x1 : Int32), (((x1 : Int32) = 0 ∨ (x1 : Int32) = 1) ∧ post x1) → J2 x1) → (((p0 >>> (p1 &&& 31)) &&& 1 = 0 → J2 0) ∧ (¬ ((p0 >>> (p1 &&& 31)) &&& 1 = 0) → J2 1))
set_option maxRecDepth 100000 in
set_option maxHeartbeats 8000000 in
theorem s_X5_has (l : Launch) (D : va_G) (dA : Nat → ClassId) (htr : l.stackTraces = false) (M : Mem) (p0 : Int32) (p1 : Int32) (post : Int32 → Prop) (h : w_X5_has M p0 p1 post) : CtN l D dA yX5_has cX5_has 2 (some .boolean) 1 [.int p0, .int p1] M 0 0 (pI (fun M' r => M' = M ∧ post r)) := by
  refine ct_ofN htr (by decide) (Nat.le_of_ble_eq_true rfl) ?_
  intro X hC hN hR
  show G X 2 M 0 0 0 [(0, .int p0), (1, .int p1)] []
  unfold w_X5_has at h
  refine g_iload_n hC 0 dX5_has_0 rfl ?_
  refine g_iload_n hC 1 dX5_has_1 rfl ?_
  refine g_ishr hC dX5_has_2 ?_
  refine g_iconst (v := 1) hC dX5_has_3 (by decide) ?_
  refine g_iand hC dX5_has_4 ?_
  replace h := h (fun (x1 : Int32) => G X 2 M 0 0 13 [(0, .int p0), (1, .int p1)] [.int x1]) (by
    intro x1 h
    show G X 2 M 0 0 13 [(0, .int p0), (1, .int p1)] [.int x1]
    exact hR.2.2.1 rfl _ _ _ _ _ _ dX5_has_13 ⟨h.1, ⟨_, rfl, rfl, h.2⟩⟩)
  refine g_if_eq hC 12 dX5_has_5 (by decide) (fun c3 => ?_) (fun c3 => ?_)
  · replace h := h.1 c3
    refine g_iconst (v := 0) hC dX5_has_12 (by decide) ?_
    exact h
  · replace h := h.2 c3
    refine g_iconst (v := 1) hC dX5_has_8 (by decide) ?_
    refine g_pc (pc' := 9) rfl ?_
    refine g_goto hC 13 dX5_has_9 (by decide) ?_
    exact h

def w_X3_knows (M : Mem) (a0 : Nat) (p0 : Int32) (post : Int32 → Prop) : Prop :=
  gT M a0 = some (3, 0) ∧ w_X5_has M (gI M a0 0) p0 (fun x2 => ((x2 : Int32) = 0 ∨ (x2 : Int32) = 1) ∧ post x2)
set_option maxRecDepth 100000 in
set_option maxHeartbeats 8000000 in
theorem s_X3_knows (l : Launch) (D : va_G) (dA : Nat → ClassId) (htr : l.stackTraces = false) (M : Mem) (a0 : Nat) (p0 : Int32) (post : Int32 → Prop) (h : w_X3_knows M a0 p0 post) : CtN l D dA yX3_knows cX3_knows 2 (some .boolean) 2 [.ref a0, .int p0] M 0 0 (pI (fun M' r => M' = M ∧ post r)) := by
  refine ct_ofN htr (by decide) (Nat.le_of_ble_eq_true rfl) ?_
  intro X hC hN hR
  show G X 2 M 0 0 0 [(0, .ref a0), (1, .int p0)] []
  unfold w_X3_knows at h
  refine g_aload_n (r := (some a0)) hC 0 dX3_knows_0 rfl ?_
  obtain ⟨hc1, h⟩ := h
  refine g_getI hC kc3 0 (by decide) wm_1_138 dX3_knows_1 rfl hc1 ?_
  refine g_iload_n hC 1 dX3_knows_4 rfl ?_
  refine g_callSN hC (As := [.int (gI M a0 0), .int p0]) (fun l D dA ht => s_X5_has l D dA ht _ _ _ _ h) wm_2_17 (by decide +kernel) wm_2_16 wm_1_1 (by decide +kernel : plainY yX5_has 2) dX3_knows_5 (by decide) (Nat.le_of_ble_eq_true rfl) (Or.inl ⟨rfl, rfl⟩) ?_
  intro M9 v9 h
  obtain ⟨x2, rfl, h⟩ := h
  obtain ⟨hM9, h⟩ := h
  rw [hM9]
  show G X 2 M 0 0 8 [(0, .ref a0), (1, .int p0)] [.int x2]
  exact hR.2.2.1 rfl _ _ _ _ _ _ dX3_knows_8 ⟨h.1, ⟨_, rfl, rfl, h.2⟩⟩

def w_X3_learn (M : Mem) (a0 : Nat) (p0 : Int32) (post : Mem → Prop) : Prop :=
  gT M a0 = some (3, 0) ∧ gT M a0 = some (3, 0) ∧ ∀ M3, M3 = sI M a0 0 ((gI M a0 0) ||| (1 <<< (p0 &&& 31))) → post M3
set_option maxRecDepth 100000 in
set_option maxHeartbeats 8000000 in
theorem s_X3_learn (l : Launch) (D : va_G) (dA : Nat → ClassId) (htr : l.stackTraces = false) (M : Mem) (a0 : Nat) (p0 : Int32) (post : Mem → Prop) (h : w_X3_learn M a0 p0 post) : CtN l D dA yX3_learn cX3_learn 2 (none) 1 [.ref a0, .int p0] M 0 0 (pV post) := by
  refine ct_ofN htr (by decide) (Nat.le_of_ble_eq_true rfl) ?_
  intro X hC hN hR
  show G X 2 M 0 0 0 [(0, .ref a0), (1, .int p0)] []
  unfold w_X3_learn at h
  refine g_aload_n (r := (some a0)) hC 0 dX3_learn_0 rfl ?_
  refine g_dup hC dX3_learn_1 rfl ?_
  obtain ⟨hc1, h⟩ := h
  refine g_getI hC kc3 0 (by decide) wm_1_138 dX3_learn_2 rfl hc1 ?_
  refine g_iconst (v := 1) hC dX3_learn_5 (by decide) ?_
  refine g_iload_n hC 1 dX3_learn_6 rfl ?_
  refine g_ishl hC dX3_learn_7 ?_
  refine g_ior hC dX3_learn_8 ?_
  obtain ⟨hc2, h⟩ := h
  refine g_pc (pc' := 9) rfl ?_
  refine g_putI hC kc3 0 (by decide) wm_1_138 dX3_learn_9 rfl rfl (Or.inl rfl) hc2 ?_
  obtain ⟨M3, eM3⟩ : ∃ w, w = sI M a0 0 ((gI M a0 0) ||| (1 <<< (p0 &&& 31))) := ⟨_, rfl⟩
  replace h := h M3 eM3
  rw [← eM3]
  exact hR.1 rfl _ _ _ _ _ dX3_learn_12 ⟨rfl, h⟩

def w_X3_forget (M : Mem) (a0 : Nat) (p0 : Int32) (post : Mem → Prop) : Prop :=
  gT M a0 = some (3, 0) ∧ gT M a0 = some (3, 0) ∧ ∀ M3, M3 = sI M a0 0 ((gI M a0 0) &&& ((1 <<< (p0 &&& 31)) ^^^ ((-1)))) → Lp (fun (K6 : Int32 × Mem → Prop) (z : Int32 × Mem) => ∀ (x4 : Int32) (M5 : Mem), z = (x4, M5) → ((4 ≤ x4 → post M5) ∧ (¬ (4 ≤ x4) → gT M5 a0 = some (3, 0) ∧ ∃ b8, gR M5 a0 1 = some b8 ∧ inA M5 b8 13 x4 ∧ ∃ b10, gR M5 b8 (Int32.toNatClampNeg x4) = some b10 ∧ gT M5 b10 = some (0, 0) ∧ w_X0_drop M5 b10 p0 (fun M12 => ∀ x13, x13 = x4 + 1 → K6 (x13, M12))))) (0, M3)
set_option maxRecDepth 100000 in
set_option maxHeartbeats 8000000 in
theorem s_X3_forget (l : Launch) (D : va_G) (dA : Nat → ClassId) (htr : l.stackTraces = false) (M : Mem) (a0 : Nat) (p0 : Int32) (post : Mem → Prop) (h : w_X3_forget M a0 p0 post) : CtN l D dA yX3_forget cX3_forget 3 (none) 2 [.ref a0, .int p0] M 0 0 (pV post) := by
  refine ct_ofN htr (by decide) (Nat.le_of_ble_eq_true rfl) ?_
  intro X hC hN hR
  show G X 3 M 0 0 0 [(0, .ref a0), (1, .int p0)] []
  unfold w_X3_forget at h
  refine g_aload_n (r := (some a0)) hC 0 dX3_forget_0 rfl ?_
  refine g_dup hC dX3_forget_1 rfl ?_
  obtain ⟨hc1, h⟩ := h
  refine g_getI hC kc3 0 (by decide) wm_1_138 dX3_forget_2 rfl hc1 ?_
  refine g_iconst (v := 1) hC dX3_forget_5 (by decide) ?_
  refine g_iload_n hC 1 dX3_forget_6 rfl ?_
  refine g_ishl hC dX3_forget_7 ?_
  refine g_iconst (v := (-1)) hC dX3_forget_8 (by decide) ?_
  refine g_pc (pc' := 9) rfl ?_
  refine g_ixor hC dX3_forget_9 ?_
  refine g_iand hC dX3_forget_10 ?_
  obtain ⟨hc2, h⟩ := h
  refine g_putI hC kc3 0 (by decide) wm_1_138 dX3_forget_11 rfl rfl (Or.inl rfl) hc2 ?_
  obtain ⟨M3, eM3⟩ : ∃ w, w = sI M a0 0 ((gI M a0 0) &&& ((1 <<< (p0 &&& 31)) ^^^ ((-1)))) := ⟨_, rfl⟩
  replace h := h M3 eM3
  rw [← eM3]
  refine g_iconst (v := 0) hC dX3_forget_14 (by decide) ?_
  refine g_istore_n (lv' := [(2, .int 0), (0, .ref a0), (1, .int p0)]) hC dX3_forget_15 (by decide) rfl ?_
  refine g_sub [1, 2, 0] (lv' := [(0, .ref a0), (1, .int p0), (2, .int 0)]) rfl ?_
  refine Lp_use (fun (z15 : Int32 × Mem) => G X 3 z15.2 0 0 16 [(0, .ref a0), (1, .int p0), (2, .int z15.1)] []) h ?_
  intro K6 z hK_K6 h
  obtain ⟨x4, M5⟩ := z
  replace h := h _ _ rfl
  show G X 3 M5 0 0 16 [(0, .ref a0), (1, .int p0), (2, .int x4)] []
  refine g_iload_n hC 2 dX3_forget_16 rfl ?_
  refine g_iconst (v := 4) hC dX3_forget_17 (by decide) ?_
  refine g_icmp_ge hC 37 dX3_forget_18 (by decide) (fun c14 => ?_) (fun c14 => ?_)
  · replace h := h.1 c14
    refine g_pc (pc' := 37) rfl ?_
    exact hR.1 rfl _ _ _ _ _ dX3_forget_37 ⟨rfl, h⟩
  · replace h := h.2 c14
    refine g_pc (pc' := 21) rfl ?_
    refine g_aload_n (r := (some a0)) hC 0 dX3_forget_21 rfl ?_
    obtain ⟨hc7, h⟩ := h
    obtain ⟨b8, eb8, h⟩ := h
    refine g_getA hC kc3 1 (by decide) wm_1_140 dX3_forget_22 rfl hc7 eb8 ?_
    refine g_iload_n hC 2 dX3_forget_25 rfl ?_
    obtain ⟨hc9, h⟩ := h
    obtain ⟨b10, eb10, h⟩ := h
    refine g_aaldA hC (by decide) dX3_forget_26 hc9 eb10 ?_
    refine g_iload_n hC 1 dX3_forget_27 rfl ?_
    obtain ⟨hc11, h⟩ := h
    refine g_callV hC (As := [.int p0]) (fun l D dA ht => s_X0_drop l D dA ht _ _ _ _ h) wm_2_154 wm_2_151 wm_2_152 wm_2_153 wm_1_6 (by decide +kernel : plainY yX0_drop 1) kc0.1 kc0.2.1 dX3_forget_28 (by decide) (Nat.le_of_ble_eq_true rfl) hc11 (Or.inl ⟨rfl, rfl⟩) ?_
    intro M9 v9 h
    obtain ⟨rfl, h⟩ := h
    generalize M9 = M12 at h ⊢
    show G X 3 M12 0 0 31 [(0, .ref a0), (1, .int p0), (2, .int x4)] []
    obtain ⟨x13, ex13⟩ : ∃ w, w = x4 + 1 := ⟨_, rfl⟩
    replace h := h x13 ex13
    refine g_iinc (v := x13) (lv' := [(2, .int x13), (0, .ref a0), (1, .int p0)]) hC 2 dX3_forget_31 rfl (by rw [ex13]; rfl) (by decide) rfl ?_
    refine g_goto hC 16 dX3_forget_34 (by decide) ?_
    refine g_sub [1, 2, 0] (lv' := [(0, .ref a0), (1, .int p0), (2, .int x13)]) rfl ?_
    exact hK_K6 _ h

def w_X3_looksLike (M : Mem) (a0 : Nat) (b0 : Nat) (post : Int32 → Prop) : Prop :=
  gT M a0 = some (3, 0) ∧ gT M b0 = some (3, 0) ∧ (gI M a0 0 = gI M b0 0 → Lp (fun (K4 : Int32 → Prop) (z : Int32) => ∀ (x3 : Int32), z = x3 → ((4 ≤ x3 → ((1 : Int32) = 0 ∨ (1 : Int32) = 1) ∧ post 1) ∧ (¬ (4 ≤ x3) → gT M a0 = some (3, 0) ∧ ∃ b6, gR M a0 1 = some b6 ∧ inA M b6 13 x3 ∧ ∃ b8, gR M b6 (Int32.toNatClampNeg x3) = some b8 ∧ gT M b0 = some (3, 0) ∧ ∃ b10, gR M b0 1 = some b10 ∧ inA M b10 13 x3 ∧ ∃ b12, gR M b10 (Int32.toNatClampNeg x3) = some b12 ∧ gT M b8 = some (0, 0) ∧ w_X0_looksLike M b8 b12 (fun x14 => (x14 = 0 → ((0 : Int32) = 0 ∨ (0 : Int32) = 1) ∧ post 0) ∧ (¬ (x14 = 0) → ∀ x15, x15 = x3 + 1 → K4 x15))))) 0) ∧ (¬ (gI M a0 0 = gI M b0 0) → ((0 : Int32) = 0 ∨ (0 : Int32) = 1) ∧ post 0)
set_option maxRecDepth 100000 in
set_option maxHeartbeats 8000000 in
theorem s_X3_looksLike (l : Launch) (D : va_G) (dA : Nat → ClassId) (htr : l.stackTraces = false) (M : Mem) (a0 : Nat) (b0 : Nat) (post : Int32 → Prop) (h : w_X3_looksLike M a0 b0 post) : CtN l D dA yX3_looksLike cX3_looksLike 3 (some .boolean) 2 [.ref a0, .ref b0] M 0 0 (pI (fun M' r => M' = M ∧ post r)) := by
  refine ct_ofN htr (by decide) (Nat.le_of_ble_eq_true rfl) ?_
  intro X hC hN hR
  show G X 3 M 0 0 0 [(0, .ref a0), (1, .ref b0)] []
  unfold w_X3_looksLike at h
  refine g_aload_n (r := (some a0)) hC 0 dX3_looksLike_0 rfl ?_
  obtain ⟨hc1, h⟩ := h
  refine g_getI hC kc3 0 (by decide) wm_1_138 dX3_looksLike_1 rfl hc1 ?_
  refine g_aload_n (r := (some b0)) hC 1 dX3_looksLike_4 rfl ?_
  obtain ⟨hc2, h⟩ := h
  refine g_getI hC kc3 0 (by decide) wm_1_138 dX3_looksLike_5 rfl hc2 ?_
  refine g_icmp_eq hC 13 dX3_looksLike_8 (by decide) (fun c19 => ?_) (fun c19 => ?_)
  · replace h := h.1 c19
    refine g_iconst (v := 0) hC dX3_looksLike_13 (by decide) ?_
    refine g_istore_n (lv' := [(2, .int 0), (0, .ref a0), (1, .ref b0)]) hC dX3_looksLike_14 (by decide) rfl ?_
    refine g_sub [1, 2, 0] (lv' := [(0, .ref a0), (1, .ref b0), (2, .int 0)]) rfl ?_
    refine Lp_use (fun (z18 : Int32) => G X 3 M 0 0 15 [(0, .ref a0), (1, .ref b0), (2, .int z18)] []) h ?_
    intro K4 z hK_K4 h
    obtain ⟨x3, hz⟩ : ∃ w, w = z := ⟨_, rfl⟩; subst hz
    replace h := h _ rfl
    show G X 3 M 0 0 15 [(0, .ref a0), (1, .ref b0), (2, .int x3)] []
    refine g_pc (pc' := 15) rfl ?_
    refine g_iload_n hC 2 dX3_looksLike_15 rfl ?_
    refine g_iconst (v := 4) hC dX3_looksLike_16 (by decide) ?_
    refine g_icmp_ge hC 46 dX3_looksLike_17 (by decide) (fun c17 => ?_) (fun c17 => ?_)
    · replace h := h.1 c17
      refine g_iconst (v := 1) hC dX3_looksLike_46 (by decide) ?_
      exact hR.2.2.1 rfl _ _ _ _ _ _ dX3_looksLike_47 ⟨h.1, ⟨_, rfl, rfl, h.2⟩⟩
    · replace h := h.2 c17
      refine g_aload_n (r := (some a0)) hC 0 dX3_looksLike_20 rfl ?_
      obtain ⟨hc5, h⟩ := h
      obtain ⟨b6, eb6, h⟩ := h
      refine g_getA hC kc3 1 (by decide) wm_1_140 dX3_looksLike_21 rfl hc5 eb6 ?_
      refine g_iload_n hC 2 dX3_looksLike_24 rfl ?_
      obtain ⟨hc7, h⟩ := h
      obtain ⟨b8, eb8, h⟩ := h
      refine g_aaldA hC (by decide) dX3_looksLike_25 hc7 eb8 ?_
      refine g_aload_n (r := (some b0)) hC 1 dX3_looksLike_26 rfl ?_
      obtain ⟨hc9, h⟩ := h
      obtain ⟨b10, eb10, h⟩ := h
      refine g_pc (pc' := 27) rfl ?_
      refine g_getA hC kc3 1 (by decide) wm_1_140 dX3_looksLike_27 rfl hc9 eb10 ?_
      refine g_iload_n hC 2 dX3_looksLike_30 rfl ?_
      obtain ⟨hc11, h⟩ := h
      obtain ⟨b12, eb12, h⟩ := h
      refine g_aaldA hC (by decide) dX3_looksLike_31 hc11 eb12 ?_
      obtain ⟨hc13, h⟩ := h
      refine g_callV hC (As := [.ref b12]) (fun l D dA ht => s_X0_looksLike l D dA ht _ _ _ _ h) wm_3_118 wm_3_115 wm_3_116 wm_3_117 wm_1_6 (by decide +kernel : plainY yX0_looksLike 1) kc0.1 kc0.2.1 dX3_looksLike_32 (by decide) (Nat.le_of_ble_eq_true rfl) hc13 (Or.inl ⟨rfl, rfl⟩) ?_
      intro M9 v9 h
      obtain ⟨x14, rfl, h⟩ := h
      obtain ⟨hM9, h⟩ := h
      rw [hM9]
      show G X 3 M 0 0 35 [(0, .ref a0), (1, .ref b0), (2, .int x3)] [.int x14]
      refine g_if_ne hC 40 dX3_looksLike_35 (by decide) (fun c16 => ?_) (fun c16 => ?_)
      · replace h := h.2 c16
        obtain ⟨x15, ex15⟩ : ∃ w, w = x3 + 1 := ⟨_, rfl⟩
        replace h := h x15 ex15
        refine g_iinc (v := x15) (lv' := [(2, .int x15), (0, .ref a0), (1, .ref b0)]) hC 2 dX3_looksLike_40 rfl (by rw [ex15]; rfl) (by decide) rfl ?_
        refine g_goto hC 15 dX3_looksLike_43 (by decide) ?_
        refine g_sub [1, 2, 0] (lv' := [(0, .ref a0), (1, .ref b0), (2, .int x15)]) rfl ?_
        exact hK_K4 _ h
      · replace h := h.1 c16
        refine g_iconst (v := 0) hC dX3_looksLike_38 (by decide) ?_
        exact hR.2.2.1 rfl _ _ _ _ _ _ dX3_looksLike_39 ⟨h.1, ⟨_, rfl, rfl, h.2⟩⟩
  · replace h := h.2 c19
    refine g_iconst (v := 0) hC dX3_looksLike_11 (by decide) ?_
    exact hR.2.2.1 rfl _ _ _ _ _ _ dX3_looksLike_12 ⟨h.1, ⟨_, rfl, rfl, h.2⟩⟩

def w_X4_init (mc ms : Nat) (M : Mem) (a0 : Nat) (post : Mem → Prop) : Prop :=
  (0 + 1 ≤ mc ∧ 0 + 6 ≤ ms) ∧ ∀ q1, gT M q1 = none → ∀ M2, M2 = sN M q1 (10, 6) → gT M2 a0 = some (4, 0) ∧ ∀ M5, M5 = sR M2 a0 0 ((some q1)) → (0 + 1 + 1 ≤ mc ∧ 0 + 6 + 36 ≤ ms) ∧ ∀ q6, gT M5 q6 = none → ∀ M7, M7 = sN M5 q6 (14, 36) → gT M7 a0 = some (4, 0) ∧ ∀ M10, M10 = sR M7 a0 1 ((some q6)) → gT M10 a0 = some (4, 0) ∧ ∀ M12, M12 = sI M10 a0 2 0 → gT M12 a0 = some (4, 0) ∧ ∀ M14, M14 = sR M12 a0 3 none → gT M14 a0 = some (4, 0) ∧ ∀ M16, M16 = sI M14 a0 4 0 → Lp (fun (K21 : Int32 × Mem × Nat × Nat → Prop) (z : Int32 × Mem × Nat × Nat) => ∀ (x17 : Int32) (M18 : Mem) (k19 : Nat) (n20 : Nat), z = (x17, M18, k19, n20) → ((36 ≤ x17 → post M18) ∧ (¬ (36 ≤ x17) → gT M18 a0 = some (4, 0) ∧ ∃ b23, gR M18 a0 1 = some b23 ∧ (k19 + 1 ≤ mc ∧ n20 + 2 ≤ ms) ∧ ∀ q24, gT M18 q24 = none → ∀ M25, M25 = sN M18 q24 (2, 0) → w_X2_init M25 q24 (fun M27 => gT M27 q24 = some (2, 0) ∧ inA M27 b23 14 x17 ∧ ∀ M28, M28 = sR M27 b23 (Int32.toNatClampNeg x17) ((some q24)) → ∀ x30, x30 = x17 + 1 → K21 (x30, M28, k19 + 1, n20 + 2))))) (0, M16, 0 + 1 + 1, 0 + 6 + 36)
set_option maxRecDepth 100000 in
set_option maxHeartbeats 8000000 in
theorem s_X4_init (l : Launch) (D : va_G) (dA : Nat → ClassId) (htr : l.stackTraces = false) (mc ms : Nat) (M : Mem) (a0 : Nat) (post : Mem → Prop) (h : w_X4_init mc ms M a0 post) : CtN l D dA yX4_init cX4_init 2 (none) 3 [.ref a0] M mc ms (pV post) := by
  refine ct_ofN htr (by decide) (Nat.le_of_ble_eq_true rfl) ?_
  intro X hC hN hR
  show G X 2 M 0 0 0 [(0, .ref a0)] []
  unfold w_X4_init at h
  refine g_aload_n (r := (some a0)) hC 0 dX4_init_0 rfl ?_
  refine g_objInit hC wm_1_30 wm_1_21 wm_1_22 dX4_init_1 (Nat.le_of_ble_eq_true rfl) ?_
  refine g_aload_n (r := (some a0)) hC 0 dX4_init_4 rfl ?_
  refine g_bipush (v := 6) hC dX4_init_5 (by decide) ?_
  obtain ⟨hc3, h⟩ := h
  refine g_newa (at0 := .int) (ty := .int) (ck := 10) (N' := 6) hC rfl (by decide) wm_1_45 (by decide) (by decide +kernel) (by decide +kernel) dX4_init_7 hc3 (fun q1 hqq1 => ?_)
  obtain ⟨M2, eM2⟩ : ∃ w, w = sN M q1 (10, 6) := ⟨_, rfl⟩
  replace h := h q1 hqq1 M2 eM2
  rw [← eM2]
  obtain ⟨hc4, h⟩ := h
  refine g_putR (r := (some q1)) hC kc4 0 (by decide) wm_1_46 dX4_init_9 rfl (nar_a _) (Or.inr ⟨rfl, hN, rfl⟩) hc4 ?_
  obtain ⟨M5, eM5⟩ : ∃ w, w = sR M2 a0 0 ((some q1)) := ⟨_, rfl⟩
  replace h := h M5 eM5
  rw [← eM5]
  refine g_aload_n (r := (some a0)) hC 0 dX4_init_12 rfl ?_
  refine g_pc (pc' := 13) rfl ?_
  refine g_bipush (v := 36) hC dX4_init_13 (by decide) ?_
  obtain ⟨hc8, h⟩ := h
  refine g_newq (ck := 14) (j0 := 4) (N' := 36) hC (by decide) rfl (by decide +kernel) wm_1_31 (by decide) (by decide +kernel) (by decide +kernel) dX4_init_15 hc8 (fun q6 hqq6 => ?_)
  obtain ⟨M7, eM7⟩ : ∃ w, w = sN M5 q6 (14, 36) := ⟨_, rfl⟩
  replace h := h q6 hqq6 M7 eM7
  rw [← eM7]
  obtain ⟨hc9, h⟩ := h
  refine g_putR (r := (some q6)) hC kc4 1 (by decide) wm_1_47 dX4_init_18 rfl (nar_a _) (Or.inr ⟨rfl, hN, rfl⟩) hc9 ?_
  obtain ⟨M10, eM10⟩ : ∃ w, w = sR M7 a0 1 ((some q6)) := ⟨_, rfl⟩
  replace h := h M10 eM10
  rw [← eM10]
  refine g_aload_n (r := (some a0)) hC 0 dX4_init_21 rfl ?_
  refine g_iconst (v := 0) hC dX4_init_22 (by decide) ?_
  obtain ⟨hc11, h⟩ := h
  refine g_putI hC kc4 2 (by decide) wm_1_48 dX4_init_23 rfl rfl (Or.inl rfl) hc11 ?_
  obtain ⟨M12, eM12⟩ : ∃ w, w = sI M10 a0 2 0 := ⟨_, rfl⟩
  replace h := h M12 eM12
  rw [← eM12]
  refine g_aload_n (r := (some a0)) hC 0 dX4_init_26 rfl ?_
  refine g_null hC dX4_init_27 ?_
  obtain ⟨hc13, h⟩ := h
  refine g_pc (pc' := 28) rfl ?_
  refine g_putR (r := none) hC kc4 3 (by decide) wm_1_50 dX4_init_28 rfl (nar_o _) (Or.inl rfl) hc13 ?_
  obtain ⟨M14, eM14⟩ : ∃ w, w = sR M12 a0 3 none := ⟨_, rfl⟩
  replace h := h M14 eM14
  rw [← eM14]
  refine g_aload_n (r := (some a0)) hC 0 dX4_init_31 rfl ?_
  refine g_iconst (v := 0) hC dX4_init_32 (by decide) ?_
  obtain ⟨hc15, h⟩ := h
  refine g_putI hC kc4 4 (by decide) wm_1_51 dX4_init_33 rfl rfl (Or.inl rfl) hc15 ?_
  obtain ⟨M16, eM16⟩ : ∃ w, w = sI M14 a0 4 0 := ⟨_, rfl⟩
  replace h := h M16 eM16
  rw [← eM16]
  refine g_iconst (v := 0) hC dX4_init_36 (by decide) ?_
  refine g_istore_n (lv' := [(1, .int 0), (0, .ref a0)]) hC dX4_init_37 (by decide) rfl ?_
  refine g_sub [1, 0] (lv' := [(0, .ref a0), (1, .int 0)]) rfl ?_
  refine Lp_use (fun (z32 : Int32 × Mem × Nat × Nat) => G X 2 z32.2.1 z32.2.2.1 z32.2.2.2 38 [(0, .ref a0), (1, .int z32.1)] []) h ?_
  intro K21 z hK_K21 h
  obtain ⟨x17, M18, k19, n20⟩ := z
  replace h := h _ _ _ _ rfl
  show G X 2 M18 k19 n20 38 [(0, .ref a0), (1, .int x17)] []
  refine g_iload_n hC 1 dX4_init_38 rfl ?_
  refine g_bipush (v := 36) hC dX4_init_39 (by decide) ?_
  refine g_pc (pc' := 41) rfl ?_
  refine g_icmp_ge hC 63 dX4_init_41 (by decide) (fun c31 => ?_) (fun c31 => ?_)
  · replace h := h.1 c31
    exact hR.1 rfl _ _ _ _ _ dX4_init_63 ⟨rfl, h⟩
  · replace h := h.2 c31
    refine g_aload_n (r := (some a0)) hC 0 dX4_init_44 rfl ?_
    obtain ⟨hc22, h⟩ := h
    obtain ⟨b23, eb23, h⟩ := h
    refine g_getA hC kc4 1 (by decide) wm_1_47 dX4_init_45 rfl hc22 eb23 ?_
    refine g_iload_n hC 1 dX4_init_48 rfl ?_
    obtain ⟨hc26, h⟩ := h
    refine g_newK hC kc2 wm_1_31 wm_1_33 wm_1_3 dX4_init_49 hc26 (fun q24 hqq24 => ?_)
    obtain ⟨M25, eM25⟩ : ∃ w, w = sN M18 q24 (2, 0) := ⟨_, rfl⟩
    replace h := h q24 hqq24 M25 eM25
    rw [← eM25]
    refine g_dup hC dX4_init_52 rfl ?_
    refine g_callIN hC (As := []) (fun l D dA ht => s_X2_init l D dA ht _ _ _ h) rfl wm_1_36 (by decide +kernel) wm_1_35 wm_1_3 (by decide +kernel : plainY yX2_init 0) dX4_init_53 (by decide) (Nat.le_of_ble_eq_true rfl) (Or.inl ⟨rfl, rfl⟩) ?_
    intro M9 v9 h
    obtain ⟨rfl, h⟩ := h
    generalize M9 = M27 at h ⊢
    show G X 2 M27 (k19 + 1) (n20 + 2) 56 [(0, .ref a0), (1, .int x17)] [.ref q24, .int x17, .ref b23]
    obtain ⟨hvc29, h⟩ := h
    obtain ⟨hc29, h⟩ := h
    refine g_aastA hC 2 (by decide) dX4_init_56 hc29 hvc29 ?_
    obtain ⟨M28, eM28⟩ : ∃ w, w = sR M27 b23 (Int32.toNatClampNeg x17) ((some q24)) := ⟨_, rfl⟩
    replace h := h M28 eM28
    rw [← eM28]
    obtain ⟨x30, ex30⟩ : ∃ w, w = x17 + 1 := ⟨_, rfl⟩
    replace h := h x30 ex30
    refine g_pc (pc' := 57) rfl ?_
    refine g_iinc (v := x30) (lv' := [(1, .int x30), (0, .ref a0)]) hC 1 dX4_init_57 rfl (by rw [ex30]; rfl) (by decide) rfl ?_
    refine g_goto hC 38 dX4_init_60 (by decide) ?_
    refine g_sub [1, 0] (lv' := [(0, .ref a0), (1, .int x30)]) rfl ?_
    exact hK_K21 _ h

def w_X4_haveLink (M : Mem) (a0 : Nat) (p0 : Int32) (p1 : Int32) (post : Int32 → Prop) : Prop :=
  gT M a0 = some (4, 0) ∧ ∃ b2, gR M a0 0 = some b2 ∧ inA M b2 10 p0 ∧ w_X5_has M (gI M b2 (Int32.toNatClampNeg p0)) p1 (fun x4 => ((x4 : Int32) = 0 ∨ (x4 : Int32) = 1) ∧ post x4)
set_option maxRecDepth 100000 in
set_option maxHeartbeats 8000000 in
theorem s_X4_haveLink (l : Launch) (D : va_G) (dA : Nat → ClassId) (htr : l.stackTraces = false) (M : Mem) (a0 : Nat) (p0 : Int32) (p1 : Int32) (post : Int32 → Prop) (h : w_X4_haveLink M a0 p0 p1 post) : CtN l D dA yX4_haveLink cX4_haveLink 3 (some .boolean) 2 [.ref a0, .int p0, .int p1] M 0 0 (pI (fun M' r => M' = M ∧ post r)) := by
  refine ct_ofN htr (by decide) (Nat.le_of_ble_eq_true rfl) ?_
  intro X hC hN hR
  show G X 3 M 0 0 0 [(0, .ref a0), (1, .int p0), (2, .int p1)] []
  unfold w_X4_haveLink at h
  refine g_aload_n (r := (some a0)) hC 0 dX4_haveLink_0 rfl ?_
  obtain ⟨hc1, h⟩ := h
  obtain ⟨b2, eb2, h⟩ := h
  refine g_getA hC kc4 0 (by decide) wm_1_46 dX4_haveLink_1 rfl hc1 eb2 ?_
  refine g_iload_n hC 1 dX4_haveLink_4 rfl ?_
  obtain ⟨hc3, h⟩ := h
  refine g_ialdA hC dX4_haveLink_5 hc3 ?_
  refine g_iload_n hC 2 dX4_haveLink_6 rfl ?_
  refine g_callSN hC (As := [.int (gI M b2 (Int32.toNatClampNeg p0)), .int p1]) (fun l D dA ht => s_X5_has l D dA ht _ _ _ _ h) wm_2_17 (by decide +kernel) wm_2_16 wm_1_1 (by decide +kernel : plainY yX5_has 2) dX4_haveLink_7 (by decide) (Nat.le_of_ble_eq_true rfl) (Or.inl ⟨rfl, rfl⟩) ?_
  intro M9 v9 h
  obtain ⟨x4, rfl, h⟩ := h
  obtain ⟨hM9, h⟩ := h
  rw [hM9]
  show G X 3 M 0 0 10 [(0, .ref a0), (1, .int p0), (2, .int p1)] [.int x4]
  exact hR.2.2.1 rfl _ _ _ _ _ _ dX4_haveLink_10 ⟨h.1, ⟨_, rfl, rfl, h.2⟩⟩

def w_X4_treeOf (M : Mem) (a0 : Nat) (p0 : Int32) (post : Int32 → Prop) : Prop :=
  ∀ x1, x1 = 1 <<< (p0 &&& 31) → Lp (fun (K4 : Int32 × Int32 → Prop) (z : Int32 × Int32) => ∀ (x2 : Int32) (x3 : Int32), z = (x2, x3) → ((6 ≤ x3 → post x2) ∧ (¬ (6 ≤ x3) → Lp (fun (K7 : Int32 × Int32 → Prop) (z : Int32 × Int32) => ∀ (x5 : Int32) (x6 : Int32), z = (x5, x6) → ((6 ≤ x6 → ∀ x8, x8 = x3 + 1 → K4 (x5, x8)) ∧ (¬ (6 ≤ x6) → w_X5_has M x5 x6 (fun x9 => ∀ J11 : Int32 → Prop, (∀ (x10 : Int32), (∀ x12, x12 = x6 + 1 → K7 (x10, x12)) → J11 x10) → ((x9 = 0 → J11 x5) ∧ (¬ (x9 = 0) → gT M a0 = some (4, 0) ∧ ∃ b14, gR M a0 0 = some b14 ∧ inA M b14 10 x6 ∧ ∀ x16, x16 = x5 ||| (gI M b14 (Int32.toNatClampNeg x6)) → J11 x16)))))) (x2, 0)))) (x1, 1)
set_option maxRecDepth 100000 in
set_option maxHeartbeats 8000000 in
theorem s_X4_treeOf (l : Launch) (D : va_G) (dA : Nat → ClassId) (htr : l.stackTraces = false) (M : Mem) (a0 : Nat) (p0 : Int32) (post : Int32 → Prop) (h : w_X4_treeOf M a0 p0 post) : CtN l D dA yX4_treeOf cX4_treeOf 5 (some .int) 2 [.ref a0, .int p0] M 0 0 (pI (fun M' r => M' = M ∧ post r)) := by
  refine ct_ofN htr (by decide) (Nat.le_of_ble_eq_true rfl) ?_
  intro X hC hN hR
  show G X 5 M 0 0 0 [(0, .ref a0), (1, .int p0)] []
  unfold w_X4_treeOf at h
  refine g_iconst (v := 1) hC dX4_treeOf_0 (by decide) ?_
  refine g_iload_n hC 1 dX4_treeOf_1 rfl ?_
  refine g_ishl hC dX4_treeOf_2 ?_
  obtain ⟨x1, ex1⟩ : ∃ w, w = 1 <<< (p0 &&& 31) := ⟨_, rfl⟩
  replace h := h x1 ex1
  rw [← ex1]
  refine g_istore_n (lv' := [(2, .int x1), (0, .ref a0), (1, .int p0)]) hC dX4_treeOf_3 (by decide) rfl ?_
  refine g_iconst (v := 1) hC dX4_treeOf_4 (by decide) ?_
  refine g_istore_n (lv' := [(3, .int 1), (2, .int x1), (0, .ref a0), (1, .int p0)]) hC dX4_treeOf_5 (by decide) rfl ?_
  refine g_sub [2, 3, 1, 0] (lv' := [(0, .ref a0), (1, .int p0), (2, .int x1), (3, .int 1)]) rfl ?_
  refine Lp_use (fun (z21 : Int32 × Int32) => G X 5 M 0 0 6 [(0, .ref a0), (1, .int p0), (2, .int z21.1), (3, .int z21.2)] []) h ?_
  intro K4 z hK_K4 h
  obtain ⟨x2, x3⟩ := z
  replace h := h _ _ rfl
  show G X 5 M 0 0 6 [(0, .ref a0), (1, .int p0), (2, .int x2), (3, .int x3)] []
  refine g_iload_n hC 3 dX4_treeOf_6 rfl ?_
  refine g_pc (pc' := 7) rfl ?_
  refine g_bipush (v := 6) hC dX4_treeOf_7 (by decide) ?_
  refine g_icmp_ge hC 53 dX4_treeOf_9 (by decide) (fun c20 => ?_) (fun c20 => ?_)
  · replace h := h.1 c20
    refine g_iload_n hC 2 dX4_treeOf_53 rfl ?_
    exact hR.2.1 rfl _ _ _ _ _ _ dX4_treeOf_54 ⟨_, rfl, rfl, h⟩
  · replace h := h.2 c20
    refine g_iconst (v := 0) hC dX4_treeOf_12 (by decide) ?_
    refine g_istore (lv' := [(4, .int 0), (0, .ref a0), (1, .int p0), (2, .int x2), (3, .int x3)]) hC dX4_treeOf_13 (by decide) rfl ?_
    refine g_sub [1, 2, 3, 4, 0] (lv' := [(0, .ref a0), (1, .int p0), (2, .int x2), (3, .int x3), (4, .int 0)]) rfl ?_
    refine Lp_use (fun (z19 : Int32 × Int32) => G X 5 M 0 0 15 [(0, .ref a0), (1, .int p0), (2, .int z19.1), (3, .int x3), (4, .int z19.2)] []) h ?_
    intro K7 z hK_K7 h
    obtain ⟨x5, x6⟩ := z
    replace h := h _ _ rfl
    show G X 5 M 0 0 15 [(0, .ref a0), (1, .int p0), (2, .int x5), (3, .int x3), (4, .int x6)] []
    refine g_iload hC 4 dX4_treeOf_15 rfl ?_
    refine g_bipush (v := 6) hC dX4_treeOf_17 (by decide) ?_
    refine g_icmp_ge hC 47 dX4_treeOf_19 (by decide) (fun c18 => ?_) (fun c18 => ?_)
    · replace h := h.1 c18
      obtain ⟨x8, ex8⟩ : ∃ w, w = x3 + 1 := ⟨_, rfl⟩
      replace h := h x8 ex8
      refine g_iinc (v := x8) (lv' := [(3, .int x8), (0, .ref a0), (1, .int p0), (2, .int x5), (4, .int x6)]) hC 3 dX4_treeOf_47 rfl (by rw [ex8]; rfl) (by decide) rfl ?_
      refine g_pc (pc' := 50) rfl ?_
      refine g_goto hC 6 dX4_treeOf_50 (by decide) ?_
      refine g_sub [1, 2, 3, 0] (lv' := [(0, .ref a0), (1, .int p0), (2, .int x5), (3, .int x8)]) rfl ?_
      exact hK_K4 _ h
    · replace h := h.2 c18
      refine g_iload_n hC 2 dX4_treeOf_22 rfl ?_
      refine g_pc (pc' := 23) rfl ?_
      refine g_iload hC 4 dX4_treeOf_23 rfl ?_
      refine g_callSN hC (As := [.int x5, .int x6]) (fun l D dA ht => s_X5_has l D dA ht _ _ _ _ h) wm_2_17 (by decide +kernel) wm_2_16 wm_1_1 (by decide +kernel : plainY yX5_has 2) dX4_treeOf_25 (by decide) (Nat.le_of_ble_eq_true rfl) (Or.inl ⟨rfl, rfl⟩) ?_
      intro M9 v9 h
      obtain ⟨x9, rfl, h⟩ := h
      obtain ⟨hM9, h⟩ := h
      rw [hM9]
      show G X 5 M 0 0 28 [(0, .ref a0), (1, .int p0), (2, .int x5), (3, .int x3), (4, .int x6)] [.int x9]
      replace h := h (fun (x10 : Int32) => G X 5 M 0 0 41 [(0, .ref a0), (1, .int p0), (2, .int x10), (3, .int x3), (4, .int x6)] []) (by
        intro x10 h
        show G X 5 M 0 0 41 [(0, .ref a0), (1, .int p0), (2, .int x10), (3, .int x3), (4, .int x6)] []
        obtain ⟨x12, ex12⟩ : ∃ w, w = x6 + 1 := ⟨_, rfl⟩
        replace h := h x12 ex12
        refine g_iinc (v := x12) (lv' := [(4, .int x12), (0, .ref a0), (1, .int p0), (2, .int x10), (3, .int x3)]) hC 4 dX4_treeOf_41 rfl (by rw [ex12]; rfl) (by decide) rfl ?_
        refine g_goto hC 15 dX4_treeOf_44 (by decide) ?_
        refine g_sub [1, 2, 3, 4, 0] (lv' := [(0, .ref a0), (1, .int p0), (2, .int x10), (3, .int x3), (4, .int x12)]) rfl ?_
        exact hK_K7 _ h)
      refine g_if_eq hC 41 dX4_treeOf_28 (by decide) (fun c17 => ?_) (fun c17 => ?_)
      · replace h := h.1 c17
        exact h
      · replace h := h.2 c17
        refine g_iload_n hC 2 dX4_treeOf_31 rfl ?_
        refine g_aload_n (r := (some a0)) hC 0 dX4_treeOf_32 rfl ?_
        obtain ⟨hc13, h⟩ := h
        obtain ⟨b14, eb14, h⟩ := h
        refine g_getA hC kc4 0 (by decide) wm_1_46 dX4_treeOf_33 rfl hc13 eb14 ?_
        refine g_iload hC 4 dX4_treeOf_36 rfl ?_
        obtain ⟨hc15, h⟩ := h
        refine g_ialdA hC dX4_treeOf_38 hc15 ?_
        refine g_pc (pc' := 39) rfl ?_
        refine g_ior hC dX4_treeOf_39 ?_
        obtain ⟨x16, ex16⟩ : ∃ w, w = x5 ||| (gI M b14 (Int32.toNatClampNeg x6)) := ⟨_, rfl⟩
        replace h := h x16 ex16
        rw [← ex16]
        refine g_istore_n (lv' := [(2, .int x16), (0, .ref a0), (1, .int p0), (3, .int x3), (4, .int x6)]) hC dX4_treeOf_40 (by decide) rfl ?_
        refine g_sub [1, 2, 0, 3, 4] (lv' := [(0, .ref a0), (1, .int p0), (2, .int x16), (3, .int x3), (4, .int x6)]) rfl ?_
        exact h

def w_J_bitCount (M : Mem) (p0 : Int32) (post : Int32 → Prop) : Prop :=
  ∀ x1, x1 = p0 - (((p0.toUInt32 >>> (Int32.toUInt32 1 &&& Int32.toUInt32 31)).toInt32) &&& 1431655765) → ∀ x2, x2 = (x1 &&& 858993459) + (((x1.toUInt32 >>> (Int32.toUInt32 2 &&& Int32.toUInt32 31)).toInt32) &&& 858993459) → ∀ x3, x3 = (x2 + ((x2.toUInt32 >>> (Int32.toUInt32 4 &&& Int32.toUInt32 31)).toInt32)) &&& 252645135 → ∀ x4, x4 = x3 + ((x3.toUInt32 >>> (Int32.toUInt32 8 &&& Int32.toUInt32 31)).toInt32) → ∀ x5, x5 = x4 + ((x4.toUInt32 >>> (Int32.toUInt32 16 &&& Int32.toUInt32 31)).toInt32) → post (x5 &&& 63)
set_option maxRecDepth 100000 in
set_option maxHeartbeats 8000000 in
theorem s_J_bitCount (l : Launch) (D : va_G) (dA : Nat → ClassId) (htr : l.stackTraces = false) (M : Mem) (p0 : Int32) (post : Int32 → Prop) (h : w_J_bitCount M p0 post) : CtN l D dA yJ6_bitCount_0f7a4 cJ6_bitCount_0f7a4 1 (some .int) 1 [.int p0] M 0 0 (pI (fun M' r => M' = M ∧ post r)) := by
  refine ct_ofN htr (by decide) (Nat.le_of_ble_eq_true rfl) ?_
  intro X hC hN hR
  show G X 1 M 0 0 0 [(0, .int p0)] []
  unfold w_J_bitCount at h
  refine g_iload_n hC 0 dJ6_bitCount_0f7a4_0 rfl ?_
  refine g_iload_n hC 0 dJ6_bitCount_0f7a4_1 rfl ?_
  refine g_iconst (v := 1) hC dJ6_bitCount_0f7a4_2 (by decide) ?_
  refine g_iushr hC dJ6_bitCount_0f7a4_3 ?_
  refine g_ldcw hC wm_3_43 dJ6_bitCount_0f7a4_4 ?_
  refine g_iand hC dJ6_bitCount_0f7a4_7 ?_
  refine g_isub hC dJ6_bitCount_0f7a4_8 ?_
  obtain ⟨x1, ex1⟩ : ∃ w, w = p0 - (((p0.toUInt32 >>> (Int32.toUInt32 1 &&& Int32.toUInt32 31)).toInt32) &&& 1431655765) := ⟨_, rfl⟩
  replace h := h x1 ex1
  rw [← ex1]
  refine g_pc (pc' := 9) rfl ?_
  refine g_istore_n (lv' := [(0, .int x1)]) hC dJ6_bitCount_0f7a4_9 (by decide) rfl ?_
  refine g_iload_n hC 0 dJ6_bitCount_0f7a4_10 rfl ?_
  refine g_ldcw hC wm_3_44 dJ6_bitCount_0f7a4_11 ?_
  refine g_iand hC dJ6_bitCount_0f7a4_14 ?_
  refine g_iload_n hC 0 dJ6_bitCount_0f7a4_15 rfl ?_
  refine g_iconst (v := 2) hC dJ6_bitCount_0f7a4_16 (by decide) ?_
  refine g_iushr hC dJ6_bitCount_0f7a4_17 ?_
  refine g_ldcw hC wm_3_44 dJ6_bitCount_0f7a4_18 ?_
  refine g_pc (pc' := 21) rfl ?_
  refine g_iand hC dJ6_bitCount_0f7a4_21 ?_
  refine g_iadd hC dJ6_bitCount_0f7a4_22 ?_
  obtain ⟨x2, ex2⟩ : ∃ w, w = (x1 &&& 858993459) + (((x1.toUInt32 >>> (Int32.toUInt32 2 &&& Int32.toUInt32 31)).toInt32) &&& 858993459) := ⟨_, rfl⟩
  replace h := h x2 ex2
  rw [← ex2]
  refine g_istore_n (lv' := [(0, .int x2)]) hC dJ6_bitCount_0f7a4_23 (by decide) rfl ?_
  refine g_iload_n hC 0 dJ6_bitCount_0f7a4_24 rfl ?_
  refine g_iload_n hC 0 dJ6_bitCount_0f7a4_25 rfl ?_
  refine g_iconst (v := 4) hC dJ6_bitCount_0f7a4_26 (by decide) ?_
  refine g_iushr hC dJ6_bitCount_0f7a4_27 ?_
  refine g_iadd hC dJ6_bitCount_0f7a4_28 ?_
  refine g_pc (pc' := 29) rfl ?_
  refine g_ldcw hC wm_3_45 dJ6_bitCount_0f7a4_29 ?_
  refine g_iand hC dJ6_bitCount_0f7a4_32 ?_
  obtain ⟨x3, ex3⟩ : ∃ w, w = (x2 + ((x2.toUInt32 >>> (Int32.toUInt32 4 &&& Int32.toUInt32 31)).toInt32)) &&& 252645135 := ⟨_, rfl⟩
  replace h := h x3 ex3
  rw [← ex3]
  refine g_istore_n (lv' := [(0, .int x3)]) hC dJ6_bitCount_0f7a4_33 (by decide) rfl ?_
  refine g_iload_n hC 0 dJ6_bitCount_0f7a4_34 rfl ?_
  refine g_iload_n hC 0 dJ6_bitCount_0f7a4_35 rfl ?_
  refine g_bipush (v := 8) hC dJ6_bitCount_0f7a4_36 (by decide) ?_
  refine g_iushr hC dJ6_bitCount_0f7a4_38 ?_
  refine g_iadd hC dJ6_bitCount_0f7a4_39 ?_
  obtain ⟨x4, ex4⟩ : ∃ w, w = x3 + ((x3.toUInt32 >>> (Int32.toUInt32 8 &&& Int32.toUInt32 31)).toInt32) := ⟨_, rfl⟩
  replace h := h x4 ex4
  rw [← ex4]
  refine g_pc (pc' := 40) rfl ?_
  refine g_istore_n (lv' := [(0, .int x4)]) hC dJ6_bitCount_0f7a4_40 (by decide) rfl ?_
  refine g_iload_n hC 0 dJ6_bitCount_0f7a4_41 rfl ?_
  refine g_iload_n hC 0 dJ6_bitCount_0f7a4_42 rfl ?_
  refine g_bipush (v := 16) hC dJ6_bitCount_0f7a4_43 (by decide) ?_
  refine g_iushr hC dJ6_bitCount_0f7a4_45 ?_
  refine g_iadd hC dJ6_bitCount_0f7a4_46 ?_
  obtain ⟨x5, ex5⟩ : ∃ w, w = x4 + ((x4.toUInt32 >>> (Int32.toUInt32 16 &&& Int32.toUInt32 31)).toInt32) := ⟨_, rfl⟩
  replace h := h x5 ex5
  rw [← ex5]
  refine g_istore_n (lv' := [(0, .int x5)]) hC dJ6_bitCount_0f7a4_47 (by decide) rfl ?_
  refine g_iload_n hC 0 dJ6_bitCount_0f7a4_48 rfl ?_
  refine g_pc (pc' := 49) rfl ?_
  refine g_bipush (v := 63) hC dJ6_bitCount_0f7a4_49 (by decide) ?_
  refine g_iand hC dJ6_bitCount_0f7a4_51 ?_
  exact hR.2.1 rfl _ _ _ _ _ _ dJ6_bitCount_0f7a4_52 ⟨_, rfl, rfl, h⟩

def w_X4_linksTowards (M : Mem) (a0 : Nat) (p0 : Int32) (p1 : Int32) (post : Int32 → Prop) : Prop :=
  ∀ x1, x1 = p1 ||| (1 <<< (p0 &&& 31)) → gT M a0 = some (4, 0) ∧ w_X4_treeOf M a0 p0 (fun x3 => Lp (fun (K6 : Int32 × Int32 → Prop) (z : Int32 × Int32) => ∀ (x4 : Int32) (x5 : Int32), z = (x4, x5) → ((6 ≤ x5 → w_J_bitCount M x4 (fun x7 => post (x7 - 1))) ∧ (¬ (6 ≤ x5) → Lp (fun (K10 : Int32 × Int32 → Prop) (z : Int32 × Int32) => ∀ (x8 : Int32) (x9 : Int32), z = (x8, x9) → ((6 ≤ x9 → ∀ x11, x11 = x5 + 1 → K6 (x8, x11)) ∧ (¬ (6 ≤ x9) → w_X5_has M (x8 &&& (x1 ^^^ ((-1)))) x9 (fun x12 => ∀ J14 : Int32 → Prop, (∀ (x13 : Int32), (∀ x15, x15 = x9 + 1 → K10 (x13, x15)) → J14 x13) → ((x12 = 0 → J14 x8) ∧ (¬ (x12 = 0) → gT M a0 = some (4, 0) ∧ ∃ b17, gR M a0 0 = some b17 ∧ inA M b17 10 x9 ∧ w_J_bitCount M ((gI M b17 (Int32.toNatClampNeg x9)) &&& x8) (fun x19 => (x19 = 1 → ∀ x20, x20 = x8 &&& ((1 <<< (x9 &&& 31)) ^^^ ((-1))) → J14 x20) ∧ (¬ (x19 = 1) → J14 x8)))))))) (x4, 0)))) (x3, 1))
set_option maxRecDepth 100000 in
set_option maxHeartbeats 8000000 in
theorem s_X4_linksTowards (l : Launch) (D : va_G) (dA : Nat → ClassId) (htr : l.stackTraces = false) (M : Mem) (a0 : Nat) (p0 : Int32) (p1 : Int32) (post : Int32 → Prop) (h : w_X4_linksTowards M a0 p0 p1 post) : CtN l D dA yX4_linksTowards cX4_linksTowards 7 (some .int) 3 [.ref a0, .int p0, .int p1] M 0 0 (pI (fun M' r => M' = M ∧ post r)) := by
  refine ct_ofN htr (by decide) (Nat.le_of_ble_eq_true rfl) ?_
  intro X hC hN hR
  show G X 7 M 0 0 0 [(0, .ref a0), (1, .int p0), (2, .int p1)] []
  unfold w_X4_linksTowards at h
  refine g_iload_n hC 2 dX4_linksTowards_0 rfl ?_
  refine g_iconst (v := 1) hC dX4_linksTowards_1 (by decide) ?_
  refine g_iload_n hC 1 dX4_linksTowards_2 rfl ?_
  refine g_ishl hC dX4_linksTowards_3 ?_
  refine g_ior hC dX4_linksTowards_4 ?_
  obtain ⟨x1, ex1⟩ : ∃ w, w = p1 ||| (1 <<< (p0 &&& 31)) := ⟨_, rfl⟩
  replace h := h x1 ex1
  rw [← ex1]
  refine g_istore_n (lv' := [(3, .int x1), (0, .ref a0), (1, .int p0), (2, .int p1)]) hC dX4_linksTowards_5 (by decide) rfl ?_
  refine g_aload_n (r := (some a0)) hC 1 dX4_linksTowards_6 rfl ?_
  refine g_pc (pc' := 7) rfl ?_
  refine g_iload_n hC 2 dX4_linksTowards_7 rfl ?_
  obtain ⟨hc2, h⟩ := h
  refine g_callV hC (As := [.int p0]) (fun l D dA ht => s_X4_treeOf l D dA ht _ _ _ _ h) wm_2_14 wm_3_39 wm_2_12 wm_2_13 wm_1_2 (by decide +kernel : plainY yX4_treeOf 1) kc4.1 kc4.2.1 dX4_linksTowards_8 (by decide) (Nat.le_of_ble_eq_true rfl) hc2 (Or.inl ⟨rfl, rfl⟩) ?_
  intro M9 v9 h
  obtain ⟨x3, rfl, h⟩ := h
  obtain ⟨hM9, h⟩ := h
  rw [hM9]
  show G X 7 M 0 0 11 [(3, .int x1), (0, .ref a0), (1, .int p0), (2, .int p1)] [.int x3]
  refine g_istore (lv' := [(4, .int x3), (3, .int x1), (0, .ref a0), (1, .int p0), (2, .int p1)]) hC dX4_linksTowards_11 (by decide) rfl ?_
  refine g_iconst (v := 1) hC dX4_linksTowards_13 (by decide) ?_
  refine g_istore (lv' := [(5, .int 1), (4, .int x3), (3, .int x1), (0, .ref a0), (1, .int p0), (2, .int p1)]) hC dX4_linksTowards_14 (by decide) rfl ?_
  refine g_sub [3, 4, 5, 2, 1, 0] (lv' := [(0, .ref a0), (1, .int p0), (2, .int p1), (3, .int x1), (4, .int x3), (5, .int 1)]) rfl ?_
  refine Lp_use (fun (z26 : Int32 × Int32) => G X 7 M 0 0 16 [(0, .ref a0), (1, .int p0), (2, .int p1), (3, .int x1), (4, .int z26.1), (5, .int z26.2)] []) h ?_
  intro K6 z hK_K6 h
  obtain ⟨x4, x5⟩ := z
  replace h := h _ _ rfl
  show G X 7 M 0 0 16 [(0, .ref a0), (1, .int p0), (2, .int p1), (3, .int x1), (4, .int x4), (5, .int x5)] []
  refine g_iload hC 5 dX4_linksTowards_16 rfl ?_
  refine g_bipush (v := 6) hC dX4_linksTowards_18 (by decide) ?_
  refine g_icmp_ge hC 87 dX4_linksTowards_20 (by decide) (fun c25 => ?_) (fun c25 => ?_)
  · replace h := h.1 c25
    refine g_pc (pc' := 87) rfl ?_
    refine g_iload hC 4 dX4_linksTowards_87 rfl ?_
    refine g_callS hC (As := [.int x4]) (fun l D dA ht => s_J_bitCount l D dA ht _ _ _ h) wm_3_42 wm_3_40 wm_3_41 wm_1_14 (by decide +kernel : plainY yJ6_bitCount_0f7a4 1) dX4_linksTowards_89 (by decide) (Nat.le_of_ble_eq_true rfl) (Or.inl ⟨rfl, rfl⟩) ?_
    intro M9 v9 h
    obtain ⟨x7, rfl, h⟩ := h
    obtain ⟨hM9, h⟩ := h
    rw [hM9]
    show G X 7 M 0 0 92 [(0, .ref a0), (1, .int p0), (2, .int p1), (3, .int x1), (4, .int x4), (5, .int x5)] [.int x7]
    refine g_iconst (v := 1) hC dX4_linksTowards_92 (by decide) ?_
    refine g_isub hC dX4_linksTowards_93 ?_
    exact hR.2.1 rfl _ _ _ _ _ _ dX4_linksTowards_94 ⟨_, rfl, rfl, h⟩
  · replace h := h.2 c25
    refine g_pc (pc' := 23) rfl ?_
    refine g_iconst (v := 0) hC dX4_linksTowards_23 (by decide) ?_
    refine g_istore (lv' := [(6, .int 0), (0, .ref a0), (1, .int p0), (2, .int p1), (3, .int x1), (4, .int x4), (5, .int x5)]) hC dX4_linksTowards_24 (by decide) rfl ?_
    refine g_sub [1, 2, 3, 4, 5, 6, 0] (lv' := [(0, .ref a0), (1, .int p0), (2, .int p1), (3, .int x1), (4, .int x4), (5, .int x5), (6, .int 0)]) rfl ?_
    refine Lp_use (fun (z24 : Int32 × Int32) => G X 7 M 0 0 26 [(0, .ref a0), (1, .int p0), (2, .int p1), (3, .int x1), (4, .int z24.1), (5, .int x5), (6, .int z24.2)] []) h ?_
    intro K10 z hK_K10 h
    obtain ⟨x8, x9⟩ := z
    replace h := h _ _ rfl
    show G X 7 M 0 0 26 [(0, .ref a0), (1, .int p0), (2, .int p1), (3, .int x1), (4, .int x8), (5, .int x5), (6, .int x9)] []
    refine g_iload hC 6 dX4_linksTowards_26 rfl ?_
    refine g_bipush (v := 6) hC dX4_linksTowards_28 (by decide) ?_
    refine g_icmp_ge hC 81 dX4_linksTowards_30 (by decide) (fun c23 => ?_) (fun c23 => ?_)
    · replace h := h.1 c23
      obtain ⟨x11, ex11⟩ : ∃ w, w = x5 + 1 := ⟨_, rfl⟩
      replace h := h x11 ex11
      refine g_iinc (v := x11) (lv' := [(5, .int x11), (0, .ref a0), (1, .int p0), (2, .int p1), (3, .int x1), (4, .int x8), (6, .int x9)]) hC 5 dX4_linksTowards_81 rfl (by rw [ex11]; rfl) (by decide) rfl ?_
      refine g_goto hC 16 dX4_linksTowards_84 (by decide) ?_
      refine g_sub [1, 2, 3, 4, 5, 0] (lv' := [(0, .ref a0), (1, .int p0), (2, .int p1), (3, .int x1), (4, .int x8), (5, .int x11)]) rfl ?_
      exact hK_K6 _ h
    · replace h := h.2 c23
      refine g_iload hC 4 dX4_linksTowards_33 rfl ?_
      refine g_iload_n hC 3 dX4_linksTowards_35 rfl ?_
      refine g_iconst (v := (-1)) hC dX4_linksTowards_36 (by decide) ?_
      refine g_pc (pc' := 37) rfl ?_
      refine g_ixor hC dX4_linksTowards_37 ?_
      refine g_iand hC dX4_linksTowards_38 ?_
      refine g_iload hC 6 dX4_linksTowards_39 rfl ?_
      refine g_callSN hC (As := [.int (x8 &&& (x1 ^^^ ((-1)))), .int x9]) (fun l D dA ht => s_X5_has l D dA ht _ _ _ _ h) wm_2_17 (by decide +kernel) wm_2_16 wm_1_1 (by decide +kernel : plainY yX5_has 2) dX4_linksTowards_41 (by decide) (Nat.le_of_ble_eq_true rfl) (Or.inl ⟨rfl, rfl⟩) ?_
      intro M9 v9 h
      obtain ⟨x12, rfl, h⟩ := h
      obtain ⟨hM9, h⟩ := h
      rw [hM9]
      show G X 7 M 0 0 44 [(0, .ref a0), (1, .int p0), (2, .int p1), (3, .int x1), (4, .int x8), (5, .int x5), (6, .int x9)] [.int x12]
      replace h := h (fun (x13 : Int32) => G X 7 M 0 0 75 [(0, .ref a0), (1, .int p0), (2, .int p1), (3, .int x1), (4, .int x13), (5, .int x5), (6, .int x9)] []) (by
        intro x13 h
        show G X 7 M 0 0 75 [(0, .ref a0), (1, .int p0), (2, .int p1), (3, .int x1), (4, .int x13), (5, .int x5), (6, .int x9)] []
        obtain ⟨x15, ex15⟩ : ∃ w, w = x9 + 1 := ⟨_, rfl⟩
        replace h := h x15 ex15
        refine g_iinc (v := x15) (lv' := [(6, .int x15), (0, .ref a0), (1, .int p0), (2, .int p1), (3, .int x1), (4, .int x13), (5, .int x5)]) hC 6 dX4_linksTowards_75 rfl (by rw [ex15]; rfl) (by decide) rfl ?_
        refine g_goto hC 26 dX4_linksTowards_78 (by decide) ?_
        refine g_sub [1, 2, 3, 4, 5, 6, 0] (lv' := [(0, .ref a0), (1, .int p0), (2, .int p1), (3, .int x1), (4, .int x13), (5, .int x5), (6, .int x15)]) rfl ?_
        exact hK_K10 _ h)
      refine g_if_eq hC 75 dX4_linksTowards_44 (by decide) (fun c22 => ?_) (fun c22 => ?_)
      · replace h := h.1 c22
        exact h
      · replace h := h.2 c22
        refine g_aload_n (r := (some a0)) hC 0 dX4_linksTowards_47 rfl ?_
        obtain ⟨hc16, h⟩ := h
        obtain ⟨b17, eb17, h⟩ := h
        refine g_getA hC kc4 0 (by decide) wm_1_46 dX4_linksTowards_48 rfl hc16 eb17 ?_
        refine g_iload hC 6 dX4_linksTowards_51 rfl ?_
        obtain ⟨hc18, h⟩ := h
        refine g_pc (pc' := 53) rfl ?_
        refine g_ialdA hC dX4_linksTowards_53 hc18 ?_
        refine g_iload hC 4 dX4_linksTowards_54 rfl ?_
        refine g_iand hC dX4_linksTowards_56 ?_
        refine g_callS hC (As := [.int ((gI M b17 (Int32.toNatClampNeg x9)) &&& x8)]) (fun l D dA ht => s_J_bitCount l D dA ht _ _ _ h) wm_3_42 wm_3_40 wm_3_41 wm_1_14 (by decide +kernel : plainY yJ6_bitCount_0f7a4 1) dX4_linksTowards_57 (by decide) (Nat.le_of_ble_eq_true rfl) (Or.inl ⟨rfl, rfl⟩) ?_
        intro M9 v9 h
        obtain ⟨x19, rfl, h⟩ := h
        obtain ⟨hM9, h⟩ := h
        rw [hM9]
        show G X 7 M 0 0 60 [(0, .ref a0), (1, .int p0), (2, .int p1), (3, .int x1), (4, .int x8), (5, .int x5), (6, .int x9)] [.int x19]
        refine g_iconst (v := 1) hC dX4_linksTowards_60 (by decide) ?_
        refine g_icmp_ne hC 75 dX4_linksTowards_61 (by decide) (fun c21 => ?_) (fun c21 => ?_)
        · replace h := h.2 c21
          exact h
        · replace h := h.1 c21
          refine g_iload hC 4 dX4_linksTowards_64 rfl ?_
          refine g_iconst (v := 1) hC dX4_linksTowards_66 (by decide) ?_
          refine g_pc (pc' := 67) rfl ?_
          refine g_iload hC 6 dX4_linksTowards_67 rfl ?_
          refine g_ishl hC dX4_linksTowards_69 ?_
          refine g_iconst (v := (-1)) hC dX4_linksTowards_70 (by decide) ?_
          refine g_ixor hC dX4_linksTowards_71 ?_
          refine g_iand hC dX4_linksTowards_72 ?_
          obtain ⟨x20, ex20⟩ : ∃ w, w = x8 &&& ((1 <<< (x9 &&& 31)) ^^^ ((-1))) := ⟨_, rfl⟩
          replace h := h x20 ex20
          rw [← ex20]
          refine g_istore (lv' := [(4, .int x20), (0, .ref a0), (1, .int p0), (2, .int p1), (3, .int x1), (5, .int x5), (6, .int x9)]) hC dX4_linksTowards_73 (by decide) rfl ?_
          refine g_sub [1, 2, 3, 4, 0, 5, 6] (lv' := [(0, .ref a0), (1, .int p0), (2, .int p1), (3, .int x1), (4, .int x20), (5, .int x5), (6, .int x9)]) rfl ?_
          exact h

def w_X4_connect (M : Mem) (a0 : Nat) (p0 : Int32) (p1 : Int32) (post : Mem → Prop) : Prop :=
  gT M a0 = some (4, 0) ∧ ∃ b2, gR M a0 0 = some b2 ∧ inA M b2 10 p0 ∧ inA M b2 10 p0 ∧ ∀ M4, M4 = sI M b2 (Int32.toNatClampNeg p0) ((gI M b2 (Int32.toNatClampNeg p0)) ||| (1 <<< (p1 &&& 31))) → gT M4 a0 = some (4, 0) ∧ ∃ b7, gR M4 a0 0 = some b7 ∧ inA M4 b7 10 p1 ∧ inA M4 b7 10 p1 ∧ ∀ M9, M9 = sI M4 b7 (Int32.toNatClampNeg p1) ((gI M4 b7 (Int32.toNatClampNeg p1)) ||| (1 <<< (p0 &&& 31))) → post M9
set_option maxRecDepth 100000 in
set_option maxHeartbeats 8000000 in
theorem s_X4_connect (l : Launch) (D : va_G) (dA : Nat → ClassId) (htr : l.stackTraces = false) (M : Mem) (a0 : Nat) (p0 : Int32) (p1 : Int32) (post : Mem → Prop) (h : w_X4_connect M a0 p0 p1 post) : CtN l D dA yX4_connect cX4_connect 3 (none) 1 [.ref a0, .int p0, .int p1] M 0 0 (pV post) := by
  refine ct_ofN htr (by decide) (Nat.le_of_ble_eq_true rfl) ?_
  intro X hC hN hR
  show G X 3 M 0 0 0 [(0, .ref a0), (1, .int p0), (2, .int p1)] []
  unfold w_X4_connect at h
  refine g_aload_n (r := (some a0)) hC 0 dX4_connect_0 rfl ?_
  obtain ⟨hc1, h⟩ := h
  obtain ⟨b2, eb2, h⟩ := h
  refine g_getA hC kc4 0 (by decide) wm_1_46 dX4_connect_1 rfl hc1 eb2 ?_
  refine g_iload_n hC 1 dX4_connect_4 rfl ?_
  refine g_dup2 hC dX4_connect_5 rfl rfl ?_
  obtain ⟨hc3, h⟩ := h
  refine g_ialdA hC dX4_connect_6 hc3 ?_
  refine g_iconst (v := 1) hC dX4_connect_7 (by decide) ?_
  refine g_iload_n hC 2 dX4_connect_8 rfl ?_
  refine g_pc (pc' := 9) rfl ?_
  refine g_ishl hC dX4_connect_9 ?_
  refine g_ior hC dX4_connect_10 ?_
  obtain ⟨hc5, h⟩ := h
  refine g_iastA hC dX4_connect_11 hc5 ?_
  obtain ⟨M4, eM4⟩ : ∃ w, w = sI M b2 (Int32.toNatClampNeg p0) ((gI M b2 (Int32.toNatClampNeg p0)) ||| (1 <<< (p1 &&& 31))) := ⟨_, rfl⟩
  replace h := h M4 eM4
  rw [← eM4]
  refine g_aload_n (r := (some a0)) hC 0 dX4_connect_12 rfl ?_
  obtain ⟨hc6, h⟩ := h
  obtain ⟨b7, eb7, h⟩ := h
  refine g_getA hC kc4 0 (by decide) wm_1_46 dX4_connect_13 rfl hc6 eb7 ?_
  refine g_iload_n hC 2 dX4_connect_16 rfl ?_
  refine g_dup2 hC dX4_connect_17 rfl rfl ?_
  obtain ⟨hc8, h⟩ := h
  refine g_ialdA hC dX4_connect_18 hc8 ?_
  refine g_pc (pc' := 19) rfl ?_
  refine g_iconst (v := 1) hC dX4_connect_19 (by decide) ?_
  refine g_iload_n hC 1 dX4_connect_20 rfl ?_
  refine g_ishl hC dX4_connect_21 ?_
  refine g_ior hC dX4_connect_22 ?_
  obtain ⟨hc10, h⟩ := h
  refine g_iastA hC dX4_connect_23 hc10 ?_
  obtain ⟨M9, eM9⟩ : ∃ w, w = sI M4 b7 (Int32.toNatClampNeg p1) ((gI M4 b7 (Int32.toNatClampNeg p1)) ||| (1 <<< (p0 &&& 31))) := ⟨_, rfl⟩
  replace h := h M9 eM9
  rw [← eM9]
  exact hR.1 rfl _ _ _ _ _ dX4_connect_24 ⟨rfl, h⟩

def w_X4_take (M : Mem) (a0 : Nat) (p0 : Int32) (p1 : Int32) (post : Mem → Option Nat → Prop) : Prop :=
  gT M a0 = some (4, 0) ∧ ∃ b2, gR M a0 1 = some b2 ∧ inA M b2 14 ((p0 * 6) + p1) ∧ ∃ b4, gR M b2 (Int32.toNatClampNeg ((p0 * 6) + p1)) = some b4 ∧ gT M b4 = some (2, 0) ∧ w_X2_takeFirst M b4 (fun M6 r7 => ∀ J9 : Mem → Prop, (∀ (M8 : Mem), (post M8 r7) → J9 M8) → ((r7 = none → J9 M6) ∧ (∀ b10, r7 = some b10 → gT M6 a0 = some (4, 0) ∧ gT M6 a0 = some (4, 0) ∧ ∀ M13, M13 = sI M6 a0 2 ((gI M6 a0 2) - 1) → J9 M13)))
set_option maxRecDepth 100000 in
set_option maxHeartbeats 8000000 in
theorem s_X4_take (l : Launch) (D : va_G) (dA : Nat → ClassId) (htr : l.stackTraces = false) (M : Mem) (a0 : Nat) (p0 : Int32) (p1 : Int32) (post : Mem → Option Nat → Prop) (h : w_X4_take M a0 p0 p1 post) : CtN l D dA yX4_take cX4_take 4 (some (.object "ChatRelay$Line")) 2 [.ref a0, .int p0, .int p1] M 0 0 (pR post) := by
  refine ct_ofN htr (by decide) (Nat.le_of_ble_eq_true rfl) ?_
  intro X hC hN hR
  show G X 4 M 0 0 0 [(0, .ref a0), (1, .int p0), (2, .int p1)] []
  unfold w_X4_take at h
  refine g_aload_n (r := (some a0)) hC 0 dX4_take_0 rfl ?_
  obtain ⟨hc1, h⟩ := h
  obtain ⟨b2, eb2, h⟩ := h
  refine g_getA hC kc4 1 (by decide) wm_1_47 dX4_take_1 rfl hc1 eb2 ?_
  refine g_iload_n hC 1 dX4_take_4 rfl ?_
  refine g_bipush (v := 6) hC dX4_take_5 (by decide) ?_
  refine g_imul hC dX4_take_7 ?_
  refine g_iload_n hC 2 dX4_take_8 rfl ?_
  refine g_iadd hC dX4_take_9 ?_
  obtain ⟨hc3, h⟩ := h
  obtain ⟨b4, eb4, h⟩ := h
  refine g_pc (pc' := 10) rfl ?_
  refine g_aaldA hC (by decide) dX4_take_10 hc3 eb4 ?_
  obtain ⟨hc5, h⟩ := h
  refine g_callV hC (As := []) (fun l D dA ht => s_X2_takeFirst l D dA ht _ _ _ h) wm_2_138 wm_2_135 wm_2_136 wm_2_137 wm_1_3 (by decide +kernel : plainY yX2_takeFirst 0) kc2.1 kc2.2.1 dX4_take_11 (by decide) (Nat.le_of_ble_eq_true rfl) hc5 (Or.inl ⟨rfl, rfl⟩) ?_
  intro M9 v9 h
  obtain ⟨r7, rfl, h⟩ := h
  generalize M9 = M6 at h ⊢
  show G X 4 M6 0 0 14 [(0, .ref a0), (1, .int p0), (2, .int p1)] [va_rf r7]
  refine g_astore_n (r := r7) (lv' := [(3, va_rf r7), (0, .ref a0), (1, .int p0), (2, .int p1)]) hC dX4_take_14 (by decide) rfl ?_
  refine g_aload_n (r := r7) hC 0 dX4_take_15 rfl ?_
  replace h := h (fun (M8 : Mem) => G X 4 M8 0 0 29 [(0, .ref a0), (1, .int p0), (2, .int p1), (3, va_rf r7)] []) (by
    intro M8 h
    show G X 4 M8 0 0 29 [(0, .ref a0), (1, .int p0), (2, .int p1), (3, va_rf r7)] []
    refine g_aload_n (r := r7) hC 3 dX4_take_29 rfl ?_
    exact hR.2.2.2 _ rfl _ _ _ _ _ r7 dX4_take_30 ⟨_, rfl, h⟩)
  refine g_ifnull hC 29 dX4_take_16 (by decide) (fun eb10 => ?_) (fun b10 eb10 => ?_)
  · replace h := h.1 eb10
    subst eb10
    refine g_sub [1, 2, 3, 0] (lv' := [(0, .ref a0), (1, .int p0), (2, .int p1), (3, va_rf none)]) rfl ?_
    exact h
  · replace h := h.2 b10 eb10
    subst eb10
    refine g_aload_n (r := (some a0)) hC 1 dX4_take_19 rfl ?_
    refine g_dup hC dX4_take_20 rfl ?_
    obtain ⟨hc11, h⟩ := h
    refine g_getI hC kc4 2 (by decide) wm_1_48 dX4_take_21 rfl hc11 ?_
    refine g_pc (pc' := 24) rfl ?_
    refine g_iconst (v := 1) hC dX4_take_24 (by decide) ?_
    refine g_isub hC dX4_take_25 ?_
    obtain ⟨hc12, h⟩ := h
    refine g_putI hC kc4 2 (by decide) wm_1_48 dX4_take_26 rfl rfl (Or.inl rfl) hc12 ?_
    obtain ⟨M13, eM13⟩ : ∃ w, w = sI M6 a0 2 ((gI M6 a0 2) - 1) := ⟨_, rfl⟩
    replace h := h M13 eM13
    rw [← eM13]
    refine g_sub [1, 2, 3, 0] (lv' := [(0, .ref a0), (1, .int p0), (2, .int p1), (3, .ref b10)]) rfl ?_
    exact h

def w_X4_keepSpare (M : Mem) (a0 : Nat) (b0 : Nat) (post : Mem → Prop) : Prop :=
  gT M a0 = some (4, 0) ∧ ∀ r2, gR M a0 3 = r2 → gT M b0 = some (1, 0) ∧ ∀ M4, M4 = sR M b0 7 r2 → gT M4 a0 = some (4, 0) ∧ ∀ M6, M6 = sR M4 a0 3 ((some b0)) → post M6
set_option maxRecDepth 100000 in
set_option maxHeartbeats 8000000 in
theorem s_X4_keepSpare (l : Launch) (D : va_G) (dA : Nat → ClassId) (htr : l.stackTraces = false) (M : Mem) (a0 : Nat) (b0 : Nat) (post : Mem → Prop) (h : w_X4_keepSpare M a0 b0 post) : CtN l D dA yX4_keepSpare cX4_keepSpare 2 (none) 1 [.ref a0, .ref b0] M 0 0 (pV post) := by
  refine ct_ofN htr (by decide) (Nat.le_of_ble_eq_true rfl) ?_
  intro X hC hN hR
  show G X 2 M 0 0 0 [(0, .ref a0), (1, .ref b0)] []
  unfold w_X4_keepSpare at h
  refine g_aload_n (r := (some b0)) hC 1 dX4_keepSpare_0 rfl ?_
  refine g_aload_n (r := (some a0)) hC 0 dX4_keepSpare_1 rfl ?_
  obtain ⟨hc1, h⟩ := h
  obtain ⟨r2, er2⟩ : ∃ w, gR M a0 3 = w := ⟨_, rfl⟩
  replace h := h r2 er2
  refine g_getR hC kc4 3 (by decide) wm_1_50 dX4_keepSpare_2 rfl hc1 er2 ?_
  obtain ⟨hc3, h⟩ := h
  refine g_putR (r := r2) hC kc1 7 (by decide) wm_1_88 dX4_keepSpare_5 rfl (nar_o _) (Or.inl rfl) hc3 ?_
  obtain ⟨M4, eM4⟩ : ∃ w, w = sR M b0 7 r2 := ⟨_, rfl⟩
  replace h := h M4 eM4
  rw [← eM4]
  refine g_aload_n (r := (some a0)) hC 0 dX4_keepSpare_8 rfl ?_
  refine g_aload_n (r := (some b0)) hC 1 dX4_keepSpare_9 rfl ?_
  obtain ⟨hc5, h⟩ := h
  refine g_putR (r := (some b0)) hC kc4 3 (by decide) wm_1_50 dX4_keepSpare_10 rfl (nar_o _) (Or.inl rfl) hc5 ?_
  obtain ⟨M6, eM6⟩ : ∃ w, w = sR M4 a0 3 ((some b0)) := ⟨_, rfl⟩
  replace h := h M6 eM6
  rw [← eM6]
  refine g_pc (pc' := 13) rfl ?_
  exact hR.1 rfl _ _ _ _ _ dX4_keepSpare_13 ⟨rfl, h⟩

def w_X4_loseLines (M : Mem) (a0 : Nat) (p0 : Int32) (p1 : Int32) (post : Mem → Prop) : Prop :=
  gT M a0 = some (4, 0) ∧ w_X4_take M a0 p0 p1 (fun M2 r3 => Lp (fun (K7 : Option Nat × Int32 × Mem → Prop) (z : Option Nat × Int32 × Mem) => ∀ (r4 : Option Nat) (x5 : Int32) (M6 : Mem), z = (r4, x5, M6) → (∀ J8 : Prop, ((post M6) → J8) → ((150000 ≤ x5 → J8) ∧ (¬ (150000 ≤ x5) → (r4 = none → J8) ∧ (∀ b9, r4 = some b9 → gT M6 a0 = some (4, 0) ∧ w_X4_keepSpare M6 a0 b9 (fun M11 => gT M11 a0 = some (4, 0) ∧ w_X4_take M11 a0 p0 p1 (fun M13 r14 => ∀ x15, x15 = x5 + 1 → K7 (r14, x15, M13)))))))) (r3, 0, M2))
set_option maxRecDepth 100000 in
set_option maxHeartbeats 8000000 in
theorem s_X4_loseLines (l : Launch) (D : va_G) (dA : Nat → ClassId) (htr : l.stackTraces = false) (M : Mem) (a0 : Nat) (p0 : Int32) (p1 : Int32) (post : Mem → Prop) (h : w_X4_loseLines M a0 p0 p1 post) : CtN l D dA yX4_loseLines cX4_loseLines 5 (none) 3 [.ref a0, .int p0, .int p1] M 0 0 (pV post) := by
  refine ct_ofN htr (by decide) (Nat.le_of_ble_eq_true rfl) ?_
  intro X hC hN hR
  show G X 5 M 0 0 0 [(0, .ref a0), (1, .int p0), (2, .int p1)] []
  unfold w_X4_loseLines at h
  refine g_aload_n (r := (some a0)) hC 0 dX4_loseLines_0 rfl ?_
  refine g_iload_n hC 1 dX4_loseLines_1 rfl ?_
  refine g_iload_n hC 2 dX4_loseLines_2 rfl ?_
  obtain ⟨hc1, h⟩ := h
  refine g_callV hC (As := [.int p0, .int p1]) (fun l D dA ht => s_X4_take l D dA ht _ _ _ _ _ h) wm_2_134 wm_2_131 wm_2_132 wm_2_133 wm_1_2 (by decide +kernel : plainY yX4_take 2) kc4.1 kc4.2.1 dX4_loseLines_3 (by decide) (Nat.le_of_ble_eq_true rfl) hc1 (Or.inl ⟨rfl, rfl⟩) ?_
  intro M9 v9 h
  obtain ⟨r3, rfl, h⟩ := h
  generalize M9 = M2 at h ⊢
  show G X 5 M2 0 0 6 [(0, .ref a0), (1, .int p0), (2, .int p1)] [va_rf r3]
  refine g_astore_n (r := r3) (lv' := [(3, va_rf r3), (0, .ref a0), (1, .int p0), (2, .int p1)]) hC dX4_loseLines_6 (by decide) rfl ?_
  refine g_iconst (v := 0) hC dX4_loseLines_7 (by decide) ?_
  refine g_istore (lv' := [(4, .int 0), (3, va_rf r3), (0, .ref a0), (1, .int p0), (2, .int p1)]) hC dX4_loseLines_8 (by decide) (by cases r3 <;> rfl) ?_
  refine g_sub [2, 3, 4, 1, 0] (lv' := [(0, .ref a0), (1, .int p0), (2, .int p1), (3, va_rf r3), (4, .int 0)]) rfl ?_
  refine Lp_use (fun (z17 : Option Nat × Int32 × Mem) => G X 5 z17.2.2 0 0 10 [(0, .ref a0), (1, .int p0), (2, .int p1), (3, va_rf z17.1), (4, .int z17.2.1)] []) h ?_
  intro K7 z hK_K7 h
  obtain ⟨r4, x5, M6⟩ := z
  replace h := h _ _ _ rfl
  show G X 5 M6 0 0 10 [(0, .ref a0), (1, .int p0), (2, .int p1), (3, va_rf r4), (4, .int x5)] []
  refine g_pc (pc' := 10) rfl ?_
  refine g_iload hC 4 dX4_loseLines_10 rfl ?_
  refine g_ldc hC wm_2_95 dX4_loseLines_12 ?_
  replace h := h (G X 5 M6 0 0 39 [(0, .ref a0), (1, .int p0), (2, .int p1), (3, va_rf r4), (4, .int x5)] []) (by
    intro h
    exact hR.1 rfl _ _ _ _ _ dX4_loseLines_39 ⟨rfl, h⟩)
  refine g_icmp_ge hC 39 dX4_loseLines_14 (by decide) (fun c16 => ?_) (fun c16 => ?_)
  · replace h := h.1 c16
    exact h
  · replace h := h.2 c16
    refine g_aload_n (r := r4) hC 3 dX4_loseLines_17 rfl ?_
    refine g_ifnull hC 39 dX4_loseLines_18 (by decide) (fun eb9 => ?_) (fun b9 eb9 => ?_)
    · replace h := h.1 eb9
      subst eb9
      exact h
    · replace h := h.2 b9 eb9
      subst eb9
      refine g_aload_n (r := (some a0)) hC 0 dX4_loseLines_21 rfl ?_
      refine g_aload_n (r := (some b9)) hC 3 dX4_loseLines_22 rfl ?_
      obtain ⟨hc10, h⟩ := h
      refine g_callV hC (As := [.ref b9]) (fun l D dA ht => s_X4_keepSpare l D dA ht _ _ _ _ h) wm_2_142 wm_2_139 wm_2_140 wm_2_141 wm_1_2 (by decide +kernel : plainY yX4_keepSpare 1) kc4.1 kc4.2.1 dX4_loseLines_23 (by decide) (Nat.le_of_ble_eq_true rfl) hc10 (Or.inl ⟨rfl, rfl⟩) ?_
      intro M9 v9 h
      obtain ⟨rfl, h⟩ := h
      generalize M9 = M11 at h ⊢
      show G X 5 M11 0 0 26 [(0, .ref a0), (1, .int p0), (2, .int p1), (3, .ref b9), (4, .int x5)] []
      refine g_pc (pc' := 26) rfl ?_
      refine g_aload_n (r := (some a0)) hC 0 dX4_loseLines_26 rfl ?_
      refine g_iload_n hC 1 dX4_loseLines_27 rfl ?_
      refine g_iload_n hC 2 dX4_loseLines_28 rfl ?_
      obtain ⟨hc12, h⟩ := h
      refine g_callV hC (As := [.int p0, .int p1]) (fun l D dA ht => s_X4_take l D dA ht _ _ _ _ _ h) wm_2_134 wm_2_131 wm_2_132 wm_2_133 wm_1_2 (by decide +kernel : plainY yX4_take 2) kc4.1 kc4.2.1 dX4_loseLines_29 (by decide) (Nat.le_of_ble_eq_true rfl) hc12 (Or.inl ⟨rfl, rfl⟩) ?_
      intro M9 v9 h
      obtain ⟨r14, rfl, h⟩ := h
      generalize M9 = M13 at h ⊢
      show G X 5 M13 0 0 32 [(0, .ref a0), (1, .int p0), (2, .int p1), (3, .ref b9), (4, .int x5)] [va_rf r14]
      refine g_astore_n (r := r14) (lv' := [(3, va_rf r14), (0, .ref a0), (1, .int p0), (2, .int p1), (4, .int x5)]) hC dX4_loseLines_32 (by decide) rfl ?_
      obtain ⟨x15, ex15⟩ : ∃ w, w = x5 + 1 := ⟨_, rfl⟩
      replace h := h x15 ex15
      refine g_iinc (v := x15) (lv' := [(4, .int x15), (3, va_rf r14), (0, .ref a0), (1, .int p0), (2, .int p1)]) hC 4 dX4_loseLines_33 rfl (by rw [ex15]; rfl) (by decide) (by cases r14 <;> rfl) ?_
      refine g_goto hC 10 dX4_loseLines_36 (by decide) ?_
      refine g_sub [2, 3, 4, 1, 0] (lv' := [(0, .ref a0), (1, .int p0), (2, .int p1), (3, va_rf r14), (4, .int x15)]) rfl ?_
      exact hK_K7 _ h

def w_X4_cut (M : Mem) (a0 : Nat) (p0 : Int32) (p1 : Int32) (post : Mem → Prop) : Prop :=
  gT M a0 = some (4, 0) ∧ ∃ b2, gR M a0 0 = some b2 ∧ inA M b2 10 p0 ∧ inA M b2 10 p0 ∧ ∀ M4, M4 = sI M b2 (Int32.toNatClampNeg p0) ((gI M b2 (Int32.toNatClampNeg p0)) &&& ((1 <<< (p1 &&& 31)) ^^^ ((-1)))) → gT M4 a0 = some (4, 0) ∧ ∃ b7, gR M4 a0 0 = some b7 ∧ inA M4 b7 10 p1 ∧ inA M4 b7 10 p1 ∧ ∀ M9, M9 = sI M4 b7 (Int32.toNatClampNeg p1) ((gI M4 b7 (Int32.toNatClampNeg p1)) &&& ((1 <<< (p0 &&& 31)) ^^^ ((-1)))) → gT M9 a0 = some (4, 0) ∧ w_X4_loseLines M9 a0 p0 p1 (fun M12 => gT M12 a0 = some (4, 0) ∧ w_X4_loseLines M12 a0 p1 p0 (fun M14 => post M14))
set_option maxRecDepth 100000 in
set_option maxHeartbeats 8000000 in
theorem s_X4_cut (l : Launch) (D : va_G) (dA : Nat → ClassId) (htr : l.stackTraces = false) (M : Mem) (a0 : Nat) (p0 : Int32) (p1 : Int32) (post : Mem → Prop) (h : w_X4_cut M a0 p0 p1 post) : CtN l D dA yX4_cut cX4_cut 3 (none) 4 [.ref a0, .int p0, .int p1] M 0 0 (pV post) := by
  refine ct_ofN htr (by decide) (Nat.le_of_ble_eq_true rfl) ?_
  intro X hC hN hR
  show G X 3 M 0 0 0 [(0, .ref a0), (1, .int p0), (2, .int p1)] []
  unfold w_X4_cut at h
  refine g_aload_n (r := (some a0)) hC 0 dX4_cut_0 rfl ?_
  obtain ⟨hc1, h⟩ := h
  obtain ⟨b2, eb2, h⟩ := h
  refine g_getA hC kc4 0 (by decide) wm_1_46 dX4_cut_1 rfl hc1 eb2 ?_
  refine g_iload_n hC 1 dX4_cut_4 rfl ?_
  refine g_dup2 hC dX4_cut_5 rfl rfl ?_
  obtain ⟨hc3, h⟩ := h
  refine g_ialdA hC dX4_cut_6 hc3 ?_
  refine g_iconst (v := 1) hC dX4_cut_7 (by decide) ?_
  refine g_iload_n hC 2 dX4_cut_8 rfl ?_
  refine g_pc (pc' := 9) rfl ?_
  refine g_ishl hC dX4_cut_9 ?_
  refine g_iconst (v := (-1)) hC dX4_cut_10 (by decide) ?_
  refine g_ixor hC dX4_cut_11 ?_
  refine g_iand hC dX4_cut_12 ?_
  obtain ⟨hc5, h⟩ := h
  refine g_iastA hC dX4_cut_13 hc5 ?_
  obtain ⟨M4, eM4⟩ : ∃ w, w = sI M b2 (Int32.toNatClampNeg p0) ((gI M b2 (Int32.toNatClampNeg p0)) &&& ((1 <<< (p1 &&& 31)) ^^^ ((-1)))) := ⟨_, rfl⟩
  replace h := h M4 eM4
  rw [← eM4]
  refine g_aload_n (r := (some a0)) hC 0 dX4_cut_14 rfl ?_
  obtain ⟨hc6, h⟩ := h
  obtain ⟨b7, eb7, h⟩ := h
  refine g_getA hC kc4 0 (by decide) wm_1_46 dX4_cut_15 rfl hc6 eb7 ?_
  refine g_iload_n hC 2 dX4_cut_18 rfl ?_
  refine g_pc (pc' := 19) rfl ?_
  refine g_dup2 hC dX4_cut_19 rfl rfl ?_
  obtain ⟨hc8, h⟩ := h
  refine g_ialdA hC dX4_cut_20 hc8 ?_
  refine g_iconst (v := 1) hC dX4_cut_21 (by decide) ?_
  refine g_iload_n hC 1 dX4_cut_22 rfl ?_
  refine g_ishl hC dX4_cut_23 ?_
  refine g_iconst (v := (-1)) hC dX4_cut_24 (by decide) ?_
  refine g_ixor hC dX4_cut_25 ?_
  refine g_iand hC dX4_cut_26 ?_
  obtain ⟨hc10, h⟩ := h
  refine g_pc (pc' := 27) rfl ?_
  refine g_iastA hC dX4_cut_27 hc10 ?_
  obtain ⟨M9, eM9⟩ : ∃ w, w = sI M4 b7 (Int32.toNatClampNeg p1) ((gI M4 b7 (Int32.toNatClampNeg p1)) &&& ((1 <<< (p0 &&& 31)) ^^^ ((-1)))) := ⟨_, rfl⟩
  replace h := h M9 eM9
  rw [← eM9]
  refine g_aload_n (r := (some a0)) hC 0 dX4_cut_28 rfl ?_
  refine g_iload_n hC 1 dX4_cut_29 rfl ?_
  refine g_iload_n hC 2 dX4_cut_30 rfl ?_
  obtain ⟨hc11, h⟩ := h
  refine g_callV hC (As := [.int p0, .int p1]) (fun l D dA ht => s_X4_loseLines l D dA ht _ _ _ _ _ h) wm_2_130 wm_2_127 wm_2_128 wm_2_129 wm_1_2 (by decide +kernel : plainY yX4_loseLines 2) kc4.1 kc4.2.1 dX4_cut_31 (by decide) (Nat.le_of_ble_eq_true rfl) hc11 (Or.inl ⟨rfl, rfl⟩) ?_
  intro M9 v9 h
  obtain ⟨rfl, h⟩ := h
  generalize M9 = M12 at h ⊢
  show G X 3 M12 0 0 34 [(0, .ref a0), (1, .int p0), (2, .int p1)] []
  refine g_aload_n (r := (some a0)) hC 0 dX4_cut_34 rfl ?_
  refine g_iload_n hC 2 dX4_cut_35 rfl ?_
  refine g_iload_n hC 1 dX4_cut_36 rfl ?_
  refine g_pc (pc' := 37) rfl ?_
  obtain ⟨hc13, h⟩ := h
  refine g_callV hC (As := [.int p1, .int p0]) (fun l D dA ht => s_X4_loseLines l D dA ht _ _ _ _ _ h) wm_2_130 wm_2_127 wm_2_128 wm_2_129 wm_1_2 (by decide +kernel : plainY yX4_loseLines 2) kc4.1 kc4.2.1 dX4_cut_37 (by decide) (Nat.le_of_ble_eq_true rfl) hc13 (Or.inl ⟨rfl, rfl⟩) ?_
  intro M9 v9 h
  obtain ⟨rfl, h⟩ := h
  generalize M9 = M14 at h ⊢
  show G X 3 M14 0 0 40 [(0, .ref a0), (1, .int p0), (2, .int p1)] []
  exact hR.1 rfl _ _ _ _ _ dX4_cut_40 ⟨rfl, h⟩

def w_X4_put (mc ms : Nat) (M : Mem) (a0 : Nat) (p0 : Int32) (p1 : Int32) (b2 : Nat) (post : Mem → Prop) : Prop :=
  gT M a0 = some (4, 0) ∧ ∀ r2, gR M a0 3 = r2 → ∀ J7 : Option Nat → Mem → Nat → Nat → Prop, (∀ (r3 : Option Nat) (M4 : Mem) (k5 : Nat) (n6 : Nat), (∃ b8, r3 = some b8 ∧ gT M4 b8 = some (1, 0) ∧ w_X1_copyFrom M4 b8 b2 (fun M10 => gT M10 a0 = some (4, 0) ∧ ∃ b12, gR M10 a0 1 = some b12 ∧ inA M10 b12 14 ((p0 * 6) + p1) ∧ ∃ b14, gR M10 b12 (Int32.toNatClampNeg ((p0 * 6) + p1)) = some b14 ∧ gT M10 b14 = some (2, 0) ∧ w_X2_append M10 b14 b8 (fun M16 => gT M16 a0 = some (4, 0) ∧ gT M16 a0 = some (4, 0) ∧ ∀ M19, M19 = sI M16 a0 2 ((gI M16 a0 2) + 1) → post M19))) → J7 r3 M4 k5 n6) → ((r2 = none → gT M a0 = some (4, 0) ∧ (150000 ≤ (gI M a0 4) → post M) ∧ (¬ (150000 ≤ (gI M a0 4)) → gT M a0 = some (4, 0) ∧ gT M a0 = some (4, 0) ∧ ∀ M24, M24 = sI M a0 4 ((gI M a0 4) + 1) → (0 + 1 ≤ mc ∧ 0 + 8 ≤ ms) ∧ ∀ q25, gT M24 q25 = none → ∀ M26, M26 = sN M24 q25 (1, 0) → w_X1_init M26 q25 (fun M28 => J7 ((some q25)) M28 (0 + 1) (0 + 8)))) ∧ (∀ b20, r2 = some b20 → gT M b20 = some (1, 0) ∧ ∀ r31, gR M b20 7 = r31 → gT M a0 = some (4, 0) ∧ ∀ M33, M33 = sR M a0 3 r31 → J7 ((some b20)) M33 0 0))
set_option maxRecDepth 100000 in
set_option maxHeartbeats 8000000 in
theorem s_X4_put (l : Launch) (D : va_G) (dA : Nat → ClassId) (htr : l.stackTraces = false) (mc ms : Nat) (M : Mem) (a0 : Nat) (p0 : Int32) (p1 : Int32) (b2 : Nat) (post : Mem → Prop) (h : w_X4_put mc ms M a0 p0 p1 b2 post) : CtN l D dA yX4_put cX4_put 5 (none) 3 [.ref a0, .int p0, .int p1, .ref b2] M mc ms (pV post) := by
  refine ct_ofN htr (by decide) (Nat.le_of_ble_eq_true rfl) ?_
  intro X hC hN hR
  show G X 5 M 0 0 0 [(0, .ref a0), (1, .int p0), (2, .int p1), (3, .ref b2)] []
  unfold w_X4_put at h
  refine g_aload_n (r := (some a0)) hC 0 dX4_put_0 rfl ?_
  obtain ⟨hc1, h⟩ := h
  obtain ⟨r2, er2⟩ : ∃ w, gR M a0 3 = w := ⟨_, rfl⟩
  replace h := h r2 er2
  refine g_getR hC kc4 3 (by decide) wm_1_50 dX4_put_1 rfl hc1 er2 ?_
  refine g_astore (r := r2) (lv' := [(4, va_rf r2), (0, .ref a0), (1, .int p0), (2, .int p1), (3, .ref b2)]) hC dX4_put_4 (by decide) rfl ?_
  refine g_aload (r := r2) hC 0 dX4_put_6 rfl ?_
  replace h := h (fun (r3 : Option Nat) (M4 : Mem) (k5 : Nat) (n6 : Nat) => G X 5 M4 k5 n6 55 [(0, .ref a0), (1, .int p0), (2, .int p1), (3, .ref b2), (4, va_rf r3)] []) (by
    intro r3 M4 k5 n6 h
    show G X 5 M4 k5 n6 55 [(0, .ref a0), (1, .int p0), (2, .int p1), (3, .ref b2), (4, va_rf r3)] []
    refine g_aload (r := r3) hC 4 dX4_put_55 rfl ?_
    refine g_aload_n (r := (some b2)) hC 3 dX4_put_57 rfl ?_
    obtain ⟨b8, eb8, h⟩ := h
    subst eb8
    obtain ⟨hc9, h⟩ := h
    refine g_callV hC (As := [.ref b2]) (fun l D dA ht => s_X1_copyFrom l D dA ht _ _ _ _ h) wm_2_101 wm_2_98 wm_2_99 wm_2_100 wm_1_4 (by decide +kernel : plainY yX1_copyFrom 1) kc1.1 kc1.2.1 dX4_put_58 (by decide) (Nat.le_of_ble_eq_true rfl) hc9 (Or.inl ⟨rfl, rfl⟩) ?_
    intro M9 v9 h
    obtain ⟨rfl, h⟩ := h
    generalize M9 = M10 at h ⊢
    show G X 5 M10 k5 n6 61 [(0, .ref a0), (1, .int p0), (2, .int p1), (3, .ref b2), (4, .ref b8)] []
    refine g_pc (pc' := 61) rfl ?_
    refine g_aload_n (r := (some a0)) hC 0 dX4_put_61 rfl ?_
    obtain ⟨hc11, h⟩ := h
    obtain ⟨b12, eb12, h⟩ := h
    refine g_getA hC kc4 1 (by decide) wm_1_47 dX4_put_62 rfl hc11 eb12 ?_
    refine g_iload_n hC 1 dX4_put_65 rfl ?_
    refine g_bipush (v := 6) hC dX4_put_66 (by decide) ?_
    refine g_imul hC dX4_put_68 ?_
    refine g_iload_n hC 2 dX4_put_69 rfl ?_
    refine g_iadd hC dX4_put_70 ?_
    obtain ⟨hc13, h⟩ := h
    obtain ⟨b14, eb14, h⟩ := h
    refine g_aaldA hC (by decide) dX4_put_71 hc13 eb14 ?_
    refine g_pc (pc' := 72) rfl ?_
    refine g_aload (r := (some b8)) hC 4 dX4_put_72 rfl ?_
    obtain ⟨hc15, h⟩ := h
    refine g_callV hC (As := [.ref b8]) (fun l D dA ht => s_X2_append l D dA ht _ _ _ _ h) wm_2_105 wm_2_102 wm_2_103 wm_2_104 wm_1_3 (by decide +kernel : plainY yX2_append 1) kc2.1 kc2.2.1 dX4_put_74 (by decide) (Nat.le_of_ble_eq_true rfl) hc15 (Or.inl ⟨rfl, rfl⟩) ?_
    intro M9 v9 h
    obtain ⟨rfl, h⟩ := h
    generalize M9 = M16 at h ⊢
    show G X 5 M16 k5 n6 77 [(0, .ref a0), (1, .int p0), (2, .int p1), (3, .ref b2), (4, .ref b8)] []
    refine g_aload_n (r := (some a0)) hC 0 dX4_put_77 rfl ?_
    refine g_dup hC dX4_put_78 rfl ?_
    obtain ⟨hc17, h⟩ := h
    refine g_getI hC kc4 2 (by decide) wm_1_48 dX4_put_79 rfl hc17 ?_
    refine g_iconst (v := 1) hC dX4_put_82 (by decide) ?_
    refine g_iadd hC dX4_put_83 ?_
    obtain ⟨hc18, h⟩ := h
    refine g_putI hC kc4 2 (by decide) wm_1_48 dX4_put_84 rfl rfl (Or.inl rfl) hc18 ?_
    obtain ⟨M19, eM19⟩ : ∃ w, w = sI M16 a0 2 ((gI M16 a0 2) + 1) := ⟨_, rfl⟩
    replace h := h M19 eM19
    rw [← eM19]
    refine g_pc (pc' := 87) rfl ?_
    exact hR.1 rfl _ _ _ _ _ dX4_put_87 ⟨rfl, h⟩)
  refine g_ifnull hC 23 dX4_put_8 (by decide) (fun eb20 => ?_) (fun b20 eb20 => ?_)
  · replace h := h.1 eb20
    subst eb20
    refine g_aload_n (r := (some a0)) hC 1 dX4_put_23 rfl ?_
    obtain ⟨hc21, h⟩ := h
    refine g_getI hC kc4 4 (by decide) wm_1_51 dX4_put_24 rfl hc21 ?_
    refine g_pc (pc' := 27) rfl ?_
    refine g_ldc hC wm_2_95 dX4_put_27 ?_
    refine g_icmp_ge hC 54 dX4_put_29 (by decide) (fun c29 => ?_) (fun c29 => ?_)
    · replace h := h.1 c29
      exact hR.1 rfl _ _ _ _ _ dX4_put_54 ⟨rfl, h⟩
    · replace h := h.2 c29
      refine g_aload_n (r := (some a0)) hC 1 dX4_put_32 rfl ?_
      refine g_dup hC dX4_put_33 rfl ?_
      obtain ⟨hc22, h⟩ := h
      refine g_getI hC kc4 4 (by decide) wm_1_51 dX4_put_34 rfl hc22 ?_
      refine g_iconst (v := 1) hC dX4_put_37 (by decide) ?_
      refine g_iadd hC dX4_put_38 ?_
      obtain ⟨hc23, h⟩ := h
      refine g_putI hC kc4 4 (by decide) wm_1_51 dX4_put_39 rfl rfl (Or.inl rfl) hc23 ?_
      obtain ⟨M24, eM24⟩ : ∃ w, w = sI M a0 4 ((gI M a0 4) + 1) := ⟨_, rfl⟩
      replace h := h M24 eM24
      rw [← eM24]
      obtain ⟨hc27, h⟩ := h
      refine g_pc (pc' := 42) rfl ?_
      refine g_newK hC kc1 wm_2_96 wm_1_64 wm_1_4 dX4_put_42 hc27 (fun q25 hqq25 => ?_)
      obtain ⟨M26, eM26⟩ : ∃ w, w = sN M24 q25 (1, 0) := ⟨_, rfl⟩
      replace h := h q25 hqq25 M26 eM26
      rw [← eM26]
      refine g_dup hC dX4_put_45 rfl ?_
      refine g_callIN hC (As := []) (fun l D dA ht => s_X1_init l D dA ht _ _ _ h) rfl wm_1_67 (by decide +kernel) wm_1_66 wm_1_4 (by decide +kernel : plainY yX1_init 0) dX4_put_46 (by decide) (Nat.le_of_ble_eq_true rfl) (Or.inl ⟨rfl, rfl⟩) ?_
      intro M9 v9 h
      obtain ⟨rfl, h⟩ := h
      generalize M9 = M28 at h ⊢
      show G X 5 M28 (0 + 1) (0 + 8) 49 [(4, va_rf none), (0, .ref a0), (1, .int p0), (2, .int p1), (3, .ref b2)] [.ref q25]
      refine g_astore (r := (some q25)) (lv' := [(4, .ref q25), (0, .ref a0), (1, .int p0), (2, .int p1), (3, .ref b2)]) hC dX4_put_49 (by decide) rfl ?_
      refine g_goto hC 55 dX4_put_51 (by decide) ?_
      refine g_sub [1, 2, 3, 4, 0] (lv' := [(0, .ref a0), (1, .int p0), (2, .int p1), (3, .ref b2), (4, .ref q25)]) rfl ?_
      exact h
  · replace h := h.2 b20 eb20
    subst eb20
    refine g_aload_n (r := (some a0)) hC 1 dX4_put_11 rfl ?_
    refine g_aload (r := (some b20)) hC 0 dX4_put_12 rfl ?_
    obtain ⟨hc30, h⟩ := h
    obtain ⟨r31, er31⟩ : ∃ w, gR M b20 7 = w := ⟨_, rfl⟩
    replace h := h r31 er31
    refine g_pc (pc' := 14) rfl ?_
    refine g_getR hC kc1 7 (by decide) wm_1_88 dX4_put_14 rfl hc30 er31 ?_
    obtain ⟨hc32, h⟩ := h
    refine g_putR (r := r31) hC kc4 3 (by decide) wm_1_50 dX4_put_17 rfl (nar_o _) (Or.inl rfl) hc32 ?_
    obtain ⟨M33, eM33⟩ : ∃ w, w = sR M a0 3 r31 := ⟨_, rfl⟩
    replace h := h M33 eM33
    rw [← eM33]
    refine g_goto hC 55 dX4_put_20 (by decide) ?_
    refine g_sub [1, 2, 3, 4, 0] (lv' := [(0, .ref a0), (1, .int p0), (2, .int p1), (3, .ref b2), (4, .ref b20)]) rfl ?_
    exact h

def w_X4_spread (mc ms : Nat) (M : Mem) (a0 : Nat) (p0 : Int32) (p1 : Int32) (b2 : Nat) (post : Mem → Prop) : Prop :=
  Lp (fun (K5 : Int32 × Mem × Nat × Nat → Prop) (z : Int32 × Mem × Nat × Nat) => ∀ (x1 : Int32) (M2 : Mem) (k3 : Nat) (n4 : Nat), z = (x1, M2, k3, n4) → ((6 ≤ x1 → post M2) ∧ (¬ (6 ≤ x1) → ∀ J9 : Mem → Nat → Nat → Prop, (∀ (M6 : Mem) (k7 : Nat) (n8 : Nat), (∀ x10, x10 = x1 + 1 → K5 (x10, M6, k7, n8)) → J9 M6 k7 n8) → ((x1 = p1 → J9 M2 k3 n4) ∧ (¬ (x1 = p1) → gT M2 a0 = some (4, 0) ∧ w_X4_haveLink M2 a0 p0 x1 (fun x12 => (x12 = 0 → J9 M2 k3 n4) ∧ (¬ (x12 = 0) → gT M2 a0 = some (4, 0) ∧ ∃ c14 s15, (k3 + c14 ≤ mc ∧ n4 + s15 ≤ ms) ∧ w_X4_put c14 s15 M2 a0 p0 x1 b2 (fun M16 => J9 M16 (k3 + c14) (n4 + s15))))))))) (0, M, 0, 0)
set_option maxRecDepth 100000 in
set_option maxHeartbeats 8000000 in
theorem s_X4_spread (l : Launch) (D : va_G) (dA : Nat → ClassId) (htr : l.stackTraces = false) (mc ms : Nat) (M : Mem) (a0 : Nat) (p0 : Int32) (p1 : Int32) (b2 : Nat) (post : Mem → Prop) (h : w_X4_spread mc ms M a0 p0 p1 b2 post) : CtN l D dA yX4_spread cX4_spread 5 (none) 4 [.ref a0, .int p0, .int p1, .ref b2] M mc ms (pV post) := by
  refine ct_ofN htr (by decide) (Nat.le_of_ble_eq_true rfl) ?_
  intro X hC hN hR
  show G X 5 M 0 0 0 [(0, .ref a0), (1, .int p0), (2, .int p1), (3, .ref b2)] []
  unfold w_X4_spread at h
  refine g_iconst (v := 0) hC dX4_spread_0 (by decide) ?_
  refine g_istore (lv' := [(4, .int 0), (0, .ref a0), (1, .int p0), (2, .int p1), (3, .ref b2)]) hC dX4_spread_1 (by decide) rfl ?_
  refine g_sub [1, 2, 3, 4, 0] (lv' := [(0, .ref a0), (1, .int p0), (2, .int p1), (3, .ref b2), (4, .int 0)]) rfl ?_
  refine Lp_use (fun (z20 : Int32 × Mem × Nat × Nat) => G X 5 z20.2.1 z20.2.2.1 z20.2.2.2 3 [(0, .ref a0), (1, .int p0), (2, .int p1), (3, .ref b2), (4, .int z20.1)] []) h ?_
  intro K5 z hK_K5 h
  obtain ⟨x1, M2, k3, n4⟩ := z
  replace h := h _ _ _ _ rfl
  show G X 5 M2 k3 n4 3 [(0, .ref a0), (1, .int p0), (2, .int p1), (3, .ref b2), (4, .int x1)] []
  refine g_iload hC 4 dX4_spread_3 rfl ?_
  refine g_bipush (v := 6) hC dX4_spread_5 (by decide) ?_
  refine g_icmp_ge hC 40 dX4_spread_7 (by decide) (fun c19 => ?_) (fun c19 => ?_)
  · replace h := h.1 c19
    exact hR.1 rfl _ _ _ _ _ dX4_spread_40 ⟨rfl, h⟩
  · replace h := h.2 c19
    refine g_iload hC 4 dX4_spread_10 rfl ?_
    refine g_iload_n hC 2 dX4_spread_12 rfl ?_
    replace h := h (fun (M6 : Mem) (k7 : Nat) (n8 : Nat) => G X 5 M6 k7 n8 34 [(0, .ref a0), (1, .int p0), (2, .int p1), (3, .ref b2), (4, .int x1)] []) (by
      intro M6 k7 n8 h
      show G X 5 M6 k7 n8 34 [(0, .ref a0), (1, .int p0), (2, .int p1), (3, .ref b2), (4, .int x1)] []
      obtain ⟨x10, ex10⟩ : ∃ w, w = x1 + 1 := ⟨_, rfl⟩
      replace h := h x10 ex10
      refine g_pc (pc' := 34) rfl ?_
      refine g_iinc (v := x10) (lv' := [(4, .int x10), (0, .ref a0), (1, .int p0), (2, .int p1), (3, .ref b2)]) hC 4 dX4_spread_34 rfl (by rw [ex10]; rfl) (by decide) rfl ?_
      refine g_goto hC 3 dX4_spread_37 (by decide) ?_
      refine g_sub [1, 2, 3, 4, 0] (lv' := [(0, .ref a0), (1, .int p0), (2, .int p1), (3, .ref b2), (4, .int x10)]) rfl ?_
      exact hK_K5 _ h)
    refine g_pc (pc' := 13) rfl ?_
    refine g_icmp_eq hC 34 dX4_spread_13 (by decide) (fun c18 => ?_) (fun c18 => ?_)
    · replace h := h.1 c18
      exact h
    · replace h := h.2 c18
      refine g_aload_n (r := (some a0)) hC 0 dX4_spread_16 rfl ?_
      refine g_iload_n hC 1 dX4_spread_17 rfl ?_
      refine g_iload hC 4 dX4_spread_18 rfl ?_
      obtain ⟨hc11, h⟩ := h
      refine g_callV hC (As := [.int p0, .int x1]) (fun l D dA ht => s_X4_haveLink l D dA ht _ _ _ _ _ h) wm_2_121 wm_2_197 wm_2_119 wm_2_120 wm_1_2 (by decide +kernel : plainY yX4_haveLink 2) kc4.1 kc4.2.1 dX4_spread_20 (by decide) (Nat.le_of_ble_eq_true rfl) hc11 (Or.inl ⟨rfl, rfl⟩) ?_
      intro M9 v9 h
      obtain ⟨x12, rfl, h⟩ := h
      obtain ⟨hM9, h⟩ := h
      rw [hM9]
      show G X 5 M2 k3 n4 23 [(0, .ref a0), (1, .int p0), (2, .int p1), (3, .ref b2), (4, .int x1)] [.int x12]
      refine g_if_eq hC 34 dX4_spread_23 (by decide) (fun c17 => ?_) (fun c17 => ?_)
      · replace h := h.1 c17
        exact h
      · replace h := h.2 c17
        refine g_aload_n (r := (some a0)) hC 0 dX4_spread_26 rfl ?_
        refine g_iload_n hC 1 dX4_spread_27 rfl ?_
        refine g_pc (pc' := 28) rfl ?_
        refine g_iload hC 4 dX4_spread_28 rfl ?_
        refine g_aload_n (r := (some b2)) hC 3 dX4_spread_30 rfl ?_
        obtain ⟨hc13, h⟩ := h
        obtain ⟨c14, s15, hc14, h⟩ := h
        refine g_callV hC (As := [.int p0, .int x1, .ref b2]) (fun l D dA ht => s_X4_put l D dA ht _ _ _ _ _ _ _ _ h) wm_2_94 wm_2_198 wm_2_92 wm_2_93 wm_1_2 (by decide +kernel : plainY yX4_put 3) kc4.1 kc4.2.1 dX4_spread_31 (by decide) (Nat.le_of_ble_eq_true rfl) hc13 (Or.inr hc14) ?_
        intro M9 v9 h
        obtain ⟨rfl, h⟩ := h
        generalize M9 = M16 at h ⊢
        show G X 5 M16 (k3 + c14) (n4 + s15) 34 [(0, .ref a0), (1, .int p0), (2, .int p1), (3, .ref b2), (4, .int x1)] []
        exact h
