def w_X0_init (M : Mem) (a0 : Nat) (post : Mem → Prop) : Prop :=
  gT M a0 = some (0, 0) ∧ ∀ M2, M2 = sI M a0 0 ((-1)) → gT M2 a0 = some (0, 0) ∧ ∀ M4, M4 = sI M2 a0 1 ((-1)) → gT M4 a0 = some (0, 0) ∧ ∀ M6, M6 = sI M4 a0 2 ((-1)) → gT M6 a0 = some (0, 0) ∧ ∀ M8, M8 = sI M6 a0 3 0 → post M8
set_option maxRecDepth 100000 in
set_option maxHeartbeats 8000000 in
theorem s_X0_init (l : Launch) (D : va_G) (dA : Nat → ClassId) (htr : l.stackTraces = false) (M : Mem) (a0 : Nat) (post : Mem → Prop) (h : w_X0_init M a0 post) : CtN l D dA yX0_init cX0_init 1 (none) 2 [.ref a0] M 0 0 (pV post) := by
  refine ct_ofN htr (by decide) (Nat.le_of_ble_eq_true rfl) ?_
  intro X hC hN hR
  show G X 1 M 0 0 0 [(0, .ref a0)] []
  unfold w_X0_init at h
  refine g_aload_n (r := (some a0)) hC 0 dX0_init_0 rfl ?_
  refine g_objInit hC wm_1_117 wm_1_21 wm_1_22 dX0_init_1 (Nat.le_of_ble_eq_true rfl) ?_
  refine g_aload_n (r := (some a0)) hC 0 dX0_init_4 rfl ?_
  refine g_iconst (v := (-1)) hC dX0_init_5 (by decide) ?_
  obtain ⟨hc1, h⟩ := h
  refine g_putI hC kc0 0 (by decide) wm_1_118 dX0_init_6 rfl rfl (Or.inl rfl) hc1 ?_
  obtain ⟨M2, eM2⟩ : ∃ w, w = sI M a0 0 ((-1)) := ⟨_, rfl⟩
  replace h := h M2 eM2
  rw [← eM2]
  refine g_aload_n (r := (some a0)) hC 0 dX0_init_9 rfl ?_
  refine g_iconst (v := (-1)) hC dX0_init_10 (by decide) ?_
  obtain ⟨hc3, h⟩ := h
  refine g_pc (pc' := 11) rfl ?_
  refine g_putI hC kc0 1 (by decide) wm_1_121 dX0_init_11 rfl rfl (Or.inl rfl) hc3 ?_
  obtain ⟨M4, eM4⟩ : ∃ w, w = sI M2 a0 1 ((-1)) := ⟨_, rfl⟩
  replace h := h M4 eM4
  rw [← eM4]
  refine g_aload_n (r := (some a0)) hC 0 dX0_init_14 rfl ?_
  refine g_iconst (v := (-1)) hC dX0_init_15 (by decide) ?_
  obtain ⟨hc5, h⟩ := h
  refine g_putI hC kc0 2 (by decide) wm_1_124 dX0_init_16 rfl rfl (Or.inl rfl) hc5 ?_
  obtain ⟨M6, eM6⟩ : ∃ w, w = sI M4 a0 2 ((-1)) := ⟨_, rfl⟩
  replace h := h M6 eM6
  rw [← eM6]
  refine g_aload_n (r := (some a0)) hC 0 dX0_init_19 rfl ?_
  refine g_iconst (v := 0) hC dX0_init_20 (by decide) ?_
  obtain ⟨hc7, h⟩ := h
  refine g_putI hC kc0 3 (by decide) wm_1_127 dX0_init_21 rfl rfl (Or.inl rfl) hc7 ?_
  obtain ⟨M8, eM8⟩ : ∃ w, w = sI M6 a0 3 0 := ⟨_, rfl⟩
  replace h := h M8 eM8
  rw [← eM8]
  exact hR.1 rfl _ _ _ _ _ dX0_init_24 ⟨rfl, h⟩

def w_X0_isThere (M : Mem) (a0 : Nat) (post : Int32 → Prop) : Prop :=
  gT M a0 = some (0, 0) ∧ ∀ J3 : Int32 → Prop, (∀ (x2 : Int32), (((x2 : Int32) = 0 ∨ (x2 : Int32) = 1) ∧ post x2) → J3 x2) → ((gI M a0 3 = 0 → J3 0) ∧ (¬ (gI M a0 3 = 0) → J3 1))
set_option maxRecDepth 100000 in
set_option maxHeartbeats 8000000 in
theorem s_X0_isThere (l : Launch) (D : va_G) (dA : Nat → ClassId) (htr : l.stackTraces = false) (M : Mem) (a0 : Nat) (post : Int32 → Prop) (h : w_X0_isThere M a0 post) : CtN l D dA yX0_isThere cX0_isThere 1 (some .boolean) 1 [.ref a0] M 0 0 (pI (fun M' r => M' = M ∧ post r)) := by
  refine ct_ofN htr (by decide) (Nat.le_of_ble_eq_true rfl) ?_
  intro X hC hN hR
  show G X 1 M 0 0 0 [(0, .ref a0)] []
  unfold w_X0_isThere at h
  refine g_aload_n (r := (some a0)) hC 0 dX0_isThere_0 rfl ?_
  obtain ⟨hc1, h⟩ := h
  refine g_getI hC kc0 3 (by decide) wm_1_127 dX0_isThere_1 rfl hc1 ?_
  replace h := h (fun (x2 : Int32) => G X 1 M 0 0 12 [(0, .ref a0)] [.int x2]) (by
    intro x2 h
    show G X 1 M 0 0 12 [(0, .ref a0)] [.int x2]
    exact hR.2.2.1 rfl _ _ _ _ _ _ dX0_isThere_12 ⟨h.1, ⟨_, rfl, rfl, h.2⟩⟩)
  refine g_if_eq hC 11 dX0_isThere_4 (by decide) (fun c4 => ?_) (fun c4 => ?_)
  · replace h := h.1 c4
    refine g_iconst (v := 0) hC dX0_isThere_11 (by decide) ?_
    exact h
  · replace h := h.2 c4
    refine g_iconst (v := 1) hC dX0_isThere_7 (by decide) ?_
    refine g_goto hC 12 dX0_isThere_8 (by decide) ?_
    exact h

def w_X0_enter (M : Mem) (a0 : Nat) (p0 : Int32) (p1 : Int32) (post : Mem → Prop) : Prop :=
  gT M a0 = some (0, 0) ∧ ∀ J3 : Mem → Prop, (∀ (M2 : Mem), (gT M2 a0 = some (0, 0) ∧ gT M2 a0 = some (0, 0) ∧ ∀ M6, M6 = sI M2 a0 3 ((gI M2 a0 3) ||| (1 <<< (p0 &&& 31))) → post M6) → J3 M2) → ((gI M a0 3 = 0 → gT M a0 = some (0, 0) ∧ ∀ M8, M8 = sI M a0 0 p1 → gT M8 a0 = some (0, 0) ∧ ∀ M10, M10 = sI M8 a0 1 0 → gT M10 a0 = some (0, 0) ∧ ∀ M12, M12 = sI M10 a0 2 0 → J3 M12) ∧ (¬ (gI M a0 3 = 0) → J3 M))
set_option maxRecDepth 100000 in
set_option maxHeartbeats 8000000 in
theorem s_X0_enter (l : Launch) (D : va_G) (dA : Nat → ClassId) (htr : l.stackTraces = false) (M : Mem) (a0 : Nat) (p0 : Int32) (p1 : Int32) (post : Mem → Prop) (h : w_X0_enter M a0 p0 p1 post) : CtN l D dA yX0_enter cX0_enter 3 (none) 1 [.ref a0, .int p0, .int p1] M 0 0 (pV post) := by
  refine ct_ofN htr (by decide) (Nat.le_of_ble_eq_true rfl) ?_
  intro X hC hN hR
  show G X 3 M 0 0 0 [(0, .ref a0), (1, .int p0), (2, .int p1)] []
  unfold w_X0_enter at h
  refine g_aload_n (r := (some a0)) hC 0 dX0_enter_0 rfl ?_
  obtain ⟨hc1, h⟩ := h
  refine g_getI hC kc0 3 (by decide) wm_1_127 dX0_enter_1 rfl hc1 ?_
  replace h := h (fun (M2 : Mem) => G X 3 M2 0 0 22 [(0, .ref a0), (1, .int p0), (2, .int p1)] []) (by
    intro M2 h
    show G X 3 M2 0 0 22 [(0, .ref a0), (1, .int p0), (2, .int p1)] []
    refine g_aload_n (r := (some a0)) hC 0 dX0_enter_22 rfl ?_
    refine g_dup hC dX0_enter_23 rfl ?_
    obtain ⟨hc4, h⟩ := h
    refine g_getI hC kc0 3 (by decide) wm_1_127 dX0_enter_24 rfl hc4 ?_
    refine g_iconst (v := 1) hC dX0_enter_27 (by decide) ?_
    refine g_iload_n hC 1 dX0_enter_28 rfl ?_
    refine g_pc (pc' := 29) rfl ?_
    refine g_ishl hC dX0_enter_29 ?_
    refine g_ior hC dX0_enter_30 ?_
    obtain ⟨hc5, h⟩ := h
    refine g_putI hC kc0 3 (by decide) wm_1_127 dX0_enter_31 rfl rfl (Or.inl rfl) hc5 ?_
    obtain ⟨M6, eM6⟩ : ∃ w, w = sI M2 a0 3 ((gI M2 a0 3) ||| (1 <<< (p0 &&& 31))) := ⟨_, rfl⟩
    replace h := h M6 eM6
    rw [← eM6]
    exact hR.1 rfl _ _ _ _ _ dX0_enter_34 ⟨rfl, h⟩)
  refine g_if_ne hC 22 dX0_enter_4 (by decide) (fun c13 => ?_) (fun c13 => ?_)
  · replace h := h.2 c13
    exact h
  · replace h := h.1 c13
    refine g_aload_n (r := (some a0)) hC 0 dX0_enter_7 rfl ?_
    refine g_iload_n hC 2 dX0_enter_8 rfl ?_
    obtain ⟨hc7, h⟩ := h
    refine g_putI hC kc0 0 (by decide) wm_1_118 dX0_enter_9 rfl rfl (Or.inl rfl) hc7 ?_
    obtain ⟨M8, eM8⟩ : ∃ w, w = sI M a0 0 p1 := ⟨_, rfl⟩
    replace h := h M8 eM8
    rw [← eM8]
    refine g_aload_n (r := (some a0)) hC 0 dX0_enter_12 rfl ?_
    refine g_pc (pc' := 13) rfl ?_
    refine g_iconst (v := 0) hC dX0_enter_13 (by decide) ?_
    obtain ⟨hc9, h⟩ := h
    refine g_putI hC kc0 1 (by decide) wm_1_121 dX0_enter_14 rfl rfl (Or.inl rfl) hc9 ?_
    obtain ⟨M10, eM10⟩ : ∃ w, w = sI M8 a0 1 0 := ⟨_, rfl⟩
    replace h := h M10 eM10
    rw [← eM10]
    refine g_aload_n (r := (some a0)) hC 0 dX0_enter_17 rfl ?_
    refine g_iconst (v := 0) hC dX0_enter_18 (by decide) ?_
    obtain ⟨hc11, h⟩ := h
    refine g_putI hC kc0 2 (by decide) wm_1_124 dX0_enter_19 rfl rfl (Or.inl rfl) hc11 ?_
    obtain ⟨M12, eM12⟩ : ∃ w, w = sI M10 a0 2 0 := ⟨_, rfl⟩
    replace h := h M12 eM12
    rw [← eM12]
    exact h

def w_X0_drop (M : Mem) (a0 : Nat) (p0 : Int32) (post : Mem → Prop) : Prop :=
  gT M a0 = some (0, 0) ∧ gT M a0 = some (0, 0) ∧ ∀ M3, M3 = sI M a0 3 ((gI M a0 3) &&& ((1 <<< (p0 &&& 31)) ^^^ ((-1)))) → gT M3 a0 = some (0, 0) ∧ ∀ J6 : Mem → Prop, (∀ (M5 : Mem), (post M5) → J6 M5) → ((gI M3 a0 3 = 0 → gT M3 a0 = some (0, 0) ∧ ∀ M8, M8 = sI M3 a0 0 ((-1)) → gT M8 a0 = some (0, 0) ∧ ∀ M10, M10 = sI M8 a0 1 ((-1)) → gT M10 a0 = some (0, 0) ∧ ∀ M12, M12 = sI M10 a0 2 ((-1)) → J6 M12) ∧ (¬ (gI M3 a0 3 = 0) → J6 M3))
set_option maxRecDepth 100000 in
set_option maxHeartbeats 8000000 in
theorem s_X0_drop (l : Launch) (D : va_G) (dA : Nat → ClassId) (htr : l.stackTraces = false) (M : Mem) (a0 : Nat) (p0 : Int32) (post : Mem → Prop) (h : w_X0_drop M a0 p0 post) : CtN l D dA yX0_drop cX0_drop 2 (none) 1 [.ref a0, .int p0] M 0 0 (pV post) := by
  refine ct_ofN htr (by decide) (Nat.le_of_ble_eq_true rfl) ?_
  intro X hC hN hR
  show G X 2 M 0 0 0 [(0, .ref a0), (1, .int p0)] []
  unfold w_X0_drop at h
  refine g_aload_n (r := (some a0)) hC 0 dX0_drop_0 rfl ?_
  refine g_dup hC dX0_drop_1 rfl ?_
  obtain ⟨hc1, h⟩ := h
  refine g_getI hC kc0 3 (by decide) wm_1_127 dX0_drop_2 rfl hc1 ?_
  refine g_iconst (v := 1) hC dX0_drop_5 (by decide) ?_
  refine g_iload_n hC 1 dX0_drop_6 rfl ?_
  refine g_ishl hC dX0_drop_7 ?_
  refine g_iconst (v := (-1)) hC dX0_drop_8 (by decide) ?_
  refine g_pc (pc' := 9) rfl ?_
  refine g_ixor hC dX0_drop_9 ?_
  refine g_iand hC dX0_drop_10 ?_
  obtain ⟨hc2, h⟩ := h
  refine g_putI hC kc0 3 (by decide) wm_1_127 dX0_drop_11 rfl rfl (Or.inl rfl) hc2 ?_
  obtain ⟨M3, eM3⟩ : ∃ w, w = sI M a0 3 ((gI M a0 3) &&& ((1 <<< (p0 &&& 31)) ^^^ ((-1)))) := ⟨_, rfl⟩
  replace h := h M3 eM3
  rw [← eM3]
  refine g_aload_n (r := (some a0)) hC 0 dX0_drop_14 rfl ?_
  obtain ⟨hc4, h⟩ := h
  refine g_getI hC kc0 3 (by decide) wm_1_127 dX0_drop_15 rfl hc4 ?_
  replace h := h (fun (M5 : Mem) => G X 2 M5 0 0 36 [(0, .ref a0), (1, .int p0)] []) (by
    intro M5 h
    show G X 2 M5 0 0 36 [(0, .ref a0), (1, .int p0)] []
    exact hR.1 rfl _ _ _ _ _ dX0_drop_36 ⟨rfl, h⟩)
  refine g_if_ne hC 36 dX0_drop_18 (by decide) (fun c13 => ?_) (fun c13 => ?_)
  · replace h := h.2 c13
    exact h
  · replace h := h.1 c13
    refine g_aload_n (r := (some a0)) hC 0 dX0_drop_21 rfl ?_
    refine g_iconst (v := (-1)) hC dX0_drop_22 (by decide) ?_
    obtain ⟨hc7, h⟩ := h
    refine g_pc (pc' := 23) rfl ?_
    refine g_putI hC kc0 0 (by decide) wm_1_118 dX0_drop_23 rfl rfl (Or.inl rfl) hc7 ?_
    obtain ⟨M8, eM8⟩ : ∃ w, w = sI M3 a0 0 ((-1)) := ⟨_, rfl⟩
    replace h := h M8 eM8
    rw [← eM8]
    refine g_aload_n (r := (some a0)) hC 0 dX0_drop_26 rfl ?_
    refine g_iconst (v := (-1)) hC dX0_drop_27 (by decide) ?_
    obtain ⟨hc9, h⟩ := h
    refine g_putI hC kc0 1 (by decide) wm_1_121 dX0_drop_28 rfl rfl (Or.inl rfl) hc9 ?_
    obtain ⟨M10, eM10⟩ : ∃ w, w = sI M8 a0 1 ((-1)) := ⟨_, rfl⟩
    replace h := h M10 eM10
    rw [← eM10]
    refine g_aload_n (r := (some a0)) hC 0 dX0_drop_31 rfl ?_
    refine g_iconst (v := (-1)) hC dX0_drop_32 (by decide) ?_
    obtain ⟨hc11, h⟩ := h
    refine g_putI hC kc0 2 (by decide) wm_1_124 dX0_drop_33 rfl rfl (Or.inl rfl) hc11 ?_
    obtain ⟨M12, eM12⟩ : ∃ w, w = sI M10 a0 2 ((-1)) := ⟨_, rfl⟩
    replace h := h M12 eM12
    rw [← eM12]
    exact h

def w_X5_settledSet (M : Mem) (p0 : Int32) (p1 : Int32) (p2 : Int32) (p3 : Int32) (post : Int32 → Prop) : Prop :=
  (p0 = (-1) → post p3) ∧ (¬ (p0 = (-1)) → (p2 = (-1) → post p1) ∧ (¬ (p2 = (-1)) → (p0 = p2 → post (p1 ||| p3)) ∧ (¬ (p0 = p2) → ∀ J2 : Int32 → Prop, (∀ (x1 : Int32), (post x1) → J2 x1) → ((p2 ≤ p0 → J2 p3) ∧ (¬ (p2 ≤ p0) → J2 p1)))))
set_option maxRecDepth 100000 in
set_option maxHeartbeats 8000000 in
theorem s_X5_settledSet (l : Launch) (D : va_G) (dA : Nat → ClassId) (htr : l.stackTraces = false) (M : Mem) (p0 : Int32) (p1 : Int32) (p2 : Int32) (p3 : Int32) (post : Int32 → Prop) (h : w_X5_settledSet M p0 p1 p2 p3 post) : CtN l D dA yX5_settledSet cX5_settledSet 4 (some .int) 1 [.int p0, .int p1, .int p2, .int p3] M 0 0 (pI (fun M' r => M' = M ∧ post r)) := by
  refine ct_ofN htr (by decide) (Nat.le_of_ble_eq_true rfl) ?_
  intro X hC hN hR
  show G X 4 M 0 0 0 [(0, .int p0), (1, .int p1), (2, .int p2), (3, .int p3)] []
  unfold w_X5_settledSet at h
  refine g_iload_n hC 0 dX5_settledSet_0 rfl ?_
  refine g_iconst (v := (-1)) hC dX5_settledSet_1 (by decide) ?_
  refine g_icmp_ne hC 7 dX5_settledSet_2 (by decide) (fun c6 => ?_) (fun c6 => ?_)
  · replace h := h.2 c6
    refine g_iload_n hC 2 dX5_settledSet_7 rfl ?_
    refine g_iconst (v := (-1)) hC dX5_settledSet_8 (by decide) ?_
    refine g_icmp_ne hC 14 dX5_settledSet_9 (by decide) (fun c5 => ?_) (fun c5 => ?_)
    · replace h := h.2 c5
      refine g_iload_n hC 0 dX5_settledSet_14 rfl ?_
      refine g_pc (pc' := 15) rfl ?_
      refine g_iload_n hC 2 dX5_settledSet_15 rfl ?_
      refine g_icmp_ne hC 23 dX5_settledSet_16 (by decide) (fun c4 => ?_) (fun c4 => ?_)
      · replace h := h.2 c4
        refine g_iload_n hC 0 dX5_settledSet_23 rfl ?_
        refine g_iload_n hC 2 dX5_settledSet_24 rfl ?_
        replace h := h (fun (x1 : Int32) => G X 4 M 0 0 33 [(0, .int p0), (1, .int p1), (2, .int p2), (3, .int p3)] [.int x1]) (by
          intro x1 h
          show G X 4 M 0 0 33 [(0, .int p0), (1, .int p1), (2, .int p2), (3, .int p3)] [.int x1]
          exact hR.2.1 rfl _ _ _ _ _ _ dX5_settledSet_33 ⟨_, rfl, rfl, h⟩)
        refine g_icmp_ge hC 32 dX5_settledSet_25 (by decide) (fun c3 => ?_) (fun c3 => ?_)
        · replace h := h.1 c3
          refine g_iload_n hC 3 dX5_settledSet_32 rfl ?_
          exact h
        · replace h := h.2 c3
          refine g_iload_n hC 1 dX5_settledSet_28 rfl ?_
          refine g_goto hC 33 dX5_settledSet_29 (by decide) ?_
          exact h
      · replace h := h.1 c4
        refine g_iload_n hC 1 dX5_settledSet_19 rfl ?_
        refine g_iload_n hC 3 dX5_settledSet_20 rfl ?_
        refine g_ior hC dX5_settledSet_21 ?_
        exact hR.2.1 rfl _ _ _ _ _ _ dX5_settledSet_22 ⟨_, rfl, rfl, h⟩
    · replace h := h.1 c5
      refine g_iload_n hC 1 dX5_settledSet_12 rfl ?_
      refine g_pc (pc' := 13) rfl ?_
      exact hR.2.1 rfl _ _ _ _ _ _ dX5_settledSet_13 ⟨_, rfl, rfl, h⟩
  · replace h := h.1 c6
    refine g_iload_n hC 3 dX5_settledSet_5 rfl ?_
    exact hR.2.1 rfl _ _ _ _ _ _ dX5_settledSet_6 ⟨_, rfl, rfl, h⟩

def w_X0_takeIn (M : Mem) (a0 : Nat) (b0 : Nat) (p1 : Int32) (post : Mem → Prop) : Prop :=
  gT M a0 = some (0, 0) ∧ gT M a0 = some (0, 0) ∧ gT M b0 = some (1, 0) ∧ gT M b0 = some (1, 0) ∧ w_X5_settledSet M (gI M a0 0) (gI M a0 1) (gI M b0 3) (gI M b0 4) (fun x5 => gT M a0 = some (0, 0) ∧ ∀ M7, M7 = sI M a0 1 x5 → gT M7 a0 = some (0, 0) ∧ gT M7 a0 = some (0, 0) ∧ gT M7 b0 = some (1, 0) ∧ gT M7 b0 = some (1, 0) ∧ w_X5_settledSet M7 (gI M7 a0 0) (gI M7 a0 2) (gI M7 b0 3) (gI M7 b0 5) (fun x12 => gT M7 a0 = some (0, 0) ∧ ∀ M14, M14 = sI M7 a0 2 x12 → gT M14 a0 = some (0, 0) ∧ ∀ J17 : Int32 → Prop, (∀ (x16 : Int32), (gT M14 a0 = some (0, 0) ∧ ∀ M19, M19 = sI M14 a0 0 x16 → gT M19 a0 = some (0, 0) ∧ gT M19 a0 = some (0, 0) ∧ ∀ M22, M22 = sI M19 a0 3 ((gI M19 a0 3) ||| p1) → post M22) → J17 x16) → ((gI M14 a0 0 = (-1) → gT M14 b0 = some (1, 0) ∧ J17 (gI M14 b0 3)) ∧ (¬ (gI M14 a0 0 = (-1)) → gT M14 a0 = some (0, 0) ∧ gT M14 b0 = some (1, 0) ∧ J17 (if (gI M14 b0 3) < (gI M14 a0 0) then gI M14 b0 3 else gI M14 a0 0)))))
set_option maxRecDepth 100000 in
set_option maxHeartbeats 8000000 in
theorem s_X0_takeIn (l : Launch) (D : va_G) (dA : Nat → ClassId) (htr : l.stackTraces = false) (M : Mem) (a0 : Nat) (b0 : Nat) (p1 : Int32) (post : Mem → Prop) (h : w_X0_takeIn M a0 b0 p1 post) : CtN l D dA yX0_takeIn cX0_takeIn 3 (none) 2 [.ref a0, .ref b0, .int p1] M 0 0 (pV post) := by
  refine ct_ofN htr (by decide) (Nat.le_of_ble_eq_true rfl) ?_
  intro X hC hN hR
  show G X 3 M 0 0 0 [(0, .ref a0), (1, .ref b0), (2, .int p1)] []
  unfold w_X0_takeIn at h
  refine g_aload_n (r := (some a0)) hC 0 dX0_takeIn_0 rfl ?_
  refine g_aload_n (r := (some a0)) hC 0 dX0_takeIn_1 rfl ?_
  obtain ⟨hc1, h⟩ := h
  refine g_getI hC kc0 0 (by decide) wm_1_118 dX0_takeIn_2 rfl hc1 ?_
  refine g_aload_n (r := (some a0)) hC 0 dX0_takeIn_5 rfl ?_
  obtain ⟨hc2, h⟩ := h
  refine g_getI hC kc0 1 (by decide) wm_1_121 dX0_takeIn_6 rfl hc2 ?_
  refine g_aload_n (r := (some b0)) hC 1 dX0_takeIn_9 rfl ?_
  obtain ⟨hc3, h⟩ := h
  refine g_getI hC kc1 3 (by decide) wm_1_76 dX0_takeIn_10 rfl hc3 ?_
  refine g_pc (pc' := 13) rfl ?_
  refine g_aload_n (r := (some b0)) hC 1 dX0_takeIn_13 rfl ?_
  obtain ⟨hc4, h⟩ := h
  refine g_getI hC kc1 4 (by decide) wm_1_79 dX0_takeIn_14 rfl hc4 ?_
  refine g_callSN hC (As := [.int (gI M a0 0), .int (gI M a0 1), .int (gI M b0 3), .int (gI M b0 4)]) (fun l D dA ht => s_X5_settledSet l D dA ht _ _ _ _ _ _ h) wm_2_229 (by decide +kernel) wm_2_228 wm_1_1 (by decide +kernel : plainY yX5_settledSet 4) dX0_takeIn_17 (by decide) (Nat.le_of_ble_eq_true rfl) (Or.inl ⟨rfl, rfl⟩) ?_
  intro M9 v9 h
  obtain ⟨x5, rfl, h⟩ := h
  obtain ⟨hM9, h⟩ := h
  rw [hM9]
  show G X 3 M 0 0 20 [(0, .ref a0), (1, .ref b0), (2, .int p1)] [.int x5, .ref a0]
  obtain ⟨hc6, h⟩ := h
  refine g_putI hC kc0 1 (by decide) wm_1_121 dX0_takeIn_20 rfl rfl (Or.inl rfl) hc6 ?_
  obtain ⟨M7, eM7⟩ : ∃ w, w = sI M a0 1 x5 := ⟨_, rfl⟩
  replace h := h M7 eM7
  rw [← eM7]
  refine g_aload_n (r := (some a0)) hC 0 dX0_takeIn_23 rfl ?_
  refine g_aload_n (r := (some a0)) hC 0 dX0_takeIn_24 rfl ?_
  obtain ⟨hc8, h⟩ := h
  refine g_getI hC kc0 0 (by decide) wm_1_118 dX0_takeIn_25 rfl hc8 ?_
  refine g_aload_n (r := (some a0)) hC 0 dX0_takeIn_28 rfl ?_
  obtain ⟨hc9, h⟩ := h
  refine g_pc (pc' := 29) rfl ?_
  refine g_getI hC kc0 2 (by decide) wm_1_124 dX0_takeIn_29 rfl hc9 ?_
  refine g_aload_n (r := (some b0)) hC 1 dX0_takeIn_32 rfl ?_
  obtain ⟨hc10, h⟩ := h
  refine g_getI hC kc1 3 (by decide) wm_1_76 dX0_takeIn_33 rfl hc10 ?_
  refine g_aload_n (r := (some b0)) hC 1 dX0_takeIn_36 rfl ?_
  obtain ⟨hc11, h⟩ := h
  refine g_getI hC kc1 5 (by decide) wm_1_82 dX0_takeIn_37 rfl hc11 ?_
  refine g_callSN hC (As := [.int (gI M7 a0 0), .int (gI M7 a0 2), .int (gI M7 b0 3), .int (gI M7 b0 5)]) (fun l D dA ht => s_X5_settledSet l D dA ht _ _ _ _ _ _ h) wm_2_229 (by decide +kernel) wm_2_228 wm_1_1 (by decide +kernel : plainY yX5_settledSet 4) dX0_takeIn_40 (by decide) (Nat.le_of_ble_eq_true rfl) (Or.inl ⟨rfl, rfl⟩) ?_
  intro M9 v9 h
  obtain ⟨x12, rfl, h⟩ := h
  obtain ⟨hM9, h⟩ := h
  rw [hM9]
  show G X 3 M7 0 0 43 [(0, .ref a0), (1, .ref b0), (2, .int p1)] [.int x12, .ref a0]
  obtain ⟨hc13, h⟩ := h
  refine g_putI hC kc0 2 (by decide) wm_1_124 dX0_takeIn_43 rfl rfl (Or.inl rfl) hc13 ?_
  obtain ⟨M14, eM14⟩ : ∃ w, w = sI M7 a0 2 x12 := ⟨_, rfl⟩
  replace h := h M14 eM14
  rw [← eM14]
  refine g_aload_n (r := (some a0)) hC 0 dX0_takeIn_46 rfl ?_
  refine g_pc (pc' := 47) rfl ?_
  refine g_aload_n (r := (some a0)) hC 0 dX0_takeIn_47 rfl ?_
  obtain ⟨hc15, h⟩ := h
  refine g_getI hC kc0 0 (by decide) wm_1_118 dX0_takeIn_48 rfl hc15 ?_
  refine g_iconst (v := (-1)) hC dX0_takeIn_51 (by decide) ?_
  replace h := h (fun (x16 : Int32) => G X 3 M14 0 0 73 [(0, .ref a0), (1, .ref b0), (2, .int p1)] [.int x16, .ref a0]) (by
    intro x16 h
    show G X 3 M14 0 0 73 [(0, .ref a0), (1, .ref b0), (2, .int p1)] [.int x16, .ref a0]
    obtain ⟨hc18, h⟩ := h
    refine g_putI hC kc0 0 (by decide) wm_1_118 dX0_takeIn_73 rfl rfl (Or.inl rfl) hc18 ?_
    obtain ⟨M19, eM19⟩ : ∃ w, w = sI M14 a0 0 x16 := ⟨_, rfl⟩
    replace h := h M19 eM19
    rw [← eM19]
    refine g_aload_n (r := (some a0)) hC 0 dX0_takeIn_76 rfl ?_
    refine g_dup hC dX0_takeIn_77 rfl ?_
    obtain ⟨hc20, h⟩ := h
    refine g_getI hC kc0 3 (by decide) wm_1_127 dX0_takeIn_78 rfl hc20 ?_
    refine g_iload_n hC 2 dX0_takeIn_81 rfl ?_
    refine g_pc (pc' := 82) rfl ?_
    refine g_ior hC dX0_takeIn_82 ?_
    obtain ⟨hc21, h⟩ := h
    refine g_putI hC kc0 3 (by decide) wm_1_127 dX0_takeIn_83 rfl rfl (Or.inl rfl) hc21 ?_
    obtain ⟨M22, eM22⟩ : ∃ w, w = sI M19 a0 3 ((gI M19 a0 3) ||| p1) := ⟨_, rfl⟩
    replace h := h M22 eM22
    rw [← eM22]
    exact hR.1 rfl _ _ _ _ _ dX0_takeIn_86 ⟨rfl, h⟩)
  refine g_icmp_ne hC 62 dX0_takeIn_52 (by decide) (fun c26 => ?_) (fun c26 => ?_)
  · replace h := h.2 c26
    refine g_aload_n (r := (some a0)) hC 0 dX0_takeIn_62 rfl ?_
    obtain ⟨hc23, h⟩ := h
    refine g_getI hC kc0 0 (by decide) wm_1_118 dX0_takeIn_63 rfl hc23 ?_
    refine g_aload_n (r := (some b0)) hC 1 dX0_takeIn_66 rfl ?_
    obtain ⟨hc24, h⟩ := h
    refine g_getI hC kc1 3 (by decide) wm_1_76 dX0_takeIn_67 rfl hc24 ?_
    refine g_pc (pc' := 70) rfl ?_
    refine g_min hC wm_2_230 wm_2_231 wm_1_13 wm_2_232 dX0_takeIn_70 (Nat.le_of_ble_eq_true rfl) ?_
    exact h
  · replace h := h.1 c26
    refine g_aload_n (r := (some b0)) hC 1 dX0_takeIn_55 rfl ?_
    obtain ⟨hc25, h⟩ := h
    refine g_getI hC kc1 3 (by decide) wm_1_76 dX0_takeIn_56 rfl hc25 ?_
    refine g_goto hC 73 dX0_takeIn_59 (by decide) ?_
    exact h

def w_X0_looksLike (M : Mem) (a0 : Nat) (b0 : Nat) (post : Int32 → Prop) : Prop :=
  gT M a0 = some (0, 0) ∧ gT M b0 = some (0, 0) ∧ ∀ J4 : Int32 → Prop, (∀ (x3 : Int32), (((x3 : Int32) = 0 ∨ (x3 : Int32) = 1) ∧ post x3) → J4 x3) → (∀ J5 : Prop, ((J4 0) → J5) → ((gI M a0 0 = gI M b0 0 → gT M a0 = some (0, 0) ∧ gT M b0 = some (0, 0) ∧ (gI M a0 1 = gI M b0 1 → gT M a0 = some (0, 0) ∧ gT M b0 = some (0, 0) ∧ (gI M a0 2 = gI M b0 2 → gT M a0 = some (0, 0) ∧ gT M b0 = some (0, 0) ∧ (gI M a0 3 = gI M b0 3 → J4 1) ∧ (¬ (gI M a0 3 = gI M b0 3) → J5)) ∧ (¬ (gI M a0 2 = gI M b0 2) → J5)) ∧ (¬ (gI M a0 1 = gI M b0 1) → J5)) ∧ (¬ (gI M a0 0 = gI M b0 0) → J5)))
set_option maxRecDepth 100000 in
set_option maxHeartbeats 8000000 in
theorem s_X0_looksLike (l : Launch) (D : va_G) (dA : Nat → ClassId) (htr : l.stackTraces = false) (M : Mem) (a0 : Nat) (b0 : Nat) (post : Int32 → Prop) (h : w_X0_looksLike M a0 b0 post) : CtN l D dA yX0_looksLike cX0_looksLike 2 (some .boolean) 1 [.ref a0, .ref b0] M 0 0 (pI (fun M' r => M' = M ∧ post r)) := by
  refine ct_ofN htr (by decide) (Nat.le_of_ble_eq_true rfl) ?_
  intro X hC hN hR
  show G X 2 M 0 0 0 [(0, .ref a0), (1, .ref b0)] []
  unfold w_X0_looksLike at h
  refine g_aload_n (r := (some a0)) hC 0 dX0_looksLike_0 rfl ?_
  obtain ⟨hc1, h⟩ := h
  refine g_getI hC kc0 0 (by decide) wm_1_118 dX0_looksLike_1 rfl hc1 ?_
  refine g_aload_n (r := (some b0)) hC 1 dX0_looksLike_4 rfl ?_
  obtain ⟨hc2, h⟩ := h
  refine g_getI hC kc0 0 (by decide) wm_1_118 dX0_looksLike_5 rfl hc2 ?_
  replace h := h (fun (x3 : Int32) => G X 2 M 0 0 49 [(0, .ref a0), (1, .ref b0)] [.int x3]) (by
    intro x3 h
    show G X 2 M 0 0 49 [(0, .ref a0), (1, .ref b0)] [.int x3]
    exact hR.2.2.1 rfl _ _ _ _ _ _ dX0_looksLike_49 ⟨h.1, ⟨_, rfl, rfl, h.2⟩⟩)
  replace h := h (G X 2 M 0 0 48 [(0, .ref a0), (1, .ref b0)] []) (by
    intro h
    refine g_iconst (v := 0) hC dX0_looksLike_48 (by decide) ?_
    exact h)
  refine g_icmp_ne hC 48 dX0_looksLike_8 (by decide) (fun c15 => ?_) (fun c15 => ?_)
  · replace h := h.2 c15
    exact h
  · replace h := h.1 c15
    refine g_aload_n (r := (some a0)) hC 0 dX0_looksLike_11 rfl ?_
    obtain ⟨hc6, h⟩ := h
    refine g_getI hC kc0 1 (by decide) wm_1_121 dX0_looksLike_12 rfl hc6 ?_
    refine g_pc (pc' := 15) rfl ?_
    refine g_aload_n (r := (some b0)) hC 1 dX0_looksLike_15 rfl ?_
    obtain ⟨hc7, h⟩ := h
    refine g_getI hC kc0 1 (by decide) wm_1_121 dX0_looksLike_16 rfl hc7 ?_
    refine g_icmp_ne hC 48 dX0_looksLike_19 (by decide) (fun c14 => ?_) (fun c14 => ?_)
    · replace h := h.2 c14
      exact h
    · replace h := h.1 c14
      refine g_aload_n (r := (some a0)) hC 0 dX0_looksLike_22 rfl ?_
      obtain ⟨hc8, h⟩ := h
      refine g_getI hC kc0 2 (by decide) wm_1_124 dX0_looksLike_23 rfl hc8 ?_
      refine g_aload_n (r := (some b0)) hC 1 dX0_looksLike_26 rfl ?_
      obtain ⟨hc9, h⟩ := h
      refine g_getI hC kc0 2 (by decide) wm_1_124 dX0_looksLike_27 rfl hc9 ?_
      refine g_icmp_ne hC 48 dX0_looksLike_30 (by decide) (fun c13 => ?_) (fun c13 => ?_)
      · replace h := h.2 c13
        exact h
      · replace h := h.1 c13
        refine g_pc (pc' := 33) rfl ?_
        refine g_aload_n (r := (some a0)) hC 0 dX0_looksLike_33 rfl ?_
        obtain ⟨hc10, h⟩ := h
        refine g_getI hC kc0 3 (by decide) wm_1_127 dX0_looksLike_34 rfl hc10 ?_
        refine g_aload_n (r := (some b0)) hC 1 dX0_looksLike_37 rfl ?_
        obtain ⟨hc11, h⟩ := h
        refine g_getI hC kc0 3 (by decide) wm_1_127 dX0_looksLike_38 rfl hc11 ?_
        refine g_icmp_ne hC 48 dX0_looksLike_41 (by decide) (fun c12 => ?_) (fun c12 => ?_)
        · replace h := h.2 c12
          exact h
        · replace h := h.1 c12
          refine g_iconst (v := 1) hC dX0_looksLike_44 (by decide) ?_
          refine g_goto hC 49 dX0_looksLike_45 (by decide) ?_
          exact h

def w_X1_init (M : Mem) (a0 : Nat) (post : Mem → Prop) : Prop :=
  gT M a0 = some (1, 0) ∧ ∀ M2, M2 = sI M a0 0 1 → gT M2 a0 = some (1, 0) ∧ ∀ M4, M4 = sI M2 a0 1 0 → gT M4 a0 = some (1, 0) ∧ ∀ M6, M6 = sI M4 a0 2 0 → gT M6 a0 = some (1, 0) ∧ ∀ M8, M8 = sI M6 a0 3 0 → gT M8 a0 = some (1, 0) ∧ ∀ M10, M10 = sI M8 a0 4 0 → gT M10 a0 = some (1, 0) ∧ ∀ M12, M12 = sI M10 a0 5 0 → gT M12 a0 = some (1, 0) ∧ ∀ M14, M14 = sI M12 a0 6 0 → gT M14 a0 = some (1, 0) ∧ ∀ M16, M16 = sR M14 a0 7 none → post M16
set_option maxRecDepth 100000 in
set_option maxHeartbeats 8000000 in
theorem s_X1_init (l : Launch) (D : va_G) (dA : Nat → ClassId) (htr : l.stackTraces = false) (M : Mem) (a0 : Nat) (post : Mem → Prop) (h : w_X1_init M a0 post) : CtN l D dA yX1_init cX1_init 1 (none) 2 [.ref a0] M 0 0 (pV post) := by
  refine ct_ofN htr (by decide) (Nat.le_of_ble_eq_true rfl) ?_
  intro X hC hN hR
  show G X 1 M 0 0 0 [(0, .ref a0)] []
  unfold w_X1_init at h
  refine g_aload_n (r := (some a0)) hC 0 dX1_init_0 rfl ?_
  refine g_objInit hC wm_1_68 wm_1_21 wm_1_22 dX1_init_1 (Nat.le_of_ble_eq_true rfl) ?_
  refine g_aload_n (r := (some a0)) hC 0 dX1_init_4 rfl ?_
  refine g_iconst (v := 1) hC dX1_init_5 (by decide) ?_
  obtain ⟨hc1, h⟩ := h
  refine g_putI hC kc1 0 (by decide) wm_1_69 dX1_init_6 rfl rfl (Or.inl rfl) hc1 ?_
  obtain ⟨M2, eM2⟩ : ∃ w, w = sI M a0 0 1 := ⟨_, rfl⟩
  replace h := h M2 eM2
  rw [← eM2]
  refine g_aload_n (r := (some a0)) hC 0 dX1_init_9 rfl ?_
  refine g_iconst (v := 0) hC dX1_init_10 (by decide) ?_
  obtain ⟨hc3, h⟩ := h
  refine g_pc (pc' := 11) rfl ?_
  refine g_putI hC kc1 1 (by decide) wm_1_71 dX1_init_11 rfl rfl (Or.inl rfl) hc3 ?_
  obtain ⟨M4, eM4⟩ : ∃ w, w = sI M2 a0 1 0 := ⟨_, rfl⟩
  replace h := h M4 eM4
  rw [← eM4]
  refine g_aload_n (r := (some a0)) hC 0 dX1_init_14 rfl ?_
  refine g_iconst (v := 0) hC dX1_init_15 (by decide) ?_
  obtain ⟨hc5, h⟩ := h
  refine g_putI hC kc1 2 (by decide) wm_1_73 dX1_init_16 rfl rfl (Or.inl rfl) hc5 ?_
  obtain ⟨M6, eM6⟩ : ∃ w, w = sI M4 a0 2 0 := ⟨_, rfl⟩
  replace h := h M6 eM6
  rw [← eM6]
  refine g_aload_n (r := (some a0)) hC 0 dX1_init_19 rfl ?_
  refine g_iconst (v := 0) hC dX1_init_20 (by decide) ?_
  obtain ⟨hc7, h⟩ := h
  refine g_putI hC kc1 3 (by decide) wm_1_75 dX1_init_21 rfl rfl (Or.inl rfl) hc7 ?_
  obtain ⟨M8, eM8⟩ : ∃ w, w = sI M6 a0 3 0 := ⟨_, rfl⟩
  replace h := h M8 eM8
  rw [← eM8]
  refine g_aload_n (r := (some a0)) hC 0 dX1_init_24 rfl ?_
  refine g_pc (pc' := 25) rfl ?_
  refine g_iconst (v := 0) hC dX1_init_25 (by decide) ?_
  obtain ⟨hc9, h⟩ := h
  refine g_putI hC kc1 4 (by decide) wm_1_78 dX1_init_26 rfl rfl (Or.inl rfl) hc9 ?_
  obtain ⟨M10, eM10⟩ : ∃ w, w = sI M8 a0 4 0 := ⟨_, rfl⟩
  replace h := h M10 eM10
  rw [← eM10]
  refine g_aload_n (r := (some a0)) hC 0 dX1_init_29 rfl ?_
  refine g_iconst (v := 0) hC dX1_init_30 (by decide) ?_
  obtain ⟨hc11, h⟩ := h
  refine g_putI hC kc1 5 (by decide) wm_1_81 dX1_init_31 rfl rfl (Or.inl rfl) hc11 ?_
  obtain ⟨M12, eM12⟩ : ∃ w, w = sI M10 a0 5 0 := ⟨_, rfl⟩
  replace h := h M12 eM12
  rw [← eM12]
  refine g_aload_n (r := (some a0)) hC 0 dX1_init_34 rfl ?_
  refine g_iconst (v := 0) hC dX1_init_35 (by decide) ?_
  obtain ⟨hc13, h⟩ := h
  refine g_putI hC kc1 6 (by decide) wm_1_84 dX1_init_36 rfl rfl (Or.inl rfl) hc13 ?_
  obtain ⟨M14, eM14⟩ : ∃ w, w = sI M12 a0 6 0 := ⟨_, rfl⟩
  replace h := h M14 eM14
  rw [← eM14]
  refine g_pc (pc' := 39) rfl ?_
  refine g_aload_n (r := (some a0)) hC 0 dX1_init_39 rfl ?_
  refine g_null hC dX1_init_40 ?_
  obtain ⟨hc15, h⟩ := h
  refine g_putR (r := none) hC kc1 7 (by decide) wm_1_86 dX1_init_41 rfl (nar_o _) (Or.inl rfl) hc15 ?_
  obtain ⟨M16, eM16⟩ : ∃ w, w = sR M14 a0 7 none := ⟨_, rfl⟩
  replace h := h M16 eM16
  rw [← eM16]
  exact hR.1 rfl _ _ _ _ _ dX1_init_44 ⟨rfl, h⟩

def w_X1_ofUser (M : Mem) (a0 : Nat) (p0 : Int32) (p1 : Int32) (post : Mem → Option Nat → Prop) : Prop :=
  gT M a0 = some (1, 0) ∧ ∀ M2, M2 = sI M a0 0 p0 → gT M2 a0 = some (1, 0) ∧ ∀ M4, M4 = sI M2 a0 1 p1 → post M4 ((some a0))
set_option maxRecDepth 100000 in
set_option maxHeartbeats 8000000 in
theorem s_X1_ofUser (l : Launch) (D : va_G) (dA : Nat → ClassId) (htr : l.stackTraces = false) (M : Mem) (a0 : Nat) (p0 : Int32) (p1 : Int32) (post : Mem → Option Nat → Prop) (h : w_X1_ofUser M a0 p0 p1 post) : CtN l D dA yX1_ofUser cX1_ofUser 3 (some (.object "ChatRelay$Line")) 1 [.ref a0, .int p0, .int p1] M 0 0 (pR post) := by
  refine ct_ofN htr (by decide) (Nat.le_of_ble_eq_true rfl) ?_
  intro X hC hN hR
  show G X 3 M 0 0 0 [(0, .ref a0), (1, .int p0), (2, .int p1)] []
  unfold w_X1_ofUser at h
  refine g_aload_n (r := (some a0)) hC 0 dX1_ofUser_0 rfl ?_
  refine g_iload_n hC 1 dX1_ofUser_1 rfl ?_
  obtain ⟨hc1, h⟩ := h
  refine g_putI hC kc1 0 (by decide) wm_1_69 dX1_ofUser_2 rfl rfl (Or.inl rfl) hc1 ?_
  obtain ⟨M2, eM2⟩ : ∃ w, w = sI M a0 0 p0 := ⟨_, rfl⟩
  replace h := h M2 eM2
  rw [← eM2]
  refine g_aload_n (r := (some a0)) hC 0 dX1_ofUser_5 rfl ?_
  refine g_iload_n hC 2 dX1_ofUser_6 rfl ?_
  obtain ⟨hc3, h⟩ := h
  refine g_putI hC kc1 1 (by decide) wm_1_71 dX1_ofUser_7 rfl rfl (Or.inl rfl) hc3 ?_
  obtain ⟨M4, eM4⟩ : ∃ w, w = sI M2 a0 1 p1 := ⟨_, rfl⟩
  replace h := h M4 eM4
  rw [← eM4]
  refine g_aload_n (r := (some a0)) hC 0 dX1_ofUser_10 rfl ?_
  refine g_pc (pc' := 11) rfl ?_
  exact hR.2.2.2 _ rfl _ _ _ _ _ (some a0) dX1_ofUser_11 ⟨_, rfl, h⟩

def w_X1_ofLeave (M : Mem) (a0 : Nat) (p0 : Int32) (p1 : Int32) (post : Mem → Option Nat → Prop) : Prop :=
  gT M a0 = some (1, 0) ∧ ∀ M2, M2 = sI M a0 0 3 → gT M2 a0 = some (1, 0) ∧ ∀ M4, M4 = sI M2 a0 2 p0 → gT M4 a0 = some (1, 0) ∧ ∀ M6, M6 = sI M4 a0 1 p1 → post M6 ((some a0))
set_option maxRecDepth 100000 in
set_option maxHeartbeats 8000000 in
theorem s_X1_ofLeave (l : Launch) (D : va_G) (dA : Nat → ClassId) (htr : l.stackTraces = false) (M : Mem) (a0 : Nat) (p0 : Int32) (p1 : Int32) (post : Mem → Option Nat → Prop) (h : w_X1_ofLeave M a0 p0 p1 post) : CtN l D dA yX1_ofLeave cX1_ofLeave 3 (some (.object "ChatRelay$Line")) 1 [.ref a0, .int p0, .int p1] M 0 0 (pR post) := by
  refine ct_ofN htr (by decide) (Nat.le_of_ble_eq_true rfl) ?_
  intro X hC hN hR
  show G X 3 M 0 0 0 [(0, .ref a0), (1, .int p0), (2, .int p1)] []
  unfold w_X1_ofLeave at h
  refine g_aload_n (r := (some a0)) hC 0 dX1_ofLeave_0 rfl ?_
  refine g_iconst (v := 3) hC dX1_ofLeave_1 (by decide) ?_
  obtain ⟨hc1, h⟩ := h
  refine g_putI hC kc1 0 (by decide) wm_1_69 dX1_ofLeave_2 rfl rfl (Or.inl rfl) hc1 ?_
  obtain ⟨M2, eM2⟩ : ∃ w, w = sI M a0 0 3 := ⟨_, rfl⟩
  replace h := h M2 eM2
  rw [← eM2]
  refine g_aload_n (r := (some a0)) hC 0 dX1_ofLeave_5 rfl ?_
  refine g_iload_n hC 1 dX1_ofLeave_6 rfl ?_
  obtain ⟨hc3, h⟩ := h
  refine g_putI hC kc1 2 (by decide) wm_1_73 dX1_ofLeave_7 rfl rfl (Or.inl rfl) hc3 ?_
  obtain ⟨M4, eM4⟩ : ∃ w, w = sI M2 a0 2 p0 := ⟨_, rfl⟩
  replace h := h M4 eM4
  rw [← eM4]
  refine g_aload_n (r := (some a0)) hC 0 dX1_ofLeave_10 rfl ?_
  refine g_pc (pc' := 11) rfl ?_
  refine g_iload_n hC 2 dX1_ofLeave_11 rfl ?_
  obtain ⟨hc5, h⟩ := h
  refine g_putI hC kc1 1 (by decide) wm_1_71 dX1_ofLeave_12 rfl rfl (Or.inl rfl) hc5 ?_
  obtain ⟨M6, eM6⟩ : ∃ w, w = sI M4 a0 1 p1 := ⟨_, rfl⟩
  replace h := h M6 eM6
  rw [← eM6]
  refine g_aload_n (r := (some a0)) hC 0 dX1_ofLeave_15 rfl ?_
  exact hR.2.2.2 _ rfl _ _ _ _ _ (some a0) dX1_ofLeave_16 ⟨_, rfl, h⟩

def w_X1_ofChannel (M : Mem) (a0 : Nat) (p0 : Int32) (p1 : Int32) (b2 : Nat) (p3 : Int32) (post : Mem → Option Nat → Prop) : Prop :=
  gT M a0 = some (1, 0) ∧ ∀ M2, M2 = sI M a0 0 p0 → gT M2 a0 = some (1, 0) ∧ ∀ M4, M4 = sI M2 a0 2 p1 → gT M4 b2 = some (0, 0) ∧ gT M4 a0 = some (1, 0) ∧ ∀ M7, M7 = sI M4 a0 3 (gI M4 b2 0) → gT M7 b2 = some (0, 0) ∧ gT M7 a0 = some (1, 0) ∧ ∀ M10, M10 = sI M7 a0 4 (gI M7 b2 1) → gT M10 b2 = some (0, 0) ∧ gT M10 a0 = some (1, 0) ∧ ∀ M13, M13 = sI M10 a0 5 (gI M10 b2 2) → gT M13 a0 = some (1, 0) ∧ ∀ M15, M15 = sI M13 a0 6 p3 → post M15 ((some a0))
set_option maxRecDepth 100000 in
set_option maxHeartbeats 8000000 in
theorem s_X1_ofChannel (l : Launch) (D : va_G) (dA : Nat → ClassId) (htr : l.stackTraces = false) (M : Mem) (a0 : Nat) (p0 : Int32) (p1 : Int32) (b2 : Nat) (p3 : Int32) (post : Mem → Option Nat → Prop) (h : w_X1_ofChannel M a0 p0 p1 b2 p3 post) : CtN l D dA yX1_ofChannel cX1_ofChannel 5 (some (.object "ChatRelay$Line")) 1 [.ref a0, .int p0, .int p1, .ref b2, .int p3] M 0 0 (pR post) := by
  refine ct_ofN htr (by decide) (Nat.le_of_ble_eq_true rfl) ?_
  intro X hC hN hR
  show G X 5 M 0 0 0 [(0, .ref a0), (1, .int p0), (2, .int p1), (3, .ref b2), (4, .int p3)] []
  unfold w_X1_ofChannel at h
  refine g_aload_n (r := (some a0)) hC 0 dX1_ofChannel_0 rfl ?_
  refine g_iload_n hC 1 dX1_ofChannel_1 rfl ?_
  obtain ⟨hc1, h⟩ := h
  refine g_putI hC kc1 0 (by decide) wm_1_69 dX1_ofChannel_2 rfl rfl (Or.inl rfl) hc1 ?_
  obtain ⟨M2, eM2⟩ : ∃ w, w = sI M a0 0 p0 := ⟨_, rfl⟩
  replace h := h M2 eM2
  rw [← eM2]
  refine g_aload_n (r := (some a0)) hC 0 dX1_ofChannel_5 rfl ?_
  refine g_iload_n hC 2 dX1_ofChannel_6 rfl ?_
  obtain ⟨hc3, h⟩ := h
  refine g_putI hC kc1 2 (by decide) wm_1_73 dX1_ofChannel_7 rfl rfl (Or.inl rfl) hc3 ?_
  obtain ⟨M4, eM4⟩ : ∃ w, w = sI M2 a0 2 p1 := ⟨_, rfl⟩
  replace h := h M4 eM4
  rw [← eM4]
  refine g_aload_n (r := (some a0)) hC 0 dX1_ofChannel_10 rfl ?_
  refine g_pc (pc' := 11) rfl ?_
  refine g_aload_n (r := (some b2)) hC 3 dX1_ofChannel_11 rfl ?_
  obtain ⟨hc5, h⟩ := h
  refine g_getI hC kc0 0 (by decide) wm_1_119 dX1_ofChannel_12 rfl hc5 ?_
  obtain ⟨hc6, h⟩ := h
  refine g_putI hC kc1 3 (by decide) wm_1_75 dX1_ofChannel_15 rfl rfl (Or.inl rfl) hc6 ?_
  obtain ⟨M7, eM7⟩ : ∃ w, w = sI M4 a0 3 (gI M4 b2 0) := ⟨_, rfl⟩
  replace h := h M7 eM7
  rw [← eM7]
  refine g_aload_n (r := (some a0)) hC 0 dX1_ofChannel_18 rfl ?_
  refine g_aload_n (r := (some b2)) hC 3 dX1_ofChannel_19 rfl ?_
  obtain ⟨hc8, h⟩ := h
  refine g_getI hC kc0 1 (by decide) wm_1_122 dX1_ofChannel_20 rfl hc8 ?_
  obtain ⟨hc9, h⟩ := h
  refine g_putI hC kc1 4 (by decide) wm_1_78 dX1_ofChannel_23 rfl rfl (Or.inl rfl) hc9 ?_
  obtain ⟨M10, eM10⟩ : ∃ w, w = sI M7 a0 4 (gI M7 b2 1) := ⟨_, rfl⟩
  replace h := h M10 eM10
  rw [← eM10]
  refine g_aload_n (r := (some a0)) hC 0 dX1_ofChannel_26 rfl ?_
  refine g_pc (pc' := 27) rfl ?_
  refine g_aload_n (r := (some b2)) hC 3 dX1_ofChannel_27 rfl ?_
  obtain ⟨hc11, h⟩ := h
  refine g_getI hC kc0 2 (by decide) wm_1_125 dX1_ofChannel_28 rfl hc11 ?_
  obtain ⟨hc12, h⟩ := h
  refine g_putI hC kc1 5 (by decide) wm_1_81 dX1_ofChannel_31 rfl rfl (Or.inl rfl) hc12 ?_
  obtain ⟨M13, eM13⟩ : ∃ w, w = sI M10 a0 5 (gI M10 b2 2) := ⟨_, rfl⟩
  replace h := h M13 eM13
  rw [← eM13]
  refine g_aload_n (r := (some a0)) hC 0 dX1_ofChannel_34 rfl ?_
  refine g_iload hC 4 dX1_ofChannel_35 rfl ?_
  obtain ⟨hc14, h⟩ := h
  refine g_putI hC kc1 6 (by decide) wm_1_84 dX1_ofChannel_37 rfl rfl (Or.inl rfl) hc14 ?_
  obtain ⟨M15, eM15⟩ : ∃ w, w = sI M13 a0 6 p3 := ⟨_, rfl⟩
  replace h := h M15 eM15
  rw [← eM15]
  refine g_aload_n (r := (some a0)) hC 0 dX1_ofChannel_40 rfl ?_
  exact hR.2.2.2 _ rfl _ _ _ _ _ (some a0) dX1_ofChannel_41 ⟨_, rfl, h⟩

def w_X1_copyFrom (M : Mem) (a0 : Nat) (b0 : Nat) (post : Mem → Prop) : Prop :=
  gT M b0 = some (1, 0) ∧ gT M a0 = some (1, 0) ∧ ∀ M3, M3 = sI M a0 0 (gI M b0 0) → gT M3 b0 = some (1, 0) ∧ gT M3 a0 = some (1, 0) ∧ ∀ M6, M6 = sI M3 a0 1 (gI M3 b0 1) → gT M6 b0 = some (1, 0) ∧ gT M6 a0 = some (1, 0) ∧ ∀ M9, M9 = sI M6 a0 2 (gI M6 b0 2) → gT M9 b0 = some (1, 0) ∧ gT M9 a0 = some (1, 0) ∧ ∀ M12, M12 = sI M9 a0 3 (gI M9 b0 3) → gT M12 b0 = some (1, 0) ∧ gT M12 a0 = some (1, 0) ∧ ∀ M15, M15 = sI M12 a0 4 (gI M12 b0 4) → gT M15 b0 = some (1, 0) ∧ gT M15 a0 = some (1, 0) ∧ ∀ M18, M18 = sI M15 a0 5 (gI M15 b0 5) → gT M18 b0 = some (1, 0) ∧ gT M18 a0 = some (1, 0) ∧ ∀ M21, M21 = sI M18 a0 6 (gI M18 b0 6) → post M21
set_option maxRecDepth 100000 in
set_option maxHeartbeats 8000000 in
theorem s_X1_copyFrom (l : Launch) (D : va_G) (dA : Nat → ClassId) (htr : l.stackTraces = false) (M : Mem) (a0 : Nat) (b0 : Nat) (post : Mem → Prop) (h : w_X1_copyFrom M a0 b0 post) : CtN l D dA yX1_copyFrom cX1_copyFrom 2 (none) 1 [.ref a0, .ref b0] M 0 0 (pV post) := by
  refine ct_ofN htr (by decide) (Nat.le_of_ble_eq_true rfl) ?_
  intro X hC hN hR
  show G X 2 M 0 0 0 [(0, .ref a0), (1, .ref b0)] []
  unfold w_X1_copyFrom at h
  refine g_aload_n (r := (some a0)) hC 0 dX1_copyFrom_0 rfl ?_
  refine g_aload_n (r := (some b0)) hC 1 dX1_copyFrom_1 rfl ?_
  obtain ⟨hc1, h⟩ := h
  refine g_getI hC kc1 0 (by decide) wm_1_69 dX1_copyFrom_2 rfl hc1 ?_
  obtain ⟨hc2, h⟩ := h
  refine g_putI hC kc1 0 (by decide) wm_1_69 dX1_copyFrom_5 rfl rfl (Or.inl rfl) hc2 ?_
  obtain ⟨M3, eM3⟩ : ∃ w, w = sI M a0 0 (gI M b0 0) := ⟨_, rfl⟩
  replace h := h M3 eM3
  rw [← eM3]
  refine g_aload_n (r := (some a0)) hC 0 dX1_copyFrom_8 rfl ?_
  refine g_aload_n (r := (some b0)) hC 1 dX1_copyFrom_9 rfl ?_
  obtain ⟨hc4, h⟩ := h
  refine g_getI hC kc1 1 (by decide) wm_1_71 dX1_copyFrom_10 rfl hc4 ?_
  obtain ⟨hc5, h⟩ := h
  refine g_pc (pc' := 13) rfl ?_
  refine g_putI hC kc1 1 (by decide) wm_1_71 dX1_copyFrom_13 rfl rfl (Or.inl rfl) hc5 ?_
  obtain ⟨M6, eM6⟩ : ∃ w, w = sI M3 a0 1 (gI M3 b0 1) := ⟨_, rfl⟩
  replace h := h M6 eM6
  rw [← eM6]
  refine g_aload_n (r := (some a0)) hC 0 dX1_copyFrom_16 rfl ?_
  refine g_aload_n (r := (some b0)) hC 1 dX1_copyFrom_17 rfl ?_
  obtain ⟨hc7, h⟩ := h
  refine g_getI hC kc1 2 (by decide) wm_1_73 dX1_copyFrom_18 rfl hc7 ?_
  obtain ⟨hc8, h⟩ := h
  refine g_putI hC kc1 2 (by decide) wm_1_73 dX1_copyFrom_21 rfl rfl (Or.inl rfl) hc8 ?_
  obtain ⟨M9, eM9⟩ : ∃ w, w = sI M6 a0 2 (gI M6 b0 2) := ⟨_, rfl⟩
  replace h := h M9 eM9
  rw [← eM9]
  refine g_aload_n (r := (some a0)) hC 0 dX1_copyFrom_24 rfl ?_
  refine g_aload_n (r := (some b0)) hC 1 dX1_copyFrom_25 rfl ?_
  obtain ⟨hc10, h⟩ := h
  refine g_getI hC kc1 3 (by decide) wm_1_75 dX1_copyFrom_26 rfl hc10 ?_
  obtain ⟨hc11, h⟩ := h
  refine g_pc (pc' := 29) rfl ?_
  refine g_putI hC kc1 3 (by decide) wm_1_75 dX1_copyFrom_29 rfl rfl (Or.inl rfl) hc11 ?_
  obtain ⟨M12, eM12⟩ : ∃ w, w = sI M9 a0 3 (gI M9 b0 3) := ⟨_, rfl⟩
  replace h := h M12 eM12
  rw [← eM12]
  refine g_aload_n (r := (some a0)) hC 0 dX1_copyFrom_32 rfl ?_
  refine g_aload_n (r := (some b0)) hC 1 dX1_copyFrom_33 rfl ?_
  obtain ⟨hc13, h⟩ := h
  refine g_getI hC kc1 4 (by decide) wm_1_78 dX1_copyFrom_34 rfl hc13 ?_
  obtain ⟨hc14, h⟩ := h
  refine g_putI hC kc1 4 (by decide) wm_1_78 dX1_copyFrom_37 rfl rfl (Or.inl rfl) hc14 ?_
  obtain ⟨M15, eM15⟩ : ∃ w, w = sI M12 a0 4 (gI M12 b0 4) := ⟨_, rfl⟩
  replace h := h M15 eM15
  rw [← eM15]
  refine g_aload_n (r := (some a0)) hC 0 dX1_copyFrom_40 rfl ?_
  refine g_aload_n (r := (some b0)) hC 1 dX1_copyFrom_41 rfl ?_
  obtain ⟨hc16, h⟩ := h
  refine g_getI hC kc1 5 (by decide) wm_1_81 dX1_copyFrom_42 rfl hc16 ?_
  obtain ⟨hc17, h⟩ := h
  refine g_pc (pc' := 45) rfl ?_
  refine g_putI hC kc1 5 (by decide) wm_1_81 dX1_copyFrom_45 rfl rfl (Or.inl rfl) hc17 ?_
  obtain ⟨M18, eM18⟩ : ∃ w, w = sI M15 a0 5 (gI M15 b0 5) := ⟨_, rfl⟩
  replace h := h M18 eM18
  rw [← eM18]
  refine g_aload_n (r := (some a0)) hC 0 dX1_copyFrom_48 rfl ?_
  refine g_aload_n (r := (some b0)) hC 1 dX1_copyFrom_49 rfl ?_
  obtain ⟨hc19, h⟩ := h
  refine g_getI hC kc1 6 (by decide) wm_1_84 dX1_copyFrom_50 rfl hc19 ?_
  obtain ⟨hc20, h⟩ := h
  refine g_putI hC kc1 6 (by decide) wm_1_84 dX1_copyFrom_53 rfl rfl (Or.inl rfl) hc20 ?_
  obtain ⟨M21, eM21⟩ : ∃ w, w = sI M18 a0 6 (gI M18 b0 6) := ⟨_, rfl⟩
  replace h := h M21 eM21
  rw [← eM21]
  exact hR.1 rfl _ _ _ _ _ dX1_copyFrom_56 ⟨rfl, h⟩

def w_X2_init (M : Mem) (a0 : Nat) (post : Mem → Prop) : Prop :=
  gT M a0 = some (2, 0) ∧ ∀ M2, M2 = sR M a0 0 none → gT M2 a0 = some (2, 0) ∧ ∀ M4, M4 = sR M2 a0 1 none → post M4
set_option maxRecDepth 100000 in
set_option maxHeartbeats 8000000 in
theorem s_X2_init (l : Launch) (D : va_G) (dA : Nat → ClassId) (htr : l.stackTraces = false) (M : Mem) (a0 : Nat) (post : Mem → Prop) (h : w_X2_init M a0 post) : CtN l D dA yX2_init cX2_init 1 (none) 2 [.ref a0] M 0 0 (pV post) := by
  refine ct_ofN htr (by decide) (Nat.le_of_ble_eq_true rfl) ?_
  intro X hC hN hR
  show G X 1 M 0 0 0 [(0, .ref a0)] []
  unfold w_X2_init at h
  refine g_aload_n (r := (some a0)) hC 0 dX2_init_0 rfl ?_
  refine g_objInit hC wm_1_37 wm_1_21 wm_1_22 dX2_init_1 (Nat.le_of_ble_eq_true rfl) ?_
  refine g_aload_n (r := (some a0)) hC 0 dX2_init_4 rfl ?_
  refine g_null hC dX2_init_5 ?_
  obtain ⟨hc1, h⟩ := h
  refine g_putR (r := none) hC kc2 0 (by decide) wm_1_38 dX2_init_6 rfl (nar_o _) (Or.inl rfl) hc1 ?_
  obtain ⟨M2, eM2⟩ : ∃ w, w = sR M a0 0 none := ⟨_, rfl⟩
  replace h := h M2 eM2
  rw [← eM2]
  refine g_aload_n (r := (some a0)) hC 0 dX2_init_9 rfl ?_
  refine g_null hC dX2_init_10 ?_
  obtain ⟨hc3, h⟩ := h
  refine g_pc (pc' := 11) rfl ?_
  refine g_putR (r := none) hC kc2 1 (by decide) wm_1_39 dX2_init_11 rfl (nar_o _) (Or.inl rfl) hc3 ?_
  obtain ⟨M4, eM4⟩ : ∃ w, w = sR M2 a0 1 none := ⟨_, rfl⟩
  replace h := h M4 eM4
  rw [← eM4]
  exact hR.1 rfl _ _ _ _ _ dX2_init_14 ⟨rfl, h⟩

def w_X2_append (M : Mem) (a0 : Nat) (b0 : Nat) (post : Mem → Prop) : Prop :=
  gT M b0 = some (1, 0) ∧ ∀ M2, M2 = sR M b0 7 none → gT M2 a0 = some (2, 0) ∧ ∀ r4, gR M2 a0 1 = r4 → ∀ J6 : Mem → Prop, (∀ (M5 : Mem), (gT M5 a0 = some (2, 0) ∧ ∀ M8, M8 = sR M5 a0 1 ((some b0)) → post M8) → J6 M5) → ((r4 = none → gT M2 a0 = some (2, 0) ∧ ∀ M11, M11 = sR M2 a0 0 ((some b0)) → J6 M11) ∧ (∀ b9, r4 = some b9 → gT M2 a0 = some (2, 0) ∧ ∀ r13, gR M2 a0 1 = r13 → ∃ b14, r13 = some b14 ∧ gT M2 b14 = some (1, 0) ∧ ∀ M16, M16 = sR M2 b14 7 ((some b0)) → J6 M16))
set_option maxRecDepth 100000 in
set_option maxHeartbeats 8000000 in
theorem s_X2_append (l : Launch) (D : va_G) (dA : Nat → ClassId) (htr : l.stackTraces = false) (M : Mem) (a0 : Nat) (b0 : Nat) (post : Mem → Prop) (h : w_X2_append M a0 b0 post) : CtN l D dA yX2_append cX2_append 2 (none) 1 [.ref a0, .ref b0] M 0 0 (pV post) := by
  refine ct_ofN htr (by decide) (Nat.le_of_ble_eq_true rfl) ?_
  intro X hC hN hR
  show G X 2 M 0 0 0 [(0, .ref a0), (1, .ref b0)] []
  unfold w_X2_append at h
  refine g_aload_n (r := (some b0)) hC 1 dX2_append_0 rfl ?_
  refine g_null hC dX2_append_1 ?_
  obtain ⟨hc1, h⟩ := h
  refine g_putR (r := none) hC kc1 7 (by decide) wm_1_87 dX2_append_2 rfl (nar_o _) (Or.inl rfl) hc1 ?_
  obtain ⟨M2, eM2⟩ : ∃ w, w = sR M b0 7 none := ⟨_, rfl⟩
  replace h := h M2 eM2
  rw [← eM2]
  refine g_aload_n (r := (some a0)) hC 0 dX2_append_5 rfl ?_
  obtain ⟨hc3, h⟩ := h
  obtain ⟨r4, er4⟩ : ∃ w, gR M2 a0 1 = w := ⟨_, rfl⟩
  replace h := h r4 er4
  refine g_getR hC kc2 1 (by decide) wm_1_39 dX2_append_6 rfl hc3 er4 ?_
  replace h := h (fun (M5 : Mem) => G X 2 M5 0 0 28 [(0, .ref a0), (1, .ref b0)] []) (by
    intro M5 h
    show G X 2 M5 0 0 28 [(0, .ref a0), (1, .ref b0)] []
    refine g_aload_n (r := (some a0)) hC 0 dX2_append_28 rfl ?_
    refine g_aload_n (r := (some b0)) hC 1 dX2_append_29 rfl ?_
    obtain ⟨hc7, h⟩ := h
    refine g_pc (pc' := 30) rfl ?_
    refine g_putR (r := (some b0)) hC kc2 1 (by decide) wm_1_39 dX2_append_30 rfl (nar_o _) (Or.inl rfl) hc7 ?_
    obtain ⟨M8, eM8⟩ : ∃ w, w = sR M5 a0 1 ((some b0)) := ⟨_, rfl⟩
    replace h := h M8 eM8
    rw [← eM8]
    exact hR.1 rfl _ _ _ _ _ dX2_append_33 ⟨rfl, h⟩)
  refine g_ifnonnull hC 20 dX2_append_9 (by decide) (fun b9 eb9 => ?_) (fun eb9 => ?_)
  · replace h := h.2 b9 eb9
    subst eb9
    refine g_aload_n (r := (some a0)) hC 0 dX2_append_20 rfl ?_
    obtain ⟨hc12, h⟩ := h
    obtain ⟨r13, er13⟩ : ∃ w, gR M2 a0 1 = w := ⟨_, rfl⟩
    replace h := h r13 er13
    refine g_pc (pc' := 21) rfl ?_
    refine g_getR hC kc2 1 (by decide) wm_1_39 dX2_append_21 rfl hc12 er13 ?_
    refine g_aload_n (r := (some b0)) hC 1 dX2_append_24 rfl ?_
    obtain ⟨b14, eb14, h⟩ := h
    subst eb14
    obtain ⟨hc15, h⟩ := h
    refine g_putR (r := (some b0)) hC kc1 7 (by decide) wm_1_87 dX2_append_25 rfl (nar_o _) (Or.inl rfl) hc15 ?_
    obtain ⟨M16, eM16⟩ : ∃ w, w = sR M2 b14 7 ((some b0)) := ⟨_, rfl⟩
    replace h := h M16 eM16
    rw [← eM16]
    exact h
  · replace h := h.1 eb9
    subst eb9
    refine g_aload_n (r := (some a0)) hC 0 dX2_append_12 rfl ?_
    refine g_pc (pc' := 13) rfl ?_
    refine g_aload_n (r := (some b0)) hC 1 dX2_append_13 rfl ?_
    obtain ⟨hc10, h⟩ := h
    refine g_putR (r := (some b0)) hC kc2 0 (by decide) wm_1_38 dX2_append_14 rfl (nar_o _) (Or.inl rfl) hc10 ?_
    obtain ⟨M11, eM11⟩ : ∃ w, w = sR M2 a0 0 ((some b0)) := ⟨_, rfl⟩
    replace h := h M11 eM11
    rw [← eM11]
    refine g_goto hC 28 dX2_append_17 (by decide) ?_
    exact h

def w_X2_takeFirst (M : Mem) (a0 : Nat) (post : Mem → Option Nat → Prop) : Prop :=
  gT M a0 = some (2, 0) ∧ ∀ r2, gR M a0 0 = r2 → ∀ J4 : Mem → Prop, (∀ (M3 : Mem), (post M3 r2) → J4 M3) → ((r2 = none → J4 M) ∧ (∀ b5, r2 = some b5 → gT M b5 = some (1, 0) ∧ ∀ r7, gR M b5 7 = r7 → gT M a0 = some (2, 0) ∧ ∀ M9, M9 = sR M a0 0 r7 → gT M9 a0 = some (2, 0) ∧ ∀ r11, gR M9 a0 0 = r11 → ∀ J13 : Mem → Prop, (∀ (M12 : Mem), (gT M12 b5 = some (1, 0) ∧ ∀ M15, M15 = sR M12 b5 7 none → J4 M15) → J13 M12) → ((r11 = none → gT M9 a0 = some (2, 0) ∧ ∀ M18, M18 = sR M9 a0 1 none → J13 M18) ∧ (∀ b16, r11 = some b16 → J13 M9))))
set_option maxRecDepth 100000 in
set_option maxHeartbeats 8000000 in
theorem s_X2_takeFirst (l : Launch) (D : va_G) (dA : Nat → ClassId) (htr : l.stackTraces = false) (M : Mem) (a0 : Nat) (post : Mem → Option Nat → Prop) (h : w_X2_takeFirst M a0 post) : CtN l D dA yX2_takeFirst cX2_takeFirst 2 (some (.object "ChatRelay$Line")) 1 [.ref a0] M 0 0 (pR post) := by
  refine ct_ofN htr (by decide) (Nat.le_of_ble_eq_true rfl) ?_
  intro X hC hN hR
  show G X 2 M 0 0 0 [(0, .ref a0)] []
  unfold w_X2_takeFirst at h
  refine g_aload_n (r := (some a0)) hC 0 dX2_takeFirst_0 rfl ?_
  obtain ⟨hc1, h⟩ := h
  obtain ⟨r2, er2⟩ : ∃ w, gR M a0 0 = w := ⟨_, rfl⟩
  replace h := h r2 er2
  refine g_getR hC kc2 0 (by decide) wm_1_38 dX2_takeFirst_1 rfl hc1 er2 ?_
  refine g_astore_n (r := r2) (lv' := [(1, va_rf r2), (0, .ref a0)]) hC dX2_takeFirst_4 (by decide) rfl ?_
  refine g_aload_n (r := r2) hC 0 dX2_takeFirst_5 rfl ?_
  replace h := h (fun (M3 : Mem) => G X 2 M3 0 0 34 [(0, .ref a0), (1, va_rf r2)] []) (by
    intro M3 h
    show G X 2 M3 0 0 34 [(0, .ref a0), (1, va_rf r2)] []
    refine g_aload_n (r := r2) hC 1 dX2_takeFirst_34 rfl ?_
    exact hR.2.2.2 _ rfl _ _ _ _ _ r2 dX2_takeFirst_35 ⟨_, rfl, h⟩)
  refine g_ifnull hC 34 dX2_takeFirst_6 (by decide) (fun eb5 => ?_) (fun b5 eb5 => ?_)
  · replace h := h.1 eb5
    subst eb5
    refine g_sub [1, 0] (lv' := [(0, .ref a0), (1, va_rf none)]) rfl ?_
    exact h
  · replace h := h.2 b5 eb5
    subst eb5
    refine g_aload_n (r := (some a0)) hC 1 dX2_takeFirst_9 rfl ?_
    refine g_aload_n (r := (some b5)) hC 0 dX2_takeFirst_10 rfl ?_
    obtain ⟨hc6, h⟩ := h
    obtain ⟨r7, er7⟩ : ∃ w, gR M b5 7 = w := ⟨_, rfl⟩
    replace h := h r7 er7
    refine g_pc (pc' := 11) rfl ?_
    refine g_getR hC kc1 7 (by decide) wm_1_87 dX2_takeFirst_11 rfl hc6 er7 ?_
    obtain ⟨hc8, h⟩ := h
    refine g_putR (r := r7) hC kc2 0 (by decide) wm_1_38 dX2_takeFirst_14 rfl (nar_o _) (Or.inl rfl) hc8 ?_
    obtain ⟨M9, eM9⟩ : ∃ w, w = sR M a0 0 r7 := ⟨_, rfl⟩
    replace h := h M9 eM9
    rw [← eM9]
    refine g_aload_n (r := (some a0)) hC 1 dX2_takeFirst_17 rfl ?_
    obtain ⟨hc10, h⟩ := h
    obtain ⟨r11, er11⟩ : ∃ w, gR M9 a0 0 = w := ⟨_, rfl⟩
    replace h := h r11 er11
    refine g_getR hC kc2 0 (by decide) wm_1_38 dX2_takeFirst_18 rfl hc10 er11 ?_
    replace h := h (fun (M12 : Mem) => G X 2 M12 0 0 29 [(0, .ref a0), (1, .ref b5)] []) (by
      intro M12 h
      show G X 2 M12 0 0 29 [(0, .ref a0), (1, .ref b5)] []
      refine g_aload_n (r := (some b5)) hC 1 dX2_takeFirst_29 rfl ?_
      refine g_null hC dX2_takeFirst_30 ?_
      obtain ⟨hc14, h⟩ := h
      refine g_putR (r := none) hC kc1 7 (by decide) wm_1_87 dX2_takeFirst_31 rfl (nar_o _) (Or.inl rfl) hc14 ?_
      obtain ⟨M15, eM15⟩ : ∃ w, w = sR M12 b5 7 none := ⟨_, rfl⟩
      replace h := h M15 eM15
      rw [← eM15]
      exact h)
    refine g_ifnonnull hC 29 dX2_takeFirst_21 (by decide) (fun b16 eb16 => ?_) (fun eb16 => ?_)
    · replace h := h.2 b16 eb16
      subst eb16
      refine g_sub [1, 0] (lv' := [(0, .ref a0), (1, .ref b5)]) rfl ?_
      exact h
    · replace h := h.1 eb16
      subst eb16
      refine g_aload_n (r := (some a0)) hC 1 dX2_takeFirst_24 rfl ?_
      refine g_null hC dX2_takeFirst_25 ?_
      obtain ⟨hc17, h⟩ := h
      refine g_putR (r := none) hC kc2 1 (by decide) wm_1_39 dX2_takeFirst_26 rfl (nar_o _) (Or.inl rfl) hc17 ?_
      obtain ⟨M18, eM18⟩ : ∃ w, w = sR M9 a0 1 none := ⟨_, rfl⟩
      replace h := h M18 eM18
      rw [← eM18]
      refine g_sub [1, 0] (lv' := [(0, .ref a0), (1, .ref b5)]) rfl ?_
      exact h
