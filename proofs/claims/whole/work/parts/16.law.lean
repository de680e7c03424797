def w_L_link (mc ms : Nat) (M : Mem) (b0 : Nat) (p1 : Int32) (p2 : Int32) (b3 : Nat) (post : Mem → Int32 → Prop) : Prop :=
  gT M b0 = some (5, 0) ∧ ∃ c2 s3, (0 + c2 ≤ mc ∧ 0 + s3 ≤ ms) ∧ w_X5_link c2 s3 M b0 p1 p2 (fun E7 M6 => (E7 = ioob ∧ (post M6 1)) ∨ (E7 = ise ∧ (post M6 2))) (fun M4 x5 => inA M4 b3 11 0 ∧ ∀ M8, M8 = sL M4 b3 (Int32.toNatClampNeg 0) x5.toInt64 → post M8 0)
set_option maxRecDepth 100000 in
set_option maxHeartbeats 8000000 in
theorem s_L_link (l : Launch) (D : va_G) (dA : Nat → ClassId) (htr : l.stackTraces = false) (mc ms : Nat) (M : Mem) (b0 : Nat) (p1 : Int32) (p2 : Int32) (b3 : Nat) (post : Mem → Int32 → Prop) (h : w_L_link mc ms M b0 p1 p2 b3 post) : CtW l D dA yL_link cL_link 5 (some .int) [(0, 10, 13, 13), (0, 10, 17, 15)] 8 [.ref b0, .int p1, .int p2, .ref b3] M mc ms (pI post) := by
  refine ct_ofW htr (by decide) (Nat.le_of_ble_eq_true rfl) ?_
  intro X hC hTab hR
  show G X 5 M 0 0 0 [(0, .ref b0), (1, .int p1), (2, .int p2), (3, .ref b3)] []
  unfold w_L_link at h
  refine g_aload_n (r := (some b3)) hC 3 dL_link_0 rfl ?_
  refine g_iconst (v := 0) hC dL_link_1 (by decide) ?_
  refine g_aload_n (r := (some b0)) hC 0 dL_link_2 rfl ?_
  refine g_iload_n hC 1 dL_link_3 rfl ?_
  refine g_iload_n hC 2 dL_link_4 rfl ?_
  obtain ⟨hc1, h⟩ := h
  obtain ⟨c2, s3, hc2, h⟩ := h
  refine gx_callV hC (As := [.int p1, .int p2]) (fun l D dA ht => s_X5_link l D dA ht _ _ _ _ _ _ _ _ h) wm_2_66 wm_2_63 wm_2_64 wm_2_65 wm_1_1 (by decide +kernel : plainY yX5_link 2) kc5.1 kc5.2.1 dL_link_5 (by decide) (Nat.le_of_ble_eq_true rfl) hc1 (Or.inr hc2) ?_ ?_
  · intro M6 E7 h
    rcases h with ⟨rfl, h⟩ | ⟨rfl, h⟩
    · refine g_catch hC hTab [] (0, 10, 13, 13) [(0, 10, 17, 15)] rfl (fun _ h9 => absurd h9 List.not_mem_nil) (by decide) (by decide) wm_2_61 (by decide +kernel) (fun q9 => ?_)
      refine g_astore (r := (some q9)) (lv' := [(4, .ref q9), (0, .ref b0), (1, .int p1), (2, .int p2), (3, .ref b3)]) hC dL_link_13 (by decide) rfl ?_
      refine g_pc (pc' := 15) rfl ?_
      refine g_iconst (v := 1) hC dL_link_15 (by decide) ?_
      exact hR.2.1 rfl _ _ _ _ _ _ dL_link_16 ⟨_, rfl, h⟩
    · refine g_catch hC hTab [(0, 10, 13, 13)] (0, 10, 17, 15) [] rfl (List.forall_mem_cons.mpr ⟨⟨by decide, _, wm_2_61, by decide +kernel⟩, (fun _ h9 => absurd h9 List.not_mem_nil)⟩) (by decide) (by decide) wm_2_62 (by decide +kernel) (fun q9 => ?_)
      refine g_astore (r := (some q9)) (lv' := [(4, .ref q9), (0, .ref b0), (1, .int p1), (2, .int p2), (3, .ref b3)]) hC dL_link_17 (by decide) rfl ?_
      refine g_pc (pc' := 19) rfl ?_
      refine g_iconst (v := 2) hC dL_link_19 (by decide) ?_
      exact hR.2.1 rfl _ _ _ _ _ _ dL_link_20 ⟨_, rfl, h⟩
  · intro M9 v9 h
    obtain ⟨x5, rfl, h⟩ := h
    generalize M9 = M4 at h ⊢
    show G X 5 M4 (0 + c2) (0 + s3) 8 [(0, .ref b0), (1, .int p1), (2, .int p2), (3, .ref b3)] [.int x5, .int 0, .ref b3]
    refine g_i2l hC dL_link_8 ?_
    obtain ⟨hc9, h⟩ := h
    refine g_pc (pc' := 9) rfl ?_
    refine g_lastA hC dL_link_9 hc9 ?_
    obtain ⟨M8, eM8⟩ : ∃ w, w = sL M4 b3 (Int32.toNatClampNeg 0) x5.toInt64 := ⟨_, rfl⟩
    replace h := h M8 eM8
    rw [← eM8]
    refine g_goto hC 21 dL_link_10 (by decide) ?_
    refine g_iconst (v := 0) hC dL_link_21 (by decide) ?_
    exact hR.2.1 rfl _ _ _ _ _ _ dL_link_22 ⟨_, rfl, h⟩

def w_L_split (mc ms : Nat) (M : Mem) (b0 : Nat) (p1 : Int32) (p2 : Int32) (b3 : Nat) (post : Mem → Int32 → Prop) : Prop :=
  gT M b0 = some (5, 0) ∧ ∃ c2 s3, (0 + c2 ≤ mc ∧ 0 + s3 ≤ ms) ∧ w_X5_split c2 s3 M b0 p1 p2 (fun E7 M6 => (E7 = ioob ∧ (post M6 1)) ∨ (E7 = ise ∧ (post M6 2))) (fun M4 x5 => inA M4 b3 11 0 ∧ ∀ M8, M8 = sL M4 b3 (Int32.toNatClampNeg 0) x5.toInt64 → post M8 0)
set_option maxRecDepth 100000 in
set_option maxHeartbeats 8000000 in
theorem s_L_split (l : Launch) (D : va_G) (dA : Nat → ClassId) (htr : l.stackTraces = false) (mc ms : Nat) (M : Mem) (b0 : Nat) (p1 : Int32) (p2 : Int32) (b3 : Nat) (post : Mem → Int32 → Prop) (h : w_L_split mc ms M b0 p1 p2 b3 post) : CtW l D dA yL_split cL_split 5 (some .int) [(0, 10, 13, 13), (0, 10, 17, 15)] 8 [.ref b0, .int p1, .int p2, .ref b3] M mc ms (pI post) := by
  refine ct_ofW htr (by decide) (Nat.le_of_ble_eq_true rfl) ?_
  intro X hC hTab hR
  show G X 5 M 0 0 0 [(0, .ref b0), (1, .int p1), (2, .int p2), (3, .ref b3)] []
  unfold w_L_split at h
  refine g_aload_n (r := (some b3)) hC 3 dL_split_0 rfl ?_
  refine g_iconst (v := 0) hC dL_split_1 (by decide) ?_
  refine g_aload_n (r := (some b0)) hC 0 dL_split_2 rfl ?_
  refine g_iload_n hC 1 dL_split_3 rfl ?_
  refine g_iload_n hC 2 dL_split_4 rfl ?_
  obtain ⟨hc1, h⟩ := h
  obtain ⟨c2, s3, hc2, h⟩ := h
  refine gx_callV hC (As := [.int p1, .int p2]) (fun l D dA ht => s_X5_split l D dA ht _ _ _ _ _ _ _ _ h) wm_2_172 wm_2_169 wm_2_170 wm_2_171 wm_1_1 (by decide +kernel : plainY yX5_split 2) kc5.1 kc5.2.1 dL_split_5 (by decide) (Nat.le_of_ble_eq_true rfl) hc1 (Or.inr hc2) ?_ ?_
  · intro M6 E7 h
    rcases h with ⟨rfl, h⟩ | ⟨rfl, h⟩
    · refine g_catch hC hTab [] (0, 10, 13, 13) [(0, 10, 17, 15)] rfl (fun _ h9 => absurd h9 List.not_mem_nil) (by decide) (by decide) wm_2_61 (by decide +kernel) (fun q9 => ?_)
      refine g_astore (r := (some q9)) (lv' := [(4, .ref q9), (0, .ref b0), (1, .int p1), (2, .int p2), (3, .ref b3)]) hC dL_split_13 (by decide) rfl ?_
      refine g_pc (pc' := 15) rfl ?_
      refine g_iconst (v := 1) hC dL_split_15 (by decide) ?_
      exact hR.2.1 rfl _ _ _ _ _ _ dL_split_16 ⟨_, rfl, h⟩
    · refine g_catch hC hTab [(0, 10, 13, 13)] (0, 10, 17, 15) [] rfl (List.forall_mem_cons.mpr ⟨⟨by decide, _, wm_2_61, by decide +kernel⟩, (fun _ h9 => absurd h9 List.not_mem_nil)⟩) (by decide) (by decide) wm_2_62 (by decide +kernel) (fun q9 => ?_)
      refine g_astore (r := (some q9)) (lv' := [(4, .ref q9), (0, .ref b0), (1, .int p1), (2, .int p2), (3, .ref b3)]) hC dL_split_17 (by decide) rfl ?_
      refine g_pc (pc' := 19) rfl ?_
      refine g_iconst (v := 2) hC dL_split_19 (by decide) ?_
      exact hR.2.1 rfl _ _ _ _ _ _ dL_split_20 ⟨_, rfl, h⟩
  · intro M9 v9 h
    obtain ⟨x5, rfl, h⟩ := h
    generalize M9 = M4 at h ⊢
    show G X 5 M4 (0 + c2) (0 + s3) 8 [(0, .ref b0), (1, .int p1), (2, .int p2), (3, .ref b3)] [.int x5, .int 0, .ref b3]
    refine g_i2l hC dL_split_8 ?_
    obtain ⟨hc9, h⟩ := h
    refine g_pc (pc' := 9) rfl ?_
    refine g_lastA hC dL_split_9 hc9 ?_
    obtain ⟨M8, eM8⟩ : ∃ w, w = sL M4 b3 (Int32.toNatClampNeg 0) x5.toInt64 := ⟨_, rfl⟩
    replace h := h M8 eM8
    rw [← eM8]
    refine g_goto hC 21 dL_split_10 (by decide) ?_
    refine g_iconst (v := 0) hC dL_split_21 (by decide) ?_
    exact hR.2.1 rfl _ _ _ _ _ _ dL_split_22 ⟨_, rfl, h⟩

def w_L_deliver (mc ms : Nat) (M : Mem) (b0 : Nat) (p1 : Int32) (p2 : Int32) (b3 : Nat) (post : Mem → Int32 → Prop) : Prop :=
  gT M b0 = some (5, 0) ∧ ∃ c2 s3, (0 + c2 ≤ mc ∧ 0 + s3 ≤ ms) ∧ w_X5_deliver c2 s3 M b0 p1 p2 (fun E7 M6 => (E7 = ioob ∧ (post M6 1)) ∨ (E7 = ise ∧ (post M6 2))) (fun M4 x5 => inA M4 b3 11 0 ∧ ∀ M8, M8 = sL M4 b3 (Int32.toNatClampNeg 0) x5.toInt64 → post M8 0)
set_option maxRecDepth 100000 in
set_option maxHeartbeats 8000000 in
theorem s_L_deliver (l : Launch) (D : va_G) (dA : Nat → ClassId) (htr : l.stackTraces = false) (mc ms : Nat) (M : Mem) (b0 : Nat) (p1 : Int32) (p2 : Int32) (b3 : Nat) (post : Mem → Int32 → Prop) (h : w_L_deliver mc ms M b0 p1 p2 b3 post) : CtW l D dA yL_deliver cL_deliver 5 (some .int) [(0, 10, 13, 13), (0, 10, 17, 15)] 8 [.ref b0, .int p1, .int p2, .ref b3] M mc ms (pI post) := by
  refine ct_ofW htr (by decide) (Nat.le_of_ble_eq_true rfl) ?_
  intro X hC hTab hR
  show G X 5 M 0 0 0 [(0, .ref b0), (1, .int p1), (2, .int p2), (3, .ref b3)] []
  unfold w_L_deliver at h
  refine g_aload_n (r := (some b3)) hC 3 dL_deliver_0 rfl ?_
  refine g_iconst (v := 0) hC dL_deliver_1 (by decide) ?_
  refine g_aload_n (r := (some b0)) hC 0 dL_deliver_2 rfl ?_
  refine g_iload_n hC 1 dL_deliver_3 rfl ?_
  refine g_iload_n hC 2 dL_deliver_4 rfl ?_
  obtain ⟨hc1, h⟩ := h
  obtain ⟨c2, s3, hc2, h⟩ := h
  refine gx_callV hC (As := [.int p1, .int p2]) (fun l D dA ht => s_X5_deliver l D dA ht _ _ _ _ _ _ _ _ h) wm_2_195 wm_2_192 wm_2_193 wm_2_194 wm_1_1 (by decide +kernel : plainY yX5_deliver 2) kc5.1 kc5.2.1 dL_deliver_5 (by decide) (Nat.le_of_ble_eq_true rfl) hc1 (Or.inr hc2) ?_ ?_
  · intro M6 E7 h
    rcases h with ⟨rfl, h⟩ | ⟨rfl, h⟩
    · refine g_catch hC hTab [] (0, 10, 13, 13) [(0, 10, 17, 15)] rfl (fun _ h9 => absurd h9 List.not_mem_nil) (by decide) (by decide) wm_2_61 (by decide +kernel) (fun q9 => ?_)
      refine g_astore (r := (some q9)) (lv' := [(4, .ref q9), (0, .ref b0), (1, .int p1), (2, .int p2), (3, .ref b3)]) hC dL_deliver_13 (by decide) rfl ?_
      refine g_pc (pc' := 15) rfl ?_
      refine g_iconst (v := 1) hC dL_deliver_15 (by decide) ?_
      exact hR.2.1 rfl _ _ _ _ _ _ dL_deliver_16 ⟨_, rfl, h⟩
    · refine g_catch hC hTab [(0, 10, 13, 13)] (0, 10, 17, 15) [] rfl (List.forall_mem_cons.mpr ⟨⟨by decide, _, wm_2_61, by decide +kernel⟩, (fun _ h9 => absurd h9 List.not_mem_nil)⟩) (by decide) (by decide) wm_2_62 (by decide +kernel) (fun q9 => ?_)
      refine g_astore (r := (some q9)) (lv' := [(4, .ref q9), (0, .ref b0), (1, .int p1), (2, .int p2), (3, .ref b3)]) hC dL_deliver_17 (by decide) rfl ?_
      refine g_pc (pc' := 19) rfl ?_
      refine g_iconst (v := 2) hC dL_deliver_19 (by decide) ?_
      exact hR.2.1 rfl _ _ _ _ _ _ dL_deliver_20 ⟨_, rfl, h⟩
  · intro M9 v9 h
    obtain ⟨x5, rfl, h⟩ := h
    generalize M9 = M4 at h ⊢
    show G X 5 M4 (0 + c2) (0 + s3) 8 [(0, .ref b0), (1, .int p1), (2, .int p2), (3, .ref b3)] [.int x5, .int 0, .ref b3]
    refine g_i2l hC dL_deliver_8 ?_
    obtain ⟨hc9, h⟩ := h
    refine g_pc (pc' := 9) rfl ?_
    refine g_lastA hC dL_deliver_9 hc9 ?_
    obtain ⟨M8, eM8⟩ : ∃ w, w = sL M4 b3 (Int32.toNatClampNeg 0) x5.toInt64 := ⟨_, rfl⟩
    replace h := h M8 eM8
    rw [← eM8]
    refine g_goto hC 21 dL_deliver_10 (by decide) ?_
    refine g_iconst (v := 0) hC dL_deliver_21 (by decide) ?_
    exact hR.2.1 rfl _ _ _ _ _ _ dL_deliver_22 ⟨_, rfl, h⟩

def w_L_tree (mc ms : Nat) (M : Mem) (b0 : Nat) (p1 : Int32) (b2 : Nat) (post : Mem → Int32 → Prop) : Prop :=
  gT M b0 = some (5, 0) ∧ ∃ c2 s3, (0 + c2 ≤ mc ∧ 0 + s3 ≤ ms) ∧ w_X5_tree c2 s3 M b0 p1 (fun E6 M5 => (E6 = ioob ∧ (post M5 1))) (fun x4 => inA M b2 11 0 ∧ ∀ M7, M7 = sL M b2 (Int32.toNatClampNeg 0) x4.toInt64 → post M7 0)
set_option maxRecDepth 100000 in
set_option maxHeartbeats 8000000 in
theorem s_L_tree (l : Launch) (D : va_G) (dA : Nat → ClassId) (htr : l.stackTraces = false) (mc ms : Nat) (M : Mem) (b0 : Nat) (p1 : Int32) (b2 : Nat) (post : Mem → Int32 → Prop) (h : w_L_tree mc ms M b0 p1 b2 post) : CtW l D dA yL_tree cL_tree 4 (some .int) [(0, 9, 12, 13)] 8 [.ref b0, .int p1, .ref b2] M mc ms (pI post) := by
  refine ct_ofW htr (by decide) (Nat.le_of_ble_eq_true rfl) ?_
  intro X hC hTab hR
  show G X 4 M 0 0 0 [(0, .ref b0), (1, .int p1), (2, .ref b2)] []
  unfold w_L_tree at h
  refine g_aload_n (r := (some b2)) hC 2 dL_tree_0 rfl ?_
  refine g_iconst (v := 0) hC dL_tree_1 (by decide) ?_
  refine g_aload_n (r := (some b0)) hC 0 dL_tree_2 rfl ?_
  refine g_iload_n hC 1 dL_tree_3 rfl ?_
  obtain ⟨hc1, h⟩ := h
  obtain ⟨c2, s3, hc2, h⟩ := h
  refine gx_callV hC (As := [.int p1]) (fun l D dA ht => s_X5_tree l D dA ht _ _ _ _ _ _ _ h) wm_2_203 wm_2_200 wm_2_201 wm_2_202 wm_1_1 (by decide +kernel : plainY yX5_tree 1) kc5.1 kc5.2.1 dL_tree_4 (by decide) (Nat.le_of_ble_eq_true rfl) hc1 (Or.inr hc2) ?_ ?_
  · intro M5 E6 h
    obtain ⟨rfl, h⟩ := h
    · refine g_catch hC hTab [] (0, 9, 12, 13) [] rfl (fun _ h9 => absurd h9 List.not_mem_nil) (by decide) (by decide) wm_2_61 (by decide +kernel) (fun q9 => ?_)
      refine g_astore_n (r := (some q9)) (lv' := [(3, .ref q9), (0, .ref b0), (1, .int p1), (2, .ref b2)]) hC dL_tree_12 (by decide) rfl ?_
      refine g_iconst (v := 1) hC dL_tree_13 (by decide) ?_
      refine g_pc (pc' := 14) rfl ?_
      exact hR.2.1 rfl _ _ _ _ _ _ dL_tree_14 ⟨_, rfl, h⟩
  · intro M9 v9 h
    obtain ⟨x4, rfl, h⟩ := h
    obtain ⟨hM9, h⟩ := h
    rw [hM9]
    show G X 4 M (0 + c2) (0 + s3) 7 [(0, .ref b0), (1, .int p1), (2, .ref b2)] [.int x4, .int 0, .ref b2]
    refine g_i2l hC dL_tree_7 ?_
    obtain ⟨hc8, h⟩ := h
    refine g_lastA hC dL_tree_8 hc8 ?_
    obtain ⟨M7, eM7⟩ : ∃ w, w = sL M b2 (Int32.toNatClampNeg 0) x4.toInt64 := ⟨_, rfl⟩
    replace h := h M7 eM7
    rw [← eM7]
    refine g_pc (pc' := 9) rfl ?_
    refine g_goto hC 15 dL_tree_9 (by decide) ?_
    refine g_iconst (v := 0) hC dL_tree_15 (by decide) ?_
    exact hR.2.1 rfl _ _ _ _ _ _ dL_tree_16 ⟨_, rfl, h⟩

def w_L_signOn (mc ms : Nat) (M : Mem) (b0 : Nat) (p1 : Int32) (p2 : Int32) (b3 : Nat) (post : Mem → Int32 → Prop) : Prop :=
  gT M b0 = some (5, 0) ∧ ∃ c2 s3, (0 + c2 ≤ mc ∧ 0 + s3 ≤ ms) ∧ w_X5_signOn c2 s3 M b0 p1 p2 (fun E7 M6 => (E7 = ioob ∧ (post M6 1)) ∨ (E7 = iae ∧ (post M6 2)) ∨ (E7 = ise ∧ (post M6 3))) (fun M4 x5 => inA M4 b3 11 0 ∧ ∀ M8, M8 = sL M4 b3 (Int32.toNatClampNeg 0) x5.toInt64 → post M8 0)
set_option maxRecDepth 100000 in
set_option maxHeartbeats 8000000 in
theorem s_L_signOn (l : Launch) (D : va_G) (dA : Nat → ClassId) (htr : l.stackTraces = false) (mc ms : Nat) (M : Mem) (b0 : Nat) (p1 : Int32) (p2 : Int32) (b3 : Nat) (post : Mem → Int32 → Prop) (h : w_L_signOn mc ms M b0 p1 p2 b3 post) : CtW l D dA yL_signOn cL_signOn 5 (some .int) [(0, 10, 13, 13), (0, 10, 17, 31), (0, 10, 21, 15)] 8 [.ref b0, .int p1, .int p2, .ref b3] M mc ms (pI post) := by
  refine ct_ofW htr (by decide) (Nat.le_of_ble_eq_true rfl) ?_
  intro X hC hTab hR
  show G X 5 M 0 0 0 [(0, .ref b0), (1, .int p1), (2, .int p2), (3, .ref b3)] []
  unfold w_L_signOn at h
  refine g_aload_n (r := (some b3)) hC 3 dL_signOn_0 rfl ?_
  refine g_iconst (v := 0) hC dL_signOn_1 (by decide) ?_
  refine g_aload_n (r := (some b0)) hC 0 dL_signOn_2 rfl ?_
  refine g_iload_n hC 1 dL_signOn_3 rfl ?_
  refine g_iload_n hC 2 dL_signOn_4 rfl ?_
  obtain ⟨hc1, h⟩ := h
  obtain ⟨c2, s3, hc2, h⟩ := h
  refine gx_callV hC (As := [.int p1, .int p2]) (fun l D dA ht => s_X5_signOn l D dA ht _ _ _ _ _ _ _ _ h) wm_2_211 wm_2_208 wm_2_209 wm_2_210 wm_1_1 (by decide +kernel : plainY yX5_signOn 2) kc5.1 kc5.2.1 dL_signOn_5 (by decide) (Nat.le_of_ble_eq_true rfl) hc1 (Or.inr hc2) ?_ ?_
  · intro M6 E7 h
    rcases h with ⟨rfl, h⟩ | ⟨rfl, h⟩ | ⟨rfl, h⟩
    · refine g_catch hC hTab [] (0, 10, 13, 13) [(0, 10, 17, 31), (0, 10, 21, 15)] rfl (fun _ h9 => absurd h9 List.not_mem_nil) (by decide) (by decide) wm_2_61 (by decide +kernel) (fun q9 => ?_)
      refine g_astore (r := (some q9)) (lv' := [(4, .ref q9), (0, .ref b0), (1, .int p1), (2, .int p2), (3, .ref b3)]) hC dL_signOn_13 (by decide) rfl ?_
      refine g_pc (pc' := 15) rfl ?_
      refine g_iconst (v := 1) hC dL_signOn_15 (by decide) ?_
      exact hR.2.1 rfl _ _ _ _ _ _ dL_signOn_16 ⟨_, rfl, h⟩
    · refine g_catch hC hTab [(0, 10, 13, 13)] (0, 10, 17, 31) [(0, 10, 21, 15)] rfl (List.forall_mem_cons.mpr ⟨⟨by decide, _, wm_2_61, by decide +kernel⟩, (fun _ h9 => absurd h9 List.not_mem_nil)⟩) (by decide) (by decide) wm_2_207 (by decide +kernel) (fun q9 => ?_)
      refine g_astore (r := (some q9)) (lv' := [(4, .ref q9), (0, .ref b0), (1, .int p1), (2, .int p2), (3, .ref b3)]) hC dL_signOn_17 (by decide) rfl ?_
      refine g_pc (pc' := 19) rfl ?_
      refine g_iconst (v := 2) hC dL_signOn_19 (by decide) ?_
      exact hR.2.1 rfl _ _ _ _ _ _ dL_signOn_20 ⟨_, rfl, h⟩
    · refine g_catch hC hTab [(0, 10, 13, 13), (0, 10, 17, 31)] (0, 10, 21, 15) [] rfl (List.forall_mem_cons.mpr ⟨⟨by decide, _, wm_2_61, by decide +kernel⟩, (List.forall_mem_cons.mpr ⟨⟨by decide, _, wm_2_207, by decide +kernel⟩, (fun _ h9 => absurd h9 List.not_mem_nil)⟩)⟩) (by decide) (by decide) wm_2_62 (by decide +kernel) (fun q9 => ?_)
      refine g_astore (r := (some q9)) (lv' := [(4, .ref q9), (0, .ref b0), (1, .int p1), (2, .int p2), (3, .ref b3)]) hC dL_signOn_21 (by decide) rfl ?_
      refine g_pc (pc' := 23) rfl ?_
      refine g_iconst (v := 3) hC dL_signOn_23 (by decide) ?_
      exact hR.2.1 rfl _ _ _ _ _ _ dL_signOn_24 ⟨_, rfl, h⟩
  · intro M9 v9 h
    obtain ⟨x5, rfl, h⟩ := h
    generalize M9 = M4 at h ⊢
    show G X 5 M4 (0 + c2) (0 + s3) 8 [(0, .ref b0), (1, .int p1), (2, .int p2), (3, .ref b3)] [.int x5, .int 0, .ref b3]
    refine g_i2l hC dL_signOn_8 ?_
    obtain ⟨hc9, h⟩ := h
    refine g_pc (pc' := 9) rfl ?_
    refine g_lastA hC dL_signOn_9 hc9 ?_
    obtain ⟨M8, eM8⟩ : ∃ w, w = sL M4 b3 (Int32.toNatClampNeg 0) x5.toInt64 := ⟨_, rfl⟩
    replace h := h M8 eM8
    rw [← eM8]
    refine g_goto hC 25 dL_signOn_10 (by decide) ?_
    refine g_iconst (v := 0) hC dL_signOn_25 (by decide) ?_
    exact hR.2.1 rfl _ _ _ _ _ _ dL_signOn_26 ⟨_, rfl, h⟩

def w_L_quit (mc ms : Nat) (M : Mem) (b0 : Nat) (p1 : Int32) (post : Mem → Int32 → Prop) : Prop :=
  gT M b0 = some (5, 0) ∧ ∃ c2 s3, (0 + c2 ≤ mc ∧ 0 + s3 ≤ ms) ∧ w_X5_quit c2 s3 M b0 p1 (fun E6 M5 => (E6 = ioob ∧ (post M5 1)) ∨ (E6 = ise ∧ (post M5 2))) (fun M4 => post M4 0)
set_option maxRecDepth 100000 in
set_option maxHeartbeats 8000000 in
theorem s_L_quit (l : Launch) (D : va_G) (dA : Nat → ClassId) (htr : l.stackTraces = false) (mc ms : Nat) (M : Mem) (b0 : Nat) (p1 : Int32) (post : Mem → Int32 → Prop) (h : w_L_quit mc ms M b0 p1 post) : CtW l D dA yL_quit cL_quit 3 (some .int) [(0, 5, 8, 13), (0, 5, 11, 15)] 8 [.ref b0, .int p1] M mc ms (pI post) := by
  refine ct_ofW htr (by decide) (Nat.le_of_ble_eq_true rfl) ?_
  intro X hC hTab hR
  show G X 3 M 0 0 0 [(0, .ref b0), (1, .int p1)] []
  unfold w_L_quit at h
  refine g_aload_n (r := (some b0)) hC 0 dL_quit_0 rfl ?_
  refine g_iload_n hC 1 dL_quit_1 rfl ?_
  obtain ⟨hc1, h⟩ := h
  obtain ⟨c2, s3, hc2, h⟩ := h
  refine gx_callV hC (As := [.int p1]) (fun l D dA ht => s_X5_quit l D dA ht _ _ _ _ _ _ _ h) wm_2_238 wm_2_235 wm_2_236 wm_2_237 wm_1_1 (by decide +kernel : plainY yX5_quit 1) kc5.1 kc5.2.1 dL_quit_2 (by decide) (Nat.le_of_ble_eq_true rfl) hc1 (Or.inr hc2) ?_ ?_
  · intro M5 E6 h
    rcases h with ⟨rfl, h⟩ | ⟨rfl, h⟩
    · refine g_catch hC hTab [] (0, 5, 8, 13) [(0, 5, 11, 15)] rfl (fun _ h9 => absurd h9 List.not_mem_nil) (by decide) (by decide) wm_2_61 (by decide +kernel) (fun q9 => ?_)
      refine g_astore_n (r := (some q9)) (lv' := [(2, .ref q9), (0, .ref b0), (1, .int p1)]) hC dL_quit_8 (by decide) rfl ?_
      refine g_iconst (v := 1) hC dL_quit_9 (by decide) ?_
      exact hR.2.1 rfl _ _ _ _ _ _ dL_quit_10 ⟨_, rfl, h⟩
    · refine g_catch hC hTab [(0, 5, 8, 13)] (0, 5, 11, 15) [] rfl (List.forall_mem_cons.mpr ⟨⟨by decide, _, wm_2_61, by decide +kernel⟩, (fun _ h9 => absurd h9 List.not_mem_nil)⟩) (by decide) (by decide) wm_2_62 (by decide +kernel) (fun q9 => ?_)
      refine g_astore_n (r := (some q9)) (lv' := [(2, .ref q9), (0, .ref b0), (1, .int p1)]) hC dL_quit_11 (by decide) rfl ?_
      refine g_iconst (v := 2) hC dL_quit_12 (by decide) ?_
      exact hR.2.1 rfl _ _ _ _ _ _ dL_quit_13 ⟨_, rfl, h⟩
  · intro M9 v9 h
    obtain ⟨rfl, h⟩ := h
    generalize M9 = M4 at h ⊢
    show G X 3 M4 (0 + c2) (0 + s3) 5 [(0, .ref b0), (1, .int p1)] []
    refine g_goto hC 14 dL_quit_5 (by decide) ?_
    refine g_iconst (v := 0) hC dL_quit_14 (by decide) ?_
    exact hR.2.1 rfl _ _ _ _ _ _ dL_quit_15 ⟨_, rfl, h⟩

def w_L_join (mc ms : Nat) (M : Mem) (b0 : Nat) (p1 : Int32) (p2 : Int32) (b3 : Nat) (post : Mem → Int32 → Prop) : Prop :=
  gT M b0 = some (5, 0) ∧ ∃ c2 s3, (0 + c2 ≤ mc ∧ 0 + s3 ≤ ms) ∧ w_X5_join c2 s3 M b0 p1 p2 (fun E7 M6 => (E7 = ioob ∧ (post M6 1)) ∨ (E7 = ise ∧ (post M6 2))) (fun M4 x5 => inA M4 b3 11 0 ∧ ∀ M8, M8 = sL M4 b3 (Int32.toNatClampNeg 0) x5.toInt64 → post M8 0)
set_option maxRecDepth 100000 in
set_option maxHeartbeats 8000000 in
theorem s_L_join (l : Launch) (D : va_G) (dA : Nat → ClassId) (htr : l.stackTraces = false) (mc ms : Nat) (M : Mem) (b0 : Nat) (p1 : Int32) (p2 : Int32) (b3 : Nat) (post : Mem → Int32 → Prop) (h : w_L_join mc ms M b0 p1 p2 b3 post) : CtW l D dA yL_join cL_join 5 (some .int) [(0, 10, 13, 13), (0, 10, 17, 15)] 8 [.ref b0, .int p1, .int p2, .ref b3] M mc ms (pI post) := by
  refine ct_ofW htr (by decide) (Nat.le_of_ble_eq_true rfl) ?_
  intro X hC hTab hR
  show G X 5 M 0 0 0 [(0, .ref b0), (1, .int p1), (2, .int p2), (3, .ref b3)] []
  unfold w_L_join at h
  refine g_aload_n (r := (some b3)) hC 3 dL_join_0 rfl ?_
  refine g_iconst (v := 0) hC dL_join_1 (by decide) ?_
  refine g_aload_n (r := (some b0)) hC 0 dL_join_2 rfl ?_
  refine g_iload_n hC 1 dL_join_3 rfl ?_
  refine g_iload_n hC 2 dL_join_4 rfl ?_
  obtain ⟨hc1, h⟩ := h
  obtain ⟨c2, s3, hc2, h⟩ := h
  refine gx_callV hC (As := [.int p1, .int p2]) (fun l D dA ht => s_X5_join l D dA ht _ _ _ _ _ _ _ _ h) wm_3_19 wm_3_16 wm_3_17 wm_3_18 wm_1_1 (by decide +kernel : plainY yX5_join 2) kc5.1 kc5.2.1 dL_join_5 (by decide) (Nat.le_of_ble_eq_true rfl) hc1 (Or.inr hc2) ?_ ?_
  · intro M6 E7 h
    rcases h with ⟨rfl, h⟩ | ⟨rfl, h⟩
    · refine g_catch hC hTab [] (0, 10, 13, 13) [(0, 10, 17, 15)] rfl (fun _ h9 => absurd h9 List.not_mem_nil) (by decide) (by decide) wm_2_61 (by decide +kernel) (fun q9 => ?_)
      refine g_astore (r := (some q9)) (lv' := [(4, .ref q9), (0, .ref b0), (1, .int p1), (2, .int p2), (3, .ref b3)]) hC dL_join_13 (by decide) rfl ?_
      refine g_pc (pc' := 15) rfl ?_
      refine g_iconst (v := 1) hC dL_join_15 (by decide) ?_
      exact hR.2.1 rfl _ _ _ _ _ _ dL_join_16 ⟨_, rfl, h⟩
    · refine g_catch hC hTab [(0, 10, 13, 13)] (0, 10, 17, 15) [] rfl (List.forall_mem_cons.mpr ⟨⟨by decide, _, wm_2_61, by decide +kernel⟩, (fun _ h9 => absurd h9 List.not_mem_nil)⟩) (by decide) (by decide) wm_2_62 (by decide +kernel) (fun q9 => ?_)
      refine g_astore (r := (some q9)) (lv' := [(4, .ref q9), (0, .ref b0), (1, .int p1), (2, .int p2), (3, .ref b3)]) hC dL_join_17 (by decide) rfl ?_
      refine g_pc (pc' := 19) rfl ?_
      refine g_iconst (v := 2) hC dL_join_19 (by decide) ?_
      exact hR.2.1 rfl _ _ _ _ _ _ dL_join_20 ⟨_, rfl, h⟩
  · intro M9 v9 h
    obtain ⟨x5, rfl, h⟩ := h
    generalize M9 = M4 at h ⊢
    show G X 5 M4 (0 + c2) (0 + s3) 8 [(0, .ref b0), (1, .int p1), (2, .int p2), (3, .ref b3)] [.int x5, .int 0, .ref b3]
    refine g_i2l hC dL_join_8 ?_
    obtain ⟨hc9, h⟩ := h
    refine g_pc (pc' := 9) rfl ?_
    refine g_lastA hC dL_join_9 hc9 ?_
    obtain ⟨M8, eM8⟩ : ∃ w, w = sL M4 b3 (Int32.toNatClampNeg 0) x5.toInt64 := ⟨_, rfl⟩
    replace h := h M8 eM8
    rw [← eM8]
    refine g_goto hC 21 dL_join_10 (by decide) ?_
    refine g_iconst (v := 0) hC dL_join_21 (by decide) ?_
    exact hR.2.1 rfl _ _ _ _ _ _ dL_join_22 ⟨_, rfl, h⟩

def w_L_leave (mc ms : Nat) (M : Mem) (b0 : Nat) (p1 : Int32) (p2 : Int32) (post : Mem → Int32 → Prop) : Prop :=
  gT M b0 = some (5, 0) ∧ ∃ c2 s3, (0 + c2 ≤ mc ∧ 0 + s3 ≤ ms) ∧ w_X5_leave c2 s3 M b0 p1 p2 (fun E6 M5 => (E6 = ioob ∧ (post M5 1)) ∨ (E6 = ise ∧ (post M5 2))) (fun M4 => post M4 0)
set_option maxRecDepth 100000 in
set_option maxHeartbeats 8000000 in
theorem s_L_leave (l : Launch) (D : va_G) (dA : Nat → ClassId) (htr : l.stackTraces = false) (mc ms : Nat) (M : Mem) (b0 : Nat) (p1 : Int32) (p2 : Int32) (post : Mem → Int32 → Prop) (h : w_L_leave mc ms M b0 p1 p2 post) : CtW l D dA yL_leave cL_leave 4 (some .int) [(0, 6, 9, 13), (0, 6, 12, 15)] 8 [.ref b0, .int p1, .int p2] M mc ms (pI post) := by
  refine ct_ofW htr (by decide) (Nat.le_of_ble_eq_true rfl) ?_
  intro X hC hTab hR
  show G X 4 M 0 0 0 [(0, .ref b0), (1, .int p1), (2, .int p2)] []
  unfold w_L_leave at h
  refine g_aload_n (r := (some b0)) hC 0 dL_leave_0 rfl ?_
  refine g_iload_n hC 1 dL_leave_1 rfl ?_
  refine g_iload_n hC 2 dL_leave_2 rfl ?_
  obtain ⟨hc1, h⟩ := h
  obtain ⟨c2, s3, hc2, h⟩ := h
  refine gx_callV hC (As := [.int p1, .int p2]) (fun l D dA ht => s_X5_leave l D dA ht _ _ _ _ _ _ _ _ h) wm_3_42 wm_3_39 wm_3_40 wm_3_41 wm_1_1 (by decide +kernel : plainY yX5_leave 2) kc5.1 kc5.2.1 dL_leave_3 (by decide) (Nat.le_of_ble_eq_true rfl) hc1 (Or.inr hc2) ?_ ?_
  · intro M5 E6 h
    rcases h with ⟨rfl, h⟩ | ⟨rfl, h⟩
    · refine g_catch hC hTab [] (0, 6, 9, 13) [(0, 6, 12, 15)] rfl (fun _ h9 => absurd h9 List.not_mem_nil) (by decide) (by decide) wm_2_61 (by decide +kernel) (fun q9 => ?_)
      refine g_astore_n (r := (some q9)) (lv' := [(3, .ref q9), (0, .ref b0), (1, .int p1), (2, .int p2)]) hC dL_leave_9 (by decide) rfl ?_
      refine g_iconst (v := 1) hC dL_leave_10 (by decide) ?_
      exact hR.2.1 rfl _ _ _ _ _ _ dL_leave_11 ⟨_, rfl, h⟩
    · refine g_catch hC hTab [(0, 6, 9, 13)] (0, 6, 12, 15) [] rfl (List.forall_mem_cons.mpr ⟨⟨by decide, _, wm_2_61, by decide +kernel⟩, (fun _ h9 => absurd h9 List.not_mem_nil)⟩) (by decide) (by decide) wm_2_62 (by decide +kernel) (fun q9 => ?_)
      refine g_astore_n (r := (some q9)) (lv' := [(3, .ref q9), (0, .ref b0), (1, .int p1), (2, .int p2)]) hC dL_leave_12 (by decide) rfl ?_
      refine g_iconst (v := 2) hC dL_leave_13 (by decide) ?_
      exact hR.2.1 rfl _ _ _ _ _ _ dL_leave_14 ⟨_, rfl, h⟩
  · intro M9 v9 h
    obtain ⟨rfl, h⟩ := h
    generalize M9 = M4 at h ⊢
    show G X 4 M4 (0 + c2) (0 + s3) 6 [(0, .ref b0), (1, .int p1), (2, .int p2)] []
    refine g_goto hC 15 dL_leave_6 (by decide) ?_
    refine g_iconst (v := 0) hC dL_leave_15 (by decide) ?_
    exact hR.2.1 rfl _ _ _ _ _ _ dL_leave_16 ⟨_, rfl, h⟩

def w_L_setModes (mc ms : Nat) (M : Mem) (b0 : Nat) (p1 : Int32) (p2 : Int32) (p3 : Int32) (p4 : Int32) (b5 : Nat) (post : Mem → Int32 → Prop) : Prop :=
  gT M b0 = some (5, 0) ∧ ∃ c2 s3, (0 + c2 ≤ mc ∧ 0 + s3 ≤ ms) ∧ w_X5_setModes c2 s3 M b0 p1 p2 p3 p4 (fun E7 M6 => (E7 = ioob ∧ (post M6 1)) ∨ (E7 = iae ∧ (post M6 2)) ∨ (E7 = ise ∧ (post M6 3))) (fun M4 x5 => inA M4 b5 11 0 ∧ ∀ M8, M8 = sL M4 b5 (Int32.toNatClampNeg 0) x5.toInt64 → post M8 0)
set_option maxRecDepth 100000 in
set_option maxHeartbeats 8000000 in
theorem s_L_setModes (l : Launch) (D : va_G) (dA : Nat → ClassId) (htr : l.stackTraces = false) (mc ms : Nat) (M : Mem) (b0 : Nat) (p1 : Int32) (p2 : Int32) (p3 : Int32) (p4 : Int32) (b5 : Nat) (post : Mem → Int32 → Prop) (h : w_L_setModes mc ms M b0 p1 p2 p3 p4 b5 post) : CtW l D dA yL_setModes cL_setModes 7 (some .int) [(0, 14, 17, 13), (0, 14, 21, 31), (0, 14, 25, 15)] 8 [.ref b0, .int p1, .int p2, .int p3, .int p4, .ref b5] M mc ms (pI post) := by
  refine ct_ofW htr (by decide) (Nat.le_of_ble_eq_true rfl) ?_
  intro X hC hTab hR
  show G X 7 M 0 0 0 [(0, .ref b0), (1, .int p1), (2, .int p2), (3, .int p3), (4, .int p4), (5, .ref b5)] []
  unfold w_L_setModes at h
  refine g_aload (r := (some b5)) hC 5 dL_setModes_0 rfl ?_
  refine g_iconst (v := 0) hC dL_setModes_2 (by decide) ?_
  refine g_aload_n (r := (some b0)) hC 0 dL_setModes_3 rfl ?_
  refine g_iload_n hC 1 dL_setModes_4 rfl ?_
  refine g_iload_n hC 2 dL_setModes_5 rfl ?_
  refine g_iload_n hC 3 dL_setModes_6 rfl ?_
  refine g_iload hC 4 dL_setModes_7 rfl ?_
  refine g_pc (pc' := 9) rfl ?_
  obtain ⟨hc1, h⟩ := h
  obtain ⟨c2, s3, hc2, h⟩ := h
  refine gx_callV hC (As := [.int p1, .int p2, .int p3, .int p4]) (fun l D dA ht => s_X5_setModes l D dA ht _ _ _ _ _ _ _ _ _ _ h) wm_3_58 wm_3_55 wm_3_56 wm_3_57 wm_1_1 (by decide +kernel : plainY yX5_setModes 4) kc5.1 kc5.2.1 dL_setModes_9 (by decide) (Nat.le_of_ble_eq_true rfl) hc1 (Or.inr hc2) ?_ ?_
  · intro M6 E7 h
    rcases h with ⟨rfl, h⟩ | ⟨rfl, h⟩ | ⟨rfl, h⟩
    · refine g_catch hC hTab [] (0, 14, 17, 13) [(0, 14, 21, 31), (0, 14, 25, 15)] rfl (fun _ h9 => absurd h9 List.not_mem_nil) (by decide) (by decide) wm_2_61 (by decide +kernel) (fun q9 => ?_)
      refine g_astore (r := (some q9)) (lv' := [(6, .ref q9), (0, .ref b0), (1, .int p1), (2, .int p2), (3, .int p3), (4, .int p4), (5, .ref b5)]) hC dL_setModes_17 (by decide) rfl ?_
      refine g_iconst (v := 1) hC dL_setModes_19 (by decide) ?_
      exact hR.2.1 rfl _ _ _ _ _ _ dL_setModes_20 ⟨_, rfl, h⟩
    · refine g_catch hC hTab [(0, 14, 17, 13)] (0, 14, 21, 31) [(0, 14, 25, 15)] rfl (List.forall_mem_cons.mpr ⟨⟨by decide, _, wm_2_61, by decide +kernel⟩, (fun _ h9 => absurd h9 List.not_mem_nil)⟩) (by decide) (by decide) wm_2_207 (by decide +kernel) (fun q9 => ?_)
      refine g_astore (r := (some q9)) (lv' := [(6, .ref q9), (0, .ref b0), (1, .int p1), (2, .int p2), (3, .int p3), (4, .int p4), (5, .ref b5)]) hC dL_setModes_21 (by decide) rfl ?_
      refine g_iconst (v := 2) hC dL_setModes_23 (by decide) ?_
      exact hR.2.1 rfl _ _ _ _ _ _ dL_setModes_24 ⟨_, rfl, h⟩
    · refine g_catch hC hTab [(0, 14, 17, 13), (0, 14, 21, 31)] (0, 14, 25, 15) [] rfl (List.forall_mem_cons.mpr ⟨⟨by decide, _, wm_2_61, by decide +kernel⟩, (List.forall_mem_cons.mpr ⟨⟨by decide, _, wm_2_207, by decide +kernel⟩, (fun _ h9 => absurd h9 List.not_mem_nil)⟩)⟩) (by decide) (by decide) wm_2_62 (by decide +kernel) (fun q9 => ?_)
      refine g_astore (r := (some q9)) (lv' := [(6, .ref q9), (0, .ref b0), (1, .int p1), (2, .int p2), (3, .int p3), (4, .int p4), (5, .ref b5)]) hC dL_setModes_25 (by decide) rfl ?_
      refine g_iconst (v := 3) hC dL_setModes_27 (by decide) ?_
      exact hR.2.1 rfl _ _ _ _ _ _ dL_setModes_28 ⟨_, rfl, h⟩
  · intro M9 v9 h
    obtain ⟨x5, rfl, h⟩ := h
    generalize M9 = M4 at h ⊢
    show G X 7 M4 (0 + c2) (0 + s3) 12 [(0, .ref b0), (1, .int p1), (2, .int p2), (3, .int p3), (4, .int p4), (5, .ref b5)] [.int x5, .int 0, .ref b5]
    refine g_i2l hC dL_setModes_12 ?_
    obtain ⟨hc9, h⟩ := h
    refine g_lastA hC dL_setModes_13 hc9 ?_
    obtain ⟨M8, eM8⟩ : ∃ w, w = sL M4 b5 (Int32.toNatClampNeg 0) x5.toInt64 := ⟨_, rfl⟩
    replace h := h M8 eM8
    rw [← eM8]
    refine g_goto hC 29 dL_setModes_14 (by decide) ?_
    refine g_iconst (v := 0) hC dL_setModes_29 (by decide) ?_
    exact hR.2.1 rfl _ _ _ _ _ _ dL_setModes_30 ⟨_, rfl, h⟩

def w_L_say (mc ms : Nat) (M : Mem) (b0 : Nat) (p1 : Int32) (p2 : Int32) (b3 : Nat) (post : Mem → Int32 → Prop) : Prop :=
  gT M b0 = some (5, 0) ∧ ∃ c2 s3, (0 + c2 ≤ mc ∧ 0 + s3 ≤ ms) ∧ w_X5_say c2 s3 M b0 p1 p2 (fun E6 M5 => (E6 = ioob ∧ (post M5 1))) (fun x4 => inA M b3 11 0 ∧ ∀ M7, M7 = sL M b3 (Int32.toNatClampNeg 0) x4.toInt64 → post M7 0)
set_option maxRecDepth 100000 in
set_option maxHeartbeats 8000000 in
theorem s_L_say (l : Launch) (D : va_G) (dA : Nat → ClassId) (htr : l.stackTraces = false) (mc ms : Nat) (M : Mem) (b0 : Nat) (p1 : Int32) (p2 : Int32) (b3 : Nat) (post : Mem → Int32 → Prop) (h : w_L_say mc ms M b0 p1 p2 b3 post) : CtW l D dA yL_say cL_say 5 (some .int) [(0, 10, 13, 13)] 8 [.ref b0, .int p1, .int p2, .ref b3] M mc ms (pI post) := by
  refine ct_ofW htr (by decide) (Nat.le_of_ble_eq_true rfl) ?_
  intro X hC hTab hR
  show G X 5 M 0 0 0 [(0, .ref b0), (1, .int p1), (2, .int p2), (3, .ref b3)] []
  unfold w_L_say at h
  refine g_aload_n (r := (some b3)) hC 3 dL_say_0 rfl ?_
  refine g_iconst (v := 0) hC dL_say_1 (by decide) ?_
  refine g_aload_n (r := (some b0)) hC 0 dL_say_2 rfl ?_
  refine g_iload_n hC 1 dL_say_3 rfl ?_
  refine g_iload_n hC 2 dL_say_4 rfl ?_
  obtain ⟨hc1, h⟩ := h
  obtain ⟨c2, s3, hc2, h⟩ := h
  refine gx_callV hC (As := [.int p1, .int p2]) (fun l D dA ht => s_X5_say l D dA ht _ _ _ _ _ _ _ _ h) wm_3_67 wm_3_64 wm_3_65 wm_3_66 wm_1_1 (by decide +kernel : plainY yX5_say 2) kc5.1 kc5.2.1 dL_say_5 (by decide) (Nat.le_of_ble_eq_true rfl) hc1 (Or.inr hc2) ?_ ?_
  · intro M5 E6 h
    obtain ⟨rfl, h⟩ := h
    · refine g_catch hC hTab [] (0, 10, 13, 13) [] rfl (fun _ h9 => absurd h9 List.not_mem_nil) (by decide) (by decide) wm_2_61 (by decide +kernel) (fun q9 => ?_)
      refine g_astore (r := (some q9)) (lv' := [(4, .ref q9), (0, .ref b0), (1, .int p1), (2, .int p2), (3, .ref b3)]) hC dL_say_13 (by decide) rfl ?_
      refine g_pc (pc' := 15) rfl ?_
      refine g_iconst (v := 1) hC dL_say_15 (by decide) ?_
      exact hR.2.1 rfl _ _ _ _ _ _ dL_say_16 ⟨_, rfl, h⟩
  · intro M9 v9 h
    obtain ⟨x4, rfl, h⟩ := h
    obtain ⟨hM9, h⟩ := h
    rw [hM9]
    show G X 5 M (0 + c2) (0 + s3) 8 [(0, .ref b0), (1, .int p1), (2, .int p2), (3, .ref b3)] [.int x4, .int 0, .ref b3]
    refine g_i2l hC dL_say_8 ?_
    obtain ⟨hc8, h⟩ := h
    refine g_pc (pc' := 9) rfl ?_
    refine g_lastA hC dL_say_9 hc8 ?_
    obtain ⟨M7, eM7⟩ : ∃ w, w = sL M b3 (Int32.toNatClampNeg 0) x4.toInt64 := ⟨_, rfl⟩
    replace h := h M7 eM7
    rw [← eM7]
    refine g_goto hC 17 dL_say_10 (by decide) ?_
    refine g_iconst (v := 0) hC dL_say_17 (by decide) ?_
    exact hR.2.1 rfl _ _ _ _ _ _ dL_say_18 ⟨_, rfl, h⟩

def w_L_known (mc ms : Nat) (M : Mem) (b0 : Nat) (p1 : Int32) (b2 : Nat) (post : Mem → Int32 → Prop) : Prop :=
  gT M b0 = some (5, 0) ∧ ∃ c2 s3, (0 + c2 ≤ mc ∧ 0 + s3 ≤ ms) ∧ w_X5_known c2 s3 M b0 p1 (fun E6 M5 => (E6 = ioob ∧ (post M5 1))) (fun x4 => inA M b2 11 0 ∧ ∀ M7, M7 = sL M b2 (Int32.toNatClampNeg 0) x4.toInt64 → post M7 0)
set_option maxRecDepth 100000 in
set_option maxHeartbeats 8000000 in
theorem s_L_known (l : Launch) (D : va_G) (dA : Nat → ClassId) (htr : l.stackTraces = false) (mc ms : Nat) (M : Mem) (b0 : Nat) (p1 : Int32) (b2 : Nat) (post : Mem → Int32 → Prop) (h : w_L_known mc ms M b0 p1 b2 post) : CtW l D dA yL_known cL_known 4 (some .int) [(0, 9, 12, 13)] 8 [.ref b0, .int p1, .ref b2] M mc ms (pI post) := by
  refine ct_ofW htr (by decide) (Nat.le_of_ble_eq_true rfl) ?_
  intro X hC hTab hR
  show G X 4 M 0 0 0 [(0, .ref b0), (1, .int p1), (2, .ref b2)] []
  unfold w_L_known at h
  refine g_aload_n (r := (some b2)) hC 2 dL_known_0 rfl ?_
  refine g_iconst (v := 0) hC dL_known_1 (by decide) ?_
  refine g_aload_n (r := (some b0)) hC 0 dL_known_2 rfl ?_
  refine g_iload_n hC 1 dL_known_3 rfl ?_
  obtain ⟨hc1, h⟩ := h
  obtain ⟨c2, s3, hc2, h⟩ := h
  refine gx_callV hC (As := [.int p1]) (fun l D dA ht => s_X5_known l D dA ht _ _ _ _ _ _ _ h) wm_3_88 wm_3_85 wm_3_86 wm_3_87 wm_1_1 (by decide +kernel : plainY yX5_known 1) kc5.1 kc5.2.1 dL_known_4 (by decide) (Nat.le_of_ble_eq_true rfl) hc1 (Or.inr hc2) ?_ ?_
  · intro M5 E6 h
    obtain ⟨rfl, h⟩ := h
    · refine g_catch hC hTab [] (0, 9, 12, 13) [] rfl (fun _ h9 => absurd h9 List.not_mem_nil) (by decide) (by decide) wm_2_61 (by decide +kernel) (fun q9 => ?_)
      refine g_astore_n (r := (some q9)) (lv' := [(3, .ref q9), (0, .ref b0), (1, .int p1), (2, .ref b2)]) hC dL_known_12 (by decide) rfl ?_
      refine g_iconst (v := 1) hC dL_known_13 (by decide) ?_
      refine g_pc (pc' := 14) rfl ?_
      exact hR.2.1 rfl _ _ _ _ _ _ dL_known_14 ⟨_, rfl, h⟩
  · intro M9 v9 h
    obtain ⟨x4, rfl, h⟩ := h
    obtain ⟨hM9, h⟩ := h
    rw [hM9]
    show G X 4 M (0 + c2) (0 + s3) 7 [(0, .ref b0), (1, .int p1), (2, .ref b2)] [.int x4, .int 0, .ref b2]
    refine g_i2l hC dL_known_7 ?_
    obtain ⟨hc8, h⟩ := h
    refine g_lastA hC dL_known_8 hc8 ?_
    obtain ⟨M7, eM7⟩ : ∃ w, w = sL M b2 (Int32.toNatClampNeg 0) x4.toInt64 := ⟨_, rfl⟩
    replace h := h M7 eM7
    rw [← eM7]
    refine g_pc (pc' := 9) rfl ?_
    refine g_goto hC 15 dL_known_9 (by decide) ?_
    refine g_iconst (v := 0) hC dL_known_15 (by decide) ?_
    exact hR.2.1 rfl _ _ _ _ _ _ dL_known_16 ⟨_, rfl, h⟩

def w_L_members (mc ms : Nat) (M : Mem) (b0 : Nat) (p1 : Int32) (p2 : Int32) (b3 : Nat) (post : Mem → Int32 → Prop) : Prop :=
  gT M b0 = some (5, 0) ∧ ∃ c2 s3, (0 + c2 ≤ mc ∧ 0 + s3 ≤ ms) ∧ w_X5_members c2 s3 M b0 p1 p2 (fun E6 M5 => (E6 = ioob ∧ (post M5 1))) (fun x4 => inA M b3 11 0 ∧ ∀ M7, M7 = sL M b3 (Int32.toNatClampNeg 0) x4.toInt64 → post M7 0)
set_option maxRecDepth 100000 in
set_option maxHeartbeats 8000000 in
theorem s_L_members (l : Launch) (D : va_G) (dA : Nat → ClassId) (htr : l.stackTraces = false) (mc ms : Nat) (M : Mem) (b0 : Nat) (p1 : Int32) (p2 : Int32) (b3 : Nat) (post : Mem → Int32 → Prop) (h : w_L_members mc ms M b0 p1 p2 b3 post) : CtW l D dA yL_members cL_members 5 (some .int) [(0, 10, 13, 13)] 8 [.ref b0, .int p1, .int p2, .ref b3] M mc ms (pI post) := by
  refine ct_ofW htr (by decide) (Nat.le_of_ble_eq_true rfl) ?_
  intro X hC hTab hR
  show G X 5 M 0 0 0 [(0, .ref b0), (1, .int p1), (2, .int p2), (3, .ref b3)] []
  unfold w_L_members at h
  refine g_aload_n (r := (some b3)) hC 3 dL_members_0 rfl ?_
  refine g_iconst (v := 0) hC dL_members_1 (by decide) ?_
  refine g_aload_n (r := (some b0)) hC 0 dL_members_2 rfl ?_
  refine g_iload_n hC 1 dL_members_3 rfl ?_
  refine g_iload_n hC 2 dL_members_4 rfl ?_
  obtain ⟨hc1, h⟩ := h
  obtain ⟨c2, s3, hc2, h⟩ := h
  refine gx_callV hC (As := [.int p1, .int p2]) (fun l D dA ht => s_X5_members l D dA ht _ _ _ _ _ _ _ _ h) wm_3_95 wm_3_92 wm_3_93 wm_3_94 wm_1_1 (by decide +kernel : plainY yX5_members 2) kc5.1 kc5.2.1 dL_members_5 (by decide) (Nat.le_of_ble_eq_true rfl) hc1 (Or.inr hc2) ?_ ?_
  · intro M5 E6 h
    obtain ⟨rfl, h⟩ := h
    · refine g_catch hC hTab [] (0, 10, 13, 13) [] rfl (fun _ h9 => absurd h9 List.not_mem_nil) (by decide) (by decide) wm_2_61 (by decide +kernel) (fun q9 => ?_)
      refine g_astore (r := (some q9)) (lv' := [(4, .ref q9), (0, .ref b0), (1, .int p1), (2, .int p2), (3, .ref b3)]) hC dL_members_13 (by decide) rfl ?_
      refine g_pc (pc' := 15) rfl ?_
      refine g_iconst (v := 1) hC dL_members_15 (by decide) ?_
      exact hR.2.1 rfl _ _ _ _ _ _ dL_members_16 ⟨_, rfl, h⟩
  · intro M9 v9 h
    obtain ⟨x4, rfl, h⟩ := h
    obtain ⟨hM9, h⟩ := h
    rw [hM9]
    show G X 5 M (0 + c2) (0 + s3) 8 [(0, .ref b0), (1, .int p1), (2, .int p2), (3, .ref b3)] [.int x4, .int 0, .ref b3]
    refine g_i2l hC dL_members_8 ?_
    obtain ⟨hc8, h⟩ := h
    refine g_pc (pc' := 9) rfl ?_
    refine g_lastA hC dL_members_9 hc8 ?_
    obtain ⟨M7, eM7⟩ : ∃ w, w = sL M b3 (Int32.toNatClampNeg 0) x4.toInt64 := ⟨_, rfl⟩
    replace h := h M7 eM7
    rw [← eM7]
    refine g_goto hC 17 dL_members_10 (by decide) ?_
    refine g_iconst (v := 0) hC dL_members_17 (by decide) ?_
    exact hR.2.1 rfl _ _ _ _ _ _ dL_members_18 ⟨_, rfl, h⟩

def w_L_age (mc ms : Nat) (M : Mem) (b0 : Nat) (p1 : Int32) (p2 : Int32) (b3 : Nat) (post : Mem → Int32 → Prop) : Prop :=
  gT M b0 = some (5, 0) ∧ ∃ c2 s3, (0 + c2 ≤ mc ∧ 0 + s3 ≤ ms) ∧ w_X5_age c2 s3 M b0 p1 p2 (fun E6 M5 => (E6 = ioob ∧ (post M5 1))) (fun x4 => inA M b3 11 0 ∧ ∀ M7, M7 = sL M b3 (Int32.toNatClampNeg 0) x4.toInt64 → post M7 0)
set_option maxRecDepth 100000 in
set_option maxHeartbeats 8000000 in
theorem s_L_age (l : Launch) (D : va_G) (dA : Nat → ClassId) (htr : l.stackTraces = false) (mc ms : Nat) (M : Mem) (b0 : Nat) (p1 : Int32) (p2 : Int32) (b3 : Nat) (post : Mem → Int32 → Prop) (h : w_L_age mc ms M b0 p1 p2 b3 post) : CtW l D dA yL_age cL_age 5 (some .int) [(0, 10, 13, 13)] 8 [.ref b0, .int p1, .int p2, .ref b3] M mc ms (pI post) := by
  refine ct_ofW htr (by decide) (Nat.le_of_ble_eq_true rfl) ?_
  intro X hC hTab hR
  show G X 5 M 0 0 0 [(0, .ref b0), (1, .int p1), (2, .int p2), (3, .ref b3)] []
  unfold w_L_age at h
  refine g_aload_n (r := (some b3)) hC 3 dL_age_0 rfl ?_
  refine g_iconst (v := 0) hC dL_age_1 (by decide) ?_
  refine g_aload_n (r := (some b0)) hC 0 dL_age_2 rfl ?_
  refine g_iload_n hC 1 dL_age_3 rfl ?_
  refine g_iload_n hC 2 dL_age_4 rfl ?_
  obtain ⟨hc1, h⟩ := h
  obtain ⟨c2, s3, hc2, h⟩ := h
  refine gx_callV hC (As := [.int p1, .int p2]) (fun l D dA ht => s_X5_age l D dA ht _ _ _ _ _ _ _ _ h) wm_3_102 wm_3_99 wm_3_100 wm_3_101 wm_1_1 (by decide +kernel : plainY yX5_age 2) kc5.1 kc5.2.1 dL_age_5 (by decide) (Nat.le_of_ble_eq_true rfl) hc1 (Or.inr hc2) ?_ ?_
  · intro M5 E6 h
    obtain ⟨rfl, h⟩ := h
    · refine g_catch hC hTab [] (0, 10, 13, 13) [] rfl (fun _ h9 => absurd h9 List.not_mem_nil) (by decide) (by decide) wm_2_61 (by decide +kernel) (fun q9 => ?_)
      refine g_astore (r := (some q9)) (lv' := [(4, .ref q9), (0, .ref b0), (1, .int p1), (2, .int p2), (3, .ref b3)]) hC dL_age_13 (by decide) rfl ?_
      refine g_pc (pc' := 15) rfl ?_
      refine g_iconst (v := 1) hC dL_age_15 (by decide) ?_
      exact hR.2.1 rfl _ _ _ _ _ _ dL_age_16 ⟨_, rfl, h⟩
  · intro M9 v9 h
    obtain ⟨x4, rfl, h⟩ := h
    obtain ⟨hM9, h⟩ := h
    rw [hM9]
    show G X 5 M (0 + c2) (0 + s3) 8 [(0, .ref b0), (1, .int p1), (2, .int p2), (3, .ref b3)] [.int x4, .int 0, .ref b3]
    refine g_i2l hC dL_age_8 ?_
    obtain ⟨hc8, h⟩ := h
    refine g_pc (pc' := 9) rfl ?_
    refine g_lastA hC dL_age_9 hc8 ?_
    obtain ⟨M7, eM7⟩ : ∃ w, w = sL M b3 (Int32.toNatClampNeg 0) x4.toInt64 := ⟨_, rfl⟩
    replace h := h M7 eM7
    rw [← eM7]
    refine g_goto hC 17 dL_age_10 (by decide) ?_
    refine g_iconst (v := 0) hC dL_age_17 (by decide) ?_
    exact hR.2.1 rfl _ _ _ _ _ _ dL_age_18 ⟨_, rfl, h⟩

def w_L_modes (mc ms : Nat) (M : Mem) (b0 : Nat) (p1 : Int32) (p2 : Int32) (b3 : Nat) (post : Mem → Int32 → Prop) : Prop :=
  gT M b0 = some (5, 0) ∧ ∃ c2 s3, (0 + c2 ≤ mc ∧ 0 + s3 ≤ ms) ∧ w_X5_modes c2 s3 M b0 p1 p2 (fun E6 M5 => (E6 = ioob ∧ (post M5 1))) (fun x4 => inA M b3 11 0 ∧ ∀ M7, M7 = sL M b3 (Int32.toNatClampNeg 0) x4.toInt64 → post M7 0)
set_option maxRecDepth 100000 in
set_option maxHeartbeats 8000000 in
theorem s_L_modes (l : Launch) (D : va_G) (dA : Nat → ClassId) (htr : l.stackTraces = false) (mc ms : Nat) (M : Mem) (b0 : Nat) (p1 : Int32) (p2 : Int32) (b3 : Nat) (post : Mem → Int32 → Prop) (h : w_L_modes mc ms M b0 p1 p2 b3 post) : CtW l D dA yL_modes cL_modes 5 (some .int) [(0, 10, 13, 13)] 8 [.ref b0, .int p1, .int p2, .ref b3] M mc ms (pI post) := by
  refine ct_ofW htr (by decide) (Nat.le_of_ble_eq_true rfl) ?_
  intro X hC hTab hR
  show G X 5 M 0 0 0 [(0, .ref b0), (1, .int p1), (2, .int p2), (3, .ref b3)] []
  unfold w_L_modes at h
  refine g_aload_n (r := (some b3)) hC 3 dL_modes_0 rfl ?_
  refine g_iconst (v := 0) hC dL_modes_1 (by decide) ?_
  refine g_aload_n (r := (some b0)) hC 0 dL_modes_2 rfl ?_
  refine g_iload_n hC 1 dL_modes_3 rfl ?_
  refine g_iload_n hC 2 dL_modes_4 rfl ?_
  obtain ⟨hc1, h⟩ := h
  obtain ⟨c2, s3, hc2, h⟩ := h
  refine gx_callV hC (As := [.int p1, .int p2]) (fun l D dA ht => s_X5_modes l D dA ht _ _ _ _ _ _ _ _ h) wm_3_109 wm_3_106 wm_3_107 wm_3_108 wm_1_1 (by decide +kernel : plainY yX5_modes 2) kc5.1 kc5.2.1 dL_modes_5 (by decide) (Nat.le_of_ble_eq_true rfl) hc1 (Or.inr hc2) ?_ ?_
  · intro M5 E6 h
    obtain ⟨rfl, h⟩ := h
    · refine g_catch hC hTab [] (0, 10, 13, 13) [] rfl (fun _ h9 => absurd h9 List.not_mem_nil) (by decide) (by decide) wm_2_61 (by decide +kernel) (fun q9 => ?_)
      refine g_astore (r := (some q9)) (lv' := [(4, .ref q9), (0, .ref b0), (1, .int p1), (2, .int p2), (3, .ref b3)]) hC dL_modes_13 (by decide) rfl ?_
      refine g_pc (pc' := 15) rfl ?_
      refine g_iconst (v := 1) hC dL_modes_15 (by decide) ?_
      exact hR.2.1 rfl _ _ _ _ _ _ dL_modes_16 ⟨_, rfl, h⟩
  · intro M9 v9 h
    obtain ⟨x4, rfl, h⟩ := h
    obtain ⟨hM9, h⟩ := h
    rw [hM9]
    show G X 5 M (0 + c2) (0 + s3) 8 [(0, .ref b0), (1, .int p1), (2, .int p2), (3, .ref b3)] [.int x4, .int 0, .ref b3]
    refine g_i2l hC dL_modes_8 ?_
    obtain ⟨hc8, h⟩ := h
    refine g_pc (pc' := 9) rfl ?_
    refine g_lastA hC dL_modes_9 hc8 ?_
    obtain ⟨M7, eM7⟩ : ∃ w, w = sL M b3 (Int32.toNatClampNeg 0) x4.toInt64 := ⟨_, rfl⟩
    replace h := h M7 eM7
    rw [← eM7]
    refine g_goto hC 17 dL_modes_10 (by decide) ?_
    refine g_iconst (v := 0) hC dL_modes_17 (by decide) ?_
    exact hR.2.1 rfl _ _ _ _ _ _ dL_modes_18 ⟨_, rfl, h⟩

def w_L_bans (mc ms : Nat) (M : Mem) (b0 : Nat) (p1 : Int32) (p2 : Int32) (b3 : Nat) (post : Mem → Int32 → Prop) : Prop :=
  gT M b0 = some (5, 0) ∧ ∃ c2 s3, (0 + c2 ≤ mc ∧ 0 + s3 ≤ ms) ∧ w_X5_bans c2 s3 M b0 p1 p2 (fun E6 M5 => (E6 = ioob ∧ (post M5 1))) (fun x4 => inA M b3 11 0 ∧ ∀ M7, M7 = sL M b3 (Int32.toNatClampNeg 0) x4.toInt64 → post M7 0)
set_option maxRecDepth 100000 in
set_option maxHeartbeats 8000000 in
theorem s_L_bans (l : Launch) (D : va_G) (dA : Nat → ClassId) (htr : l.stackTraces = false) (mc ms : Nat) (M : Mem) (b0 : Nat) (p1 : Int32) (p2 : Int32) (b3 : Nat) (post : Mem → Int32 → Prop) (h : w_L_bans mc ms M b0 p1 p2 b3 post) : CtW l D dA yL_bans cL_bans 5 (some .int) [(0, 10, 13, 13)] 8 [.ref b0, .int p1, .int p2, .ref b3] M mc ms (pI post) := by
  refine ct_ofW htr (by decide) (Nat.le_of_ble_eq_true rfl) ?_
  intro X hC hTab hR
  show G X 5 M 0 0 0 [(0, .ref b0), (1, .int p1), (2, .int p2), (3, .ref b3)] []
  unfold w_L_bans at h
  refine g_aload_n (r := (some b3)) hC 3 dL_bans_0 rfl ?_
  refine g_iconst (v := 0) hC dL_bans_1 (by decide) ?_
  refine g_aload_n (r := (some b0)) hC 0 dL_bans_2 rfl ?_
  refine g_iload_n hC 1 dL_bans_3 rfl ?_
  refine g_iload_n hC 2 dL_bans_4 rfl ?_
  obtain ⟨hc1, h⟩ := h
  obtain ⟨c2, s3, hc2, h⟩ := h
  refine gx_callV hC (As := [.int p1, .int p2]) (fun l D dA ht => s_X5_bans l D dA ht _ _ _ _ _ _ _ _ h) wm_3_116 wm_3_113 wm_3_114 wm_3_115 wm_1_1 (by decide +kernel : plainY yX5_bans 2) kc5.1 kc5.2.1 dL_bans_5 (by decide) (Nat.le_of_ble_eq_true rfl) hc1 (Or.inr hc2) ?_ ?_
  · intro M5 E6 h
    obtain ⟨rfl, h⟩ := h
    · refine g_catch hC hTab [] (0, 10, 13, 13) [] rfl (fun _ h9 => absurd h9 List.not_mem_nil) (by decide) (by decide) wm_2_61 (by decide +kernel) (fun q9 => ?_)
      refine g_astore (r := (some q9)) (lv' := [(4, .ref q9), (0, .ref b0), (1, .int p1), (2, .int p2), (3, .ref b3)]) hC dL_bans_13 (by decide) rfl ?_
      refine g_pc (pc' := 15) rfl ?_
      refine g_iconst (v := 1) hC dL_bans_15 (by decide) ?_
      exact hR.2.1 rfl _ _ _ _ _ _ dL_bans_16 ⟨_, rfl, h⟩
  · intro M9 v9 h
    obtain ⟨x4, rfl, h⟩ := h
    obtain ⟨hM9, h⟩ := h
    rw [hM9]
    show G X 5 M (0 + c2) (0 + s3) 8 [(0, .ref b0), (1, .int p1), (2, .int p2), (3, .ref b3)] [.int x4, .int 0, .ref b3]
    refine g_i2l hC dL_bans_8 ?_
    obtain ⟨hc8, h⟩ := h
    refine g_pc (pc' := 9) rfl ?_
    refine g_lastA hC dL_bans_9 hc8 ?_
    obtain ⟨M7, eM7⟩ : ∃ w, w = sL M b3 (Int32.toNatClampNeg 0) x4.toInt64 := ⟨_, rfl⟩
    replace h := h M7 eM7
    rw [← eM7]
    refine g_goto hC 17 dL_bans_10 (by decide) ?_
    refine g_iconst (v := 0) hC dL_bans_17 (by decide) ?_
    exact hR.2.1 rfl _ _ _ _ _ _ dL_bans_18 ⟨_, rfl, h⟩

def w_L_areSame (mc ms : Nat) (M : Mem) (b0 : Nat) (p1 : Int32) (p2 : Int32) (b3 : Nat) (post : Mem → Int32 → Prop) : Prop :=
  gT M b0 = some (5, 0) ∧ ∃ c2 s3, (0 + c2 ≤ mc ∧ 0 + s3 ≤ ms) ∧ w_X5_areSame c2 s3 M b0 p1 p2 (fun E6 M5 => (E6 = ioob ∧ (post M5 1))) (fun x4 => ∀ J8 : Int64 → Prop, (∀ (y7 : Int64), (inA M b3 11 0 ∧ ∀ M9, M9 = sL M b3 (Int32.toNatClampNeg 0) y7 → post M9 0) → J8 y7) → ((x4 = 0 → J8 0) ∧ (¬ (x4 = 0) → J8 1)))
set_option maxRecDepth 100000 in
set_option maxHeartbeats 8000000 in
theorem s_L_areSame (l : Launch) (D : va_G) (dA : Nat → ClassId) (htr : l.stackTraces = false) (mc ms : Nat) (M : Mem) (b0 : Nat) (p1 : Int32) (p2 : Int32) (b3 : Nat) (post : Mem → Int32 → Prop) (h : w_L_areSame mc ms M b0 p1 p2 b3 post) : CtW l D dA yL_areSame cL_areSame 5 (some .int) [(0, 17, 20, 13)] 8 [.ref b0, .int p1, .int p2, .ref b3] M mc ms (pI post) := by
  refine ct_ofW htr (by decide) (Nat.le_of_ble_eq_true rfl) ?_
  intro X hC hTab hR
  show G X 5 M 0 0 0 [(0, .ref b0), (1, .int p1), (2, .int p2), (3, .ref b3)] []
  unfold w_L_areSame at h
  refine g_aload_n (r := (some b3)) hC 3 dL_areSame_0 rfl ?_
  refine g_iconst (v := 0) hC dL_areSame_1 (by decide) ?_
  refine g_aload_n (r := (some b0)) hC 0 dL_areSame_2 rfl ?_
  refine g_iload_n hC 1 dL_areSame_3 rfl ?_
  refine g_iload_n hC 2 dL_areSame_4 rfl ?_
  obtain ⟨hc1, h⟩ := h
  obtain ⟨c2, s3, hc2, h⟩ := h
  refine gx_callV hC (As := [.int p1, .int p2]) (fun l D dA ht => s_X5_areSame l D dA ht _ _ _ _ _ _ _ _ h) wm_3_123 wm_3_120 wm_3_121 wm_3_122 wm_1_1 (by decide +kernel : plainY yX5_areSame 2) kc5.1 kc5.2.1 dL_areSame_5 (by decide) (Nat.le_of_ble_eq_true rfl) hc1 (Or.inr hc2) ?_ ?_
  · intro M5 E6 h
    obtain ⟨rfl, h⟩ := h
    · refine g_catch hC hTab [] (0, 17, 20, 13) [] rfl (fun _ h9 => absurd h9 List.not_mem_nil) (by decide) (by decide) wm_2_61 (by decide +kernel) (fun q9 => ?_)
      refine g_astore (r := (some q9)) (lv' := [(4, .ref q9), (0, .ref b0), (1, .int p1), (2, .int p2), (3, .ref b3)]) hC dL_areSame_20 (by decide) rfl ?_
      refine g_pc (pc' := 22) rfl ?_
      refine g_iconst (v := 1) hC dL_areSame_22 (by decide) ?_
      exact hR.2.1 rfl _ _ _ _ _ _ dL_areSame_23 ⟨_, rfl, h⟩
  · intro M9 v9 h
    obtain ⟨x4, rfl, h⟩ := h
    obtain ⟨hM9, h⟩ := h
    rw [hM9]
    show G X 5 M (0 + c2) (0 + s3) 8 [(0, .ref b0), (1, .int p1), (2, .int p2), (3, .ref b3)] [.int x4, .int 0, .ref b3]
    replace h := h (fun (y7 : Int64) => G X 5 M (0 + c2) (0 + s3) 16 [(0, .ref b0), (1, .int p1), (2, .int p2), (3, .ref b3)] [.long y7, .int 0, .ref b3]) (by
      intro y7 h
      show G X 5 M (0 + c2) (0 + s3) 16 [(0, .ref b0), (1, .int p1), (2, .int p2), (3, .ref b3)] [.long y7, .int 0, .ref b3]
      obtain ⟨hc10, h⟩ := h
      refine g_lastA hC dL_areSame_16 hc10 ?_
      obtain ⟨M9, eM9⟩ : ∃ w, w = sL M b3 (Int32.toNatClampNeg 0) y7 := ⟨_, rfl⟩
      replace h := h M9 eM9
      rw [← eM9]
      refine g_pc (pc' := 17) rfl ?_
      refine g_goto hC 24 dL_areSame_17 (by decide) ?_
      refine g_iconst (v := 0) hC dL_areSame_24 (by decide) ?_
      exact hR.2.1 rfl _ _ _ _ _ _ dL_areSame_25 ⟨_, rfl, h⟩)
    refine g_if_eq hC 15 dL_areSame_8 (by decide) (fun c11 => ?_) (fun c11 => ?_)
    · replace h := h.1 c11
      refine g_pc (pc' := 15) rfl ?_
      refine g_lconst (v := 0) hC dL_areSame_15 (by decide) ?_
      exact h
    · replace h := h.2 c11
      refine g_pc (pc' := 11) rfl ?_
      refine g_lconst (v := 1) hC dL_areSame_11 (by decide) ?_
      refine g_goto hC 16 dL_areSame_12 (by decide) ?_
      exact h

def w_L_joinedModes (mc ms : Nat) (M : Mem) (b0 : Nat) (p1 : Int32) (p2 : Int32) (p3 : Int32) (b4 : Nat) (post : Mem → Int32 → Prop) : Prop :=
  gT M b0 = some (5, 0) ∧ ∃ c2 s3, (0 + c2 ≤ mc ∧ 0 + s3 ≤ ms) ∧ w_X5_joinedModes c2 s3 M b0 p1 p2 p3 (fun E6 M5 => (E6 = ioob ∧ (post M5 1))) (fun x4 => inA M b4 11 0 ∧ ∀ M7, M7 = sL M b4 (Int32.toNatClampNeg 0) x4.toInt64 → post M7 0)
set_option maxRecDepth 100000 in
set_option maxHeartbeats 8000000 in
theorem s_L_joinedModes (l : Launch) (D : va_G) (dA : Nat → ClassId) (htr : l.stackTraces = false) (mc ms : Nat) (M : Mem) (b0 : Nat) (p1 : Int32) (p2 : Int32) (p3 : Int32) (b4 : Nat) (post : Mem → Int32 → Prop) (h : w_L_joinedModes mc ms M b0 p1 p2 p3 b4 post) : CtW l D dA yL_joinedModes cL_joinedModes 6 (some .int) [(0, 12, 15, 13)] 8 [.ref b0, .int p1, .int p2, .int p3, .ref b4] M mc ms (pI post) := by
  refine ct_ofW htr (by decide) (Nat.le_of_ble_eq_true rfl) ?_
  intro X hC hTab hR
  show G X 6 M 0 0 0 [(0, .ref b0), (1, .int p1), (2, .int p2), (3, .int p3), (4, .ref b4)] []
  unfold w_L_joinedModes at h
  refine g_aload (r := (some b4)) hC 4 dL_joinedModes_0 rfl ?_
  refine g_iconst (v := 0) hC dL_joinedModes_2 (by decide) ?_
  refine g_aload_n (r := (some b0)) hC 0 dL_joinedModes_3 rfl ?_
  refine g_iload_n hC 1 dL_joinedModes_4 rfl ?_
  refine g_iload_n hC 2 dL_joinedModes_5 rfl ?_
  refine g_iload_n hC 3 dL_joinedModes_6 rfl ?_
  obtain ⟨hc1, h⟩ := h
  obtain ⟨c2, s3, hc2, h⟩ := h
  refine gx_callV hC (As := [.int p1, .int p2, .int p3]) (fun l D dA ht => s_X5_joinedModes l D dA ht _ _ _ _ _ _ _ _ _ h) wm_3_138 wm_3_135 wm_3_136 wm_3_137 wm_1_1 (by decide +kernel : plainY yX5_joinedModes 3) kc5.1 kc5.2.1 dL_joinedModes_7 (by decide) (Nat.le_of_ble_eq_true rfl) hc1 (Or.inr hc2) ?_ ?_
  · intro M5 E6 h
    obtain ⟨rfl, h⟩ := h
    · refine g_catch hC hTab [] (0, 12, 15, 13) [] rfl (fun _ h9 => absurd h9 List.not_mem_nil) (by decide) (by decide) wm_2_61 (by decide +kernel) (fun q9 => ?_)
      refine g_pc (pc' := 15) rfl ?_
      refine g_astore (r := (some q9)) (lv' := [(5, .ref q9), (0, .ref b0), (1, .int p1), (2, .int p2), (3, .int p3), (4, .ref b4)]) hC dL_joinedModes_15 (by decide) rfl ?_
      refine g_iconst (v := 1) hC dL_joinedModes_17 (by decide) ?_
      exact hR.2.1 rfl _ _ _ _ _ _ dL_joinedModes_18 ⟨_, rfl, h⟩
  · intro M9 v9 h
    obtain ⟨x4, rfl, h⟩ := h
    obtain ⟨hM9, h⟩ := h
    rw [hM9]
    show G X 6 M (0 + c2) (0 + s3) 10 [(0, .ref b0), (1, .int p1), (2, .int p2), (3, .int p3), (4, .ref b4)] [.int x4, .int 0, .ref b4]
    refine g_pc (pc' := 10) rfl ?_
    refine g_i2l hC dL_joinedModes_10 ?_
    obtain ⟨hc8, h⟩ := h
    refine g_lastA hC dL_joinedModes_11 hc8 ?_
    obtain ⟨M7, eM7⟩ : ∃ w, w = sL M b4 (Int32.toNatClampNeg 0) x4.toInt64 := ⟨_, rfl⟩
    replace h := h M7 eM7
    rw [← eM7]
    refine g_goto hC 19 dL_joinedModes_12 (by decide) ?_
    refine g_iconst (v := 0) hC dL_joinedModes_19 (by decide) ?_
    exact hR.2.1 rfl _ _ _ _ _ _ dL_joinedModes_20 ⟨_, rfl, h⟩

def w_L_law (mc ms : Nat) (M : Mem) (b0 L : Nat) (xs : Nat → Int32) : Prop :=
  (0 + 1 ≤ mc ∧ 0 + 8 ≤ ms) ∧ ∀ q1, gT M q1 = none → ∀ M2, M2 = sN M q1 (5, 0) → ∃ c4 s5, ((0 + 1) + c4 ≤ mc ∧ (0 + 8) + s5 ≤ ms) ∧ w_X5_init c4 s5 M2 q1 (fun M6 => (0 + 1 + c4 + 1 ≤ mc ∧ 0 + 8 + s5 + 29 ≤ ms) ∧ ∀ q7, gT M6 q7 = none → ∀ M8, M8 = sN M6 q7 (6, 0) → ∃ c10 s11, ((0 + 1 + c4 + 1) + c10 ≤ mc ∧ (0 + 8 + s5 + 29) + s11 ≤ ms) ∧ w_X6_init c10 s11 M8 q7 (fun M12 => (0 + 1 + c4 + 1 + c10 + 1 ≤ mc ∧ 0 + 8 + s5 + 29 + s11 + 1 ≤ ms) ∧ ∀ q13, gT M12 q13 = none → ∀ M14, M14 = sN M12 q13 (11, 1) → Lp (fun (K20 : Int32 × Mem × Nat × Nat → Prop) (z : Int32 × Mem × Nat × Nat) => ∀ (x16 : Int32) (M17 : Mem) (k18 : Nat) (n19 : Nat), z = (x16, M17, k18, n19) → ((((nI L) - 5) < x16 → (1 : Int32) = 1) ∧ (¬ (((nI L) - 5) < x16) → vp_in x16 L ∧ ∀ J25 : Mem → Nat → Nat → Prop, (∀ (M22 : Mem) (k23 : Nat) (n24 : Nat), (∀ x26, x26 = x16 + 5 → K20 (x26, M22, k23, n24)) → J25 M22 k23 n24) → (((xs (Int32.toNatClampNeg x16)) &&& 31 = 0 → vp_in (x16 + 1) L ∧ vp_in (x16 + 2) L ∧ ∃ c30 s31, (k18 + c30 ≤ mc ∧ n19 + s31 ≤ ms) ∧ w_L_link c30 s31 M17 q1 (xs (Int32.toNatClampNeg (x16 + 1))) (xs (Int32.toNatClampNeg (x16 + 2))) q13 (fun M32 x33 => vp_in (x16 + 1) L ∧ vp_in (x16 + 2) L ∧ gT M32 q7 = some (6, 0) ∧ w_X6_link M32 q7 (xs (Int32.toNatClampNeg (x16 + 1))) (xs (Int32.toNatClampNeg (x16 + 2))) (fun M37 x38 => gT M37 q7 = some (6, 0) ∧ w_X6_thrown M37 q7 (fun x40 => (x40 = x33 → ∀ J41 : Prop, ((J25 M37 (k18 + c30) (n19 + s31)) → J41) → ((x33 = 0 → inA M37 q13 11 0 ∧ (lg_cmp (gL M37 q13 (Int32.toNatClampNeg 0)) x38.toInt64 = 0 → J41) ∧ (¬ (lg_cmp (gL M37 q13 (Int32.toNatClampNeg 0)) x38.toInt64 = 0) → (0 : Int32) = 1)) ∧ (¬ (x33 = 0) → J41))) ∧ (¬ (x40 = x33) → (0 : Int32) = 1))))) ∧ ((xs (Int32.toNatClampNeg x16)) &&& 31 = 1 → vp_in (x16 + 1) L ∧ vp_in (x16 + 2) L ∧ ∃ c48 s49, (k18 + c48 ≤ mc ∧ n19 + s49 ≤ ms) ∧ w_L_split c48 s49 M17 q1 (xs (Int32.toNatClampNeg (x16 + 1))) (xs (Int32.toNatClampNeg (x16 + 2))) q13 (fun M50 x51 => vp_in (x16 + 1) L ∧ vp_in (x16 + 2) L ∧ gT M50 q7 = some (6, 0) ∧ w_X6_split M50 q7 (xs (Int32.toNatClampNeg (x16 + 1))) (xs (Int32.toNatClampNeg (x16 + 2))) (fun M55 x56 => gT M55 q7 = some (6, 0) ∧ w_X6_thrown M55 q7 (fun x58 => (x58 = x51 → ∀ J59 : Prop, ((J25 M55 (k18 + c48) (n19 + s49)) → J59) → ((x51 = 0 → inA M55 q13 11 0 ∧ (lg_cmp (gL M55 q13 (Int32.toNatClampNeg 0)) x56.toInt64 = 0 → J59) ∧ (¬ (lg_cmp (gL M55 q13 (Int32.toNatClampNeg 0)) x56.toInt64 = 0) → (0 : Int32) = 1)) ∧ (¬ (x51 = 0) → J59))) ∧ (¬ (x58 = x51) → (0 : Int32) = 1))))) ∧ ((xs (Int32.toNatClampNeg x16)) &&& 31 = 2 → vp_in (x16 + 1) L ∧ vp_in (x16 + 2) L ∧ ∃ c66 s67, (k18 + c66 ≤ mc ∧ n19 + s67 ≤ ms) ∧ w_L_deliver c66 s67 M17 q1 (xs (Int32.toNatClampNeg (x16 + 1))) (xs (Int32.toNatClampNeg (x16 + 2))) q13 (fun M68 x69 => vp_in (x16 + 1) L ∧ vp_in (x16 + 2) L ∧ gT M68 q7 = some (6, 0) ∧ w_X6_deliver M68 q7 (xs (Int32.toNatClampNeg (x16 + 1))) (xs (Int32.toNatClampNeg (x16 + 2))) (fun M73 x74 => gT M73 q7 = some (6, 0) ∧ w_X6_thrown M73 q7 (fun x76 => (x76 = x69 → ∀ J77 : Prop, ((J25 M73 (k18 + c66) (n19 + s67)) → J77) → ((x69 = 0 → inA M73 q13 11 0 ∧ (lg_cmp (gL M73 q13 (Int32.toNatClampNeg 0)) x74.toInt64 = 0 → J77) ∧ (¬ (lg_cmp (gL M73 q13 (Int32.toNatClampNeg 0)) x74.toInt64 = 0) → (0 : Int32) = 1)) ∧ (¬ (x69 = 0) → J77))) ∧ (¬ (x76 = x69) → (0 : Int32) = 1))))) ∧ ((xs (Int32.toNatClampNeg x16)) &&& 31 = 3 → gT M17 q1 = some (5, 0) ∧ ∃ c83 s84, (k18 + c83 ≤ mc ∧ n19 + s84 ≤ ms) ∧ w_X5_deliverAll c83 s84 M17 q1 (fun M85 x86 => gT M85 q7 = some (6, 0) ∧ w_X6_deliverAll M85 q7 (fun M88 x89 => (x86 = x89 → J25 M88 (k18 + c83) (n19 + s84)) ∧ (¬ (x86 = x89) → (0 : Int32) = 1)))) ∧ ((xs (Int32.toNatClampNeg x16)) &&& 31 = 4 → gT M17 q1 = some (5, 0) ∧ w_X5_lines M17 q1 (fun x92 => gT M17 q7 = some (6, 0) ∧ w_X6_lines M17 q7 (fun M94 x95 => (x92 = x95 → J25 M94 k18 n19) ∧ (¬ (x92 = x95) → (0 : Int32) = 1)))) ∧ ((xs (Int32.toNatClampNeg x16)) &&& 31 = 5 → vp_in (x16 + 1) L ∧ ∃ c98 s99, (k18 + c98 ≤ mc ∧ n19 + s99 ≤ ms) ∧ w_L_tree c98 s99 M17 q1 (xs (Int32.toNatClampNeg (x16 + 1))) q13 (fun M100 x101 => vp_in (x16 + 1) L ∧ gT M100 q7 = some (6, 0) ∧ w_X6_tree M100 q7 (xs (Int32.toNatClampNeg (x16 + 1))) (fun M104 x105 => gT M104 q7 = some (6, 0) ∧ w_X6_thrown M104 q7 (fun x107 => (x107 = x101 → ∀ J108 : Prop, ((J25 M104 (k18 + c98) (n19 + s99)) → J108) → ((x101 = 0 → inA M104 q13 11 0 ∧ (lg_cmp (gL M104 q13 (Int32.toNatClampNeg 0)) x105.toInt64 = 0 → J108) ∧ (¬ (lg_cmp (gL M104 q13 (Int32.toNatClampNeg 0)) x105.toInt64 = 0) → (0 : Int32) = 1)) ∧ (¬ (x101 = 0) → J108))) ∧ (¬ (x107 = x101) → (0 : Int32) = 1))))) ∧ ((xs (Int32.toNatClampNeg x16)) &&& 31 = 6 → vp_in (x16 + 1) L ∧ vp_in (x16 + 2) L ∧ ∃ c115 s116, (k18 + c115 ≤ mc ∧ n19 + s116 ≤ ms) ∧ w_L_signOn c115 s116 M17 q1 (xs (Int32.toNatClampNeg (x16 + 1))) (((xs (Int32.toNatClampNeg (x16 + 2))).toUInt32 % 65536).toInt32) q13 (fun M117 x118 => vp_in (x16 + 1) L ∧ vp_in (x16 + 2) L ∧ gT M117 q7 = some (6, 0) ∧ w_X6_signOn M117 q7 (xs (Int32.toNatClampNeg (x16 + 1))) (((xs (Int32.toNatClampNeg (x16 + 2))).toUInt32 % 65536).toInt32) (fun M122 x123 => gT M122 q7 = some (6, 0) ∧ w_X6_thrown M122 q7 (fun x125 => (x125 = x118 → ∀ J126 : Prop, ((J25 M122 (k18 + c115) (n19 + s116)) → J126) → ((x118 = 0 → inA M122 q13 11 0 ∧ (lg_cmp (gL M122 q13 (Int32.toNatClampNeg 0)) x123.toInt64 = 0 → J126) ∧ (¬ (lg_cmp (gL M122 q13 (Int32.toNatClampNeg 0)) x123.toInt64 = 0) → (0 : Int32) = 1)) ∧ (¬ (x118 = 0) → J126))) ∧ (¬ (x125 = x118) → (0 : Int32) = 1))))) ∧ ((xs (Int32.toNatClampNeg x16)) &&& 31 = 7 → vp_in (x16 + 1) L ∧ ∃ c132 s133, (k18 + c132 ≤ mc ∧ n19 + s133 ≤ ms) ∧ w_L_quit c132 s133 M17 q1 (xs (Int32.toNatClampNeg (x16 + 1))) (fun M134 x135 => vp_in (x16 + 1) L ∧ gT M134 q7 = some (6, 0) ∧ w_X6_quit M134 q7 (xs (Int32.toNatClampNeg (x16 + 1))) (fun M138 => gT M138 q7 = some (6, 0) ∧ w_X6_thrown M138 q7 (fun x140 => (x140 = x135 → J25 M138 (k18 + c132) (n19 + s133)) ∧ (¬ (x140 = x135) → (0 : Int32) = 1))))) ∧ ((xs (Int32.toNatClampNeg x16)) &&& 31 = 8 → vp_in (x16 + 1) L ∧ vp_in (x16 + 2) L ∧ ∃ c144 s145, (k18 + c144 ≤ mc ∧ n19 + s145 ≤ ms) ∧ w_L_join c144 s145 M17 q1 (xs (Int32.toNatClampNeg (x16 + 1))) (xs (Int32.toNatClampNeg (x16 + 2))) q13 (fun M146 x147 => vp_in (x16 + 1) L ∧ vp_in (x16 + 2) L ∧ gT M146 q7 = some (6, 0) ∧ w_X6_join M146 q7 (xs (Int32.toNatClampNeg (x16 + 1))) (xs (Int32.toNatClampNeg (x16 + 2))) (fun M151 x152 => gT M151 q7 = some (6, 0) ∧ w_X6_thrown M151 q7 (fun x154 => (x154 = x147 → ∀ J155 : Prop, ((J25 M151 (k18 + c144) (n19 + s145)) → J155) → ((x147 = 0 → inA M151 q13 11 0 ∧ (lg_cmp (gL M151 q13 (Int32.toNatClampNeg 0)) x152.toInt64 = 0 → J155) ∧ (¬ (lg_cmp (gL M151 q13 (Int32.toNatClampNeg 0)) x152.toInt64 = 0) → (0 : Int32) = 1)) ∧ (¬ (x147 = 0) → J155))) ∧ (¬ (x154 = x147) → (0 : Int32) = 1))))) ∧ ((xs (Int32.toNatClampNeg x16)) &&& 31 = 9 → vp_in (x16 + 1) L ∧ vp_in (x16 + 2) L ∧ ∃ c162 s163, (k18 + c162 ≤ mc ∧ n19 + s163 ≤ ms) ∧ w_L_leave c162 s163 M17 q1 (xs (Int32.toNatClampNeg (x16 + 1))) (xs (Int32.toNatClampNeg (x16 + 2))) (fun M164 x165 => vp_in (x16 + 1) L ∧ vp_in (x16 + 2) L ∧ gT M164 q7 = some (6, 0) ∧ w_X6_leave M164 q7 (xs (Int32.toNatClampNeg (x16 + 1))) (xs (Int32.toNatClampNeg (x16 + 2))) (fun M169 => gT M169 q7 = some (6, 0) ∧ w_X6_thrown M169 q7 (fun x171 => (x171 = x165 → J25 M169 (k18 + c162) (n19 + s163)) ∧ (¬ (x171 = x165) → (0 : Int32) = 1))))) ∧ ((xs (Int32.toNatClampNeg x16)) &&& 31 = 10 → vp_in (x16 + 1) L ∧ vp_in (x16 + 2) L ∧ vp_in (x16 + 3) L ∧ vp_in (x16 + 4) L ∧ ∃ c177 s178, (k18 + c177 ≤ mc ∧ n19 + s178 ≤ ms) ∧ w_L_setModes c177 s178 M17 q1 (xs (Int32.toNatClampNeg (x16 + 1))) (xs (Int32.toNatClampNeg (x16 + 2))) (xs (Int32.toNatClampNeg (x16 + 3))) (xs (Int32.toNatClampNeg (x16 + 4))) q13 (fun M179 x180 => vp_in (x16 + 1) L ∧ vp_in (x16 + 2) L ∧ vp_in (x16 + 3) L ∧ vp_in (x16 + 4) L ∧ gT M179 q7 = some (6, 0) ∧ w_X6_setModes M179 q7 (xs (Int32.toNatClampNeg (x16 + 1))) (xs (Int32.toNatClampNeg (x16 + 2))) (xs (Int32.toNatClampNeg (x16 + 3))) (xs (Int32.toNatClampNeg (x16 + 4))) (fun M186 x187 => gT M186 q7 = some (6, 0) ∧ w_X6_thrown M186 q7 (fun x189 => (x189 = x180 → ∀ J190 : Prop, ((J25 M186 (k18 + c177) (n19 + s178)) → J190) → ((x180 = 0 → inA M186 q13 11 0 ∧ (lg_cmp (gL M186 q13 (Int32.toNatClampNeg 0)) x187.toInt64 = 0 → J190) ∧ (¬ (lg_cmp (gL M186 q13 (Int32.toNatClampNeg 0)) x187.toInt64 = 0) → (0 : Int32) = 1)) ∧ (¬ (x180 = 0) → J190))) ∧ (¬ (x189 = x180) → (0 : Int32) = 1))))) ∧ ((xs (Int32.toNatClampNeg x16)) &&& 31 = 11 → vp_in (x16 + 1) L ∧ vp_in (x16 + 2) L ∧ ∃ c197 s198, (k18 + c197 ≤ mc ∧ n19 + s198 ≤ ms) ∧ w_L_say c197 s198 M17 q1 (xs (Int32.toNatClampNeg (x16 + 1))) (xs (Int32.toNatClampNeg (x16 + 2))) q13 (fun M199 x200 => vp_in (x16 + 1) L ∧ vp_in (x16 + 2) L ∧ gT M199 q7 = some (6, 0) ∧ w_X6_say M199 q7 (xs (Int32.toNatClampNeg (x16 + 1))) (xs (Int32.toNatClampNeg (x16 + 2))) (fun M204 x205 => gT M204 q7 = some (6, 0) ∧ w_X6_thrown M204 q7 (fun x207 => (x207 = x200 → ∀ J208 : Prop, ((J25 M204 (k18 + c197) (n19 + s198)) → J208) → ((x200 = 0 → inA M204 q13 11 0 ∧ (lg_cmp (gL M204 q13 (Int32.toNatClampNeg 0)) x205.toInt64 = 0 → J208) ∧ (¬ (lg_cmp (gL M204 q13 (Int32.toNatClampNeg 0)) x205.toInt64 = 0) → (0 : Int32) = 1)) ∧ (¬ (x200 = 0) → J208))) ∧ (¬ (x207 = x200) → (0 : Int32) = 1))))) ∧ ((xs (Int32.toNatClampNeg x16)) &&& 31 = 12 → gT M17 q1 = some (5, 0) ∧ w_X5_users M17 q1 (fun x214 => gT M17 q7 = some (6, 0) ∧ w_X6_users M17 q7 (fun M216 x217 => (x214 = x217 → J25 M216 k18 n19) ∧ (¬ (x214 = x217) → (0 : Int32) = 1)))) ∧ ((xs (Int32.toNatClampNeg x16)) &&& 31 = 13 → gT M17 q1 = some (5, 0) ∧ w_X5_clock M17 q1 (fun x220 => gT M17 q7 = some (6, 0) ∧ w_X6_clock M17 q7 (fun M222 x223 => (x220 = x223 → J25 M222 k18 n19) ∧ (¬ (x220 = x223) → (0 : Int32) = 1)))) ∧ ((xs (Int32.toNatClampNeg x16)) &&& 31 = 14 → vp_in (x16 + 1) L ∧ ∃ c226 s227, (k18 + c226 ≤ mc ∧ n19 + s227 ≤ ms) ∧ w_L_known c226 s227 M17 q1 (xs (Int32.toNatClampNeg (x16 + 1))) q13 (fun M228 x229 => vp_in (x16 + 1) L ∧ gT M228 q7 = some (6, 0) ∧ w_X6_known M228 q7 (xs (Int32.toNatClampNeg (x16 + 1))) (fun M232 x233 => gT M232 q7 = some (6, 0) ∧ w_X6_thrown M232 q7 (fun x235 => (x235 = x229 → ∀ J236 : Prop, ((J25 M232 (k18 + c226) (n19 + s227)) → J236) → ((x229 = 0 → inA M232 q13 11 0 ∧ (lg_cmp (gL M232 q13 (Int32.toNatClampNeg 0)) x233.toInt64 = 0 → J236) ∧ (¬ (lg_cmp (gL M232 q13 (Int32.toNatClampNeg 0)) x233.toInt64 = 0) → (0 : Int32) = 1)) ∧ (¬ (x229 = 0) → J236))) ∧ (¬ (x235 = x229) → (0 : Int32) = 1))))) ∧ ((xs (Int32.toNatClampNeg x16)) &&& 31 = 15 → vp_in (x16 + 1) L ∧ vp_in (x16 + 2) L ∧ ∃ c243 s244, (k18 + c243 ≤ mc ∧ n19 + s244 ≤ ms) ∧ w_L_members c243 s244 M17 q1 (xs (Int32.toNatClampNeg (x16 + 1))) (xs (Int32.toNatClampNeg (x16 + 2))) q13 (fun M245 x246 => vp_in (x16 + 1) L ∧ vp_in (x16 + 2) L ∧ gT M245 q7 = some (6, 0) ∧ w_X6_members M245 q7 (xs (Int32.toNatClampNeg (x16 + 1))) (xs (Int32.toNatClampNeg (x16 + 2))) (fun M250 x251 => gT M250 q7 = some (6, 0) ∧ w_X6_thrown M250 q7 (fun x253 => (x253 = x246 → ∀ J254 : Prop, ((J25 M250 (k18 + c243) (n19 + s244)) → J254) → ((x246 = 0 → inA M250 q13 11 0 ∧ (lg_cmp (gL M250 q13 (Int32.toNatClampNeg 0)) x251.toInt64 = 0 → J254) ∧ (¬ (lg_cmp (gL M250 q13 (Int32.toNatClampNeg 0)) x251.toInt64 = 0) → (0 : Int32) = 1)) ∧ (¬ (x246 = 0) → J254))) ∧ (¬ (x253 = x246) → (0 : Int32) = 1))))) ∧ ((xs (Int32.toNatClampNeg x16)) &&& 31 = 16 → vp_in (x16 + 1) L ∧ vp_in (x16 + 2) L ∧ ∃ c261 s262, (k18 + c261 ≤ mc ∧ n19 + s262 ≤ ms) ∧ w_L_age c261 s262 M17 q1 (xs (Int32.toNatClampNeg (x16 + 1))) (xs (Int32.toNatClampNeg (x16 + 2))) q13 (fun M263 x264 => vp_in (x16 + 1) L ∧ vp_in (x16 + 2) L ∧ gT M263 q7 = some (6, 0) ∧ w_X6_age M263 q7 (xs (Int32.toNatClampNeg (x16 + 1))) (xs (Int32.toNatClampNeg (x16 + 2))) (fun M268 x269 => gT M268 q7 = some (6, 0) ∧ w_X6_thrown M268 q7 (fun x271 => (x271 = x264 → ∀ J272 : Prop, ((J25 M268 (k18 + c261) (n19 + s262)) → J272) → ((x264 = 0 → inA M268 q13 11 0 ∧ (lg_cmp (gL M268 q13 (Int32.toNatClampNeg 0)) x269.toInt64 = 0 → J272) ∧ (¬ (lg_cmp (gL M268 q13 (Int32.toNatClampNeg 0)) x269.toInt64 = 0) → (0 : Int32) = 1)) ∧ (¬ (x264 = 0) → J272))) ∧ (¬ (x271 = x264) → (0 : Int32) = 1))))) ∧ ((xs (Int32.toNatClampNeg x16)) &&& 31 = 17 → vp_in (x16 + 1) L ∧ vp_in (x16 + 2) L ∧ ∃ c279 s280, (k18 + c279 ≤ mc ∧ n19 + s280 ≤ ms) ∧ w_L_modes c279 s280 M17 q1 (xs (Int32.toNatClampNeg (x16 + 1))) (xs (Int32.toNatClampNeg (x16 + 2))) q13 (fun M281 x282 => vp_in (x16 + 1) L ∧ vp_in (x16 + 2) L ∧ gT M281 q7 = some (6, 0) ∧ w_X6_modes M281 q7 (xs (Int32.toNatClampNeg (x16 + 1))) (xs (Int32.toNatClampNeg (x16 + 2))) (fun M286 x287 => gT M286 q7 = some (6, 0) ∧ w_X6_thrown M286 q7 (fun x289 => (x289 = x282 → ∀ J290 : Prop, ((J25 M286 (k18 + c279) (n19 + s280)) → J290) → ((x282 = 0 → inA M286 q13 11 0 ∧ (lg_cmp (gL M286 q13 (Int32.toNatClampNeg 0)) x287.toInt64 = 0 → J290) ∧ (¬ (lg_cmp (gL M286 q13 (Int32.toNatClampNeg 0)) x287.toInt64 = 0) → (0 : Int32) = 1)) ∧ (¬ (x282 = 0) → J290))) ∧ (¬ (x289 = x282) → (0 : Int32) = 1))))) ∧ ((xs (Int32.toNatClampNeg x16)) &&& 31 = 18 → vp_in (x16 + 1) L ∧ vp_in (x16 + 2) L ∧ ∃ c297 s298, (k18 + c297 ≤ mc ∧ n19 + s298 ≤ ms) ∧ w_L_bans c297 s298 M17 q1 (xs (Int32.toNatClampNeg (x16 + 1))) (xs (Int32.toNatClampNeg (x16 + 2))) q13 (fun M299 x300 => vp_in (x16 + 1) L ∧ vp_in (x16 + 2) L ∧ gT M299 q7 = some (6, 0) ∧ w_X6_bans M299 q7 (xs (Int32.toNatClampNeg (x16 + 1))) (xs (Int32.toNatClampNeg (x16 + 2))) (fun M304 x305 => gT M304 q7 = some (6, 0) ∧ w_X6_thrown M304 q7 (fun x307 => (x307 = x300 → ∀ J308 : Prop, ((J25 M304 (k18 + c297) (n19 + s298)) → J308) → ((x300 = 0 → inA M304 q13 11 0 ∧ (lg_cmp (gL M304 q13 (Int32.toNatClampNeg 0)) x305.toInt64 = 0 → J308) ∧ (¬ (lg_cmp (gL M304 q13 (Int32.toNatClampNeg 0)) x305.toInt64 = 0) → (0 : Int32) = 1)) ∧ (¬ (x300 = 0) → J308))) ∧ (¬ (x307 = x300) → (0 : Int32) = 1))))) ∧ ((xs (Int32.toNatClampNeg x16)) &&& 31 = 19 → vp_in (x16 + 1) L ∧ vp_in (x16 + 2) L ∧ ∃ c315 s316, (k18 + c315 ≤ mc ∧ n19 + s316 ≤ ms) ∧ w_L_areSame c315 s316 M17 q1 (xs (Int32.toNatClampNeg (x16 + 1))) (xs (Int32.toNatClampNeg (x16 + 2))) q13 (fun M317 x318 => vp_in (x16 + 1) L ∧ vp_in (x16 + 2) L ∧ gT M317 q7 = some (6, 0) ∧ w_X6_areSame M317 q7 (xs (Int32.toNatClampNeg (x16 + 1))) (xs (Int32.toNatClampNeg (x16 + 2))) (fun M322 x323 => gT M322 q7 = some (6, 0) ∧ w_X6_thrown M322 q7 (fun x325 => (x325 = x318 → ∀ J326 : Prop, ((J25 M322 (k18 + c315) (n19 + s316)) → J326) → ((x318 = 0 → inA M322 q13 11 0 ∧ ∀ J329 : Int64 → Prop, (∀ (y328 : Int64), ((lg_cmp (gL M322 q13 (Int32.toNatClampNeg 0)) y328 = 0 → J326) ∧ (¬ (lg_cmp (gL M322 q13 (Int32.toNatClampNeg 0)) y328 = 0) → (0 : Int32) = 1)) → J329 y328) → ((x323 = 0 → J329 0) ∧ (¬ (x323 = 0) → J329 1))) ∧ (¬ (x318 = 0) → J326))) ∧ (¬ (x325 = x318) → (0 : Int32) = 1))))) ∧ ((xs (Int32.toNatClampNeg x16)) &&& 31 = 20 → vp_in (x16 + 1) L ∧ vp_in (x16 + 2) L ∧ vp_in (x16 + 3) L ∧ ∃ c337 s338, (k18 + c337 ≤ mc ∧ n19 + s338 ≤ ms) ∧ w_L_joinedModes c337 s338 M17 q1 (xs (Int32.toNatClampNeg (x16 + 1))) (xs (Int32.toNatClampNeg (x16 + 2))) (xs (Int32.toNatClampNeg (x16 + 3))) q13 (fun M339 x340 => vp_in (x16 + 1) L ∧ vp_in (x16 + 2) L ∧ vp_in (x16 + 3) L ∧ gT M339 q7 = some (6, 0) ∧ w_X6_joinedModes M339 q7 (xs (Int32.toNatClampNeg (x16 + 1))) (xs (Int32.toNatClampNeg (x16 + 2))) (xs (Int32.toNatClampNeg (x16 + 3))) (fun M345 x346 => gT M345 q7 = some (6, 0) ∧ w_X6_thrown M345 q7 (fun x348 => (x348 = x340 → ∀ J349 : Prop, ((J25 M345 (k18 + c337) (n19 + s338)) → J349) → ((x340 = 0 → inA M345 q13 11 0 ∧ (lg_cmp (gL M345 q13 (Int32.toNatClampNeg 0)) x346.toInt64 = 0 → J349) ∧ (¬ (lg_cmp (gL M345 q13 (Int32.toNatClampNeg 0)) x346.toInt64 = 0) → (0 : Int32) = 1)) ∧ (¬ (x340 = 0) → J349))) ∧ (¬ (x348 = x340) → (0 : Int32) = 1))))) ∧ (¬ (xs (Int32.toNatClampNeg x16)) &&& 31 = 0 ∧ ¬ (xs (Int32.toNatClampNeg x16)) &&& 31 = 1 ∧ ¬ (xs (Int32.toNatClampNeg x16)) &&& 31 = 2 ∧ ¬ (xs (Int32.toNatClampNeg x16)) &&& 31 = 3 ∧ ¬ (xs (Int32.toNatClampNeg x16)) &&& 31 = 4 ∧ ¬ (xs (Int32.toNatClampNeg x16)) &&& 31 = 5 ∧ ¬ (xs (Int32.toNatClampNeg x16)) &&& 31 = 6 ∧ ¬ (xs (Int32.toNatClampNeg x16)) &&& 31 = 7 ∧ ¬ (xs (Int32.toNatClampNeg x16)) &&& 31 = 8 ∧ ¬ (xs (Int32.toNatClampNeg x16)) &&& 31 = 9 ∧ ¬ (xs (Int32.toNatClampNeg x16)) &&& 31 = 10 ∧ ¬ (xs (Int32.toNatClampNeg x16)) &&& 31 = 11 ∧ ¬ (xs (Int32.toNatClampNeg x16)) &&& 31 = 12 ∧ ¬ (xs (Int32.toNatClampNeg x16)) &&& 31 = 13 ∧ ¬ (xs (Int32.toNatClampNeg x16)) &&& 31 = 14 ∧ ¬ (xs (Int32.toNatClampNeg x16)) &&& 31 = 15 ∧ ¬ (xs (Int32.toNatClampNeg x16)) &&& 31 = 16 ∧ ¬ (xs (Int32.toNatClampNeg x16)) &&& 31 = 17 ∧ ¬ (xs (Int32.toNatClampNeg x16)) &&& 31 = 18 ∧ ¬ (xs (Int32.toNatClampNeg x16)) &&& 31 = 19 ∧ ¬ (xs (Int32.toNatClampNeg x16)) &&& 31 = 20 → J25 M17 k18 n19))))) (0, M14, 0 + 1 + c4 + 1 + c10 + 1, 0 + 8 + s5 + 29 + s11 + 1)))
set_option maxRecDepth 100000 in
set_option maxHeartbeats 16000000 in
theorem s_L_law (mc ms : Nat) (M : Mem) (b0 L : Nat) (xs : Nat → Int32) (h : w_L_law mc ms M b0 L xs) (X : XT) (hC : Cx X 11 cL_law 7 RL mc ms) (hX : Scr X b0 L xs) (hRet : ∀ (M : Mem) (k n pc : Nat) (lv : List (Nat × Value)) (x : Int32), decode cL_law pc = .ok (.ireturn, 1) → x = 1 → G X 7 M k n pc lv [.int x]) : G X 7 M 0 0 0 [(0, .ref b0)] [] := by
  unfold w_L_law at h
  obtain ⟨hc3, h⟩ := h
  refine g_newK hC kc5 wm_1_16 wm_1_17 wm_1_1 dL_law_0 hc3 (fun q1 hqq1 => ?_)
  obtain ⟨M2, eM2⟩ : ∃ w, w = sN M q1 (5, 0) := ⟨_, rfl⟩
  replace h := h q1 hqq1 M2 eM2
  rw [← eM2]
  refine g_dup hC dL_law_3 rfl ?_
  obtain ⟨c4, s5, hc4, h⟩ := h
  refine g_callI hC (As := []) (fun l D dA ht => s_X5_init l D dA ht _ _ _ _ _ h) rfl wm_1_20 wm_1_18 wm_1_19 wm_1_1 (by decide +kernel : plainY yX5_init 0) dL_law_4 (by decide) (Nat.le_of_ble_eq_true rfl) (Or.inr hc4) ?_
  intro M9 v9 h
  obtain ⟨rfl, h⟩ := h
  generalize M9 = M6 at h ⊢
  show G X 7 M6 (0 + 1 + c4) (0 + 8 + s5) 7 [(0, .ref b0)] [.ref q1]
  refine g_astore_n (r := (some q1)) (lv' := [(1, .ref q1), (0, .ref b0)]) hC dL_law_7 (by decide) rfl ?_
  obtain ⟨hc9, h⟩ := h
  refine g_newK hC kc6 wm_3_140 wm_3_141 wm_1_7 dL_law_8 hc9 (fun q7 hqq7 => ?_)
  obtain ⟨M8, eM8⟩ : ∃ w, w = sN M6 q7 (6, 0) := ⟨_, rfl⟩
  replace h := h q7 hqq7 M8 eM8
  rw [← eM8]
  refine g_dup hC dL_law_11 rfl ?_
  obtain ⟨c10, s11, hc10, h⟩ := h
  refine g_callI hC (As := []) (fun l D dA ht => s_X6_init l D dA ht _ _ _ _ _ h) rfl wm_3_144 wm_3_142 wm_3_143 wm_1_7 (by decide +kernel : plainY yX6_init 0) dL_law_12 (by decide) (Nat.le_of_ble_eq_true rfl) (Or.inr hc10) ?_
  intro M9 v9 h
  obtain ⟨rfl, h⟩ := h
  generalize M9 = M12 at h ⊢
  show G X 7 M12 (0 + 1 + c4 + 1 + c10) (0 + 8 + s5 + 29 + s11) 15 [(1, .ref q1), (0, .ref b0)] [.ref q7]
  refine g_pc (pc' := 15) rfl ?_
  refine g_astore_n (r := (some q7)) (lv' := [(2, .ref q7), (1, .ref q1), (0, .ref b0)]) hC dL_law_15 (by decide) rfl ?_
  refine g_iconst (v := 1) hC dL_law_16 (by decide) ?_
  obtain ⟨hc15, h⟩ := h
  refine g_newa (at0 := .long) (ty := .long) (ck := 11) (N' := 1) hC rfl (by decide) wm_4_201 (by decide) (by decide +kernel) (by decide +kernel) dL_law_17 hc15 (fun q13 hqq13 => ?_)
  obtain ⟨M14, eM14⟩ : ∃ w, w = sN M12 q13 (11, 1) := ⟨_, rfl⟩
  replace h := h q13 hqq13 M14 eM14
  rw [← eM14]
  refine g_astore_n (r := (some q13)) (lv' := [(3, .ref q13), (2, .ref q7), (1, .ref q1), (0, .ref b0)]) hC dL_law_19 (by decide) rfl ?_
  refine g_iconst (v := 0) hC dL_law_20 (by decide) ?_
  refine g_istore (lv' := [(4, .int 0), (3, .ref q13), (2, .ref q7), (1, .ref q1), (0, .ref b0)]) hC dL_law_21 (by decide) rfl ?_
  refine g_sub [4, 3, 2, 1, 0] (lv' := [(0, .ref b0), (1, .ref q1), (2, .ref q7), (3, .ref q13), (4, .int 0)]) rfl ?_
  refine Lp_use (fun (z355 : Int32 × Mem × Nat × Nat) => G X 7 z355.2.1 z355.2.2.1 z355.2.2.2 23 [(0, .ref b0), (1, .ref q1), (2, .ref q7), (3, .ref q13), (4, .int z355.1)] []) h ?_
  intro K20 z hK_K20 h
  obtain ⟨x16, M17, k18, n19⟩ := z
  replace h := h _ _ _ _ rfl
  show G X 7 M17 k18 n19 23 [(0, .ref b0), (1, .ref q1), (2, .ref q7), (3, .ref q13), (4, .int x16)] []
  refine g_iload hC 4 dL_law_23 rfl ?_
  refine g_aload_n (r := (some b0)) hC 0 dL_law_25 rfl ?_
  refine g_pc (pc' := 26) rfl ?_
  refine g_slen hC hX dL_law_26 ?_
  refine g_iconst (v := 5) hC dL_law_27 (by decide) ?_
  refine g_isub hC dL_law_28 ?_
  refine g_icmp_gt hC 1319 dL_law_29 (by decide) (fun c354 => ?_) (fun c354 => ?_)
  · replace h := h.1 c354
    refine g_iconst (v := 1) hC dL_law_1319 (by decide) ?_
    exact hRet _ _ _ _ _ _ dL_law_1320 h
  · replace h := h.2 c354
    refine g_aload_n (r := (some b0)) hC 0 dL_law_32 rfl ?_
    refine g_iload hC 4 dL_law_33 rfl ?_
    obtain ⟨hc21, h⟩ := h
    refine g_sld hC hX dL_law_35 hc21 ?_
    refine g_bipush (v := 31) hC dL_law_36 (by decide) ?_
    refine g_pc (pc' := 38) rfl ?_
    refine g_iand hC dL_law_38 ?_
    replace h := h (fun (M22 : Mem) (k23 : Nat) (n24 : Nat) => G X 7 M22 k23 n24 1313 [(0, .ref b0), (1, .ref q1), (2, .ref q7), (3, .ref q13), (4, .int x16)] []) (by
      intro M22 k23 n24 h
      show G X 7 M22 k23 n24 1313 [(0, .ref b0), (1, .ref q1), (2, .ref q7), (3, .ref q13), (4, .int x16)] []
      obtain ⟨x26, ex26⟩ : ∃ w, w = x16 + 5 := ⟨_, rfl⟩
      replace h := h x26 ex26
      refine g_iinc (v := x26) (lv' := [(4, .int x26), (0, .ref b0), (1, .ref q1), (2, .ref q7), (3, .ref q13)]) hC 4 dL_law_1313 rfl (by rw [ex26]; rfl) (by decide) rfl ?_
      refine g_goto hC 23 dL_law_1316 (by decide) ?_
      refine g_sub [1, 2, 3, 4, 0] (lv' := [(0, .ref b0), (1, .ref q1), (2, .ref q7), (3, .ref q13), (4, .int x26)]) rfl ?_
      exact hK_K20 _ h)
    obtain ⟨sx, esx⟩ : ∃ w, w = (xs (Int32.toNatClampNeg x16)) &&& 31 := ⟨_, rfl⟩
    rw [← esx] at h ⊢
    by_cases c270 : sx = 0
    · replace h := h.1 c270
      refine g_tableIn (off := 97) hC 136 dL_law_39 (by rw [c270]; decide) (by rw [c270]; decide) (by rw [c270]; decide) (by decide) ?_
      refine g_aload_n (r := (some q1)) hC 1 dL_law_136 rfl ?_
      refine g_aload_n (r := (some b0)) hC 0 dL_law_137 rfl ?_
      refine g_iload hC 4 dL_law_138 rfl ?_
      refine g_iconst (v := 1) hC dL_law_140 (by decide) ?_
      refine g_iadd hC dL_law_141 ?_
      obtain ⟨hc28, h⟩ := h
      refine g_sld hC hX dL_law_142 hc28 ?_
      refine g_pc (pc' := 143) rfl ?_
      refine g_aload_n (r := (some b0)) hC 0 dL_law_143 rfl ?_
      refine g_iload hC 4 dL_law_144 rfl ?_
      refine g_iconst (v := 2) hC dL_law_146 (by decide) ?_
      refine g_iadd hC dL_law_147 ?_
      obtain ⟨hc29, h⟩ := h
      refine g_sld hC hX dL_law_148 hc29 ?_
      refine g_aload_n (r := (some q13)) hC 3 dL_law_149 rfl ?_
      obtain ⟨c30, s31, hc30, h⟩ := h
      refine g_callW hC (As := [.ref q1, .int (xs (Int32.toNatClampNeg (x16 + 1))), .int (xs (Int32.toNatClampNeg (x16 + 2))), .ref q13]) (fun l D dA ht => s_L_link l D dA ht _ _ _ _ _ _ _ _ h) wm_2_60 wm_2_58 wm_2_59 wm_1_0 (by decide +kernel : plainY yL_link 4) dL_law_150 (by decide) (Nat.le_of_ble_eq_true rfl) (Or.inr hc30) ?_
      intro M9 v9 h
      obtain ⟨x33, rfl, h⟩ := h
      generalize M9 = M32 at h ⊢
      show G X 7 M32 (k18 + c30) (n19 + s31) 153 [(0, .ref b0), (1, .ref q1), (2, .ref q7), (3, .ref q13), (4, .int x16)] [.int x33]
      refine g_istore (lv' := [(5, .int x33), (0, .ref b0), (1, .ref q1), (2, .ref q7), (3, .ref q13), (4, .int x16)]) hC dL_law_153 (by decide) rfl ?_
      refine g_pc (pc' := 155) rfl ?_
      refine g_aload_n (r := (some q7)) hC 3 dL_law_155 rfl ?_
      refine g_aload_n (r := (some b0)) hC 1 dL_law_156 rfl ?_
      refine g_iload hC 5 dL_law_157 rfl ?_
      refine g_iconst (v := 1) hC dL_law_159 (by decide) ?_
      refine g_iadd hC dL_law_160 ?_
      obtain ⟨hc34, h⟩ := h
      refine g_sld hC hX dL_law_161 hc34 ?_
      refine g_aload_n (r := (some b0)) hC 1 dL_law_162 rfl ?_
      refine g_iload hC 5 dL_law_163 rfl ?_
      refine g_pc (pc' := 165) rfl ?_
      refine g_iconst (v := 2) hC dL_law_165 (by decide) ?_
      refine g_iadd hC dL_law_166 ?_
      obtain ⟨hc35, h⟩ := h
      refine g_sld hC hX dL_law_167 hc35 ?_
      obtain ⟨hc36, h⟩ := h
      refine g_callV hC (As := [.int (xs (Int32.toNatClampNeg (x16 + 1))), .int (xs (Int32.toNatClampNeg (x16 + 2)))]) (fun l D dA ht => s_X6_link l D dA ht _ _ _ _ _ h) wm_4_1 wm_3_238 wm_3_239 wm_4_0 wm_1_7 (by decide +kernel : plainY yX6_link 2) kc6.1 kc6.2.1 dL_law_168 (by decide) (Nat.le_of_ble_eq_true rfl) hc36 (Or.inl ⟨rfl, rfl⟩) ?_
      intro M9 v9 h
      obtain ⟨x38, rfl, h⟩ := h
      generalize M9 = M37 at h ⊢
      show G X 7 M37 (k18 + c30) (n19 + s31) 171 [(5, .int x33), (0, .ref b0), (1, .ref q1), (2, .ref q7), (3, .ref q13), (4, .int x16)] [.int x38]
      refine g_istore (lv' := [(6, .int x38), (5, .int x33), (0, .ref b0), (1, .ref q1), (2, .ref q7), (3, .ref q13), (4, .int x16)]) hC dL_law_171 (by decide) rfl ?_
      refine g_aload_n (r := (some q7)) hC 4 dL_law_173 rfl ?_
      obtain ⟨hc39, h⟩ := h
      refine g_callV hC (As := []) (fun l D dA ht => s_X6_thrown l D dA ht _ _ _ h) wm_3_237 wm_3_234 wm_3_235 wm_3_236 wm_1_7 (by decide +kernel : plainY yX6_thrown 0) kc6.1 kc6.2.1 dL_law_174 (by decide) (Nat.le_of_ble_eq_true rfl) hc39 (Or.inl ⟨rfl, rfl⟩) ?_
      intro M9 v9 h
      obtain ⟨x40, rfl, h⟩ := h
      obtain ⟨hM9, h⟩ := h
      rw [hM9]
      show G X 7 M37 (k18 + c30) (n19 + s31) 177 [(6, .int x38), (5, .int x33), (0, .ref b0), (1, .ref q1), (2, .ref q7), (3, .ref q13), (4, .int x16)] [.int x40]
      refine g_iload hC 1 dL_law_177 rfl ?_
      refine g_pc (pc' := 179) rfl ?_
      refine g_icmp_eq hC 184 dL_law_179 (by decide) (fun c45 => ?_) (fun c45 => ?_)
      · replace h := h.1 c45
        refine g_iload hC 1 dL_law_184 rfl ?_
        replace h := h (G X 7 M37 (k18 + c30) (n19 + s31) 201 [(0, .ref b0), (1, .ref q1), (2, .ref q7), (3, .ref q13), (4, .int x16), (5, .int x33), (6, .int x38)] []) (by
          intro h
          refine g_goto hC 1313 dL_law_201 (by decide) ?_
          refine g_sub [0, 1, 2, 3, 4] (lv' := [(0, .ref b0), (1, .ref q1), (2, .ref q7), (3, .ref q13), (4, .int x16)]) rfl ?_
          exact h)
        refine g_if_ne hC 201 dL_law_186 (by decide) (fun c44 => ?_) (fun c44 => ?_)
        · replace h := h.2 c44
          refine g_sub [2, 3, 4, 5, 6, 1, 0] (lv' := [(0, .ref b0), (1, .ref q1), (2, .ref q7), (3, .ref q13), (4, .int x16), (5, .int x33), (6, .int x38)]) rfl ?_
          exact h
        · replace h := h.1 c44
          refine g_aload_n (r := (some q13)) hC 5 dL_law_189 rfl ?_
          refine g_iconst (v := 0) hC dL_law_190 (by decide) ?_
          obtain ⟨hc42, h⟩ := h
          refine g_laldA hC dL_law_191 hc42 ?_
          refine g_iload hC 0 dL_law_192 rfl ?_
          refine g_i2l hC dL_law_194 ?_
          refine g_pc (pc' := 195) rfl ?_
          refine g_lcmp hC dL_law_195 ?_
          refine g_if_eq hC 201 dL_law_196 (by decide) (fun c43 => ?_) (fun c43 => ?_)
          · replace h := h.1 c43
            refine g_sub [2, 3, 4, 5, 6, 1, 0] (lv' := [(0, .ref b0), (1, .ref q1), (2, .ref q7), (3, .ref q13), (4, .int x16), (5, .int x33), (6, .int x38)]) rfl ?_
            exact h
          · replace h := h.2 c43
            refine g_iconst (v := 0) hC dL_law_199 (by decide) ?_
            exact hRet _ _ _ _ _ _ dL_law_200 h
      · replace h := h.2 c45
        refine g_iconst (v := 0) hC dL_law_182 (by decide) ?_
        exact hRet _ _ _ _ _ _ dL_law_183 h
    by_cases c271 : sx = 1
    · replace h := h.2.1 c271
      refine g_tableIn (off := 165) hC 204 dL_law_39 (by rw [c271]; decide) (by rw [c271]; decide) (by rw [c271]; decide) (by decide) ?_
      refine g_aload_n (r := (some q1)) hC 1 dL_law_204 rfl ?_
      refine g_aload_n (r := (some b0)) hC 0 dL_law_205 rfl ?_
      refine g_iload hC 4 dL_law_206 rfl ?_
      refine g_iconst (v := 1) hC dL_law_208 (by decide) ?_
      refine g_iadd hC dL_law_209 ?_
      obtain ⟨hc46, h⟩ := h
      refine g_sld hC hX dL_law_210 hc46 ?_
      refine g_pc (pc' := 211) rfl ?_
      refine g_aload_n (r := (some b0)) hC 0 dL_law_211 rfl ?_
      refine g_iload hC 4 dL_law_212 rfl ?_
      refine g_iconst (v := 2) hC dL_law_214 (by decide) ?_
      refine g_iadd hC dL_law_215 ?_
      obtain ⟨hc47, h⟩ := h
      refine g_sld hC hX dL_law_216 hc47 ?_
      refine g_aload_n (r := (some q13)) hC 3 dL_law_217 rfl ?_
      obtain ⟨c48, s49, hc48, h⟩ := h
      refine g_callW hC (As := [.ref q1, .int (xs (Int32.toNatClampNeg (x16 + 1))), .int (xs (Int32.toNatClampNeg (x16 + 2))), .ref q13]) (fun l D dA ht => s_L_split l D dA ht _ _ _ _ _ _ _ _ h) wm_2_168 wm_2_166 wm_2_167 wm_1_0 (by decide +kernel : plainY yL_split 4) dL_law_218 (by decide) (Nat.le_of_ble_eq_true rfl) (Or.inr hc48) ?_
      intro M9 v9 h
      obtain ⟨x51, rfl, h⟩ := h
      generalize M9 = M50 at h ⊢
      show G X 7 M50 (k18 + c48) (n19 + s49) 221 [(0, .ref b0), (1, .ref q1), (2, .ref q7), (3, .ref q13), (4, .int x16)] [.int x51]
      refine g_istore (lv' := [(5, .int x51), (0, .ref b0), (1, .ref q1), (2, .ref q7), (3, .ref q13), (4, .int x16)]) hC dL_law_221 (by decide) rfl ?_
      refine g_pc (pc' := 223) rfl ?_
      refine g_aload_n (r := (some q7)) hC 3 dL_law_223 rfl ?_
      refine g_aload_n (r := (some b0)) hC 1 dL_law_224 rfl ?_
      refine g_iload hC 5 dL_law_225 rfl ?_
      refine g_iconst (v := 1) hC dL_law_227 (by decide) ?_
      refine g_iadd hC dL_law_228 ?_
      obtain ⟨hc52, h⟩ := h
      refine g_sld hC hX dL_law_229 hc52 ?_
      refine g_aload_n (r := (some b0)) hC 1 dL_law_230 rfl ?_
      refine g_iload hC 5 dL_law_231 rfl ?_
      refine g_pc (pc' := 233) rfl ?_
      refine g_iconst (v := 2) hC dL_law_233 (by decide) ?_
      refine g_iadd hC dL_law_234 ?_
      obtain ⟨hc53, h⟩ := h
      refine g_sld hC hX dL_law_235 hc53 ?_
      obtain ⟨hc54, h⟩ := h
      refine g_callV hC (As := [.int (xs (Int32.toNatClampNeg (x16 + 1))), .int (xs (Int32.toNatClampNeg (x16 + 2)))]) (fun l D dA ht => s_X6_split l D dA ht _ _ _ _ _ h) wm_4_38 wm_4_35 wm_4_36 wm_4_37 wm_1_7 (by decide +kernel : plainY yX6_split 2) kc6.1 kc6.2.1 dL_law_236 (by decide) (Nat.le_of_ble_eq_true rfl) hc54 (Or.inl ⟨rfl, rfl⟩) ?_
      intro M9 v9 h
      obtain ⟨x56, rfl, h⟩ := h
      generalize M9 = M55 at h ⊢
      show G X 7 M55 (k18 + c48) (n19 + s49) 239 [(5, .int x51), (0, .ref b0), (1, .ref q1), (2, .ref q7), (3, .ref q13), (4, .int x16)] [.int x56]
      refine g_istore (lv' := [(6, .int x56), (5, .int x51), (0, .ref b0), (1, .ref q1), (2, .ref q7), (3, .ref q13), (4, .int x16)]) hC dL_law_239 (by decide) rfl ?_
      refine g_aload_n (r := (some q7)) hC 4 dL_law_241 rfl ?_
      obtain ⟨hc57, h⟩ := h
      refine g_callV hC (As := []) (fun l D dA ht => s_X6_thrown l D dA ht _ _ _ h) wm_3_237 wm_3_234 wm_3_235 wm_3_236 wm_1_7 (by decide +kernel : plainY yX6_thrown 0) kc6.1 kc6.2.1 dL_law_242 (by decide) (Nat.le_of_ble_eq_true rfl) hc57 (Or.inl ⟨rfl, rfl⟩) ?_
      intro M9 v9 h
      obtain ⟨x58, rfl, h⟩ := h
      obtain ⟨hM9, h⟩ := h
      rw [hM9]
      show G X 7 M55 (k18 + c48) (n19 + s49) 245 [(6, .int x56), (5, .int x51), (0, .ref b0), (1, .ref q1), (2, .ref q7), (3, .ref q13), (4, .int x16)] [.int x58]
      refine g_iload hC 1 dL_law_245 rfl ?_
      refine g_pc (pc' := 247) rfl ?_
      refine g_icmp_eq hC 252 dL_law_247 (by decide) (fun c63 => ?_) (fun c63 => ?_)
      · replace h := h.1 c63
        refine g_iload hC 1 dL_law_252 rfl ?_
        replace h := h (G X 7 M55 (k18 + c48) (n19 + s49) 269 [(0, .ref b0), (1, .ref q1), (2, .ref q7), (3, .ref q13), (4, .int x16), (5, .int x51), (6, .int x56)] []) (by
          intro h
          refine g_goto hC 1313 dL_law_269 (by decide) ?_
          refine g_sub [0, 1, 2, 3, 4] (lv' := [(0, .ref b0), (1, .ref q1), (2, .ref q7), (3, .ref q13), (4, .int x16)]) rfl ?_
          exact h)
        refine g_if_ne hC 269 dL_law_254 (by decide) (fun c62 => ?_) (fun c62 => ?_)
        · replace h := h.2 c62
          refine g_sub [2, 3, 4, 5, 6, 1, 0] (lv' := [(0, .ref b0), (1, .ref q1), (2, .ref q7), (3, .ref q13), (4, .int x16), (5, .int x51), (6, .int x56)]) rfl ?_
          exact h
        · replace h := h.1 c62
          refine g_aload_n (r := (some q13)) hC 5 dL_law_257 rfl ?_
          refine g_iconst (v := 0) hC dL_law_258 (by decide) ?_
          obtain ⟨hc60, h⟩ := h
          refine g_laldA hC dL_law_259 hc60 ?_
          refine g_iload hC 0 dL_law_260 rfl ?_
          refine g_i2l hC dL_law_262 ?_
          refine g_pc (pc' := 263) rfl ?_
          refine g_lcmp hC dL_law_263 ?_
          refine g_if_eq hC 269 dL_law_264 (by decide) (fun c61 => ?_) (fun c61 => ?_)
          · replace h := h.1 c61
            refine g_sub [2, 3, 4, 5, 6, 1, 0] (lv' := [(0, .ref b0), (1, .ref q1), (2, .ref q7), (3, .ref q13), (4, .int x16), (5, .int x51), (6, .int x56)]) rfl ?_
            exact h
          · replace h := h.2 c61
            refine g_iconst (v := 0) hC dL_law_267 (by decide) ?_
            exact hRet _ _ _ _ _ _ dL_law_268 h
      · replace h := h.2 c63
        refine g_iconst (v := 0) hC dL_law_250 (by decide) ?_
        exact hRet _ _ _ _ _ _ dL_law_251 h
    by_cases c272 : sx = 2
    · replace h := h.2.2.1 c272
      refine g_tableIn (off := 233) hC 272 dL_law_39 (by rw [c272]; decide) (by rw [c272]; decide) (by rw [c272]; decide) (by decide) ?_
      refine g_aload_n (r := (some q1)) hC 1 dL_law_272 rfl ?_
      refine g_aload_n (r := (some b0)) hC 0 dL_law_273 rfl ?_
      refine g_iload hC 4 dL_law_274 rfl ?_
      refine g_iconst (v := 1) hC dL_law_276 (by decide) ?_
      refine g_iadd hC dL_law_277 ?_
      obtain ⟨hc64, h⟩ := h
      refine g_sld hC hX dL_law_278 hc64 ?_
      refine g_pc (pc' := 279) rfl ?_
      refine g_aload_n (r := (some b0)) hC 0 dL_law_279 rfl ?_
      refine g_iload hC 4 dL_law_280 rfl ?_
      refine g_iconst (v := 2) hC dL_law_282 (by decide) ?_
      refine g_iadd hC dL_law_283 ?_
      obtain ⟨hc65, h⟩ := h
      refine g_sld hC hX dL_law_284 hc65 ?_
      refine g_aload_n (r := (some q13)) hC 3 dL_law_285 rfl ?_
      obtain ⟨c66, s67, hc66, h⟩ := h
      refine g_callW hC (As := [.ref q1, .int (xs (Int32.toNatClampNeg (x16 + 1))), .int (xs (Int32.toNatClampNeg (x16 + 2))), .ref q13]) (fun l D dA ht => s_L_deliver l D dA ht _ _ _ _ _ _ _ _ h) wm_2_191 wm_2_189 wm_2_190 wm_1_0 (by decide +kernel : plainY yL_deliver 4) dL_law_286 (by decide) (Nat.le_of_ble_eq_true rfl) (Or.inr hc66) ?_
      intro M9 v9 h
      obtain ⟨x69, rfl, h⟩ := h
      generalize M9 = M68 at h ⊢
      show G X 7 M68 (k18 + c66) (n19 + s67) 289 [(0, .ref b0), (1, .ref q1), (2, .ref q7), (3, .ref q13), (4, .int x16)] [.int x69]
      refine g_istore (lv' := [(5, .int x69), (0, .ref b0), (1, .ref q1), (2, .ref q7), (3, .ref q13), (4, .int x16)]) hC dL_law_289 (by decide) rfl ?_
      refine g_pc (pc' := 291) rfl ?_
      refine g_aload_n (r := (some q7)) hC 3 dL_law_291 rfl ?_
      refine g_aload_n (r := (some b0)) hC 1 dL_law_292 rfl ?_
      refine g_iload hC 5 dL_law_293 rfl ?_
      refine g_iconst (v := 1) hC dL_law_295 (by decide) ?_
      refine g_iadd hC dL_law_296 ?_
      obtain ⟨hc70, h⟩ := h
      refine g_sld hC hX dL_law_297 hc70 ?_
      refine g_aload_n (r := (some b0)) hC 1 dL_law_298 rfl ?_
      refine g_iload hC 5 dL_law_299 rfl ?_
      refine g_pc (pc' := 301) rfl ?_
      refine g_iconst (v := 2) hC dL_law_301 (by decide) ?_
      refine g_iadd hC dL_law_302 ?_
      obtain ⟨hc71, h⟩ := h
      refine g_sld hC hX dL_law_303 hc71 ?_
      obtain ⟨hc72, h⟩ := h
      refine g_callV hC (As := [.int (xs (Int32.toNatClampNeg (x16 + 1))), .int (xs (Int32.toNatClampNeg (x16 + 2)))]) (fun l D dA ht => s_X6_deliver l D dA ht _ _ _ _ _ h) wm_4_58 wm_4_55 wm_4_56 wm_4_57 wm_1_7 (by decide +kernel : plainY yX6_deliver 2) kc6.1 kc6.2.1 dL_law_304 (by decide) (Nat.le_of_ble_eq_true rfl) hc72 (Or.inl ⟨rfl, rfl⟩) ?_
      intro M9 v9 h
      obtain ⟨x74, rfl, h⟩ := h
      generalize M9 = M73 at h ⊢
      show G X 7 M73 (k18 + c66) (n19 + s67) 307 [(5, .int x69), (0, .ref b0), (1, .ref q1), (2, .ref q7), (3, .ref q13), (4, .int x16)] [.int x74]
      refine g_istore (lv' := [(6, .int x74), (5, .int x69), (0, .ref b0), (1, .ref q1), (2, .ref q7), (3, .ref q13), (4, .int x16)]) hC dL_law_307 (by decide) rfl ?_
      refine g_aload_n (r := (some q7)) hC 4 dL_law_309 rfl ?_
      obtain ⟨hc75, h⟩ := h
      refine g_callV hC (As := []) (fun l D dA ht => s_X6_thrown l D dA ht _ _ _ h) wm_3_237 wm_3_234 wm_3_235 wm_3_236 wm_1_7 (by decide +kernel : plainY yX6_thrown 0) kc6.1 kc6.2.1 dL_law_310 (by decide) (Nat.le_of_ble_eq_true rfl) hc75 (Or.inl ⟨rfl, rfl⟩) ?_
      intro M9 v9 h
      obtain ⟨x76, rfl, h⟩ := h
      obtain ⟨hM9, h⟩ := h
      rw [hM9]
      show G X 7 M73 (k18 + c66) (n19 + s67) 313 [(6, .int x74), (5, .int x69), (0, .ref b0), (1, .ref q1), (2, .ref q7), (3, .ref q13), (4, .int x16)] [.int x76]
      refine g_iload hC 1 dL_law_313 rfl ?_
      refine g_pc (pc' := 315) rfl ?_
      refine g_icmp_eq hC 320 dL_law_315 (by decide) (fun c81 => ?_) (fun c81 => ?_)
      · replace h := h.1 c81
        refine g_iload hC 1 dL_law_320 rfl ?_
        replace h := h (G X 7 M73 (k18 + c66) (n19 + s67) 337 [(0, .ref b0), (1, .ref q1), (2, .ref q7), (3, .ref q13), (4, .int x16), (5, .int x69), (6, .int x74)] []) (by
          intro h
          refine g_goto hC 1313 dL_law_337 (by decide) ?_
          refine g_sub [0, 1, 2, 3, 4] (lv' := [(0, .ref b0), (1, .ref q1), (2, .ref q7), (3, .ref q13), (4, .int x16)]) rfl ?_
          exact h)
        refine g_if_ne hC 337 dL_law_322 (by decide) (fun c80 => ?_) (fun c80 => ?_)
        · replace h := h.2 c80
          refine g_sub [2, 3, 4, 5, 6, 1, 0] (lv' := [(0, .ref b0), (1, .ref q1), (2, .ref q7), (3, .ref q13), (4, .int x16), (5, .int x69), (6, .int x74)]) rfl ?_
          exact h
        · replace h := h.1 c80
          refine g_aload_n (r := (some q13)) hC 5 dL_law_325 rfl ?_
          refine g_iconst (v := 0) hC dL_law_326 (by decide) ?_
          obtain ⟨hc78, h⟩ := h
          refine g_laldA hC dL_law_327 hc78 ?_
          refine g_iload hC 0 dL_law_328 rfl ?_
          refine g_i2l hC dL_law_330 ?_
          refine g_pc (pc' := 331) rfl ?_
          refine g_lcmp hC dL_law_331 ?_
          refine g_if_eq hC 337 dL_law_332 (by decide) (fun c79 => ?_) (fun c79 => ?_)
          · replace h := h.1 c79
            refine g_sub [2, 3, 4, 5, 6, 1, 0] (lv' := [(0, .ref b0), (1, .ref q1), (2, .ref q7), (3, .ref q13), (4, .int x16), (5, .int x69), (6, .int x74)]) rfl ?_
            exact h
          · replace h := h.2 c79
            refine g_iconst (v := 0) hC dL_law_335 (by decide) ?_
            exact hRet _ _ _ _ _ _ dL_law_336 h
      · replace h := h.2 c81
        refine g_iconst (v := 0) hC dL_law_318 (by decide) ?_
        exact hRet _ _ _ _ _ _ dL_law_319 h
    by_cases c273 : sx = 3
    · replace h := h.2.2.2.1 c273
      refine g_tableIn (off := 301) hC 340 dL_law_39 (by rw [c273]; decide) (by rw [c273]; decide) (by rw [c273]; decide) (by decide) ?_
      refine g_aload_n (r := (some q1)) hC 1 dL_law_340 rfl ?_
      obtain ⟨hc82, h⟩ := h
      obtain ⟨c83, s84, hc83, h⟩ := h
      refine g_callV hC (As := []) (fun l D dA ht => s_X5_deliverAll l D dA ht _ _ _ _ _ h) wm_1_176 wm_1_173 wm_1_174 wm_1_175 wm_1_1 (by decide +kernel : plainY yX5_deliverAll 0) kc5.1 kc5.2.1 dL_law_341 (by decide) (Nat.le_of_ble_eq_true rfl) hc82 (Or.inr hc83) ?_
      intro M9 v9 h
      obtain ⟨x86, rfl, h⟩ := h
      generalize M9 = M85 at h ⊢
      show G X 7 M85 (k18 + c83) (n19 + s84) 344 [(0, .ref b0), (1, .ref q1), (2, .ref q7), (3, .ref q13), (4, .int x16)] [.int x86]
      refine g_aload_n (r := (some q7)) hC 2 dL_law_344 rfl ?_
      obtain ⟨hc87, h⟩ := h
      refine g_callV hC (As := []) (fun l D dA ht => s_X6_deliverAll l D dA ht _ _ _ h) wm_4_90 wm_4_87 wm_4_88 wm_4_89 wm_1_7 (by decide +kernel : plainY yX6_deliverAll 0) kc6.1 kc6.2.1 dL_law_345 (by decide) (Nat.le_of_ble_eq_true rfl) hc87 (Or.inl ⟨rfl, rfl⟩) ?_
      intro M9 v9 h
      obtain ⟨x89, rfl, h⟩ := h
      generalize M9 = M88 at h ⊢
      show G X 7 M88 (k18 + c83) (n19 + s84) 348 [(0, .ref b0), (1, .ref q1), (2, .ref q7), (3, .ref q13), (4, .int x16)] [.int x89, .int x86]
      refine g_icmp_eq hC 1313 dL_law_348 (by decide) (fun c90 => ?_) (fun c90 => ?_)
      · replace h := h.1 c90
        exact h
      · replace h := h.2 c90
        refine g_iconst (v := 0) hC dL_law_351 (by decide) ?_
        refine g_pc (pc' := 352) rfl ?_
        exact hRet _ _ _ _ _ _ dL_law_352 h
    by_cases c274 : sx = 4
    · replace h := h.2.2.2.2.1 c274
      refine g_tableIn (off := 314) hC 353 dL_law_39 (by rw [c274]; decide) (by rw [c274]; decide) (by rw [c274]; decide) (by decide) ?_
      refine g_aload_n (r := (some q1)) hC 1 dL_law_353 rfl ?_
      obtain ⟨hc91, h⟩ := h
      refine g_callV hC (As := []) (fun l D dA ht => s_X5_lines l D dA ht _ _ _ h) wm_2_49 wm_2_46 wm_2_47 wm_2_48 wm_1_1 (by decide +kernel : plainY yX5_lines 0) kc5.1 kc5.2.1 dL_law_354 (by decide) (Nat.le_of_ble_eq_true rfl) hc91 (Or.inl ⟨rfl, rfl⟩) ?_
      intro M9 v9 h
      obtain ⟨x92, rfl, h⟩ := h
      obtain ⟨hM9, h⟩ := h
      rw [hM9]
      show G X 7 M17 k18 n19 357 [(0, .ref b0), (1, .ref q1), (2, .ref q7), (3, .ref q13), (4, .int x16)] [.int x92]
      refine g_aload_n (r := (some q7)) hC 2 dL_law_357 rfl ?_
      obtain ⟨hc93, h⟩ := h
      refine g_callV hC (As := []) (fun l D dA ht => s_X6_lines l D dA ht _ _ _ h) wm_4_94 wm_4_91 wm_4_92 wm_4_93 wm_1_7 (by decide +kernel : plainY yX6_lines 0) kc6.1 kc6.2.1 dL_law_358 (by decide) (Nat.le_of_ble_eq_true rfl) hc93 (Or.inl ⟨rfl, rfl⟩) ?_
      intro M9 v9 h
      obtain ⟨x95, rfl, h⟩ := h
      generalize M9 = M94 at h ⊢
      show G X 7 M94 k18 n19 361 [(0, .ref b0), (1, .ref q1), (2, .ref q7), (3, .ref q13), (4, .int x16)] [.int x95, .int x92]
      refine g_icmp_eq hC 1313 dL_law_361 (by decide) (fun c96 => ?_) (fun c96 => ?_)
      · replace h := h.1 c96
        exact h
      · replace h := h.2 c96
        refine g_iconst (v := 0) hC dL_law_364 (by decide) ?_
        refine g_pc (pc' := 365) rfl ?_
        exact hRet _ _ _ _ _ _ dL_law_365 h
    by_cases c275 : sx = 5
    · replace h := h.2.2.2.2.2.1 c275
      refine g_tableIn (off := 327) hC 366 dL_law_39 (by rw [c275]; decide) (by rw [c275]; decide) (by rw [c275]; decide) (by decide) ?_
      refine g_aload_n (r := (some q1)) hC 1 dL_law_366 rfl ?_
      refine g_aload_n (r := (some b0)) hC 0 dL_law_367 rfl ?_
      refine g_iload hC 4 dL_law_368 rfl ?_
      refine g_iconst (v := 1) hC dL_law_370 (by decide) ?_
      refine g_iadd hC dL_law_371 ?_
      obtain ⟨hc97, h⟩ := h
      refine g_sld hC hX dL_law_372 hc97 ?_
      refine g_pc (pc' := 373) rfl ?_
      refine g_aload_n (r := (some q13)) hC 3 dL_law_373 rfl ?_
      obtain ⟨c98, s99, hc98, h⟩ := h
      refine g_callW hC (As := [.ref q1, .int (xs (Int32.toNatClampNeg (x16 + 1))), .ref q13]) (fun l D dA ht => s_L_tree l D dA ht _ _ _ _ _ _ _ h) wm_2_199 wm_2_197 wm_2_198 wm_1_0 (by decide +kernel : plainY yL_tree 3) dL_law_374 (by decide) (Nat.le_of_ble_eq_true rfl) (Or.inr hc98) ?_
      intro M9 v9 h
      obtain ⟨x101, rfl, h⟩ := h
      generalize M9 = M100 at h ⊢
      show G X 7 M100 (k18 + c98) (n19 + s99) 377 [(0, .ref b0), (1, .ref q1), (2, .ref q7), (3, .ref q13), (4, .int x16)] [.int x101]
      refine g_istore (lv' := [(5, .int x101), (0, .ref b0), (1, .ref q1), (2, .ref q7), (3, .ref q13), (4, .int x16)]) hC dL_law_377 (by decide) rfl ?_
      refine g_aload_n (r := (some q7)) hC 3 dL_law_379 rfl ?_
      refine g_aload_n (r := (some b0)) hC 1 dL_law_380 rfl ?_
      refine g_iload hC 5 dL_law_381 rfl ?_
      refine g_iconst (v := 1) hC dL_law_383 (by decide) ?_
      refine g_iadd hC dL_law_384 ?_
      obtain ⟨hc102, h⟩ := h
      refine g_pc (pc' := 385) rfl ?_
      refine g_sld hC hX dL_law_385 hc102 ?_
      obtain ⟨hc103, h⟩ := h
      refine g_callV hC (As := [.int (xs (Int32.toNatClampNeg (x16 + 1)))]) (fun l D dA ht => s_X6_tree l D dA ht _ _ _ _ h) wm_4_98 wm_4_95 wm_4_96 wm_4_97 wm_1_7 (by decide +kernel : plainY yX6_tree 1) kc6.1 kc6.2.1 dL_law_386 (by decide) (Nat.le_of_ble_eq_true rfl) hc103 (Or.inl ⟨rfl, rfl⟩) ?_
      intro M9 v9 h
      obtain ⟨x105, rfl, h⟩ := h
      generalize M9 = M104 at h ⊢
      show G X 7 M104 (k18 + c98) (n19 + s99) 389 [(5, .int x101), (0, .ref b0), (1, .ref q1), (2, .ref q7), (3, .ref q13), (4, .int x16)] [.int x105]
      refine g_istore (lv' := [(6, .int x105), (5, .int x101), (0, .ref b0), (1, .ref q1), (2, .ref q7), (3, .ref q13), (4, .int x16)]) hC dL_law_389 (by decide) rfl ?_
      refine g_aload_n (r := (some q7)) hC 4 dL_law_391 rfl ?_
      obtain ⟨hc106, h⟩ := h
      refine g_callV hC (As := []) (fun l D dA ht => s_X6_thrown l D dA ht _ _ _ h) wm_3_237 wm_3_234 wm_3_235 wm_3_236 wm_1_7 (by decide +kernel : plainY yX6_thrown 0) kc6.1 kc6.2.1 dL_law_392 (by decide) (Nat.le_of_ble_eq_true rfl) hc106 (Or.inl ⟨rfl, rfl⟩) ?_
      intro M9 v9 h
      obtain ⟨x107, rfl, h⟩ := h
      obtain ⟨hM9, h⟩ := h
      rw [hM9]
      show G X 7 M104 (k18 + c98) (n19 + s99) 395 [(6, .int x105), (5, .int x101), (0, .ref b0), (1, .ref q1), (2, .ref q7), (3, .ref q13), (4, .int x16)] [.int x107]
      refine g_iload hC 1 dL_law_395 rfl ?_
      refine g_icmp_eq hC 402 dL_law_397 (by decide) (fun c112 => ?_) (fun c112 => ?_)
      · replace h := h.1 c112
        refine g_iload hC 1 dL_law_402 rfl ?_
        replace h := h (G X 7 M104 (k18 + c98) (n19 + s99) 419 [(0, .ref b0), (1, .ref q1), (2, .ref q7), (3, .ref q13), (4, .int x16), (5, .int x101), (6, .int x105)] []) (by
          intro h
          refine g_pc (pc' := 419) rfl ?_
          refine g_goto hC 1313 dL_law_419 (by decide) ?_
          refine g_sub [0, 1, 2, 3, 4] (lv' := [(0, .ref b0), (1, .ref q1), (2, .ref q7), (3, .ref q13), (4, .int x16)]) rfl ?_
          exact h)
        refine g_pc (pc' := 404) rfl ?_
        refine g_if_ne hC 419 dL_law_404 (by decide) (fun c111 => ?_) (fun c111 => ?_)
        · replace h := h.2 c111
          refine g_sub [2, 3, 4, 5, 6, 1, 0] (lv' := [(0, .ref b0), (1, .ref q1), (2, .ref q7), (3, .ref q13), (4, .int x16), (5, .int x101), (6, .int x105)]) rfl ?_
          exact h
        · replace h := h.1 c111
          refine g_aload_n (r := (some q13)) hC 5 dL_law_407 rfl ?_
          refine g_iconst (v := 0) hC dL_law_408 (by decide) ?_
          obtain ⟨hc109, h⟩ := h
          refine g_laldA hC dL_law_409 hc109 ?_
          refine g_iload hC 0 dL_law_410 rfl ?_
          refine g_i2l hC dL_law_412 ?_
          refine g_lcmp hC dL_law_413 ?_
          refine g_if_eq hC 419 dL_law_414 (by decide) (fun c110 => ?_) (fun c110 => ?_)
          · replace h := h.1 c110
            refine g_sub [2, 3, 4, 5, 6, 1, 0] (lv' := [(0, .ref b0), (1, .ref q1), (2, .ref q7), (3, .ref q13), (4, .int x16), (5, .int x101), (6, .int x105)]) rfl ?_
            exact h
          · replace h := h.2 c110
            refine g_pc (pc' := 417) rfl ?_
            refine g_iconst (v := 0) hC dL_law_417 (by decide) ?_
            exact hRet _ _ _ _ _ _ dL_law_418 h
      · replace h := h.2 c112
        refine g_iconst (v := 0) hC dL_law_400 (by decide) ?_
        refine g_pc (pc' := 401) rfl ?_
        exact hRet _ _ _ _ _ _ dL_law_401 h
    by_cases c276 : sx = 6
    · replace h := h.2.2.2.2.2.2.1 c276
      refine g_tableIn (off := 383) hC 422 dL_law_39 (by rw [c276]; decide) (by rw [c276]; decide) (by rw [c276]; decide) (by decide) ?_
      refine g_aload_n (r := (some q1)) hC 1 dL_law_422 rfl ?_
      refine g_aload_n (r := (some b0)) hC 0 dL_law_423 rfl ?_
      refine g_iload hC 4 dL_law_424 rfl ?_
      refine g_iconst (v := 1) hC dL_law_426 (by decide) ?_
      refine g_iadd hC dL_law_427 ?_
      obtain ⟨hc113, h⟩ := h
      refine g_sld hC hX dL_law_428 hc113 ?_
      refine g_pc (pc' := 429) rfl ?_
      refine g_aload_n (r := (some b0)) hC 0 dL_law_429 rfl ?_
      refine g_iload hC 4 dL_law_430 rfl ?_
      refine g_iconst (v := 2) hC dL_law_432 (by decide) ?_
      refine g_iadd hC dL_law_433 ?_
      obtain ⟨hc114, h⟩ := h
      refine g_sld hC hX dL_law_434 hc114 ?_
      refine g_i2c hC dL_law_435 ?_
      refine g_aload_n (r := (some q13)) hC 3 dL_law_436 rfl ?_
      obtain ⟨c115, s116, hc115, h⟩ := h
      refine g_callW hC (As := [.ref q1, .int (xs (Int32.toNatClampNeg (x16 + 1))), .int (((xs (Int32.toNatClampNeg (x16 + 2))).toUInt32 % 65536).toInt32), .ref q13]) (fun l D dA ht => s_L_signOn l D dA ht _ _ _ _ _ _ _ _ h) wm_2_206 wm_2_204 wm_2_205 wm_1_0 (by decide +kernel : plainY yL_signOn 4) dL_law_437 (by decide) (Nat.le_of_ble_eq_true rfl) (Or.inr hc115) ?_
      intro M9 v9 h
      obtain ⟨x118, rfl, h⟩ := h
      generalize M9 = M117 at h ⊢
      show G X 7 M117 (k18 + c115) (n19 + s116) 440 [(0, .ref b0), (1, .ref q1), (2, .ref q7), (3, .ref q13), (4, .int x16)] [.int x118]
      refine g_pc (pc' := 440) rfl ?_
      refine g_istore (lv' := [(5, .int x118), (0, .ref b0), (1, .ref q1), (2, .ref q7), (3, .ref q13), (4, .int x16)]) hC dL_law_440 (by decide) rfl ?_
      refine g_aload_n (r := (some q7)) hC 3 dL_law_442 rfl ?_
      refine g_aload_n (r := (some b0)) hC 1 dL_law_443 rfl ?_
      refine g_iload hC 5 dL_law_444 rfl ?_
      refine g_iconst (v := 1) hC dL_law_446 (by decide) ?_
      refine g_iadd hC dL_law_447 ?_
      obtain ⟨hc119, h⟩ := h
      refine g_sld hC hX dL_law_448 hc119 ?_
      refine g_aload_n (r := (some b0)) hC 1 dL_law_449 rfl ?_
      refine g_pc (pc' := 450) rfl ?_
      refine g_iload hC 5 dL_law_450 rfl ?_
      refine g_iconst (v := 2) hC dL_law_452 (by decide) ?_
      refine g_iadd hC dL_law_453 ?_
      obtain ⟨hc120, h⟩ := h
      refine g_sld hC hX dL_law_454 hc120 ?_
      refine g_i2c hC dL_law_455 ?_
      obtain ⟨hc121, h⟩ := h
      refine g_callV hC (As := [.int (xs (Int32.toNatClampNeg (x16 + 1))), .int (((xs (Int32.toNatClampNeg (x16 + 2))).toUInt32 % 65536).toInt32)]) (fun l D dA ht => s_X6_signOn l D dA ht _ _ _ _ _ h) wm_4_102 wm_4_99 wm_4_100 wm_4_101 wm_1_7 (by decide +kernel : plainY yX6_signOn 2) kc6.1 kc6.2.1 dL_law_456 (by decide) (Nat.le_of_ble_eq_true rfl) hc121 (Or.inl ⟨rfl, rfl⟩) ?_
      intro M9 v9 h
      obtain ⟨x123, rfl, h⟩ := h
      generalize M9 = M122 at h ⊢
      show G X 7 M122 (k18 + c115) (n19 + s116) 459 [(5, .int x118), (0, .ref b0), (1, .ref q1), (2, .ref q7), (3, .ref q13), (4, .int x16)] [.int x123]
      refine g_istore (lv' := [(6, .int x123), (5, .int x118), (0, .ref b0), (1, .ref q1), (2, .ref q7), (3, .ref q13), (4, .int x16)]) hC dL_law_459 (by decide) rfl ?_
      refine g_aload_n (r := (some q7)) hC 4 dL_law_461 rfl ?_
      refine g_pc (pc' := 462) rfl ?_
      obtain ⟨hc124, h⟩ := h
      refine g_callV hC (As := []) (fun l D dA ht => s_X6_thrown l D dA ht _ _ _ h) wm_3_237 wm_3_234 wm_3_235 wm_3_236 wm_1_7 (by decide +kernel : plainY yX6_thrown 0) kc6.1 kc6.2.1 dL_law_462 (by decide) (Nat.le_of_ble_eq_true rfl) hc124 (Or.inl ⟨rfl, rfl⟩) ?_
      intro M9 v9 h
      obtain ⟨x125, rfl, h⟩ := h
      obtain ⟨hM9, h⟩ := h
      rw [hM9]
      show G X 7 M122 (k18 + c115) (n19 + s116) 465 [(6, .int x123), (5, .int x118), (0, .ref b0), (1, .ref q1), (2, .ref q7), (3, .ref q13), (4, .int x16)] [.int x125]
      refine g_iload hC 1 dL_law_465 rfl ?_
      refine g_icmp_eq hC 472 dL_law_467 (by decide) (fun c130 => ?_) (fun c130 => ?_)
      · replace h := h.1 c130
        refine g_iload hC 1 dL_law_472 rfl ?_
        replace h := h (G X 7 M122 (k18 + c115) (n19 + s116) 489 [(0, .ref b0), (1, .ref q1), (2, .ref q7), (3, .ref q13), (4, .int x16), (5, .int x118), (6, .int x123)] []) (by
          intro h
          refine g_goto hC 1313 dL_law_489 (by decide) ?_
          refine g_sub [0, 1, 2, 3, 4] (lv' := [(0, .ref b0), (1, .ref q1), (2, .ref q7), (3, .ref q13), (4, .int x16)]) rfl ?_
          exact h)
        refine g_if_ne hC 489 dL_law_474 (by decide) (fun c129 => ?_) (fun c129 => ?_)
        · replace h := h.2 c129
          refine g_sub [2, 3, 4, 5, 6, 1, 0] (lv' := [(0, .ref b0), (1, .ref q1), (2, .ref q7), (3, .ref q13), (4, .int x16), (5, .int x118), (6, .int x123)]) rfl ?_
          exact h
        · replace h := h.1 c129
          refine g_aload_n (r := (some q13)) hC 5 dL_law_477 rfl ?_
          refine g_iconst (v := 0) hC dL_law_478 (by decide) ?_
          obtain ⟨hc127, h⟩ := h
          refine g_laldA hC dL_law_479 hc127 ?_
          refine g_pc (pc' := 480) rfl ?_
          refine g_iload hC 0 dL_law_480 rfl ?_
          refine g_i2l hC dL_law_482 ?_
          refine g_lcmp hC dL_law_483 ?_
          refine g_if_eq hC 489 dL_law_484 (by decide) (fun c128 => ?_) (fun c128 => ?_)
          · replace h := h.1 c128
            refine g_sub [2, 3, 4, 5, 6, 1, 0] (lv' := [(0, .ref b0), (1, .ref q1), (2, .ref q7), (3, .ref q13), (4, .int x16), (5, .int x118), (6, .int x123)]) rfl ?_
            exact h
          · replace h := h.2 c128
            refine g_iconst (v := 0) hC dL_law_487 (by decide) ?_
            exact hRet _ _ _ _ _ _ dL_law_488 h
      · replace h := h.2 c130
        refine g_iconst (v := 0) hC dL_law_470 (by decide) ?_
        exact hRet _ _ _ _ _ _ dL_law_471 h
    by_cases c277 : sx = 7
    · replace h := h.2.2.2.2.2.2.2.1 c277
      refine g_tableIn (off := 453) hC 492 dL_law_39 (by rw [c277]; decide) (by rw [c277]; decide) (by rw [c277]; decide) (by decide) ?_
      refine g_aload_n (r := (some q1)) hC 1 dL_law_492 rfl ?_
      refine g_aload_n (r := (some b0)) hC 0 dL_law_493 rfl ?_
      refine g_iload hC 4 dL_law_494 rfl ?_
      refine g_iconst (v := 1) hC dL_law_496 (by decide) ?_
      refine g_iadd hC dL_law_497 ?_
      obtain ⟨hc131, h⟩ := h
      refine g_sld hC hX dL_law_498 hc131 ?_
      refine g_pc (pc' := 499) rfl ?_
      obtain ⟨c132, s133, hc132, h⟩ := h
      refine g_callW hC (As := [.ref q1, .int (xs (Int32.toNatClampNeg (x16 + 1)))]) (fun l D dA ht => s_L_quit l D dA ht _ _ _ _ _ _ h) wm_2_234 wm_2_232 wm_2_233 wm_1_0 (by decide +kernel : plainY yL_quit 2) dL_law_499 (by decide) (Nat.le_of_ble_eq_true rfl) (Or.inr hc132) ?_
      intro M9 v9 h
      obtain ⟨x135, rfl, h⟩ := h
      generalize M9 = M134 at h ⊢
      show G X 7 M134 (k18 + c132) (n19 + s133) 502 [(0, .ref b0), (1, .ref q1), (2, .ref q7), (3, .ref q13), (4, .int x16)] [.int x135]
      refine g_istore (lv' := [(5, .int x135), (0, .ref b0), (1, .ref q1), (2, .ref q7), (3, .ref q13), (4, .int x16)]) hC dL_law_502 (by decide) rfl ?_
      refine g_aload_n (r := (some q7)) hC 3 dL_law_504 rfl ?_
      refine g_aload_n (r := (some b0)) hC 1 dL_law_505 rfl ?_
      refine g_iload hC 5 dL_law_506 rfl ?_
      refine g_iconst (v := 1) hC dL_law_508 (by decide) ?_
      refine g_iadd hC dL_law_509 ?_
      obtain ⟨hc136, h⟩ := h
      refine g_sld hC hX dL_law_510 hc136 ?_
      refine g_pc (pc' := 511) rfl ?_
      obtain ⟨hc137, h⟩ := h
      refine g_callV hC (As := [.int (xs (Int32.toNatClampNeg (x16 + 1)))]) (fun l D dA ht => s_X6_quit l D dA ht _ _ _ _ h) wm_4_109 wm_4_106 wm_4_107 wm_4_108 wm_1_7 (by decide +kernel : plainY yX6_quit 1) kc6.1 kc6.2.1 dL_law_511 (by decide) (Nat.le_of_ble_eq_true rfl) hc137 (Or.inl ⟨rfl, rfl⟩) ?_
      intro M9 v9 h
      obtain ⟨rfl, h⟩ := h
      generalize M9 = M138 at h ⊢
      show G X 7 M138 (k18 + c132) (n19 + s133) 514 [(5, .int x135), (0, .ref b0), (1, .ref q1), (2, .ref q7), (3, .ref q13), (4, .int x16)] []
      refine g_aload_n (r := (some q7)) hC 3 dL_law_514 rfl ?_
      obtain ⟨hc139, h⟩ := h
      refine g_callV hC (As := []) (fun l D dA ht => s_X6_thrown l D dA ht _ _ _ h) wm_3_237 wm_3_234 wm_3_235 wm_3_236 wm_1_7 (by decide +kernel : plainY yX6_thrown 0) kc6.1 kc6.2.1 dL_law_515 (by decide) (Nat.le_of_ble_eq_true rfl) hc139 (Or.inl ⟨rfl, rfl⟩) ?_
      intro M9 v9 h
      obtain ⟨x140, rfl, h⟩ := h
      obtain ⟨hM9, h⟩ := h
      rw [hM9]
      show G X 7 M138 (k18 + c132) (n19 + s133) 518 [(5, .int x135), (0, .ref b0), (1, .ref q1), (2, .ref q7), (3, .ref q13), (4, .int x16)] [.int x140]
      refine g_iload hC 0 dL_law_518 rfl ?_
      refine g_icmp_eq hC 525 dL_law_520 (by decide) (fun c141 => ?_) (fun c141 => ?_)
      · replace h := h.1 c141
        refine g_goto hC 1313 dL_law_525 (by decide) ?_
        refine g_sub [1, 2, 3, 4, 5] (lv' := [(0, .ref b0), (1, .ref q1), (2, .ref q7), (3, .ref q13), (4, .int x16)]) rfl ?_
        exact h
      · replace h := h.2 c141
        refine g_iconst (v := 0) hC dL_law_523 (by decide) ?_
        exact hRet _ _ _ _ _ _ dL_law_524 h
    by_cases c278 : sx = 8
    · replace h := h.2.2.2.2.2.2.2.2.1 c278
      refine g_tableIn (off := 489) hC 528 dL_law_39 (by rw [c278]; decide) (by rw [c278]; decide) (by rw [c278]; decide) (by decide) ?_
      refine g_aload_n (r := (some q1)) hC 1 dL_law_528 rfl ?_
      refine g_aload_n (r := (some b0)) hC 0 dL_law_529 rfl ?_
      refine g_iload hC 4 dL_law_530 rfl ?_
      refine g_iconst (v := 1) hC dL_law_532 (by decide) ?_
      refine g_iadd hC dL_law_533 ?_
      obtain ⟨hc142, h⟩ := h
      refine g_sld hC hX dL_law_534 hc142 ?_
      refine g_pc (pc' := 535) rfl ?_
      refine g_aload_n (r := (some b0)) hC 0 dL_law_535 rfl ?_
      refine g_iload hC 4 dL_law_536 rfl ?_
      refine g_iconst (v := 2) hC dL_law_538 (by decide) ?_
      refine g_iadd hC dL_law_539 ?_
      obtain ⟨hc143, h⟩ := h
      refine g_sld hC hX dL_law_540 hc143 ?_
      refine g_aload_n (r := (some q13)) hC 3 dL_law_541 rfl ?_
      obtain ⟨c144, s145, hc144, h⟩ := h
      refine g_callW hC (As := [.ref q1, .int (xs (Int32.toNatClampNeg (x16 + 1))), .int (xs (Int32.toNatClampNeg (x16 + 2))), .ref q13]) (fun l D dA ht => s_L_join l D dA ht _ _ _ _ _ _ _ _ h) wm_3_15 wm_3_13 wm_3_14 wm_1_0 (by decide +kernel : plainY yL_join 4) dL_law_542 (by decide) (Nat.le_of_ble_eq_true rfl) (Or.inr hc144) ?_
      intro M9 v9 h
      obtain ⟨x147, rfl, h⟩ := h
      generalize M9 = M146 at h ⊢
      show G X 7 M146 (k18 + c144) (n19 + s145) 545 [(0, .ref b0), (1, .ref q1), (2, .ref q7), (3, .ref q13), (4, .int x16)] [.int x147]
      refine g_istore (lv' := [(5, .int x147), (0, .ref b0), (1, .ref q1), (2, .ref q7), (3, .ref q13), (4, .int x16)]) hC dL_law_545 (by decide) rfl ?_
      refine g_pc (pc' := 547) rfl ?_
      refine g_aload_n (r := (some q7)) hC 3 dL_law_547 rfl ?_
      refine g_aload_n (r := (some b0)) hC 1 dL_law_548 rfl ?_
      refine g_iload hC 5 dL_law_549 rfl ?_
      refine g_iconst (v := 1) hC dL_law_551 (by decide) ?_
      refine g_iadd hC dL_law_552 ?_
      obtain ⟨hc148, h⟩ := h
      refine g_sld hC hX dL_law_553 hc148 ?_
      refine g_aload_n (r := (some b0)) hC 1 dL_law_554 rfl ?_
      refine g_iload hC 5 dL_law_555 rfl ?_
      refine g_pc (pc' := 557) rfl ?_
      refine g_iconst (v := 2) hC dL_law_557 (by decide) ?_
      refine g_iadd hC dL_law_558 ?_
      obtain ⟨hc149, h⟩ := h
      refine g_sld hC hX dL_law_559 hc149 ?_
      obtain ⟨hc150, h⟩ := h
      refine g_callV hC (As := [.int (xs (Int32.toNatClampNeg (x16 + 1))), .int (xs (Int32.toNatClampNeg (x16 + 2)))]) (fun l D dA ht => s_X6_join l D dA ht _ _ _ _ _ h) wm_4_121 wm_4_118 wm_4_119 wm_4_120 wm_1_7 (by decide +kernel : plainY yX6_join 2) kc6.1 kc6.2.1 dL_law_560 (by decide) (Nat.le_of_ble_eq_true rfl) hc150 (Or.inl ⟨rfl, rfl⟩) ?_
      intro M9 v9 h
      obtain ⟨x152, rfl, h⟩ := h
      generalize M9 = M151 at h ⊢
      show G X 7 M151 (k18 + c144) (n19 + s145) 563 [(5, .int x147), (0, .ref b0), (1, .ref q1), (2, .ref q7), (3, .ref q13), (4, .int x16)] [.int x152]
      refine g_istore (lv' := [(6, .int x152), (5, .int x147), (0, .ref b0), (1, .ref q1), (2, .ref q7), (3, .ref q13), (4, .int x16)]) hC dL_law_563 (by decide) rfl ?_
      refine g_aload_n (r := (some q7)) hC 4 dL_law_565 rfl ?_
      obtain ⟨hc153, h⟩ := h
      refine g_callV hC (As := []) (fun l D dA ht => s_X6_thrown l D dA ht _ _ _ h) wm_3_237 wm_3_234 wm_3_235 wm_3_236 wm_1_7 (by decide +kernel : plainY yX6_thrown 0) kc6.1 kc6.2.1 dL_law_566 (by decide) (Nat.le_of_ble_eq_true rfl) hc153 (Or.inl ⟨rfl, rfl⟩) ?_
      intro M9 v9 h
      obtain ⟨x154, rfl, h⟩ := h
      obtain ⟨hM9, h⟩ := h
      rw [hM9]
      show G X 7 M151 (k18 + c144) (n19 + s145) 569 [(6, .int x152), (5, .int x147), (0, .ref b0), (1, .ref q1), (2, .ref q7), (3, .ref q13), (4, .int x16)] [.int x154]
      refine g_iload hC 1 dL_law_569 rfl ?_
      refine g_pc (pc' := 571) rfl ?_
      refine g_icmp_eq hC 576 dL_law_571 (by decide) (fun c159 => ?_) (fun c159 => ?_)
      · replace h := h.1 c159
        refine g_iload hC 1 dL_law_576 rfl ?_
        replace h := h (G X 7 M151 (k18 + c144) (n19 + s145) 593 [(0, .ref b0), (1, .ref q1), (2, .ref q7), (3, .ref q13), (4, .int x16), (5, .int x147), (6, .int x152)] []) (by
          intro h
          refine g_goto hC 1313 dL_law_593 (by decide) ?_
          refine g_sub [0, 1, 2, 3, 4] (lv' := [(0, .ref b0), (1, .ref q1), (2, .ref q7), (3, .ref q13), (4, .int x16)]) rfl ?_
          exact h)
        refine g_if_ne hC 593 dL_law_578 (by decide) (fun c158 => ?_) (fun c158 => ?_)
        · replace h := h.2 c158
          refine g_sub [2, 3, 4, 5, 6, 1, 0] (lv' := [(0, .ref b0), (1, .ref q1), (2, .ref q7), (3, .ref q13), (4, .int x16), (5, .int x147), (6, .int x152)]) rfl ?_
          exact h
        · replace h := h.1 c158
          refine g_aload_n (r := (some q13)) hC 5 dL_law_581 rfl ?_
          refine g_iconst (v := 0) hC dL_law_582 (by decide) ?_
          obtain ⟨hc156, h⟩ := h
          refine g_laldA hC dL_law_583 hc156 ?_
          refine g_iload hC 0 dL_law_584 rfl ?_
          refine g_i2l hC dL_law_586 ?_
          refine g_pc (pc' := 587) rfl ?_
          refine g_lcmp hC dL_law_587 ?_
          refine g_if_eq hC 593 dL_law_588 (by decide) (fun c157 => ?_) (fun c157 => ?_)
          · replace h := h.1 c157
            refine g_sub [2, 3, 4, 5, 6, 1, 0] (lv' := [(0, .ref b0), (1, .ref q1), (2, .ref q7), (3, .ref q13), (4, .int x16), (5, .int x147), (6, .int x152)]) rfl ?_
            exact h
          · replace h := h.2 c157
            refine g_iconst (v := 0) hC dL_law_591 (by decide) ?_
            exact hRet _ _ _ _ _ _ dL_law_592 h
      · replace h := h.2 c159
        refine g_iconst (v := 0) hC dL_law_574 (by decide) ?_
        exact hRet _ _ _ _ _ _ dL_law_575 h
    by_cases c279 : sx = 9
    · replace h := h.2.2.2.2.2.2.2.2.2.1 c279
      refine g_tableIn (off := 557) hC 596 dL_law_39 (by rw [c279]; decide) (by rw [c279]; decide) (by rw [c279]; decide) (by decide) ?_
      refine g_aload_n (r := (some q1)) hC 1 dL_law_596 rfl ?_
      refine g_aload_n (r := (some b0)) hC 0 dL_law_597 rfl ?_
      refine g_iload hC 4 dL_law_598 rfl ?_
      refine g_iconst (v := 1) hC dL_law_600 (by decide) ?_
      refine g_iadd hC dL_law_601 ?_
      obtain ⟨hc160, h⟩ := h
      refine g_sld hC hX dL_law_602 hc160 ?_
      refine g_pc (pc' := 603) rfl ?_
      refine g_aload_n (r := (some b0)) hC 0 dL_law_603 rfl ?_
      refine g_iload hC 4 dL_law_604 rfl ?_
      refine g_iconst (v := 2) hC dL_law_606 (by decide) ?_
      refine g_iadd hC dL_law_607 ?_
      obtain ⟨hc161, h⟩ := h
      refine g_sld hC hX dL_law_608 hc161 ?_
      obtain ⟨c162, s163, hc162, h⟩ := h
      refine g_callW hC (As := [.ref q1, .int (xs (Int32.toNatClampNeg (x16 + 1))), .int (xs (Int32.toNatClampNeg (x16 + 2)))]) (fun l D dA ht => s_L_leave l D dA ht _ _ _ _ _ _ _ h) wm_3_38 wm_3_36 wm_3_37 wm_1_0 (by decide +kernel : plainY yL_leave 3) dL_law_609 (by decide) (Nat.le_of_ble_eq_true rfl) (Or.inr hc162) ?_
      intro M9 v9 h
      obtain ⟨x165, rfl, h⟩ := h
      generalize M9 = M164 at h ⊢
      show G X 7 M164 (k18 + c162) (n19 + s163) 612 [(0, .ref b0), (1, .ref q1), (2, .ref q7), (3, .ref q13), (4, .int x16)] [.int x165]
      refine g_istore (lv' := [(5, .int x165), (0, .ref b0), (1, .ref q1), (2, .ref q7), (3, .ref q13), (4, .int x16)]) hC dL_law_612 (by decide) rfl ?_
      refine g_aload_n (r := (some q7)) hC 3 dL_law_614 rfl ?_
      refine g_pc (pc' := 615) rfl ?_
      refine g_aload_n (r := (some b0)) hC 1 dL_law_615 rfl ?_
      refine g_iload hC 5 dL_law_616 rfl ?_
      refine g_iconst (v := 1) hC dL_law_618 (by decide) ?_
      refine g_iadd hC dL_law_619 ?_
      obtain ⟨hc166, h⟩ := h
      refine g_sld hC hX dL_law_620 hc166 ?_
      refine g_aload_n (r := (some b0)) hC 1 dL_law_621 rfl ?_
      refine g_iload hC 5 dL_law_622 rfl ?_
      refine g_iconst (v := 2) hC dL_law_624 (by decide) ?_
      refine g_pc (pc' := 625) rfl ?_
      refine g_iadd hC dL_law_625 ?_
      obtain ⟨hc167, h⟩ := h
      refine g_sld hC hX dL_law_626 hc167 ?_
      obtain ⟨hc168, h⟩ := h
      refine g_callV hC (As := [.int (xs (Int32.toNatClampNeg (x16 + 1))), .int (xs (Int32.toNatClampNeg (x16 + 2)))]) (fun l D dA ht => s_X6_leave l D dA ht _ _ _ _ _ h) wm_4_139 wm_4_136 wm_4_137 wm_4_138 wm_1_7 (by decide +kernel : plainY yX6_leave 2) kc6.1 kc6.2.1 dL_law_627 (by decide) (Nat.le_of_ble_eq_true rfl) hc168 (Or.inl ⟨rfl, rfl⟩) ?_
      intro M9 v9 h
      obtain ⟨rfl, h⟩ := h
      generalize M9 = M169 at h ⊢
      show G X 7 M169 (k18 + c162) (n19 + s163) 630 [(5, .int x165), (0, .ref b0), (1, .ref q1), (2, .ref q7), (3, .ref q13), (4, .int x16)] []
      refine g_aload_n (r := (some q7)) hC 3 dL_law_630 rfl ?_
      obtain ⟨hc170, h⟩ := h
      refine g_callV hC (As := []) (fun l D dA ht => s_X6_thrown l D dA ht _ _ _ h) wm_3_237 wm_3_234 wm_3_235 wm_3_236 wm_1_7 (by decide +kernel : plainY yX6_thrown 0) kc6.1 kc6.2.1 dL_law_631 (by decide) (Nat.le_of_ble_eq_true rfl) hc170 (Or.inl ⟨rfl, rfl⟩) ?_
      intro M9 v9 h
      obtain ⟨x171, rfl, h⟩ := h
      obtain ⟨hM9, h⟩ := h
      rw [hM9]
      show G X 7 M169 (k18 + c162) (n19 + s163) 634 [(5, .int x165), (0, .ref b0), (1, .ref q1), (2, .ref q7), (3, .ref q13), (4, .int x16)] [.int x171]
      refine g_iload hC 0 dL_law_634 rfl ?_
      refine g_icmp_eq hC 641 dL_law_636 (by decide) (fun c172 => ?_) (fun c172 => ?_)
      · replace h := h.1 c172
        refine g_goto hC 1313 dL_law_641 (by decide) ?_
        refine g_sub [1, 2, 3, 4, 5] (lv' := [(0, .ref b0), (1, .ref q1), (2, .ref q7), (3, .ref q13), (4, .int x16)]) rfl ?_
        exact h
      · replace h := h.2 c172
        refine g_iconst (v := 0) hC dL_law_639 (by decide) ?_
        refine g_pc (pc' := 640) rfl ?_
        exact hRet _ _ _ _ _ _ dL_law_640 h
    by_cases c2710 : sx = 10
    · replace h := h.2.2.2.2.2.2.2.2.2.2.1 c2710
      refine g_tableIn (off := 605) hC 644 dL_law_39 (by rw [c2710]; decide) (by rw [c2710]; decide) (by rw [c2710]; decide) (by decide) ?_
      refine g_aload_n (r := (some q1)) hC 1 dL_law_644 rfl ?_
      refine g_aload_n (r := (some b0)) hC 0 dL_law_645 rfl ?_
      refine g_iload hC 4 dL_law_646 rfl ?_
      refine g_iconst (v := 1) hC dL_law_648 (by decide) ?_
      refine g_iadd hC dL_law_649 ?_
      obtain ⟨hc173, h⟩ := h
      refine g_sld hC hX dL_law_650 hc173 ?_
      refine g_pc (pc' := 651) rfl ?_
      refine g_aload_n (r := (some b0)) hC 0 dL_law_651 rfl ?_
      refine g_iload hC 4 dL_law_652 rfl ?_
      refine g_iconst (v := 2) hC dL_law_654 (by decide) ?_
      refine g_iadd hC dL_law_655 ?_
      obtain ⟨hc174, h⟩ := h
      refine g_sld hC hX dL_law_656 hc174 ?_
      refine g_aload_n (r := (some b0)) hC 0 dL_law_657 rfl ?_
      refine g_iload hC 4 dL_law_658 rfl ?_
      refine g_iconst (v := 3) hC dL_law_660 (by decide) ?_
      refine g_pc (pc' := 661) rfl ?_
      refine g_iadd hC dL_law_661 ?_
      obtain ⟨hc175, h⟩ := h
      refine g_sld hC hX dL_law_662 hc175 ?_
      refine g_aload_n (r := (some b0)) hC 0 dL_law_663 rfl ?_
      refine g_iload hC 4 dL_law_664 rfl ?_
      refine g_iconst (v := 4) hC dL_law_666 (by decide) ?_
      refine g_iadd hC dL_law_667 ?_
      obtain ⟨hc176, h⟩ := h
      refine g_sld hC hX dL_law_668 hc176 ?_
      refine g_aload_n (r := (some q13)) hC 3 dL_law_669 rfl ?_
      refine g_pc (pc' := 670) rfl ?_
      obtain ⟨c177, s178, hc177, h⟩ := h
      refine g_callW hC (As := [.ref q1, .int (xs (Int32.toNatClampNeg (x16 + 1))), .int (xs (Int32.toNatClampNeg (x16 + 2))), .int (xs (Int32.toNatClampNeg (x16 + 3))), .int (xs (Int32.toNatClampNeg (x16 + 4))), .ref q13]) (fun l D dA ht => s_L_setModes l D dA ht _ _ _ _ _ _ _ _ _ _ h) wm_3_54 wm_3_52 wm_3_53 wm_1_0 (by decide +kernel : plainY yL_setModes 6) dL_law_670 (by decide) (Nat.le_of_ble_eq_true rfl) (Or.inr hc177) ?_
      intro M9 v9 h
      obtain ⟨x180, rfl, h⟩ := h
      generalize M9 = M179 at h ⊢
      show G X 7 M179 (k18 + c177) (n19 + s178) 673 [(0, .ref b0), (1, .ref q1), (2, .ref q7), (3, .ref q13), (4, .int x16)] [.int x180]
      refine g_istore (lv' := [(5, .int x180), (0, .ref b0), (1, .ref q1), (2, .ref q7), (3, .ref q13), (4, .int x16)]) hC dL_law_673 (by decide) rfl ?_
      refine g_aload_n (r := (some q7)) hC 3 dL_law_675 rfl ?_
      refine g_aload_n (r := (some b0)) hC 1 dL_law_676 rfl ?_
      refine g_iload hC 5 dL_law_677 rfl ?_
      refine g_iconst (v := 1) hC dL_law_679 (by decide) ?_
      refine g_iadd hC dL_law_680 ?_
      obtain ⟨hc181, h⟩ := h
      refine g_sld hC hX dL_law_681 hc181 ?_
      refine g_pc (pc' := 682) rfl ?_
      refine g_aload_n (r := (some b0)) hC 1 dL_law_682 rfl ?_
      refine g_iload hC 5 dL_law_683 rfl ?_
      refine g_iconst (v := 2) hC dL_law_685 (by decide) ?_
      refine g_iadd hC dL_law_686 ?_
      obtain ⟨hc182, h⟩ := h
      refine g_sld hC hX dL_law_687 hc182 ?_
      refine g_aload_n (r := (some b0)) hC 1 dL_law_688 rfl ?_
      refine g_iload hC 5 dL_law_689 rfl ?_
      refine g_iconst (v := 3) hC dL_law_691 (by decide) ?_
      refine g_pc (pc' := 692) rfl ?_
      refine g_iadd hC dL_law_692 ?_
      obtain ⟨hc183, h⟩ := h
      refine g_sld hC hX dL_law_693 hc183 ?_
      refine g_aload_n (r := (some b0)) hC 1 dL_law_694 rfl ?_
      refine g_iload hC 5 dL_law_695 rfl ?_
      refine g_iconst (v := 4) hC dL_law_697 (by decide) ?_
      refine g_iadd hC dL_law_698 ?_
      obtain ⟨hc184, h⟩ := h
      refine g_sld hC hX dL_law_699 hc184 ?_
      obtain ⟨hc185, h⟩ := h
      refine g_callV hC (As := [.int (xs (Int32.toNatClampNeg (x16 + 1))), .int (xs (Int32.toNatClampNeg (x16 + 2))), .int (xs (Int32.toNatClampNeg (x16 + 3))), .int (xs (Int32.toNatClampNeg (x16 + 4)))]) (fun l D dA ht => s_X6_setModes l D dA ht _ _ _ _ _ _ _ h) wm_4_143 wm_4_140 wm_4_141 wm_4_142 wm_1_7 (by decide +kernel : plainY yX6_setModes 4) kc6.1 kc6.2.1 dL_law_700 (by decide) (Nat.le_of_ble_eq_true rfl) hc185 (Or.inl ⟨rfl, rfl⟩) ?_
      intro M9 v9 h
      obtain ⟨x187, rfl, h⟩ := h
      generalize M9 = M186 at h ⊢
      show G X 7 M186 (k18 + c177) (n19 + s178) 703 [(5, .int x180), (0, .ref b0), (1, .ref q1), (2, .ref q7), (3, .ref q13), (4, .int x16)] [.int x187]
      refine g_pc (pc' := 703) rfl ?_
      refine g_istore (lv' := [(6, .int x187), (5, .int x180), (0, .ref b0), (1, .ref q1), (2, .ref q7), (3, .ref q13), (4, .int x16)]) hC dL_law_703 (by decide) rfl ?_
      refine g_aload_n (r := (some q7)) hC 4 dL_law_705 rfl ?_
      obtain ⟨hc188, h⟩ := h
      refine g_callV hC (As := []) (fun l D dA ht => s_X6_thrown l D dA ht _ _ _ h) wm_3_237 wm_3_234 wm_3_235 wm_3_236 wm_1_7 (by decide +kernel : plainY yX6_thrown 0) kc6.1 kc6.2.1 dL_law_706 (by decide) (Nat.le_of_ble_eq_true rfl) hc188 (Or.inl ⟨rfl, rfl⟩) ?_
      intro M9 v9 h
      obtain ⟨x189, rfl, h⟩ := h
      obtain ⟨hM9, h⟩ := h
      rw [hM9]
      show G X 7 M186 (k18 + c177) (n19 + s178) 709 [(6, .int x187), (5, .int x180), (0, .ref b0), (1, .ref q1), (2, .ref q7), (3, .ref q13), (4, .int x16)] [.int x189]
      refine g_iload hC 1 dL_law_709 rfl ?_
      refine g_icmp_eq hC 716 dL_law_711 (by decide) (fun c194 => ?_) (fun c194 => ?_)
      · replace h := h.1 c194
        refine g_iload hC 1 dL_law_716 rfl ?_
        replace h := h (G X 7 M186 (k18 + c177) (n19 + s178) 733 [(0, .ref b0), (1, .ref q1), (2, .ref q7), (3, .ref q13), (4, .int x16), (5, .int x180), (6, .int x187)] []) (by
          intro h
          refine g_goto hC 1313 dL_law_733 (by decide) ?_
          refine g_sub [0, 1, 2, 3, 4] (lv' := [(0, .ref b0), (1, .ref q1), (2, .ref q7), (3, .ref q13), (4, .int x16)]) rfl ?_
          exact h)
        refine g_if_ne hC 733 dL_law_718 (by decide) (fun c193 => ?_) (fun c193 => ?_)
        · replace h := h.2 c193
          refine g_sub [2, 3, 4, 5, 6, 1, 0] (lv' := [(0, .ref b0), (1, .ref q1), (2, .ref q7), (3, .ref q13), (4, .int x16), (5, .int x180), (6, .int x187)]) rfl ?_
          exact h
        · replace h := h.1 c193
          refine g_aload_n (r := (some q13)) hC 5 dL_law_721 rfl ?_
          refine g_pc (pc' := 722) rfl ?_
          refine g_iconst (v := 0) hC dL_law_722 (by decide) ?_
          obtain ⟨hc191, h⟩ := h
          refine g_laldA hC dL_law_723 hc191 ?_
          refine g_iload hC 0 dL_law_724 rfl ?_
          refine g_i2l hC dL_law_726 ?_
          refine g_lcmp hC dL_law_727 ?_
          refine g_if_eq hC 733 dL_law_728 (by decide) (fun c192 => ?_) (fun c192 => ?_)
          · replace h := h.1 c192
            refine g_sub [2, 3, 4, 5, 6, 1, 0] (lv' := [(0, .ref b0), (1, .ref q1), (2, .ref q7), (3, .ref q13), (4, .int x16), (5, .int x180), (6, .int x187)]) rfl ?_
            exact h
          · replace h := h.2 c192
            refine g_iconst (v := 0) hC dL_law_731 (by decide) ?_
            exact hRet _ _ _ _ _ _ dL_law_732 h
      · replace h := h.2 c194
        refine g_iconst (v := 0) hC dL_law_714 (by decide) ?_
        exact hRet _ _ _ _ _ _ dL_law_715 h
    by_cases c2711 : sx = 11
    · replace h := h.2.2.2.2.2.2.2.2.2.2.2.1 c2711
      refine g_tableIn (off := 697) hC 736 dL_law_39 (by rw [c2711]; decide) (by rw [c2711]; decide) (by rw [c2711]; decide) (by decide) ?_
      refine g_aload_n (r := (some q1)) hC 1 dL_law_736 rfl ?_
      refine g_aload_n (r := (some b0)) hC 0 dL_law_737 rfl ?_
      refine g_iload hC 4 dL_law_738 rfl ?_
      refine g_iconst (v := 1) hC dL_law_740 (by decide) ?_
      refine g_iadd hC dL_law_741 ?_
      obtain ⟨hc195, h⟩ := h
      refine g_sld hC hX dL_law_742 hc195 ?_
      refine g_pc (pc' := 743) rfl ?_
      refine g_aload_n (r := (some b0)) hC 0 dL_law_743 rfl ?_
      refine g_iload hC 4 dL_law_744 rfl ?_
      refine g_iconst (v := 2) hC dL_law_746 (by decide) ?_
      refine g_iadd hC dL_law_747 ?_
      obtain ⟨hc196, h⟩ := h
      refine g_sld hC hX dL_law_748 hc196 ?_
      refine g_aload_n (r := (some q13)) hC 3 dL_law_749 rfl ?_
      obtain ⟨c197, s198, hc197, h⟩ := h
      refine g_callW hC (As := [.ref q1, .int (xs (Int32.toNatClampNeg (x16 + 1))), .int (xs (Int32.toNatClampNeg (x16 + 2))), .ref q13]) (fun l D dA ht => s_L_say l D dA ht _ _ _ _ _ _ _ _ h) wm_3_63 wm_3_61 wm_3_62 wm_1_0 (by decide +kernel : plainY yL_say 4) dL_law_750 (by decide) (Nat.le_of_ble_eq_true rfl) (Or.inr hc197) ?_
      intro M9 v9 h
      obtain ⟨x200, rfl, h⟩ := h
      generalize M9 = M199 at h ⊢
      show G X 7 M199 (k18 + c197) (n19 + s198) 753 [(0, .ref b0), (1, .ref q1), (2, .ref q7), (3, .ref q13), (4, .int x16)] [.int x200]
      refine g_istore (lv' := [(5, .int x200), (0, .ref b0), (1, .ref q1), (2, .ref q7), (3, .ref q13), (4, .int x16)]) hC dL_law_753 (by decide) rfl ?_
      refine g_pc (pc' := 755) rfl ?_
      refine g_aload_n (r := (some q7)) hC 3 dL_law_755 rfl ?_
      refine g_aload_n (r := (some b0)) hC 1 dL_law_756 rfl ?_
      refine g_iload hC 5 dL_law_757 rfl ?_
      refine g_iconst (v := 1) hC dL_law_759 (by decide) ?_
      refine g_iadd hC dL_law_760 ?_
      obtain ⟨hc201, h⟩ := h
      refine g_sld hC hX dL_law_761 hc201 ?_
      refine g_aload_n (r := (some b0)) hC 1 dL_law_762 rfl ?_
      refine g_iload hC 5 dL_law_763 rfl ?_
      refine g_pc (pc' := 765) rfl ?_
      refine g_iconst (v := 2) hC dL_law_765 (by decide) ?_
      refine g_iadd hC dL_law_766 ?_
      obtain ⟨hc202, h⟩ := h
      refine g_sld hC hX dL_law_767 hc202 ?_
      obtain ⟨hc203, h⟩ := h
      refine g_callV hC (As := [.int (xs (Int32.toNatClampNeg (x16 + 1))), .int (xs (Int32.toNatClampNeg (x16 + 2)))]) (fun l D dA ht => s_X6_say l D dA ht _ _ _ _ _ h) wm_4_148 wm_4_145 wm_4_146 wm_4_147 wm_1_7 (by decide +kernel : plainY yX6_say 2) kc6.1 kc6.2.1 dL_law_768 (by decide) (Nat.le_of_ble_eq_true rfl) hc203 (Or.inl ⟨rfl, rfl⟩) ?_
      intro M9 v9 h
      obtain ⟨x205, rfl, h⟩ := h
      generalize M9 = M204 at h ⊢
      show G X 7 M204 (k18 + c197) (n19 + s198) 771 [(5, .int x200), (0, .ref b0), (1, .ref q1), (2, .ref q7), (3, .ref q13), (4, .int x16)] [.int x205]
      refine g_istore (lv' := [(6, .int x205), (5, .int x200), (0, .ref b0), (1, .ref q1), (2, .ref q7), (3, .ref q13), (4, .int x16)]) hC dL_law_771 (by decide) rfl ?_
      refine g_aload_n (r := (some q7)) hC 4 dL_law_773 rfl ?_
      obtain ⟨hc206, h⟩ := h
      refine g_callV hC (As := []) (fun l D dA ht => s_X6_thrown l D dA ht _ _ _ h) wm_3_237 wm_3_234 wm_3_235 wm_3_236 wm_1_7 (by decide +kernel : plainY yX6_thrown 0) kc6.1 kc6.2.1 dL_law_774 (by decide) (Nat.le_of_ble_eq_true rfl) hc206 (Or.inl ⟨rfl, rfl⟩) ?_
      intro M9 v9 h
      obtain ⟨x207, rfl, h⟩ := h
      obtain ⟨hM9, h⟩ := h
      rw [hM9]
      show G X 7 M204 (k18 + c197) (n19 + s198) 777 [(6, .int x205), (5, .int x200), (0, .ref b0), (1, .ref q1), (2, .ref q7), (3, .ref q13), (4, .int x16)] [.int x207]
      refine g_iload hC 1 dL_law_777 rfl ?_
      refine g_pc (pc' := 779) rfl ?_
      refine g_icmp_eq hC 784 dL_law_779 (by decide) (fun c212 => ?_) (fun c212 => ?_)
      · replace h := h.1 c212
        refine g_iload hC 1 dL_law_784 rfl ?_
        replace h := h (G X 7 M204 (k18 + c197) (n19 + s198) 801 [(0, .ref b0), (1, .ref q1), (2, .ref q7), (3, .ref q13), (4, .int x16), (5, .int x200), (6, .int x205)] []) (by
          intro h
          refine g_goto hC 1313 dL_law_801 (by decide) ?_
          refine g_sub [0, 1, 2, 3, 4] (lv' := [(0, .ref b0), (1, .ref q1), (2, .ref q7), (3, .ref q13), (4, .int x16)]) rfl ?_
          exact h)
        refine g_if_ne hC 801 dL_law_786 (by decide) (fun c211 => ?_) (fun c211 => ?_)
        · replace h := h.2 c211
          refine g_sub [2, 3, 4, 5, 6, 1, 0] (lv' := [(0, .ref b0), (1, .ref q1), (2, .ref q7), (3, .ref q13), (4, .int x16), (5, .int x200), (6, .int x205)]) rfl ?_
          exact h
        · replace h := h.1 c211
          refine g_aload_n (r := (some q13)) hC 5 dL_law_789 rfl ?_
          refine g_iconst (v := 0) hC dL_law_790 (by decide) ?_
          obtain ⟨hc209, h⟩ := h
          refine g_laldA hC dL_law_791 hc209 ?_
          refine g_iload hC 0 dL_law_792 rfl ?_
          refine g_i2l hC dL_law_794 ?_
          refine g_pc (pc' := 795) rfl ?_
          refine g_lcmp hC dL_law_795 ?_
          refine g_if_eq hC 801 dL_law_796 (by decide) (fun c210 => ?_) (fun c210 => ?_)
          · replace h := h.1 c210
            refine g_sub [2, 3, 4, 5, 6, 1, 0] (lv' := [(0, .ref b0), (1, .ref q1), (2, .ref q7), (3, .ref q13), (4, .int x16), (5, .int x200), (6, .int x205)]) rfl ?_
            exact h
          · replace h := h.2 c210
            refine g_iconst (v := 0) hC dL_law_799 (by decide) ?_
            exact hRet _ _ _ _ _ _ dL_law_800 h
      · replace h := h.2 c212
        refine g_iconst (v := 0) hC dL_law_782 (by decide) ?_
        exact hRet _ _ _ _ _ _ dL_law_783 h
    by_cases c2712 : sx = 12
    · replace h := h.2.2.2.2.2.2.2.2.2.2.2.2.1 c2712
      refine g_tableIn (off := 765) hC 804 dL_law_39 (by rw [c2712]; decide) (by rw [c2712]; decide) (by rw [c2712]; decide) (by decide) ?_
      refine g_aload_n (r := (some q1)) hC 1 dL_law_804 rfl ?_
      obtain ⟨hc213, h⟩ := h
      refine g_callV hC (As := []) (fun l D dA ht => s_X5_users l D dA ht _ _ _ h) wm_2_53 wm_2_50 wm_2_51 wm_2_52 wm_1_1 (by decide +kernel : plainY yX5_users 0) kc5.1 kc5.2.1 dL_law_805 (by decide) (Nat.le_of_ble_eq_true rfl) hc213 (Or.inl ⟨rfl, rfl⟩) ?_
      intro M9 v9 h
      obtain ⟨x214, rfl, h⟩ := h
      obtain ⟨hM9, h⟩ := h
      rw [hM9]
      show G X 7 M17 k18 n19 808 [(0, .ref b0), (1, .ref q1), (2, .ref q7), (3, .ref q13), (4, .int x16)] [.int x214]
      refine g_aload_n (r := (some q7)) hC 2 dL_law_808 rfl ?_
      obtain ⟨hc215, h⟩ := h
      refine g_callV hC (As := []) (fun l D dA ht => s_X6_users l D dA ht _ _ _ h) wm_4_164 wm_4_161 wm_4_162 wm_4_163 wm_1_7 (by decide +kernel : plainY yX6_users 0) kc6.1 kc6.2.1 dL_law_809 (by decide) (Nat.le_of_ble_eq_true rfl) hc215 (Or.inl ⟨rfl, rfl⟩) ?_
      intro M9 v9 h
      obtain ⟨x217, rfl, h⟩ := h
      generalize M9 = M216 at h ⊢
      show G X 7 M216 k18 n19 812 [(0, .ref b0), (1, .ref q1), (2, .ref q7), (3, .ref q13), (4, .int x16)] [.int x217, .int x214]
      refine g_icmp_eq hC 1313 dL_law_812 (by decide) (fun c218 => ?_) (fun c218 => ?_)
      · replace h := h.1 c218
        exact h
      · replace h := h.2 c218
        refine g_iconst (v := 0) hC dL_law_815 (by decide) ?_
        refine g_pc (pc' := 816) rfl ?_
        exact hRet _ _ _ _ _ _ dL_law_816 h
    by_cases c2713 : sx = 13
    · replace h := h.2.2.2.2.2.2.2.2.2.2.2.2.2.1 c2713
      refine g_tableIn (off := 778) hC 817 dL_law_39 (by rw [c2713]; decide) (by rw [c2713]; decide) (by rw [c2713]; decide) (by decide) ?_
      refine g_aload_n (r := (some q1)) hC 1 dL_law_817 rfl ?_
      obtain ⟨hc219, h⟩ := h
      refine g_callV hC (As := []) (fun l D dA ht => s_X5_clock l D dA ht _ _ _ h) wm_2_57 wm_2_54 wm_2_55 wm_2_56 wm_1_1 (by decide +kernel : plainY yX5_clock 0) kc5.1 kc5.2.1 dL_law_818 (by decide) (Nat.le_of_ble_eq_true rfl) hc219 (Or.inl ⟨rfl, rfl⟩) ?_
      intro M9 v9 h
      obtain ⟨x220, rfl, h⟩ := h
      obtain ⟨hM9, h⟩ := h
      rw [hM9]
      show G X 7 M17 k18 n19 821 [(0, .ref b0), (1, .ref q1), (2, .ref q7), (3, .ref q13), (4, .int x16)] [.int x220]
      refine g_aload_n (r := (some q7)) hC 2 dL_law_821 rfl ?_
      obtain ⟨hc221, h⟩ := h
      refine g_callV hC (As := []) (fun l D dA ht => s_X6_clock l D dA ht _ _ _ h) wm_4_168 wm_4_165 wm_4_166 wm_4_167 wm_1_7 (by decide +kernel : plainY yX6_clock 0) kc6.1 kc6.2.1 dL_law_822 (by decide) (Nat.le_of_ble_eq_true rfl) hc221 (Or.inl ⟨rfl, rfl⟩) ?_
      intro M9 v9 h
      obtain ⟨x223, rfl, h⟩ := h
      generalize M9 = M222 at h ⊢
      show G X 7 M222 k18 n19 825 [(0, .ref b0), (1, .ref q1), (2, .ref q7), (3, .ref q13), (4, .int x16)] [.int x223, .int x220]
      refine g_icmp_eq hC 1313 dL_law_825 (by decide) (fun c224 => ?_) (fun c224 => ?_)
      · replace h := h.1 c224
        exact h
      · replace h := h.2 c224
        refine g_iconst (v := 0) hC dL_law_828 (by decide) ?_
        refine g_pc (pc' := 829) rfl ?_
        exact hRet _ _ _ _ _ _ dL_law_829 h
    by_cases c2714 : sx = 14
    · replace h := h.2.2.2.2.2.2.2.2.2.2.2.2.2.2.1 c2714
      refine g_tableIn (off := 791) hC 830 dL_law_39 (by rw [c2714]; decide) (by rw [c2714]; decide) (by rw [c2714]; decide) (by decide) ?_
      refine g_aload_n (r := (some q1)) hC 1 dL_law_830 rfl ?_
      refine g_aload_n (r := (some b0)) hC 0 dL_law_831 rfl ?_
      refine g_iload hC 4 dL_law_832 rfl ?_
      refine g_iconst (v := 1) hC dL_law_834 (by decide) ?_
      refine g_iadd hC dL_law_835 ?_
      obtain ⟨hc225, h⟩ := h
      refine g_sld hC hX dL_law_836 hc225 ?_
      refine g_pc (pc' := 837) rfl ?_
      refine g_aload_n (r := (some q13)) hC 3 dL_law_837 rfl ?_
      obtain ⟨c226, s227, hc226, h⟩ := h
      refine g_callW hC (As := [.ref q1, .int (xs (Int32.toNatClampNeg (x16 + 1))), .ref q13]) (fun l D dA ht => s_L_known l D dA ht _ _ _ _ _ _ _ h) wm_3_84 wm_3_82 wm_3_83 wm_1_0 (by decide +kernel : plainY yL_known 3) dL_law_838 (by decide) (Nat.le_of_ble_eq_true rfl) (Or.inr hc226) ?_
      intro M9 v9 h
      obtain ⟨x229, rfl, h⟩ := h
      generalize M9 = M228 at h ⊢
      show G X 7 M228 (k18 + c226) (n19 + s227) 841 [(0, .ref b0), (1, .ref q1), (2, .ref q7), (3, .ref q13), (4, .int x16)] [.int x229]
      refine g_istore (lv' := [(5, .int x229), (0, .ref b0), (1, .ref q1), (2, .ref q7), (3, .ref q13), (4, .int x16)]) hC dL_law_841 (by decide) rfl ?_
      refine g_aload_n (r := (some q7)) hC 3 dL_law_843 rfl ?_
      refine g_aload_n (r := (some b0)) hC 1 dL_law_844 rfl ?_
      refine g_iload hC 5 dL_law_845 rfl ?_
      refine g_iconst (v := 1) hC dL_law_847 (by decide) ?_
      refine g_iadd hC dL_law_848 ?_
      obtain ⟨hc230, h⟩ := h
      refine g_pc (pc' := 849) rfl ?_
      refine g_sld hC hX dL_law_849 hc230 ?_
      obtain ⟨hc231, h⟩ := h
      refine g_callV hC (As := [.int (xs (Int32.toNatClampNeg (x16 + 1)))]) (fun l D dA ht => s_X6_known l D dA ht _ _ _ _ h) wm_4_172 wm_4_169 wm_4_170 wm_4_171 wm_1_7 (by decide +kernel : plainY yX6_known 1) kc6.1 kc6.2.1 dL_law_850 (by decide) (Nat.le_of_ble_eq_true rfl) hc231 (Or.inl ⟨rfl, rfl⟩) ?_
      intro M9 v9 h
      obtain ⟨x233, rfl, h⟩ := h
      generalize M9 = M232 at h ⊢
      show G X 7 M232 (k18 + c226) (n19 + s227) 853 [(5, .int x229), (0, .ref b0), (1, .ref q1), (2, .ref q7), (3, .ref q13), (4, .int x16)] [.int x233]
      refine g_istore (lv' := [(6, .int x233), (5, .int x229), (0, .ref b0), (1, .ref q1), (2, .ref q7), (3, .ref q13), (4, .int x16)]) hC dL_law_853 (by decide) rfl ?_
      refine g_aload_n (r := (some q7)) hC 4 dL_law_855 rfl ?_
      obtain ⟨hc234, h⟩ := h
      refine g_callV hC (As := []) (fun l D dA ht => s_X6_thrown l D dA ht _ _ _ h) wm_3_237 wm_3_234 wm_3_235 wm_3_236 wm_1_7 (by decide +kernel : plainY yX6_thrown 0) kc6.1 kc6.2.1 dL_law_856 (by decide) (Nat.le_of_ble_eq_true rfl) hc234 (Or.inl ⟨rfl, rfl⟩) ?_
      intro M9 v9 h
      obtain ⟨x235, rfl, h⟩ := h
      obtain ⟨hM9, h⟩ := h
      rw [hM9]
      show G X 7 M232 (k18 + c226) (n19 + s227) 859 [(6, .int x233), (5, .int x229), (0, .ref b0), (1, .ref q1), (2, .ref q7), (3, .ref q13), (4, .int x16)] [.int x235]
      refine g_iload hC 1 dL_law_859 rfl ?_
      refine g_icmp_eq hC 866 dL_law_861 (by decide) (fun c240 => ?_) (fun c240 => ?_)
      · replace h := h.1 c240
        refine g_iload hC 1 dL_law_866 rfl ?_
        replace h := h (G X 7 M232 (k18 + c226) (n19 + s227) 883 [(0, .ref b0), (1, .ref q1), (2, .ref q7), (3, .ref q13), (4, .int x16), (5, .int x229), (6, .int x233)] []) (by
          intro h
          refine g_pc (pc' := 883) rfl ?_
          refine g_goto hC 1313 dL_law_883 (by decide) ?_
          refine g_sub [0, 1, 2, 3, 4] (lv' := [(0, .ref b0), (1, .ref q1), (2, .ref q7), (3, .ref q13), (4, .int x16)]) rfl ?_
          exact h)
        refine g_pc (pc' := 868) rfl ?_
        refine g_if_ne hC 883 dL_law_868 (by decide) (fun c239 => ?_) (fun c239 => ?_)
        · replace h := h.2 c239
          refine g_sub [2, 3, 4, 5, 6, 1, 0] (lv' := [(0, .ref b0), (1, .ref q1), (2, .ref q7), (3, .ref q13), (4, .int x16), (5, .int x229), (6, .int x233)]) rfl ?_
          exact h
        · replace h := h.1 c239
          refine g_aload_n (r := (some q13)) hC 5 dL_law_871 rfl ?_
          refine g_iconst (v := 0) hC dL_law_872 (by decide) ?_
          obtain ⟨hc237, h⟩ := h
          refine g_laldA hC dL_law_873 hc237 ?_
          refine g_iload hC 0 dL_law_874 rfl ?_
          refine g_i2l hC dL_law_876 ?_
          refine g_lcmp hC dL_law_877 ?_
          refine g_if_eq hC 883 dL_law_878 (by decide) (fun c238 => ?_) (fun c238 => ?_)
          · replace h := h.1 c238
            refine g_sub [2, 3, 4, 5, 6, 1, 0] (lv' := [(0, .ref b0), (1, .ref q1), (2, .ref q7), (3, .ref q13), (4, .int x16), (5, .int x229), (6, .int x233)]) rfl ?_
            exact h
          · replace h := h.2 c238
            refine g_pc (pc' := 881) rfl ?_
            refine g_iconst (v := 0) hC dL_law_881 (by decide) ?_
            exact hRet _ _ _ _ _ _ dL_law_882 h
      · replace h := h.2 c240
        refine g_iconst (v := 0) hC dL_law_864 (by decide) ?_
        refine g_pc (pc' := 865) rfl ?_
        exact hRet _ _ _ _ _ _ dL_law_865 h
    by_cases c2715 : sx = 15
    · replace h := h.2.2.2.2.2.2.2.2.2.2.2.2.2.2.2.1 c2715
      refine g_tableIn (off := 847) hC 886 dL_law_39 (by rw [c2715]; decide) (by rw [c2715]; decide) (by rw [c2715]; decide) (by decide) ?_
      refine g_aload_n (r := (some q1)) hC 1 dL_law_886 rfl ?_
      refine g_aload_n (r := (some b0)) hC 0 dL_law_887 rfl ?_
      refine g_iload hC 4 dL_law_888 rfl ?_
      refine g_iconst (v := 1) hC dL_law_890 (by decide) ?_
      refine g_iadd hC dL_law_891 ?_
      obtain ⟨hc241, h⟩ := h
      refine g_sld hC hX dL_law_892 hc241 ?_
      refine g_pc (pc' := 893) rfl ?_
      refine g_aload_n (r := (some b0)) hC 0 dL_law_893 rfl ?_
      refine g_iload hC 4 dL_law_894 rfl ?_
      refine g_iconst (v := 2) hC dL_law_896 (by decide) ?_
      refine g_iadd hC dL_law_897 ?_
      obtain ⟨hc242, h⟩ := h
      refine g_sld hC hX dL_law_898 hc242 ?_
      refine g_aload_n (r := (some q13)) hC 3 dL_law_899 rfl ?_
      obtain ⟨c243, s244, hc243, h⟩ := h
      refine g_callW hC (As := [.ref q1, .int (xs (Int32.toNatClampNeg (x16 + 1))), .int (xs (Int32.toNatClampNeg (x16 + 2))), .ref q13]) (fun l D dA ht => s_L_members l D dA ht _ _ _ _ _ _ _ _ h) wm_3_91 wm_3_89 wm_3_90 wm_1_0 (by decide +kernel : plainY yL_members 4) dL_law_900 (by decide) (Nat.le_of_ble_eq_true rfl) (Or.inr hc243) ?_
      intro M9 v9 h
      obtain ⟨x246, rfl, h⟩ := h
      generalize M9 = M245 at h ⊢
      show G X 7 M245 (k18 + c243) (n19 + s244) 903 [(0, .ref b0), (1, .ref q1), (2, .ref q7), (3, .ref q13), (4, .int x16)] [.int x246]
      refine g_istore (lv' := [(5, .int x246), (0, .ref b0), (1, .ref q1), (2, .ref q7), (3, .ref q13), (4, .int x16)]) hC dL_law_903 (by decide) rfl ?_
      refine g_pc (pc' := 905) rfl ?_
      refine g_aload_n (r := (some q7)) hC 3 dL_law_905 rfl ?_
      refine g_aload_n (r := (some b0)) hC 1 dL_law_906 rfl ?_
      refine g_iload hC 5 dL_law_907 rfl ?_
      refine g_iconst (v := 1) hC dL_law_909 (by decide) ?_
      refine g_iadd hC dL_law_910 ?_
      obtain ⟨hc247, h⟩ := h
      refine g_sld hC hX dL_law_911 hc247 ?_
      refine g_aload_n (r := (some b0)) hC 1 dL_law_912 rfl ?_
      refine g_iload hC 5 dL_law_913 rfl ?_
      refine g_pc (pc' := 915) rfl ?_
      refine g_iconst (v := 2) hC dL_law_915 (by decide) ?_
      refine g_iadd hC dL_law_916 ?_
      obtain ⟨hc248, h⟩ := h
      refine g_sld hC hX dL_law_917 hc248 ?_
      obtain ⟨hc249, h⟩ := h
      refine g_callV hC (As := [.int (xs (Int32.toNatClampNeg (x16 + 1))), .int (xs (Int32.toNatClampNeg (x16 + 2)))]) (fun l D dA ht => s_X6_members l D dA ht _ _ _ _ _ h) wm_4_176 wm_4_173 wm_4_174 wm_4_175 wm_1_7 (by decide +kernel : plainY yX6_members 2) kc6.1 kc6.2.1 dL_law_918 (by decide) (Nat.le_of_ble_eq_true rfl) hc249 (Or.inl ⟨rfl, rfl⟩) ?_
      intro M9 v9 h
      obtain ⟨x251, rfl, h⟩ := h
      generalize M9 = M250 at h ⊢
      show G X 7 M250 (k18 + c243) (n19 + s244) 921 [(5, .int x246), (0, .ref b0), (1, .ref q1), (2, .ref q7), (3, .ref q13), (4, .int x16)] [.int x251]
      refine g_istore (lv' := [(6, .int x251), (5, .int x246), (0, .ref b0), (1, .ref q1), (2, .ref q7), (3, .ref q13), (4, .int x16)]) hC dL_law_921 (by decide) rfl ?_
      refine g_aload_n (r := (some q7)) hC 4 dL_law_923 rfl ?_
      obtain ⟨hc252, h⟩ := h
      refine g_callV hC (As := []) (fun l D dA ht => s_X6_thrown l D dA ht _ _ _ h) wm_3_237 wm_3_234 wm_3_235 wm_3_236 wm_1_7 (by decide +kernel : plainY yX6_thrown 0) kc6.1 kc6.2.1 dL_law_924 (by decide) (Nat.le_of_ble_eq_true rfl) hc252 (Or.inl ⟨rfl, rfl⟩) ?_
      intro M9 v9 h
      obtain ⟨x253, rfl, h⟩ := h
      obtain ⟨hM9, h⟩ := h
      rw [hM9]
      show G X 7 M250 (k18 + c243) (n19 + s244) 927 [(6, .int x251), (5, .int x246), (0, .ref b0), (1, .ref q1), (2, .ref q7), (3, .ref q13), (4, .int x16)] [.int x253]
      refine g_iload hC 1 dL_law_927 rfl ?_
      refine g_pc (pc' := 929) rfl ?_
      refine g_icmp_eq hC 934 dL_law_929 (by decide) (fun c258 => ?_) (fun c258 => ?_)
      · replace h := h.1 c258
        refine g_iload hC 1 dL_law_934 rfl ?_
        replace h := h (G X 7 M250 (k18 + c243) (n19 + s244) 951 [(0, .ref b0), (1, .ref q1), (2, .ref q7), (3, .ref q13), (4, .int x16), (5, .int x246), (6, .int x251)] []) (by
          intro h
          refine g_goto hC 1313 dL_law_951 (by decide) ?_
          refine g_sub [0, 1, 2, 3, 4] (lv' := [(0, .ref b0), (1, .ref q1), (2, .ref q7), (3, .ref q13), (4, .int x16)]) rfl ?_
          exact h)
        refine g_if_ne hC 951 dL_law_936 (by decide) (fun c257 => ?_) (fun c257 => ?_)
        · replace h := h.2 c257
          refine g_sub [2, 3, 4, 5, 6, 1, 0] (lv' := [(0, .ref b0), (1, .ref q1), (2, .ref q7), (3, .ref q13), (4, .int x16), (5, .int x246), (6, .int x251)]) rfl ?_
          exact h
        · replace h := h.1 c257
          refine g_aload_n (r := (some q13)) hC 5 dL_law_939 rfl ?_
          refine g_iconst (v := 0) hC dL_law_940 (by decide) ?_
          obtain ⟨hc255, h⟩ := h
          refine g_laldA hC dL_law_941 hc255 ?_
          refine g_iload hC 0 dL_law_942 rfl ?_
          refine g_i2l hC dL_law_944 ?_
          refine g_pc (pc' := 945) rfl ?_
          refine g_lcmp hC dL_law_945 ?_
          refine g_if_eq hC 951 dL_law_946 (by decide) (fun c256 => ?_) (fun c256 => ?_)
          · replace h := h.1 c256
            refine g_sub [2, 3, 4, 5, 6, 1, 0] (lv' := [(0, .ref b0), (1, .ref q1), (2, .ref q7), (3, .ref q13), (4, .int x16), (5, .int x246), (6, .int x251)]) rfl ?_
            exact h
          · replace h := h.2 c256
            refine g_iconst (v := 0) hC dL_law_949 (by decide) ?_
            exact hRet _ _ _ _ _ _ dL_law_950 h
      · replace h := h.2 c258
        refine g_iconst (v := 0) hC dL_law_932 (by decide) ?_
        exact hRet _ _ _ _ _ _ dL_law_933 h
    by_cases c2716 : sx = 16
    · replace h := h.2.2.2.2.2.2.2.2.2.2.2.2.2.2.2.2.1 c2716
      refine g_tableIn (off := 915) hC 954 dL_law_39 (by rw [c2716]; decide) (by rw [c2716]; decide) (by rw [c2716]; decide) (by decide) ?_
      refine g_aload_n (r := (some q1)) hC 1 dL_law_954 rfl ?_
      refine g_aload_n (r := (some b0)) hC 0 dL_law_955 rfl ?_
      refine g_iload hC 4 dL_law_956 rfl ?_
      refine g_iconst (v := 1) hC dL_law_958 (by decide) ?_
      refine g_iadd hC dL_law_959 ?_
      obtain ⟨hc259, h⟩ := h
      refine g_sld hC hX dL_law_960 hc259 ?_
      refine g_pc (pc' := 961) rfl ?_
      refine g_aload_n (r := (some b0)) hC 0 dL_law_961 rfl ?_
      refine g_iload hC 4 dL_law_962 rfl ?_
      refine g_iconst (v := 2) hC dL_law_964 (by decide) ?_
      refine g_iadd hC dL_law_965 ?_
      obtain ⟨hc260, h⟩ := h
      refine g_sld hC hX dL_law_966 hc260 ?_
      refine g_aload_n (r := (some q13)) hC 3 dL_law_967 rfl ?_
      obtain ⟨c261, s262, hc261, h⟩ := h
      refine g_callW hC (As := [.ref q1, .int (xs (Int32.toNatClampNeg (x16 + 1))), .int (xs (Int32.toNatClampNeg (x16 + 2))), .ref q13]) (fun l D dA ht => s_L_age l D dA ht _ _ _ _ _ _ _ _ h) wm_3_98 wm_3_96 wm_3_97 wm_1_0 (by decide +kernel : plainY yL_age 4) dL_law_968 (by decide) (Nat.le_of_ble_eq_true rfl) (Or.inr hc261) ?_
      intro M9 v9 h
      obtain ⟨x264, rfl, h⟩ := h
      generalize M9 = M263 at h ⊢
      show G X 7 M263 (k18 + c261) (n19 + s262) 971 [(0, .ref b0), (1, .ref q1), (2, .ref q7), (3, .ref q13), (4, .int x16)] [.int x264]
      refine g_istore (lv' := [(5, .int x264), (0, .ref b0), (1, .ref q1), (2, .ref q7), (3, .ref q13), (4, .int x16)]) hC dL_law_971 (by decide) rfl ?_
      refine g_pc (pc' := 973) rfl ?_
      refine g_aload_n (r := (some q7)) hC 3 dL_law_973 rfl ?_
      refine g_aload_n (r := (some b0)) hC 1 dL_law_974 rfl ?_
      refine g_iload hC 5 dL_law_975 rfl ?_
      refine g_iconst (v := 1) hC dL_law_977 (by decide) ?_
      refine g_iadd hC dL_law_978 ?_
      obtain ⟨hc265, h⟩ := h
      refine g_sld hC hX dL_law_979 hc265 ?_
      refine g_aload_n (r := (some b0)) hC 1 dL_law_980 rfl ?_
      refine g_iload hC 5 dL_law_981 rfl ?_
      refine g_pc (pc' := 983) rfl ?_
      refine g_iconst (v := 2) hC dL_law_983 (by decide) ?_
      refine g_iadd hC dL_law_984 ?_
      obtain ⟨hc266, h⟩ := h
      refine g_sld hC hX dL_law_985 hc266 ?_
      obtain ⟨hc267, h⟩ := h
      refine g_callV hC (As := [.int (xs (Int32.toNatClampNeg (x16 + 1))), .int (xs (Int32.toNatClampNeg (x16 + 2)))]) (fun l D dA ht => s_X6_age l D dA ht _ _ _ _ _ h) wm_4_184 wm_4_181 wm_4_182 wm_4_183 wm_1_7 (by decide +kernel : plainY yX6_age 2) kc6.1 kc6.2.1 dL_law_986 (by decide) (Nat.le_of_ble_eq_true rfl) hc267 (Or.inl ⟨rfl, rfl⟩) ?_
      intro M9 v9 h
      obtain ⟨x269, rfl, h⟩ := h
      generalize M9 = M268 at h ⊢
      show G X 7 M268 (k18 + c261) (n19 + s262) 989 [(5, .int x264), (0, .ref b0), (1, .ref q1), (2, .ref q7), (3, .ref q13), (4, .int x16)] [.int x269]
      refine g_istore (lv' := [(6, .int x269), (5, .int x264), (0, .ref b0), (1, .ref q1), (2, .ref q7), (3, .ref q13), (4, .int x16)]) hC dL_law_989 (by decide) rfl ?_
      refine g_aload_n (r := (some q7)) hC 4 dL_law_991 rfl ?_
      obtain ⟨hc270, h⟩ := h
      refine g_callV hC (As := []) (fun l D dA ht => s_X6_thrown l D dA ht _ _ _ h) wm_3_237 wm_3_234 wm_3_235 wm_3_236 wm_1_7 (by decide +kernel : plainY yX6_thrown 0) kc6.1 kc6.2.1 dL_law_992 (by decide) (Nat.le_of_ble_eq_true rfl) hc270 (Or.inl ⟨rfl, rfl⟩) ?_
      intro M9 v9 h
      obtain ⟨x271, rfl, h⟩ := h
      obtain ⟨hM9, h⟩ := h
      rw [hM9]
      show G X 7 M268 (k18 + c261) (n19 + s262) 995 [(6, .int x269), (5, .int x264), (0, .ref b0), (1, .ref q1), (2, .ref q7), (3, .ref q13), (4, .int x16)] [.int x271]
      refine g_iload hC 1 dL_law_995 rfl ?_
      refine g_pc (pc' := 997) rfl ?_
      refine g_icmp_eq hC 1002 dL_law_997 (by decide) (fun c276 => ?_) (fun c276 => ?_)
      · replace h := h.1 c276
        refine g_iload hC 1 dL_law_1002 rfl ?_
        replace h := h (G X 7 M268 (k18 + c261) (n19 + s262) 1019 [(0, .ref b0), (1, .ref q1), (2, .ref q7), (3, .ref q13), (4, .int x16), (5, .int x264), (6, .int x269)] []) (by
          intro h
          refine g_goto hC 1313 dL_law_1019 (by decide) ?_
          refine g_sub [0, 1, 2, 3, 4] (lv' := [(0, .ref b0), (1, .ref q1), (2, .ref q7), (3, .ref q13), (4, .int x16)]) rfl ?_
          exact h)
        refine g_if_ne hC 1019 dL_law_1004 (by decide) (fun c275 => ?_) (fun c275 => ?_)
        · replace h := h.2 c275
          refine g_sub [2, 3, 4, 5, 6, 1, 0] (lv' := [(0, .ref b0), (1, .ref q1), (2, .ref q7), (3, .ref q13), (4, .int x16), (5, .int x264), (6, .int x269)]) rfl ?_
          exact h
        · replace h := h.1 c275
          refine g_aload_n (r := (some q13)) hC 5 dL_law_1007 rfl ?_
          refine g_iconst (v := 0) hC dL_law_1008 (by decide) ?_
          obtain ⟨hc273, h⟩ := h
          refine g_laldA hC dL_law_1009 hc273 ?_
          refine g_iload hC 0 dL_law_1010 rfl ?_
          refine g_i2l hC dL_law_1012 ?_
          refine g_pc (pc' := 1013) rfl ?_
          refine g_lcmp hC dL_law_1013 ?_
          refine g_if_eq hC 1019 dL_law_1014 (by decide) (fun c274 => ?_) (fun c274 => ?_)
          · replace h := h.1 c274
            refine g_sub [2, 3, 4, 5, 6, 1, 0] (lv' := [(0, .ref b0), (1, .ref q1), (2, .ref q7), (3, .ref q13), (4, .int x16), (5, .int x264), (6, .int x269)]) rfl ?_
            exact h
          · replace h := h.2 c274
            refine g_iconst (v := 0) hC dL_law_1017 (by decide) ?_
            exact hRet _ _ _ _ _ _ dL_law_1018 h
      · replace h := h.2 c276
        refine g_iconst (v := 0) hC dL_law_1000 (by decide) ?_
        exact hRet _ _ _ _ _ _ dL_law_1001 h
    by_cases c2717 : sx = 17
    · replace h := h.2.2.2.2.2.2.2.2.2.2.2.2.2.2.2.2.2.1 c2717
      refine g_tableIn (off := 983) hC 1022 dL_law_39 (by rw [c2717]; decide) (by rw [c2717]; decide) (by rw [c2717]; decide) (by decide) ?_
      refine g_aload_n (r := (some q1)) hC 1 dL_law_1022 rfl ?_
      refine g_aload_n (r := (some b0)) hC 0 dL_law_1023 rfl ?_
      refine g_iload hC 4 dL_law_1024 rfl ?_
      refine g_iconst (v := 1) hC dL_law_1026 (by decide) ?_
      refine g_iadd hC dL_law_1027 ?_
      obtain ⟨hc277, h⟩ := h
      refine g_sld hC hX dL_law_1028 hc277 ?_
      refine g_pc (pc' := 1029) rfl ?_
      refine g_aload_n (r := (some b0)) hC 0 dL_law_1029 rfl ?_
      refine g_iload hC 4 dL_law_1030 rfl ?_
      refine g_iconst (v := 2) hC dL_law_1032 (by decide) ?_
      refine g_iadd hC dL_law_1033 ?_
      obtain ⟨hc278, h⟩ := h
      refine g_sld hC hX dL_law_1034 hc278 ?_
      refine g_aload_n (r := (some q13)) hC 3 dL_law_1035 rfl ?_
      obtain ⟨c279, s280, hc279, h⟩ := h
      refine g_callW hC (As := [.ref q1, .int (xs (Int32.toNatClampNeg (x16 + 1))), .int (xs (Int32.toNatClampNeg (x16 + 2))), .ref q13]) (fun l D dA ht => s_L_modes l D dA ht _ _ _ _ _ _ _ _ h) wm_3_105 wm_3_103 wm_3_104 wm_1_0 (by decide +kernel : plainY yL_modes 4) dL_law_1036 (by decide) (Nat.le_of_ble_eq_true rfl) (Or.inr hc279) ?_
      intro M9 v9 h
      obtain ⟨x282, rfl, h⟩ := h
      generalize M9 = M281 at h ⊢
      show G X 7 M281 (k18 + c279) (n19 + s280) 1039 [(0, .ref b0), (1, .ref q1), (2, .ref q7), (3, .ref q13), (4, .int x16)] [.int x282]
      refine g_istore (lv' := [(5, .int x282), (0, .ref b0), (1, .ref q1), (2, .ref q7), (3, .ref q13), (4, .int x16)]) hC dL_law_1039 (by decide) rfl ?_
      refine g_pc (pc' := 1041) rfl ?_
      refine g_aload_n (r := (some q7)) hC 3 dL_law_1041 rfl ?_
      refine g_aload_n (r := (some b0)) hC 1 dL_law_1042 rfl ?_
      refine g_iload hC 5 dL_law_1043 rfl ?_
      refine g_iconst (v := 1) hC dL_law_1045 (by decide) ?_
      refine g_iadd hC dL_law_1046 ?_
      obtain ⟨hc283, h⟩ := h
      refine g_sld hC hX dL_law_1047 hc283 ?_
      refine g_aload_n (r := (some b0)) hC 1 dL_law_1048 rfl ?_
      refine g_iload hC 5 dL_law_1049 rfl ?_
      refine g_pc (pc' := 1051) rfl ?_
      refine g_iconst (v := 2) hC dL_law_1051 (by decide) ?_
      refine g_iadd hC dL_law_1052 ?_
      obtain ⟨hc284, h⟩ := h
      refine g_sld hC hX dL_law_1053 hc284 ?_
      obtain ⟨hc285, h⟩ := h
      refine g_callV hC (As := [.int (xs (Int32.toNatClampNeg (x16 + 1))), .int (xs (Int32.toNatClampNeg (x16 + 2)))]) (fun l D dA ht => s_X6_modes l D dA ht _ _ _ _ _ h) wm_4_188 wm_4_185 wm_4_186 wm_4_187 wm_1_7 (by decide +kernel : plainY yX6_modes 2) kc6.1 kc6.2.1 dL_law_1054 (by decide) (Nat.le_of_ble_eq_true rfl) hc285 (Or.inl ⟨rfl, rfl⟩) ?_
      intro M9 v9 h
      obtain ⟨x287, rfl, h⟩ := h
      generalize M9 = M286 at h ⊢
      show G X 7 M286 (k18 + c279) (n19 + s280) 1057 [(5, .int x282), (0, .ref b0), (1, .ref q1), (2, .ref q7), (3, .ref q13), (4, .int x16)] [.int x287]
      refine g_istore (lv' := [(6, .int x287), (5, .int x282), (0, .ref b0), (1, .ref q1), (2, .ref q7), (3, .ref q13), (4, .int x16)]) hC dL_law_1057 (by decide) rfl ?_
      refine g_aload_n (r := (some q7)) hC 4 dL_law_1059 rfl ?_
      obtain ⟨hc288, h⟩ := h
      refine g_callV hC (As := []) (fun l D dA ht => s_X6_thrown l D dA ht _ _ _ h) wm_3_237 wm_3_234 wm_3_235 wm_3_236 wm_1_7 (by decide +kernel : plainY yX6_thrown 0) kc6.1 kc6.2.1 dL_law_1060 (by decide) (Nat.le_of_ble_eq_true rfl) hc288 (Or.inl ⟨rfl, rfl⟩) ?_
      intro M9 v9 h
      obtain ⟨x289, rfl, h⟩ := h
      obtain ⟨hM9, h⟩ := h
      rw [hM9]
      show G X 7 M286 (k18 + c279) (n19 + s280) 1063 [(6, .int x287), (5, .int x282), (0, .ref b0), (1, .ref q1), (2, .ref q7), (3, .ref q13), (4, .int x16)] [.int x289]
      refine g_iload hC 1 dL_law_1063 rfl ?_
      refine g_pc (pc' := 1065) rfl ?_
      refine g_icmp_eq hC 1070 dL_law_1065 (by decide) (fun c294 => ?_) (fun c294 => ?_)
      · replace h := h.1 c294
        refine g_iload hC 1 dL_law_1070 rfl ?_
        replace h := h (G X 7 M286 (k18 + c279) (n19 + s280) 1087 [(0, .ref b0), (1, .ref q1), (2, .ref q7), (3, .ref q13), (4, .int x16), (5, .int x282), (6, .int x287)] []) (by
          intro h
          refine g_goto hC 1313 dL_law_1087 (by decide) ?_
          refine g_sub [0, 1, 2, 3, 4] (lv' := [(0, .ref b0), (1, .ref q1), (2, .ref q7), (3, .ref q13), (4, .int x16)]) rfl ?_
          exact h)
        refine g_if_ne hC 1087 dL_law_1072 (by decide) (fun c293 => ?_) (fun c293 => ?_)
        · replace h := h.2 c293
          refine g_sub [2, 3, 4, 5, 6, 1, 0] (lv' := [(0, .ref b0), (1, .ref q1), (2, .ref q7), (3, .ref q13), (4, .int x16), (5, .int x282), (6, .int x287)]) rfl ?_
          exact h
        · replace h := h.1 c293
          refine g_aload_n (r := (some q13)) hC 5 dL_law_1075 rfl ?_
          refine g_iconst (v := 0) hC dL_law_1076 (by decide) ?_
          obtain ⟨hc291, h⟩ := h
          refine g_laldA hC dL_law_1077 hc291 ?_
          refine g_iload hC 0 dL_law_1078 rfl ?_
          refine g_i2l hC dL_law_1080 ?_
          refine g_pc (pc' := 1081) rfl ?_
          refine g_lcmp hC dL_law_1081 ?_
          refine g_if_eq hC 1087 dL_law_1082 (by decide) (fun c292 => ?_) (fun c292 => ?_)
          · replace h := h.1 c292
            refine g_sub [2, 3, 4, 5, 6, 1, 0] (lv' := [(0, .ref b0), (1, .ref q1), (2, .ref q7), (3, .ref q13), (4, .int x16), (5, .int x282), (6, .int x287)]) rfl ?_
            exact h
          · replace h := h.2 c292
            refine g_iconst (v := 0) hC dL_law_1085 (by decide) ?_
            exact hRet _ _ _ _ _ _ dL_law_1086 h
      · replace h := h.2 c294
        refine g_iconst (v := 0) hC dL_law_1068 (by decide) ?_
        exact hRet _ _ _ _ _ _ dL_law_1069 h
    by_cases c2718 : sx = 18
    · replace h := h.2.2.2.2.2.2.2.2.2.2.2.2.2.2.2.2.2.2.1 c2718
      refine g_tableIn (off := 1051) hC 1090 dL_law_39 (by rw [c2718]; decide) (by rw [c2718]; decide) (by rw [c2718]; decide) (by decide) ?_
      refine g_aload_n (r := (some q1)) hC 1 dL_law_1090 rfl ?_
      refine g_aload_n (r := (some b0)) hC 0 dL_law_1091 rfl ?_
      refine g_iload hC 4 dL_law_1092 rfl ?_
      refine g_iconst (v := 1) hC dL_law_1094 (by decide) ?_
      refine g_iadd hC dL_law_1095 ?_
      obtain ⟨hc295, h⟩ := h
      refine g_sld hC hX dL_law_1096 hc295 ?_
      refine g_pc (pc' := 1097) rfl ?_
      refine g_aload_n (r := (some b0)) hC 0 dL_law_1097 rfl ?_
      refine g_iload hC 4 dL_law_1098 rfl ?_
      refine g_iconst (v := 2) hC dL_law_1100 (by decide) ?_
      refine g_iadd hC dL_law_1101 ?_
      obtain ⟨hc296, h⟩ := h
      refine g_sld hC hX dL_law_1102 hc296 ?_
      refine g_aload_n (r := (some q13)) hC 3 dL_law_1103 rfl ?_
      obtain ⟨c297, s298, hc297, h⟩ := h
      refine g_callW hC (As := [.ref q1, .int (xs (Int32.toNatClampNeg (x16 + 1))), .int (xs (Int32.toNatClampNeg (x16 + 2))), .ref q13]) (fun l D dA ht => s_L_bans l D dA ht _ _ _ _ _ _ _ _ h) wm_3_112 wm_3_110 wm_3_111 wm_1_0 (by decide +kernel : plainY yL_bans 4) dL_law_1104 (by decide) (Nat.le_of_ble_eq_true rfl) (Or.inr hc297) ?_
      intro M9 v9 h
      obtain ⟨x300, rfl, h⟩ := h
      generalize M9 = M299 at h ⊢
      show G X 7 M299 (k18 + c297) (n19 + s298) 1107 [(0, .ref b0), (1, .ref q1), (2, .ref q7), (3, .ref q13), (4, .int x16)] [.int x300]
      refine g_istore (lv' := [(5, .int x300), (0, .ref b0), (1, .ref q1), (2, .ref q7), (3, .ref q13), (4, .int x16)]) hC dL_law_1107 (by decide) rfl ?_
      refine g_pc (pc' := 1109) rfl ?_
      refine g_aload_n (r := (some q7)) hC 3 dL_law_1109 rfl ?_
      refine g_aload_n (r := (some b0)) hC 1 dL_law_1110 rfl ?_
      refine g_iload hC 5 dL_law_1111 rfl ?_
      refine g_iconst (v := 1) hC dL_law_1113 (by decide) ?_
      refine g_iadd hC dL_law_1114 ?_
      obtain ⟨hc301, h⟩ := h
      refine g_sld hC hX dL_law_1115 hc301 ?_
      refine g_aload_n (r := (some b0)) hC 1 dL_law_1116 rfl ?_
      refine g_iload hC 5 dL_law_1117 rfl ?_
      refine g_pc (pc' := 1119) rfl ?_
      refine g_iconst (v := 2) hC dL_law_1119 (by decide) ?_
      refine g_iadd hC dL_law_1120 ?_
      obtain ⟨hc302, h⟩ := h
      refine g_sld hC hX dL_law_1121 hc302 ?_
      obtain ⟨hc303, h⟩ := h
      refine g_callV hC (As := [.int (xs (Int32.toNatClampNeg (x16 + 1))), .int (xs (Int32.toNatClampNeg (x16 + 2)))]) (fun l D dA ht => s_X6_bans l D dA ht _ _ _ _ _ h) wm_4_192 wm_4_189 wm_4_190 wm_4_191 wm_1_7 (by decide +kernel : plainY yX6_bans 2) kc6.1 kc6.2.1 dL_law_1122 (by decide) (Nat.le_of_ble_eq_true rfl) hc303 (Or.inl ⟨rfl, rfl⟩) ?_
      intro M9 v9 h
      obtain ⟨x305, rfl, h⟩ := h
      generalize M9 = M304 at h ⊢
      show G X 7 M304 (k18 + c297) (n19 + s298) 1125 [(5, .int x300), (0, .ref b0), (1, .ref q1), (2, .ref q7), (3, .ref q13), (4, .int x16)] [.int x305]
      refine g_istore (lv' := [(6, .int x305), (5, .int x300), (0, .ref b0), (1, .ref q1), (2, .ref q7), (3, .ref q13), (4, .int x16)]) hC dL_law_1125 (by decide) rfl ?_
      refine g_aload_n (r := (some q7)) hC 4 dL_law_1127 rfl ?_
      obtain ⟨hc306, h⟩ := h
      refine g_callV hC (As := []) (fun l D dA ht => s_X6_thrown l D dA ht _ _ _ h) wm_3_237 wm_3_234 wm_3_235 wm_3_236 wm_1_7 (by decide +kernel : plainY yX6_thrown 0) kc6.1 kc6.2.1 dL_law_1128 (by decide) (Nat.le_of_ble_eq_true rfl) hc306 (Or.inl ⟨rfl, rfl⟩) ?_
      intro M9 v9 h
      obtain ⟨x307, rfl, h⟩ := h
      obtain ⟨hM9, h⟩ := h
      rw [hM9]
      show G X 7 M304 (k18 + c297) (n19 + s298) 1131 [(6, .int x305), (5, .int x300), (0, .ref b0), (1, .ref q1), (2, .ref q7), (3, .ref q13), (4, .int x16)] [.int x307]
      refine g_iload hC 1 dL_law_1131 rfl ?_
      refine g_pc (pc' := 1133) rfl ?_
      refine g_icmp_eq hC 1138 dL_law_1133 (by decide) (fun c312 => ?_) (fun c312 => ?_)
      · replace h := h.1 c312
        refine g_iload hC 1 dL_law_1138 rfl ?_
        replace h := h (G X 7 M304 (k18 + c297) (n19 + s298) 1155 [(0, .ref b0), (1, .ref q1), (2, .ref q7), (3, .ref q13), (4, .int x16), (5, .int x300), (6, .int x305)] []) (by
          intro h
          refine g_goto hC 1313 dL_law_1155 (by decide) ?_
          refine g_sub [0, 1, 2, 3, 4] (lv' := [(0, .ref b0), (1, .ref q1), (2, .ref q7), (3, .ref q13), (4, .int x16)]) rfl ?_
          exact h)
        refine g_if_ne hC 1155 dL_law_1140 (by decide) (fun c311 => ?_) (fun c311 => ?_)
        · replace h := h.2 c311
          refine g_sub [2, 3, 4, 5, 6, 1, 0] (lv' := [(0, .ref b0), (1, .ref q1), (2, .ref q7), (3, .ref q13), (4, .int x16), (5, .int x300), (6, .int x305)]) rfl ?_
          exact h
        · replace h := h.1 c311
          refine g_aload_n (r := (some q13)) hC 5 dL_law_1143 rfl ?_
          refine g_iconst (v := 0) hC dL_law_1144 (by decide) ?_
          obtain ⟨hc309, h⟩ := h
          refine g_laldA hC dL_law_1145 hc309 ?_
          refine g_iload hC 0 dL_law_1146 rfl ?_
          refine g_i2l hC dL_law_1148 ?_
          refine g_pc (pc' := 1149) rfl ?_
          refine g_lcmp hC dL_law_1149 ?_
          refine g_if_eq hC 1155 dL_law_1150 (by decide) (fun c310 => ?_) (fun c310 => ?_)
          · replace h := h.1 c310
            refine g_sub [2, 3, 4, 5, 6, 1, 0] (lv' := [(0, .ref b0), (1, .ref q1), (2, .ref q7), (3, .ref q13), (4, .int x16), (5, .int x300), (6, .int x305)]) rfl ?_
            exact h
          · replace h := h.2 c310
            refine g_iconst (v := 0) hC dL_law_1153 (by decide) ?_
            exact hRet _ _ _ _ _ _ dL_law_1154 h
      · replace h := h.2 c312
        refine g_iconst (v := 0) hC dL_law_1136 (by decide) ?_
        exact hRet _ _ _ _ _ _ dL_law_1137 h
    by_cases c2719 : sx = 19
    · replace h := h.2.2.2.2.2.2.2.2.2.2.2.2.2.2.2.2.2.2.2.1 c2719
      refine g_tableIn (off := 1119) hC 1158 dL_law_39 (by rw [c2719]; decide) (by rw [c2719]; decide) (by rw [c2719]; decide) (by decide) ?_
      refine g_aload_n (r := (some q1)) hC 1 dL_law_1158 rfl ?_
      refine g_aload_n (r := (some b0)) hC 0 dL_law_1159 rfl ?_
      refine g_iload hC 4 dL_law_1160 rfl ?_
      refine g_iconst (v := 1) hC dL_law_1162 (by decide) ?_
      refine g_iadd hC dL_law_1163 ?_
      obtain ⟨hc313, h⟩ := h
      refine g_sld hC hX dL_law_1164 hc313 ?_
      refine g_pc (pc' := 1165) rfl ?_
      refine g_aload_n (r := (some b0)) hC 0 dL_law_1165 rfl ?_
      refine g_iload hC 4 dL_law_1166 rfl ?_
      refine g_iconst (v := 2) hC dL_law_1168 (by decide) ?_
      refine g_iadd hC dL_law_1169 ?_
      obtain ⟨hc314, h⟩ := h
      refine g_sld hC hX dL_law_1170 hc314 ?_
      refine g_aload_n (r := (some q13)) hC 3 dL_law_1171 rfl ?_
      obtain ⟨c315, s316, hc315, h⟩ := h
      refine g_callW hC (As := [.ref q1, .int (xs (Int32.toNatClampNeg (x16 + 1))), .int (xs (Int32.toNatClampNeg (x16 + 2))), .ref q13]) (fun l D dA ht => s_L_areSame l D dA ht _ _ _ _ _ _ _ _ h) wm_3_119 wm_3_117 wm_3_118 wm_1_0 (by decide +kernel : plainY yL_areSame 4) dL_law_1172 (by decide) (Nat.le_of_ble_eq_true rfl) (Or.inr hc315) ?_
      intro M9 v9 h
      obtain ⟨x318, rfl, h⟩ := h
      generalize M9 = M317 at h ⊢
      show G X 7 M317 (k18 + c315) (n19 + s316) 1175 [(0, .ref b0), (1, .ref q1), (2, .ref q7), (3, .ref q13), (4, .int x16)] [.int x318]
      refine g_istore (lv' := [(5, .int x318), (0, .ref b0), (1, .ref q1), (2, .ref q7), (3, .ref q13), (4, .int x16)]) hC dL_law_1175 (by decide) rfl ?_
      refine g_pc (pc' := 1177) rfl ?_
      refine g_aload_n (r := (some q7)) hC 3 dL_law_1177 rfl ?_
      refine g_aload_n (r := (some b0)) hC 1 dL_law_1178 rfl ?_
      refine g_iload hC 5 dL_law_1179 rfl ?_
      refine g_iconst (v := 1) hC dL_law_1181 (by decide) ?_
      refine g_iadd hC dL_law_1182 ?_
      obtain ⟨hc319, h⟩ := h
      refine g_sld hC hX dL_law_1183 hc319 ?_
      refine g_aload_n (r := (some b0)) hC 1 dL_law_1184 rfl ?_
      refine g_iload hC 5 dL_law_1185 rfl ?_
      refine g_pc (pc' := 1187) rfl ?_
      refine g_iconst (v := 2) hC dL_law_1187 (by decide) ?_
      refine g_iadd hC dL_law_1188 ?_
      obtain ⟨hc320, h⟩ := h
      refine g_sld hC hX dL_law_1189 hc320 ?_
      obtain ⟨hc321, h⟩ := h
      refine g_callV hC (As := [.int (xs (Int32.toNatClampNeg (x16 + 1))), .int (xs (Int32.toNatClampNeg (x16 + 2)))]) (fun l D dA ht => s_X6_areSame l D dA ht _ _ _ _ _ h) wm_4_196 wm_4_193 wm_4_194 wm_4_195 wm_1_7 (by decide +kernel : plainY yX6_areSame 2) kc6.1 kc6.2.1 dL_law_1190 (by decide) (Nat.le_of_ble_eq_true rfl) hc321 (Or.inl ⟨rfl, rfl⟩) ?_
      intro M9 v9 h
      obtain ⟨x323, rfl, h⟩ := h
      generalize M9 = M322 at h ⊢
      show G X 7 M322 (k18 + c315) (n19 + s316) 1193 [(5, .int x318), (0, .ref b0), (1, .ref q1), (2, .ref q7), (3, .ref q13), (4, .int x16)] [.int x323]
      refine g_istore (lv' := [(6, .int x323), (5, .int x318), (0, .ref b0), (1, .ref q1), (2, .ref q7), (3, .ref q13), (4, .int x16)]) hC dL_law_1193 (by decide) rfl ?_
      refine g_aload_n (r := (some q7)) hC 4 dL_law_1195 rfl ?_
      obtain ⟨hc324, h⟩ := h
      refine g_callV hC (As := []) (fun l D dA ht => s_X6_thrown l D dA ht _ _ _ h) wm_3_237 wm_3_234 wm_3_235 wm_3_236 wm_1_7 (by decide +kernel : plainY yX6_thrown 0) kc6.1 kc6.2.1 dL_law_1196 (by decide) (Nat.le_of_ble_eq_true rfl) hc324 (Or.inl ⟨rfl, rfl⟩) ?_
      intro M9 v9 h
      obtain ⟨x325, rfl, h⟩ := h
      obtain ⟨hM9, h⟩ := h
      rw [hM9]
      show G X 7 M322 (k18 + c315) (n19 + s316) 1199 [(6, .int x323), (5, .int x318), (0, .ref b0), (1, .ref q1), (2, .ref q7), (3, .ref q13), (4, .int x16)] [.int x325]
      refine g_iload hC 1 dL_law_1199 rfl ?_
      refine g_pc (pc' := 1201) rfl ?_
      refine g_icmp_eq hC 1206 dL_law_1201 (by decide) (fun c333 => ?_) (fun c333 => ?_)
      · replace h := h.1 c333
        refine g_iload hC 1 dL_law_1206 rfl ?_
        replace h := h (G X 7 M322 (k18 + c315) (n19 + s316) 1230 [(0, .ref b0), (1, .ref q1), (2, .ref q7), (3, .ref q13), (4, .int x16), (5, .int x318), (6, .int x323)] []) (by
          intro h
          refine g_goto hC 1313 dL_law_1230 (by decide) ?_
          refine g_sub [0, 1, 2, 3, 4] (lv' := [(0, .ref b0), (1, .ref q1), (2, .ref q7), (3, .ref q13), (4, .int x16)]) rfl ?_
          exact h)
        refine g_if_ne hC 1230 dL_law_1208 (by decide) (fun c332 => ?_) (fun c332 => ?_)
        · replace h := h.2 c332
          refine g_sub [2, 3, 4, 5, 6, 1, 0] (lv' := [(0, .ref b0), (1, .ref q1), (2, .ref q7), (3, .ref q13), (4, .int x16), (5, .int x318), (6, .int x323)]) rfl ?_
          exact h
        · replace h := h.1 c332
          refine g_aload_n (r := (some q13)) hC 5 dL_law_1211 rfl ?_
          refine g_iconst (v := 0) hC dL_law_1212 (by decide) ?_
          obtain ⟨hc327, h⟩ := h
          refine g_laldA hC dL_law_1213 hc327 ?_
          refine g_iload hC 0 dL_law_1214 rfl ?_
          replace h := h (fun (y328 : Int64) => G X 7 M322 (k18 + c315) (n19 + s316) 1224 [(0, .ref b0), (1, .ref q1), (2, .ref q7), (3, .ref q13), (4, .int x16), (5, .int x318), (6, .int x323)] [.long y328, .long (gL M322 q13 (Int32.toNatClampNeg 0))]) (by
            intro y328 h
            show G X 7 M322 (k18 + c315) (n19 + s316) 1224 [(0, .ref b0), (1, .ref q1), (2, .ref q7), (3, .ref q13), (4, .int x16), (5, .int x318), (6, .int x323)] [.long y328, .long (gL M322 q13 (Int32.toNatClampNeg 0))]
            refine g_lcmp hC dL_law_1224 ?_
            refine g_pc (pc' := 1225) rfl ?_
            refine g_if_eq hC 1230 dL_law_1225 (by decide) (fun c330 => ?_) (fun c330 => ?_)
            · replace h := h.1 c330
              exact h
            · replace h := h.2 c330
              refine g_iconst (v := 0) hC dL_law_1228 (by decide) ?_
              exact hRet _ _ _ _ _ _ dL_law_1229 h)
          refine g_if_eq hC 1223 dL_law_1216 (by decide) (fun c331 => ?_) (fun c331 => ?_)
          · replace h := h.1 c331
            refine g_pc (pc' := 1223) rfl ?_
            refine g_lconst (v := 0) hC dL_law_1223 (by decide) ?_
            refine g_sub [2, 3, 4, 5, 6, 1, 0] (lv' := [(0, .ref b0), (1, .ref q1), (2, .ref q7), (3, .ref q13), (4, .int x16), (5, .int x318), (6, .int x323)]) rfl ?_
            exact h
          · replace h := h.2 c331
            refine g_pc (pc' := 1219) rfl ?_
            refine g_lconst (v := 1) hC dL_law_1219 (by decide) ?_
            refine g_goto hC 1224 dL_law_1220 (by decide) ?_
            refine g_sub [2, 3, 4, 5, 6, 1, 0] (lv' := [(0, .ref b0), (1, .ref q1), (2, .ref q7), (3, .ref q13), (4, .int x16), (5, .int x318), (6, .int x323)]) rfl ?_
            exact h
      · replace h := h.2 c333
        refine g_iconst (v := 0) hC dL_law_1204 (by decide) ?_
        exact hRet _ _ _ _ _ _ dL_law_1205 h
    by_cases c2720 : sx = 20
    · replace h := h.2.2.2.2.2.2.2.2.2.2.2.2.2.2.2.2.2.2.2.2.1 c2720
      refine g_tableIn (off := 1194) hC 1233 dL_law_39 (by rw [c2720]; decide) (by rw [c2720]; decide) (by rw [c2720]; decide) (by decide) ?_
      refine g_aload_n (r := (some q1)) hC 1 dL_law_1233 rfl ?_
      refine g_aload_n (r := (some b0)) hC 0 dL_law_1234 rfl ?_
      refine g_iload hC 4 dL_law_1235 rfl ?_
      refine g_iconst (v := 1) hC dL_law_1237 (by decide) ?_
      refine g_iadd hC dL_law_1238 ?_
      obtain ⟨hc334, h⟩ := h
      refine g_sld hC hX dL_law_1239 hc334 ?_
      refine g_pc (pc' := 1240) rfl ?_
      refine g_aload_n (r := (some b0)) hC 0 dL_law_1240 rfl ?_
      refine g_iload hC 4 dL_law_1241 rfl ?_
      refine g_iconst (v := 2) hC dL_law_1243 (by decide) ?_
      refine g_iadd hC dL_law_1244 ?_
      obtain ⟨hc335, h⟩ := h
      refine g_sld hC hX dL_law_1245 hc335 ?_
      refine g_aload_n (r := (some b0)) hC 0 dL_law_1246 rfl ?_
      refine g_iload hC 4 dL_law_1247 rfl ?_
      refine g_iconst (v := 3) hC dL_law_1249 (by decide) ?_
      refine g_pc (pc' := 1250) rfl ?_
      refine g_iadd hC dL_law_1250 ?_
      obtain ⟨hc336, h⟩ := h
      refine g_sld hC hX dL_law_1251 hc336 ?_
      refine g_aload_n (r := (some q13)) hC 3 dL_law_1252 rfl ?_
      obtain ⟨c337, s338, hc337, h⟩ := h
      refine g_callW hC (As := [.ref q1, .int (xs (Int32.toNatClampNeg (x16 + 1))), .int (xs (Int32.toNatClampNeg (x16 + 2))), .int (xs (Int32.toNatClampNeg (x16 + 3))), .ref q13]) (fun l D dA ht => s_L_joinedModes l D dA ht _ _ _ _ _ _ _ _ _ h) wm_3_134 wm_3_132 wm_3_133 wm_1_0 (by decide +kernel : plainY yL_joinedModes 5) dL_law_1253 (by decide) (Nat.le_of_ble_eq_true rfl) (Or.inr hc337) ?_
      intro M9 v9 h
      obtain ⟨x340, rfl, h⟩ := h
      generalize M9 = M339 at h ⊢
      show G X 7 M339 (k18 + c337) (n19 + s338) 1256 [(0, .ref b0), (1, .ref q1), (2, .ref q7), (3, .ref q13), (4, .int x16)] [.int x340]
      refine g_istore (lv' := [(5, .int x340), (0, .ref b0), (1, .ref q1), (2, .ref q7), (3, .ref q13), (4, .int x16)]) hC dL_law_1256 (by decide) rfl ?_
      refine g_aload_n (r := (some q7)) hC 3 dL_law_1258 rfl ?_
      refine g_aload_n (r := (some b0)) hC 1 dL_law_1259 rfl ?_
      refine g_iload hC 5 dL_law_1260 rfl ?_
      refine g_pc (pc' := 1262) rfl ?_
      refine g_iconst (v := 1) hC dL_law_1262 (by decide) ?_
      refine g_iadd hC dL_law_1263 ?_
      obtain ⟨hc341, h⟩ := h
      refine g_sld hC hX dL_law_1264 hc341 ?_
      refine g_aload_n (r := (some b0)) hC 1 dL_law_1265 rfl ?_
      refine g_iload hC 5 dL_law_1266 rfl ?_
      refine g_iconst (v := 2) hC dL_law_1268 (by decide) ?_
      refine g_iadd hC dL_law_1269 ?_
      obtain ⟨hc342, h⟩ := h
      refine g_sld hC hX dL_law_1270 hc342 ?_
      refine g_pc (pc' := 1271) rfl ?_
      refine g_aload_n (r := (some b0)) hC 1 dL_law_1271 rfl ?_
      refine g_iload hC 5 dL_law_1272 rfl ?_
      refine g_iconst (v := 3) hC dL_law_1274 (by decide) ?_
      refine g_iadd hC dL_law_1275 ?_
      obtain ⟨hc343, h⟩ := h
      refine g_sld hC hX dL_law_1276 hc343 ?_
      obtain ⟨hc344, h⟩ := h
      refine g_callV hC (As := [.int (xs (Int32.toNatClampNeg (x16 + 1))), .int (xs (Int32.toNatClampNeg (x16 + 2))), .int (xs (Int32.toNatClampNeg (x16 + 3)))]) (fun l D dA ht => s_X6_joinedModes l D dA ht _ _ _ _ _ _ h) wm_4_200 wm_4_197 wm_4_198 wm_4_199 wm_1_7 (by decide +kernel : plainY yX6_joinedModes 3) kc6.1 kc6.2.1 dL_law_1277 (by decide) (Nat.le_of_ble_eq_true rfl) hc344 (Or.inl ⟨rfl, rfl⟩) ?_
      intro M9 v9 h
      obtain ⟨x346, rfl, h⟩ := h
      generalize M9 = M345 at h ⊢
      show G X 7 M345 (k18 + c337) (n19 + s338) 1280 [(5, .int x340), (0, .ref b0), (1, .ref q1), (2, .ref q7), (3, .ref q13), (4, .int x16)] [.int x346]
      refine g_istore (lv' := [(6, .int x346), (5, .int x340), (0, .ref b0), (1, .ref q1), (2, .ref q7), (3, .ref q13), (4, .int x16)]) hC dL_law_1280 (by decide) rfl ?_
      refine g_aload_n (r := (some q7)) hC 4 dL_law_1282 rfl ?_
      refine g_pc (pc' := 1283) rfl ?_
      obtain ⟨hc347, h⟩ := h
      refine g_callV hC (As := []) (fun l D dA ht => s_X6_thrown l D dA ht _ _ _ h) wm_3_237 wm_3_234 wm_3_235 wm_3_236 wm_1_7 (by decide +kernel : plainY yX6_thrown 0) kc6.1 kc6.2.1 dL_law_1283 (by decide) (Nat.le_of_ble_eq_true rfl) hc347 (Or.inl ⟨rfl, rfl⟩) ?_
      intro M9 v9 h
      obtain ⟨x348, rfl, h⟩ := h
      obtain ⟨hM9, h⟩ := h
      rw [hM9]
      show G X 7 M345 (k18 + c337) (n19 + s338) 1286 [(6, .int x346), (5, .int x340), (0, .ref b0), (1, .ref q1), (2, .ref q7), (3, .ref q13), (4, .int x16)] [.int x348]
      refine g_iload hC 1 dL_law_1286 rfl ?_
      refine g_icmp_eq hC 1293 dL_law_1288 (by decide) (fun c353 => ?_) (fun c353 => ?_)
      · replace h := h.1 c353
        refine g_iload hC 1 dL_law_1293 rfl ?_
        replace h := h (G X 7 M345 (k18 + c337) (n19 + s338) 1310 [(0, .ref b0), (1, .ref q1), (2, .ref q7), (3, .ref q13), (4, .int x16), (5, .int x340), (6, .int x346)] []) (by
          intro h
          refine g_goto hC 1313 dL_law_1310 (by decide) ?_
          refine g_sub [0, 1, 2, 3, 4] (lv' := [(0, .ref b0), (1, .ref q1), (2, .ref q7), (3, .ref q13), (4, .int x16)]) rfl ?_
          exact h)
        refine g_if_ne hC 1310 dL_law_1295 (by decide) (fun c352 => ?_) (fun c352 => ?_)
        · replace h := h.2 c352
          refine g_sub [2, 3, 4, 5, 6, 1, 0] (lv' := [(0, .ref b0), (1, .ref q1), (2, .ref q7), (3, .ref q13), (4, .int x16), (5, .int x340), (6, .int x346)]) rfl ?_
          exact h
        · replace h := h.1 c352
          refine g_aload_n (r := (some q13)) hC 5 dL_law_1298 rfl ?_
          refine g_iconst (v := 0) hC dL_law_1299 (by decide) ?_
          obtain ⟨hc350, h⟩ := h
          refine g_laldA hC dL_law_1300 hc350 ?_
          refine g_pc (pc' := 1301) rfl ?_
          refine g_iload hC 0 dL_law_1301 rfl ?_
          refine g_i2l hC dL_law_1303 ?_
          refine g_lcmp hC dL_law_1304 ?_
          refine g_if_eq hC 1310 dL_law_1305 (by decide) (fun c351 => ?_) (fun c351 => ?_)
          · replace h := h.1 c351
            refine g_sub [2, 3, 4, 5, 6, 1, 0] (lv' := [(0, .ref b0), (1, .ref q1), (2, .ref q7), (3, .ref q13), (4, .int x16), (5, .int x340), (6, .int x346)]) rfl ?_
            exact h
          · replace h := h.2 c351
            refine g_iconst (v := 0) hC dL_law_1308 (by decide) ?_
            exact hRet _ _ _ _ _ _ dL_law_1309 h
      · replace h := h.2 c353
        refine g_iconst (v := 0) hC dL_law_1291 (by decide) ?_
        exact hRet _ _ _ _ _ _ dL_law_1292 h
    replace h := h.2.2.2.2.2.2.2.2.2.2.2.2.2.2.2.2.2.2.2.2.2 ⟨c270, c271, c272, c273, c274, c275, c276, c277, c278, c279, c2710, c2711, c2712, c2713, c2714, c2715, c2716, c2717, c2718, c2719, c2720⟩
    refine g_tableOut hC 1313 dL_law_39 (sw_out21 c270 c271 c272 c273 c274 c275 c276 c277 c278 c279 c2710 c2711 c2712 c2713 c2714 c2715 c2716 c2717 c2718 c2719 c2720) (by decide) ?_
    exact h
