def w_L_draw (M : Mem) (b0 L : Nat) (xs : Nat → Int32) (p1 : Int32) (post : Int32 → Prop) : Prop :=
  ∀ J2 : Int32 → Prop, (∀ (x1 : Int32), (post x1) → J2 x1) → (((nI L) ≤ p1 → J2 ((104729 * (p1 + 2)) - (104729 * (p1 + 2)) / 65521 * 65521)) ∧ (¬ ((nI L) ≤ p1) → vp_in p1 L ∧ J2 ((xs (Int32.toNatClampNeg p1)) &&& 2147483647)))
set_option maxRecDepth 100000 in
set_option maxHeartbeats 8000000 in
theorem s_L_draw (l : Launch) (D : va_G) (dA : Nat → ClassId) (htr : l.stackTraces = false) (M : Mem) (b0 L : Nat) (xs : Nat → Int32) (p1 : Int32) (post : Int32 → Prop) (h : w_L_draw M b0 L xs p1 post) : CtS l D dA yL_draw cL_draw 2 (some .int) 1 [.ref b0, .int p1] M b0 L xs (pI (fun M' r => M' = M ∧ post r)) := by
  refine ct_ofS htr (by decide) (Nat.le_of_ble_eq_true rfl) ?_
  intro X hC hX hR
  show G X 2 M 0 0 0 [(0, .ref b0), (1, .int p1)] []
  unfold w_L_draw at h
  refine g_iload_n hC 1 dL_draw_0 rfl ?_
  refine g_aload_n (r := (some b0)) hC 0 dL_draw_1 rfl ?_
  refine g_slen hC hX dL_draw_2 ?_
  replace h := h (fun (x1 : Int32) => G X 2 M 0 0 24 [(0, .ref b0), (1, .int p1)] [.int x1]) (by
    intro x1 h
    show G X 2 M 0 0 24 [(0, .ref b0), (1, .int p1)] [.int x1]
    exact hR.2.1 rfl _ _ _ _ _ _ dL_draw_24 ⟨_, rfl, rfl, h⟩)
  refine g_icmp_ge hC 15 dL_draw_3 (by decide) (fun c4 => ?_) (fun c4 => ?_)
  · replace h := h.1 c4
    refine g_ldc hC wm_2_30 dL_draw_15 ?_
    refine g_iload_n hC 1 dL_draw_17 rfl ?_
    refine g_iconst (v := 2) hC dL_draw_18 (by decide) ?_
    refine g_pc (pc' := 19) rfl ?_
    refine g_iadd hC dL_draw_19 ?_
    refine g_imul hC dL_draw_20 ?_
    refine g_ldc hC wm_2_31 dL_draw_21 ?_
    refine g_irem hC dL_draw_23 (by decide) ?_
    exact h
  · replace h := h.2 c4
    refine g_aload_n (r := (some b0)) hC 0 dL_draw_6 rfl ?_
    refine g_iload_n hC 1 dL_draw_7 rfl ?_
    obtain ⟨hc3, h⟩ := h
    refine g_sld hC hX dL_draw_8 hc3 ?_
    refine g_pc (pc' := 9) rfl ?_
    refine g_ldc hC wm_2_29 dL_draw_9 ?_
    refine g_iand hC dL_draw_11 ?_
    refine g_goto hC 24 dL_draw_12 (by decide) ?_
    exact h

def w_L_homesIn (M : Mem) (b0 : Nat) (p1 : Int32) (post : Int32 → Prop) : Prop :=
  Lp (fun (K3 : Int32 × Int32 → Prop) (z : Int32 × Int32) => ∀ (x1 : Int32) (x2 : Int32), z = (x1, x2) → (inA M b0 10 1 ∧ ((gI M b0 (Int32.toNatClampNeg 1)) ≤ x2 → post x1) ∧ (¬ ((gI M b0 (Int32.toNatClampNeg 1)) ≤ x2) → inA M b0 10 (28 + x2) ∧ ∀ x6, x6 = x1 ||| (((p1 >>> ((gI M b0 (Int32.toNatClampNeg (28 + x2))) &&& 31)) &&& 1) <<< (x2 &&& 31)) → ∀ x7, x7 = x2 + 1 → K3 (x6, x7)))) (0, 0)
set_option maxRecDepth 100000 in
set_option maxHeartbeats 8000000 in
theorem s_L_homesIn (l : Launch) (D : va_G) (dA : Nat → ClassId) (htr : l.stackTraces = false) (M : Mem) (b0 : Nat) (p1 : Int32) (post : Int32 → Prop) (h : w_L_homesIn M b0 p1 post) : CtN l D dA yL_homesIn cL_homesIn 4 (some .int) 1 [.ref b0, .int p1] M 0 0 (pI (fun M' r => M' = M ∧ post r)) := by
  refine ct_ofN htr (by decide) (Nat.le_of_ble_eq_true rfl) ?_
  intro X hC hN hR
  show G X 4 M 0 0 0 [(0, .ref b0), (1, .int p1)] []
  unfold w_L_homesIn at h
  refine g_iconst (v := 0) hC dL_homesIn_0 (by decide) ?_
  refine g_istore_n (lv' := [(2, .int 0), (0, .ref b0), (1, .int p1)]) hC dL_homesIn_1 (by decide) rfl ?_
  refine g_iconst (v := 0) hC dL_homesIn_2 (by decide) ?_
  refine g_istore_n (lv' := [(3, .int 0), (2, .int 0), (0, .ref b0), (1, .int p1)]) hC dL_homesIn_3 (by decide) rfl ?_
  refine g_sub [2, 3, 1, 0] (lv' := [(0, .ref b0), (1, .int p1), (2, .int 0), (3, .int 0)]) rfl ?_
  refine Lp_use (fun (z9 : Int32 × Int32) => G X 4 M 0 0 4 [(0, .ref b0), (1, .int p1), (2, .int z9.1), (3, .int z9.2)] []) h ?_
  intro K3 z hK_K3 h
  obtain ⟨x1, x2⟩ := z
  replace h := h _ _ rfl
  show G X 4 M 0 0 4 [(0, .ref b0), (1, .int p1), (2, .int x1), (3, .int x2)] []
  refine g_iload_n hC 3 dL_homesIn_4 rfl ?_
  refine g_aload_n (r := (some b0)) hC 0 dL_homesIn_5 rfl ?_
  refine g_iconst (v := 1) hC dL_homesIn_6 (by decide) ?_
  obtain ⟨hc4, h⟩ := h
  refine g_pc (pc' := 7) rfl ?_
  refine g_ialdA hC dL_homesIn_7 hc4 ?_
  refine g_icmp_ge hC 32 dL_homesIn_8 (by decide) (fun c8 => ?_) (fun c8 => ?_)
  · replace h := h.1 c8
    refine g_iload_n hC 2 dL_homesIn_32 rfl ?_
    exact hR.2.1 rfl _ _ _ _ _ _ dL_homesIn_33 ⟨_, rfl, rfl, h⟩
  · replace h := h.2 c8
    refine g_iload_n hC 2 dL_homesIn_11 rfl ?_
    refine g_iload_n hC 1 dL_homesIn_12 rfl ?_
    refine g_aload_n (r := (some b0)) hC 0 dL_homesIn_13 rfl ?_
    refine g_bipush (v := 28) hC dL_homesIn_14 (by decide) ?_
    refine g_iload_n hC 3 dL_homesIn_16 rfl ?_
    refine g_iadd hC dL_homesIn_17 ?_
    obtain ⟨hc5, h⟩ := h
    refine g_pc (pc' := 18) rfl ?_
    refine g_ialdA hC dL_homesIn_18 hc5 ?_
    refine g_ishr hC dL_homesIn_19 ?_
    refine g_iconst (v := 1) hC dL_homesIn_20 (by decide) ?_
    refine g_iand hC dL_homesIn_21 ?_
    refine g_iload_n hC 3 dL_homesIn_22 rfl ?_
    refine g_ishl hC dL_homesIn_23 ?_
    refine g_ior hC dL_homesIn_24 ?_
    obtain ⟨x6, ex6⟩ : ∃ w, w = x1 ||| (((p1 >>> ((gI M b0 (Int32.toNatClampNeg (28 + x2))) &&& 31)) &&& 1) <<< (x2 &&& 31)) := ⟨_, rfl⟩
    replace h := h x6 ex6
    rw [← ex6]
    refine g_istore_n (lv' := [(2, .int x6), (0, .ref b0), (1, .int p1), (3, .int x2)]) hC dL_homesIn_25 (by decide) rfl ?_
    obtain ⟨x7, ex7⟩ : ∃ w, w = x2 + 1 := ⟨_, rfl⟩
    replace h := h x7 ex7
    refine g_pc (pc' := 26) rfl ?_
    refine g_iinc (v := x7) (lv' := [(3, .int x7), (2, .int x6), (0, .ref b0), (1, .int p1)]) hC 3 dL_homesIn_26 rfl (by rw [ex7]; rfl) (by decide) rfl ?_
    refine g_goto hC 4 dL_homesIn_29 (by decide) ?_
    refine g_sub [2, 3, 1, 0] (lv' := [(0, .ref b0), (1, .int p1), (2, .int x6), (3, .int x7)]) rfl ?_
    exact hK_K3 _ h

def w_L_count (M : Mem) (p0 : Int32) (post : Int32 → Prop) : Prop :=
  Lp (fun (K3 : Int32 × Int32 → Prop) (z : Int32 × Int32) => ∀ (x1 : Int32) (x2 : Int32), z = (x1, x2) → ((20 ≤ x2 → post x1) ∧ (¬ (20 ≤ x2) → ∀ x4, x4 = x1 + ((p0 >>> (x2 &&& 31)) &&& 1) → ∀ x5, x5 = x2 + 1 → K3 (x4, x5)))) (0, 0)
set_option maxRecDepth 100000 in
set_option maxHeartbeats 8000000 in
theorem s_L_count (l : Launch) (D : va_G) (dA : Nat → ClassId) (htr : l.stackTraces = false) (M : Mem) (p0 : Int32) (post : Int32 → Prop) (h : w_L_count M p0 post) : CtN l D dA yL_count cL_count 3 (some .int) 1 [.int p0] M 0 0 (pI (fun M' r => M' = M ∧ post r)) := by
  refine ct_ofN htr (by decide) (Nat.le_of_ble_eq_true rfl) ?_
  intro X hC hN hR
  show G X 3 M 0 0 0 [(0, .int p0)] []
  unfold w_L_count at h
  refine g_iconst (v := 0) hC dL_count_0 (by decide) ?_
  refine g_istore_n (lv' := [(1, .int 0), (0, .int p0)]) hC dL_count_1 (by decide) rfl ?_
  refine g_iconst (v := 0) hC dL_count_2 (by decide) ?_
  refine g_istore_n (lv' := [(2, .int 0), (1, .int 0), (0, .int p0)]) hC dL_count_3 (by decide) rfl ?_
  refine g_sub [2, 1, 0] (lv' := [(0, .int p0), (1, .int 0), (2, .int 0)]) rfl ?_
  refine Lp_use (fun (z7 : Int32 × Int32) => G X 3 M 0 0 4 [(0, .int p0), (1, .int z7.1), (2, .int z7.2)] []) h ?_
  intro K3 z hK_K3 h
  obtain ⟨x1, x2⟩ := z
  replace h := h _ _ rfl
  show G X 3 M 0 0 4 [(0, .int p0), (1, .int x1), (2, .int x2)] []
  refine g_iload_n hC 2 dL_count_4 rfl ?_
  refine g_bipush (v := 20) hC dL_count_5 (by decide) ?_
  refine g_icmp_ge hC 24 dL_count_7 (by decide) (fun c6 => ?_) (fun c6 => ?_)
  · replace h := h.1 c6
    refine g_pc (pc' := 24) rfl ?_
    refine g_iload_n hC 1 dL_count_24 rfl ?_
    exact hR.2.1 rfl _ _ _ _ _ _ dL_count_25 ⟨_, rfl, rfl, h⟩
  · replace h := h.2 c6
    refine g_pc (pc' := 10) rfl ?_
    refine g_iload_n hC 1 dL_count_10 rfl ?_
    refine g_iload_n hC 0 dL_count_11 rfl ?_
    refine g_iload_n hC 2 dL_count_12 rfl ?_
    refine g_ishr hC dL_count_13 ?_
    refine g_iconst (v := 1) hC dL_count_14 (by decide) ?_
    refine g_iand hC dL_count_15 ?_
    refine g_iadd hC dL_count_16 ?_
    obtain ⟨x4, ex4⟩ : ∃ w, w = x1 + ((p0 >>> (x2 &&& 31)) &&& 1) := ⟨_, rfl⟩
    replace h := h x4 ex4
    rw [← ex4]
    refine g_istore_n (lv' := [(1, .int x4), (0, .int p0), (2, .int x2)]) hC dL_count_17 (by decide) rfl ?_
    obtain ⟨x5, ex5⟩ : ∃ w, w = x2 + 1 := ⟨_, rfl⟩
    replace h := h x5 ex5
    refine g_pc (pc' := 18) rfl ?_
    refine g_iinc (v := x5) (lv' := [(2, .int x5), (1, .int x4), (0, .int p0)]) hC 2 dL_count_18 rfl (by rw [ex5]; rfl) (by decide) rfl ?_
    refine g_goto hC 4 dL_count_21 (by decide) ?_
    refine g_sub [2, 1, 0] (lv' := [(0, .int p0), (1, .int x4), (2, .int x5)]) rfl ?_
    exact hK_K3 _ h

def w_L_links (mc ms : Nat) (M : Mem) (b0 : Nat) (b1 : Nat) (p2 : Int32) (p3 : Int32) (post : Mem → Int32 → Prop) : Prop :=
  gT M b0 = some (5, 0) ∧ ∃ c2 s3, (0 + c2 ≤ mc ∧ 0 + s3 ≤ ms) ∧ w_X5_tree c2 s3 M b0 p2 (fun _ _ => False) (fun x4 => ((x4 >>> (p3 &&& 31)) &&& 1 = 1 → gT M b0 = some (5, 0) ∧ ∃ c86 s87, ((0 + c2) + c86 ≤ mc ∧ (0 + s3) + s87 ≤ ms) ∧ w_X5_tree c86 s87 M b0 p2 (fun _ _ => False) (fun x88 => gT M b0 = some (5, 0) ∧ ∃ c90 s91, ((0 + c2 + c86) + c90 ≤ mc ∧ (0 + s3 + s87) + s91 ≤ ms) ∧ w_X5_tree c90 s91 M b0 p3 (fun _ _ => False) (fun x92 => ∀ J94 : Int32 → Prop, (∀ (x93 : Int32), (((x93 : Int32) = 0 ∨ (x93 : Int32) = 1) ∧ post M x93) → J94 x93) → ((x88 = x92 → J94 1) ∧ (¬ (x88 = x92) → J94 0))))) ∧ (¬ ((x4 >>> (p3 &&& 31)) &&& 1 = 1) → gT M b0 = some (5, 0) ∧ ∃ c6 s7, ((0 + c2) + c6 ≤ mc ∧ (0 + s3) + s7 ≤ ms) ∧ w_X5_known c6 s7 M b0 p2 (fun _ _ => False) (fun x8 => w_L_count M x8 (fun x9 => gT M b0 = some (5, 0) ∧ ∃ c11 s12, ((0 + c2 + c6) + c11 ≤ mc ∧ (0 + s3 + s7) + s12 ≤ ms) ∧ w_X5_known c11 s12 M b0 p3 (fun _ _ => False) (fun x13 => w_L_count M x13 (fun x14 => ∀ x15, x15 = x9 + x14 → gT M b0 = some (5, 0) ∧ w_X5_lines M b0 (fun x17 => Lp (fun (K22 : Int32 × Int32 × Nat × Nat → Prop) (z : Int32 × Int32 × Nat × Nat) => ∀ (x18 : Int32) (x19 : Int32) (k20 : Nat) (n21 : Nat), z = (x18, x19, k20, n21) → ((4 ≤ x19 → gT M b0 = some (5, 0) ∧ ∃ c24 s25, (k20 + c24 ≤ mc ∧ n21 + s25 ≤ ms) ∧ w_X5_tree c24 s25 M b0 p2 (fun _ _ => False) (fun x26 => gT M b0 = some (5, 0) ∧ ∃ c28 s29, ((k20 + c24) + c28 ≤ mc ∧ (n21 + s25) + s29 ≤ ms) ∧ w_X5_tree c28 s29 M b0 p3 (fun _ _ => False) (fun x30 => ∀ x31, x31 = x26 ||| x30 → inA M b1 10 0 ∧ inA M b1 10 0 ∧ ∀ M33, M33 = sI M b1 (Int32.toNatClampNeg 0) ((gI M b1 (Int32.toNatClampNeg 0)) + 1) → inA M33 b1 10 (2 + p2) ∧ inA M33 b1 10 (2 + p2) ∧ ∀ M36, M36 = sI M33 b1 (Int32.toNatClampNeg (2 + p2)) ((gI M33 b1 (Int32.toNatClampNeg (2 + p2))) ||| (1 <<< (p3 &&& 31))) → inA M36 b1 10 (2 + p3) ∧ inA M36 b1 10 (2 + p3) ∧ ∀ M39, M39 = sI M36 b1 (Int32.toNatClampNeg (2 + p3)) ((gI M36 b1 (Int32.toNatClampNeg (2 + p3))) ||| (1 <<< (p2 &&& 31))) → gT M39 b0 = some (5, 0) ∧ ∃ c42 s43, ((k20 + c24 + c28) + c42 ≤ mc ∧ (n21 + s25 + s29) + s43 ≤ ms) ∧ w_X5_link c42 s43 M39 b0 p2 p3 (fun _ _ => False) (fun M44 x45 => ∀ J49 : Int32 → Nat → Nat → Prop, (∀ (x46 : Int32) (k47 : Nat) (n48 : Nat), (((x46 : Int32) = 0 ∨ (x46 : Int32) = 1) ∧ post M44 x46) → J49 x46 k47 n48) → (∀ J52 : Nat → Nat → Prop, (∀ (k50 : Nat) (n51 : Nat), (J49 0 k50 n51) → J52 k50 n51) → ((x45 = x18 → gT M44 b0 = some (5, 0) ∧ w_X5_lines M44 b0 (fun x54 => (x54 = x17 + x18 → gT M44 b0 = some (5, 0) ∧ ∃ c56 s57, ((k20 + c24 + c28 + c42) + c56 ≤ mc ∧ (n21 + s25 + s29 + s43) + s57 ≤ ms) ∧ w_X5_tree c56 s57 M44 b0 p2 (fun _ _ => False) (fun x58 => (x58 = x31 → gT M44 b0 = some (5, 0) ∧ ∃ c60 s61, ((k20 + c24 + c28 + c42 + c56) + c60 ≤ mc ∧ (n21 + s25 + s29 + s43 + s57) + s61 ≤ ms) ∧ w_X5_tree c60 s61 M44 b0 p3 (fun _ _ => False) (fun x62 => (x62 = x31 → J49 1 (k20 + c24 + c28 + c42 + c56 + c60) (n21 + s25 + s29 + s43 + s57 + s61)) ∧ (¬ (x62 = x31) → J52 (k20 + c24 + c28 + c42 + c56 + c60) (n21 + s25 + s29 + s43 + s57 + s61)))) ∧ (¬ (x58 = x31) → J52 (k20 + c24 + c28 + c42 + c56) (n21 + s25 + s29 + s43 + s57)))) ∧ (¬ (x54 = x17 + x18) → J52 (k20 + c24 + c28 + c42) (n21 + s25 + s29 + s43)))) ∧ (¬ (x45 = x18) → J52 (k20 + c24 + c28 + c42) (n21 + s25 + s29 + s43)))))))) ∧ (¬ (4 ≤ x19) → gT M b0 = some (5, 0) ∧ ∃ c68 s69, (k20 + c68 ≤ mc ∧ n21 + s69 ≤ ms) ∧ w_X5_age c68 s69 M b0 p2 x19 (fun _ _ => False) (fun x70 => ∀ J72 : Int32 → Prop, (∀ (x71 : Int32), (gT M b0 = some (5, 0) ∧ ∃ c74 s75, ((k20 + c68) + c74 ≤ mc ∧ (n21 + s69) + s75 ≤ ms) ∧ w_X5_age c74 s75 M b0 p3 x19 (fun _ _ => False) (fun x76 => ∀ J78 : Int32 → Prop, (∀ (x77 : Int32), (∀ x79, x79 = x18 + (x71 + x77) → ∀ x80, x80 = x19 + 1 → K22 (x79, x80, k20 + c68 + c74, n21 + s69 + s75)) → J78 x77) → ((x76 = (-1) → J78 0) ∧ (¬ (x76 = (-1)) → J78 1)))) → J72 x71) → ((x70 = (-1) → J72 0) ∧ (¬ (x70 = (-1)) → J72 1)))))) (x15, 0, 0 + c2 + c6 + c11, 0 + s3 + s7 + s12))))))))
set_option maxRecDepth 100000 in
set_option maxHeartbeats 8000000 in
theorem s_L_links (l : Launch) (D : va_G) (dA : Nat → ClassId) (htr : l.stackTraces = false) (mc ms : Nat) (M : Mem) (b0 : Nat) (b1 : Nat) (p2 : Int32) (p3 : Int32) (post : Mem → Int32 → Prop) (h : w_L_links mc ms M b0 b1 p2 p3 post) : CtN l D dA yL_links cL_links 7 (some .boolean) 8 [.ref b0, .ref b1, .int p2, .int p3] M mc ms (pI post) := by
  refine ct_ofN htr (by decide) (Nat.le_of_ble_eq_true rfl) ?_
  intro X hC hN hR
  show G X 7 M 0 0 0 [(0, .ref b0), (1, .ref b1), (2, .int p2), (3, .int p3)] []
  unfold w_L_links at h
  refine g_aload_n (r := (some b0)) hC 0 dL_links_0 rfl ?_
  refine g_iload_n hC 2 dL_links_1 rfl ?_
  obtain ⟨hc1, h⟩ := h
  obtain ⟨c2, s3, hc2, h⟩ := h
  refine gx_callV hC (As := [.int p2]) (fun l D dA ht => s_X5_tree l D dA ht _ _ _ _ _ _ _ h) wm_1_179 wm_1_176 wm_1_177 wm_1_178 wm_1_1 (by decide +kernel : plainY yX5_tree 1) kc5.1 kc5.2.1 dL_links_2 (by decide) (Nat.le_of_ble_eq_true rfl) hc1 (Or.inr hc2) ?_ ?_
  · exact fun M E h => h.elim
  · intro M9 v9 h
    obtain ⟨x4, rfl, h⟩ := h
    obtain ⟨hM9, h⟩ := h
    rw [hM9]
    show G X 7 M (0 + c2) (0 + s3) 5 [(0, .ref b0), (1, .ref b1), (2, .int p2), (3, .int p3)] [.int x4]
    refine g_iload_n hC 3 dL_links_5 rfl ?_
    refine g_ishr hC dL_links_6 ?_
    refine g_iconst (v := 1) hC dL_links_7 (by decide) ?_
    refine g_iand hC dL_links_8 ?_
    refine g_pc (pc' := 9) rfl ?_
    refine g_iconst (v := 1) hC dL_links_9 (by decide) ?_
    refine g_icmp_ne hC 32 dL_links_10 (by decide) (fun c96 => ?_) (fun c96 => ?_)
    · replace h := h.2 c96
      refine g_aload_n (r := (some b0)) hC 0 dL_links_32 rfl ?_
      refine g_iload_n hC 2 dL_links_33 rfl ?_
      obtain ⟨hc5, h⟩ := h
      obtain ⟨c6, s7, hc6, h⟩ := h
      refine gx_callV hC (As := [.int p2]) (fun l D dA ht => s_X5_known l D dA ht _ _ _ _ _ _ _ h) wm_2_41 wm_2_38 wm_2_39 wm_2_40 wm_1_1 (by decide +kernel : plainY yX5_known 1) kc5.1 kc5.2.1 dL_links_34 (by decide) (Nat.le_of_ble_eq_true rfl) hc5 (Or.inr hc6) ?_ ?_
      · exact fun M E h => h.elim
      · intro M9 v9 h
        obtain ⟨x8, rfl, h⟩ := h
        obtain ⟨hM9, h⟩ := h
        rw [hM9]
        show G X 7 M (0 + c2 + c6) (0 + s3 + s7) 37 [(0, .ref b0), (1, .ref b1), (2, .int p2), (3, .int p3)] [.int x8]
        refine g_callS hC (As := [.int x8]) (fun l D dA ht => s_L_count l D dA ht _ _ _ h) wm_2_44 wm_2_42 wm_2_43 wm_1_0 (by decide +kernel : plainY yL_count 1) dL_links_37 (by decide) (Nat.le_of_ble_eq_true rfl) (Or.inl ⟨rfl, rfl⟩) ?_
        intro M9 v9 h
        obtain ⟨x9, rfl, h⟩ := h
        obtain ⟨hM9, h⟩ := h
        rw [hM9]
        show G X 7 M (0 + c2 + c6) (0 + s3 + s7) 40 [(0, .ref b0), (1, .ref b1), (2, .int p2), (3, .int p3)] [.int x9]
        refine g_aload_n (r := (some b0)) hC 0 dL_links_40 rfl ?_
        refine g_iload_n hC 3 dL_links_41 rfl ?_
        refine g_pc (pc' := 42) rfl ?_
        obtain ⟨hc10, h⟩ := h
        obtain ⟨c11, s12, hc11, h⟩ := h
        refine gx_callV hC (As := [.int p3]) (fun l D dA ht => s_X5_known l D dA ht _ _ _ _ _ _ _ h) wm_2_41 wm_2_38 wm_2_39 wm_2_40 wm_1_1 (by decide +kernel : plainY yX5_known 1) kc5.1 kc5.2.1 dL_links_42 (by decide) (Nat.le_of_ble_eq_true rfl) hc10 (Or.inr hc11) ?_ ?_
        · exact fun M E h => h.elim
        · intro M9 v9 h
          obtain ⟨x13, rfl, h⟩ := h
          obtain ⟨hM9, h⟩ := h
          rw [hM9]
          show G X 7 M (0 + c2 + c6 + c11) (0 + s3 + s7 + s12) 45 [(0, .ref b0), (1, .ref b1), (2, .int p2), (3, .int p3)] [.int x13, .int x9]
          refine g_callS hC (As := [.int x13]) (fun l D dA ht => s_L_count l D dA ht _ _ _ h) wm_2_44 wm_2_42 wm_2_43 wm_1_0 (by decide +kernel : plainY yL_count 1) dL_links_45 (by decide) (Nat.le_of_ble_eq_true rfl) (Or.inl ⟨rfl, rfl⟩) ?_
          intro M9 v9 h
          obtain ⟨x14, rfl, h⟩ := h
          obtain ⟨hM9, h⟩ := h
          rw [hM9]
          show G X 7 M (0 + c2 + c6 + c11) (0 + s3 + s7 + s12) 48 [(0, .ref b0), (1, .ref b1), (2, .int p2), (3, .int p3)] [.int x14, .int x9]
          refine g_iadd hC dL_links_48 ?_
          obtain ⟨x15, ex15⟩ : ∃ w, w = x9 + x14 := ⟨_, rfl⟩
          replace h := h x15 ex15
          rw [← ex15]
          refine g_istore (lv' := [(4, .int x15), (0, .ref b0), (1, .ref b1), (2, .int p2), (3, .int p3)]) hC dL_links_49 (by decide) rfl ?_
          refine g_aload_n (r := (some b0)) hC 1 dL_links_51 rfl ?_
          obtain ⟨hc16, h⟩ := h
          refine g_callV hC (As := []) (fun l D dA ht => s_X5_lines l D dA ht _ _ _ h) wm_1_175 wm_1_172 wm_1_173 wm_1_174 wm_1_1 (by decide +kernel : plainY yX5_lines 0) kc5.1 kc5.2.1 dL_links_52 (by decide) (Nat.le_of_ble_eq_true rfl) hc16 (Or.inl ⟨rfl, rfl⟩) ?_
          intro M9 v9 h
          obtain ⟨x17, rfl, h⟩ := h
          obtain ⟨hM9, h⟩ := h
          rw [hM9]
          show G X 7 M (0 + c2 + c6 + c11) (0 + s3 + s7 + s12) 55 [(4, .int x15), (0, .ref b0), (1, .ref b1), (2, .int p2), (3, .int p3)] [.int x17]
          refine g_istore (lv' := [(5, .int x17), (4, .int x15), (0, .ref b0), (1, .ref b1), (2, .int p2), (3, .int p3)]) hC dL_links_55 (by decide) rfl ?_
          refine g_iconst (v := 0) hC dL_links_57 (by decide) ?_
          refine g_pc (pc' := 58) rfl ?_
          refine g_istore (lv' := [(6, .int 0), (5, .int x17), (4, .int x15), (0, .ref b0), (1, .ref b1), (2, .int p2), (3, .int p3)]) hC dL_links_58 (by decide) rfl ?_
          refine g_sub [3, 4, 5, 6, 2, 1, 0] (lv' := [(0, .ref b0), (1, .ref b1), (2, .int p2), (3, .int p3), (4, .int x15), (5, .int x17), (6, .int 0)]) rfl ?_
          refine Lp_use (fun (z84 : Int32 × Int32 × Nat × Nat) => G X 7 M z84.2.2.1 z84.2.2.2 60 [(0, .ref b0), (1, .ref b1), (2, .int p2), (3, .int p3), (4, .int z84.1), (5, .int x17), (6, .int z84.2.1)] []) h ?_
          intro K22 z hK_K22 h
          obtain ⟨x18, x19, k20, n21⟩ := z
          replace h := h _ _ _ _ rfl
          show G X 7 M k20 n21 60 [(0, .ref b0), (1, .ref b1), (2, .int p2), (3, .int p3), (4, .int x18), (5, .int x17), (6, .int x19)] []
          refine g_iload hC 6 dL_links_60 rfl ?_
          refine g_iconst (v := 4) hC dL_links_62 (by decide) ?_
          refine g_icmp_ge hC 110 dL_links_63 (by decide) (fun c83 => ?_) (fun c83 => ?_)
          · replace h := h.1 c83
            refine g_aload_n (r := (some b0)) hC 0 dL_links_110 rfl ?_
            refine g_iload_n hC 2 dL_links_111 rfl ?_
            obtain ⟨hc23, h⟩ := h
            obtain ⟨c24, s25, hc24, h⟩ := h
            refine gx_callV hC (As := [.int p2]) (fun l D dA ht => s_X5_tree l D dA ht _ _ _ _ _ _ _ h) wm_1_179 wm_1_176 wm_1_177 wm_1_178 wm_1_1 (by decide +kernel : plainY yX5_tree 1) kc5.1 kc5.2.1 dL_links_112 (by decide) (Nat.le_of_ble_eq_true rfl) hc23 (Or.inr hc24) ?_ ?_
            · exact fun M E h => h.elim
            · intro M9 v9 h
              obtain ⟨x26, rfl, h⟩ := h
              obtain ⟨hM9, h⟩ := h
              rw [hM9]
              show G X 7 M (k20 + c24) (n21 + s25) 115 [(0, .ref b0), (1, .ref b1), (2, .int p2), (3, .int p3), (4, .int x18), (5, .int x17), (6, .int x19)] [.int x26]
              refine g_aload_n (r := (some b0)) hC 0 dL_links_115 rfl ?_
              refine g_pc (pc' := 116) rfl ?_
              refine g_iload_n hC 3 dL_links_116 rfl ?_
              obtain ⟨hc27, h⟩ := h
              obtain ⟨c28, s29, hc28, h⟩ := h
              refine gx_callV hC (As := [.int p3]) (fun l D dA ht => s_X5_tree l D dA ht _ _ _ _ _ _ _ h) wm_1_179 wm_1_176 wm_1_177 wm_1_178 wm_1_1 (by decide +kernel : plainY yX5_tree 1) kc5.1 kc5.2.1 dL_links_117 (by decide) (Nat.le_of_ble_eq_true rfl) hc27 (Or.inr hc28) ?_ ?_
              · exact fun M E h => h.elim
              · intro M9 v9 h
                obtain ⟨x30, rfl, h⟩ := h
                obtain ⟨hM9, h⟩ := h
                rw [hM9]
                show G X 7 M (k20 + c24 + c28) (n21 + s25 + s29) 120 [(0, .ref b0), (1, .ref b1), (2, .int p2), (3, .int p3), (4, .int x18), (5, .int x17), (6, .int x19)] [.int x30, .int x26]
                refine g_ior hC dL_links_120 ?_
                obtain ⟨x31, ex31⟩ : ∃ w, w = x26 ||| x30 := ⟨_, rfl⟩
                replace h := h x31 ex31
                rw [← ex31]
                refine g_istore (lv' := [(6, .int x31), (0, .ref b0), (1, .ref b1), (2, .int p2), (3, .int p3), (4, .int x18), (5, .int x17)]) hC dL_links_121 (by decide) rfl ?_
                refine g_aload_n (r := (some b1)) hC 2 dL_links_123 rfl ?_
                refine g_iconst (v := 0) hC dL_links_124 (by decide) ?_
                refine g_dup2 hC dL_links_125 rfl rfl ?_
                obtain ⟨hc32, h⟩ := h
                refine g_ialdA hC dL_links_126 hc32 ?_
                refine g_pc (pc' := 127) rfl ?_
                refine g_iconst (v := 1) hC dL_links_127 (by decide) ?_
                refine g_iadd hC dL_links_128 ?_
                obtain ⟨hc34, h⟩ := h
                refine g_iastA hC dL_links_129 hc34 ?_
                obtain ⟨M33, eM33⟩ : ∃ w, w = sI M b1 (Int32.toNatClampNeg 0) ((gI M b1 (Int32.toNatClampNeg 0)) + 1) := ⟨_, rfl⟩
                replace h := h M33 eM33
                rw [← eM33]
                refine g_aload_n (r := (some b1)) hC 2 dL_links_130 rfl ?_
                refine g_iconst (v := 2) hC dL_links_131 (by decide) ?_
                refine g_iload_n hC 3 dL_links_132 rfl ?_
                refine g_iadd hC dL_links_133 ?_
                refine g_dup2 hC dL_links_134 rfl rfl ?_
                obtain ⟨hc35, h⟩ := h
                refine g_pc (pc' := 135) rfl ?_
                refine g_ialdA hC dL_links_135 hc35 ?_
                refine g_iconst (v := 1) hC dL_links_136 (by decide) ?_
                refine g_iload_n hC 4 dL_links_137 rfl ?_
                refine g_ishl hC dL_links_138 ?_
                refine g_ior hC dL_links_139 ?_
                obtain ⟨hc37, h⟩ := h
                refine g_iastA hC dL_links_140 hc37 ?_
                obtain ⟨M36, eM36⟩ : ∃ w, w = sI M33 b1 (Int32.toNatClampNeg (2 + p2)) ((gI M33 b1 (Int32.toNatClampNeg (2 + p2))) ||| (1 <<< (p3 &&& 31))) := ⟨_, rfl⟩
                replace h := h M36 eM36
                rw [← eM36]
                refine g_aload_n (r := (some b1)) hC 2 dL_links_141 rfl ?_
                refine g_iconst (v := 2) hC dL_links_142 (by decide) ?_
                refine g_pc (pc' := 143) rfl ?_
                refine g_iload_n hC 4 dL_links_143 rfl ?_
                refine g_iadd hC dL_links_144 ?_
                refine g_dup2 hC dL_links_145 rfl rfl ?_
                obtain ⟨hc38, h⟩ := h
                refine g_ialdA hC dL_links_146 hc38 ?_
                refine g_iconst (v := 1) hC dL_links_147 (by decide) ?_
                refine g_iload_n hC 3 dL_links_148 rfl ?_
                refine g_ishl hC dL_links_149 ?_
                refine g_ior hC dL_links_150 ?_
                obtain ⟨hc40, h⟩ := h
                refine g_pc (pc' := 151) rfl ?_
                refine g_iastA hC dL_links_151 hc40 ?_
                obtain ⟨M39, eM39⟩ : ∃ w, w = sI M36 b1 (Int32.toNatClampNeg (2 + p3)) ((gI M36 b1 (Int32.toNatClampNeg (2 + p3))) ||| (1 <<< (p2 &&& 31))) := ⟨_, rfl⟩
                replace h := h M39 eM39
                rw [← eM39]
                refine g_aload_n (r := (some b0)) hC 1 dL_links_152 rfl ?_
                refine g_iload_n hC 3 dL_links_153 rfl ?_
                refine g_iload_n hC 4 dL_links_154 rfl ?_
                obtain ⟨hc41, h⟩ := h
                obtain ⟨c42, s43, hc42, h⟩ := h
                refine gx_callV hC (As := [.int p2, .int p3]) (fun l D dA ht => s_X5_link l D dA ht _ _ _ _ _ _ _ _ h) wm_2_56 wm_2_53 wm_2_54 wm_2_55 wm_1_1 (by decide +kernel : plainY yX5_link 2) kc5.1 kc5.2.1 dL_links_155 (by decide) (Nat.le_of_ble_eq_true rfl) hc41 (Or.inr hc42) ?_ ?_
                · exact fun M E h => h.elim
                · intro M9 v9 h
                  obtain ⟨x45, rfl, h⟩ := h
                  generalize M9 = M44 at h ⊢
                  show G X 7 M44 (k20 + c24 + c28 + c42) (n21 + s25 + s29 + s43) 158 [(6, .int x31), (0, .ref b0), (1, .ref b1), (2, .int p2), (3, .int p3), (4, .int x18), (5, .int x17)] [.int x45]
                  refine g_iload hC 5 dL_links_158 rfl ?_
                  replace h := h (fun (x46 : Int32) (k47 : Nat) (n48 : Nat) => G X 7 M44 k47 n48 200 [(0, .ref b0), (1, .ref b1), (2, .int p2), (3, .int p3), (4, .int x18), (5, .int x17), (6, .int x31)] [.int x46]) (by
                    intro x46 k47 n48 h
                    show G X 7 M44 k47 n48 200 [(0, .ref b0), (1, .ref b1), (2, .int p2), (3, .int p3), (4, .int x18), (5, .int x17), (6, .int x31)] [.int x46]
                    exact hR.2.2.1 rfl _ _ _ _ _ _ dL_links_200 ⟨h.1, ⟨_, rfl, h.2⟩⟩)
                  replace h := h (fun (k50 : Nat) (n51 : Nat) => G X 7 M44 k50 n51 199 [(0, .ref b0), (1, .ref b1), (2, .int p2), (3, .int p3), (4, .int x18), (5, .int x17), (6, .int x31)] []) (by
                    intro k50 n51 h
                    show G X 7 M44 k50 n51 199 [(0, .ref b0), (1, .ref b1), (2, .int p2), (3, .int p3), (4, .int x18), (5, .int x17), (6, .int x31)] []
                    refine g_iconst (v := 0) hC dL_links_199 (by decide) ?_
                    exact h)
                  refine g_icmp_ne hC 199 dL_links_160 (by decide) (fun c66 => ?_) (fun c66 => ?_)
                  · replace h := h.2 c66
                    refine g_sub [1, 2, 3, 4, 5, 6, 0] (lv' := [(0, .ref b0), (1, .ref b1), (2, .int p2), (3, .int p3), (4, .int x18), (5, .int x17), (6, .int x31)]) rfl ?_
                    exact h
                  · replace h := h.1 c66
                    refine g_aload_n (r := (some b0)) hC 1 dL_links_163 rfl ?_
                    refine g_pc (pc' := 164) rfl ?_
                    obtain ⟨hc53, h⟩ := h
                    refine g_callV hC (As := []) (fun l D dA ht => s_X5_lines l D dA ht _ _ _ h) wm_1_175 wm_1_172 wm_1_173 wm_1_174 wm_1_1 (by decide +kernel : plainY yX5_lines 0) kc5.1 kc5.2.1 dL_links_164 (by decide) (Nat.le_of_ble_eq_true rfl) hc53 (Or.inl ⟨rfl, rfl⟩) ?_
                    intro M9 v9 h
                    obtain ⟨x54, rfl, h⟩ := h
                    obtain ⟨hM9, h⟩ := h
                    rw [hM9]
                    show G X 7 M44 (k20 + c24 + c28 + c42) (n21 + s25 + s29 + s43) 167 [(6, .int x31), (0, .ref b0), (1, .ref b1), (2, .int p2), (3, .int p3), (4, .int x18), (5, .int x17)] [.int x54]
                    refine g_iload hC 6 dL_links_167 rfl ?_
                    refine g_iload hC 5 dL_links_169 rfl ?_
                    refine g_iadd hC dL_links_171 ?_
                    refine g_icmp_ne hC 199 dL_links_172 (by decide) (fun c65 => ?_) (fun c65 => ?_)
                    · replace h := h.2 c65
                      refine g_sub [1, 2, 3, 4, 5, 6, 0] (lv' := [(0, .ref b0), (1, .ref b1), (2, .int p2), (3, .int p3), (4, .int x18), (5, .int x17), (6, .int x31)]) rfl ?_
                      exact h
                    · replace h := h.1 c65
                      refine g_aload_n (r := (some b0)) hC 1 dL_links_175 rfl ?_
                      refine g_iload_n hC 3 dL_links_176 rfl ?_
                      obtain ⟨hc55, h⟩ := h
                      obtain ⟨c56, s57, hc56, h⟩ := h
                      refine gx_callV hC (As := [.int p2]) (fun l D dA ht => s_X5_tree l D dA ht _ _ _ _ _ _ _ h) wm_1_179 wm_1_176 wm_1_177 wm_1_178 wm_1_1 (by decide +kernel : plainY yX5_tree 1) kc5.1 kc5.2.1 dL_links_177 (by decide) (Nat.le_of_ble_eq_true rfl) hc55 (Or.inr hc56) ?_ ?_
                      · exact fun M E h => h.elim
                      · intro M9 v9 h
                        obtain ⟨x58, rfl, h⟩ := h
                        obtain ⟨hM9, h⟩ := h
                        rw [hM9]
                        show G X 7 M44 (k20 + c24 + c28 + c42 + c56) (n21 + s25 + s29 + s43 + s57) 180 [(6, .int x31), (0, .ref b0), (1, .ref b1), (2, .int p2), (3, .int p3), (4, .int x18), (5, .int x17)] [.int x58]
                        refine g_pc (pc' := 180) rfl ?_
                        refine g_iload hC 0 dL_links_180 rfl ?_
                        refine g_icmp_ne hC 199 dL_links_182 (by decide) (fun c64 => ?_) (fun c64 => ?_)
                        · replace h := h.2 c64
                          refine g_sub [1, 2, 3, 4, 5, 6, 0] (lv' := [(0, .ref b0), (1, .ref b1), (2, .int p2), (3, .int p3), (4, .int x18), (5, .int x17), (6, .int x31)]) rfl ?_
                          exact h
                        · replace h := h.1 c64
                          refine g_aload_n (r := (some b0)) hC 1 dL_links_185 rfl ?_
                          refine g_iload_n hC 4 dL_links_186 rfl ?_
                          obtain ⟨hc59, h⟩ := h
                          obtain ⟨c60, s61, hc60, h⟩ := h
                          refine gx_callV hC (As := [.int p3]) (fun l D dA ht => s_X5_tree l D dA ht _ _ _ _ _ _ _ h) wm_1_179 wm_1_176 wm_1_177 wm_1_178 wm_1_1 (by decide +kernel : plainY yX5_tree 1) kc5.1 kc5.2.1 dL_links_187 (by decide) (Nat.le_of_ble_eq_true rfl) hc59 (Or.inr hc60) ?_ ?_
                          · exact fun M E h => h.elim
                          · intro M9 v9 h
                            obtain ⟨x62, rfl, h⟩ := h
                            obtain ⟨hM9, h⟩ := h
                            rw [hM9]
                            show G X 7 M44 (k20 + c24 + c28 + c42 + c56 + c60) (n21 + s25 + s29 + s43 + s57 + s61) 190 [(6, .int x31), (0, .ref b0), (1, .ref b1), (2, .int p2), (3, .int p3), (4, .int x18), (5, .int x17)] [.int x62]
                            refine g_iload hC 0 dL_links_190 rfl ?_
                            refine g_icmp_ne hC 199 dL_links_192 (by decide) (fun c63 => ?_) (fun c63 => ?_)
                            · replace h := h.2 c63
                              refine g_sub [1, 2, 3, 4, 5, 6, 0] (lv' := [(0, .ref b0), (1, .ref b1), (2, .int p2), (3, .int p3), (4, .int x18), (5, .int x17), (6, .int x31)]) rfl ?_
                              exact h
                            · replace h := h.1 c63
                              refine g_iconst (v := 1) hC dL_links_195 (by decide) ?_
                              refine g_pc (pc' := 196) rfl ?_
                              refine g_goto hC 200 dL_links_196 (by decide) ?_
                              refine g_sub [1, 2, 3, 4, 5, 6, 0] (lv' := [(0, .ref b0), (1, .ref b1), (2, .int p2), (3, .int p3), (4, .int x18), (5, .int x17), (6, .int x31)]) rfl ?_
                              exact h
          · replace h := h.2 c83
            refine g_iload hC 4 dL_links_66 rfl ?_
            refine g_aload_n (r := (some b0)) hC 0 dL_links_68 rfl ?_
            refine g_iload_n hC 2 dL_links_69 rfl ?_
            refine g_iload hC 6 dL_links_70 rfl ?_
            refine g_pc (pc' := 72) rfl ?_
            obtain ⟨hc67, h⟩ := h
            obtain ⟨c68, s69, hc68, h⟩ := h
            refine gx_callV hC (As := [.int p2, .int x19]) (fun l D dA ht => s_X5_age l D dA ht _ _ _ _ _ _ _ _ h) wm_2_48 wm_2_45 wm_2_46 wm_2_47 wm_1_1 (by decide +kernel : plainY yX5_age 2) kc5.1 kc5.2.1 dL_links_72 (by decide) (Nat.le_of_ble_eq_true rfl) hc67 (Or.inr hc68) ?_ ?_
            · exact fun M E h => h.elim
            · intro M9 v9 h
              obtain ⟨x70, rfl, h⟩ := h
              obtain ⟨hM9, h⟩ := h
              rw [hM9]
              show G X 7 M (k20 + c68) (n21 + s69) 75 [(0, .ref b0), (1, .ref b1), (2, .int p2), (3, .int p3), (4, .int x18), (5, .int x17), (6, .int x19)] [.int x70, .int x18]
              refine g_iconst (v := (-1)) hC dL_links_75 (by decide) ?_
              replace h := h (fun (x71 : Int32) => G X 7 M (k20 + c68) (n21 + s69) 84 [(0, .ref b0), (1, .ref b1), (2, .int p2), (3, .int p3), (4, .int x18), (5, .int x17), (6, .int x19)] [.int x71, .int x18]) (by
                intro x71 h
                show G X 7 M (k20 + c68) (n21 + s69) 84 [(0, .ref b0), (1, .ref b1), (2, .int p2), (3, .int p3), (4, .int x18), (5, .int x17), (6, .int x19)] [.int x71, .int x18]
                refine g_aload_n (r := (some b0)) hC 0 dL_links_84 rfl ?_
                refine g_iload_n hC 3 dL_links_85 rfl ?_
                refine g_iload hC 6 dL_links_86 rfl ?_
                obtain ⟨hc73, h⟩ := h
                obtain ⟨c74, s75, hc74, h⟩ := h
                refine gx_callV hC (As := [.int p3, .int x19]) (fun l D dA ht => s_X5_age l D dA ht _ _ _ _ _ _ _ _ h) wm_2_48 wm_2_45 wm_2_46 wm_2_47 wm_1_1 (by decide +kernel : plainY yX5_age 2) kc5.1 kc5.2.1 dL_links_88 (by decide) (Nat.le_of_ble_eq_true rfl) hc73 (Or.inr hc74) ?_ ?_
                · exact fun M E h => h.elim
                · intro M9 v9 h
                  obtain ⟨x76, rfl, h⟩ := h
                  obtain ⟨hM9, h⟩ := h
                  rw [hM9]
                  show G X 7 M (k20 + c68 + c74) (n21 + s69 + s75) 91 [(0, .ref b0), (1, .ref b1), (2, .int p2), (3, .int p3), (4, .int x18), (5, .int x17), (6, .int x19)] [.int x76, .int x71, .int x18]
                  refine g_iconst (v := (-1)) hC dL_links_91 (by decide) ?_
                  replace h := h (fun (x77 : Int32) => G X 7 M (k20 + c68 + c74) (n21 + s69 + s75) 100 [(0, .ref b0), (1, .ref b1), (2, .int p2), (3, .int p3), (4, .int x18), (5, .int x17), (6, .int x19)] [.int x77, .int x71, .int x18]) (by
                    intro x77 h
                    show G X 7 M (k20 + c68 + c74) (n21 + s69 + s75) 100 [(0, .ref b0), (1, .ref b1), (2, .int p2), (3, .int p3), (4, .int x18), (5, .int x17), (6, .int x19)] [.int x77, .int x71, .int x18]
                    refine g_iadd hC dL_links_100 ?_
                    refine g_pc (pc' := 101) rfl ?_
                    refine g_iadd hC dL_links_101 ?_
                    obtain ⟨x79, ex79⟩ : ∃ w, w = x18 + (x71 + x77) := ⟨_, rfl⟩
                    replace h := h x79 ex79
                    rw [← ex79]
                    refine g_istore (lv' := [(4, .int x79), (0, .ref b0), (1, .ref b1), (2, .int p2), (3, .int p3), (5, .int x17), (6, .int x19)]) hC dL_links_102 (by decide) rfl ?_
                    obtain ⟨x80, ex80⟩ : ∃ w, w = x19 + 1 := ⟨_, rfl⟩
                    replace h := h x80 ex80
                    refine g_iinc (v := x80) (lv' := [(6, .int x80), (4, .int x79), (0, .ref b0), (1, .ref b1), (2, .int p2), (3, .int p3), (5, .int x17)]) hC 6 dL_links_104 rfl (by rw [ex80]; rfl) (by decide) rfl ?_
                    refine g_goto hC 60 dL_links_107 (by decide) ?_
                    refine g_sub [2, 3, 4, 5, 1, 6, 0] (lv' := [(0, .ref b0), (1, .ref b1), (2, .int p2), (3, .int p3), (4, .int x79), (5, .int x17), (6, .int x80)]) rfl ?_
                    exact hK_K22 _ h)
                  refine g_icmp_ne hC 99 dL_links_92 (by decide) (fun c81 => ?_) (fun c81 => ?_)
                  · replace h := h.2 c81
                    refine g_pc (pc' := 99) rfl ?_
                    refine g_iconst (v := 1) hC dL_links_99 (by decide) ?_
                    exact h
                  · replace h := h.1 c81
                    refine g_pc (pc' := 95) rfl ?_
                    refine g_iconst (v := 0) hC dL_links_95 (by decide) ?_
                    refine g_goto hC 100 dL_links_96 (by decide) ?_
                    exact h)
              refine g_icmp_ne hC 83 dL_links_76 (by decide) (fun c82 => ?_) (fun c82 => ?_)
              · replace h := h.2 c82
                refine g_iconst (v := 1) hC dL_links_83 (by decide) ?_
                exact h
              · replace h := h.1 c82
                refine g_iconst (v := 0) hC dL_links_79 (by decide) ?_
                refine g_goto hC 84 dL_links_80 (by decide) ?_
                exact h
    · replace h := h.1 c96
      refine g_aload_n (r := (some b0)) hC 0 dL_links_13 rfl ?_
      refine g_iload_n hC 2 dL_links_14 rfl ?_
      obtain ⟨hc85, h⟩ := h
      obtain ⟨c86, s87, hc86, h⟩ := h
      refine gx_callV hC (As := [.int p2]) (fun l D dA ht => s_X5_tree l D dA ht _ _ _ _ _ _ _ h) wm_1_179 wm_1_176 wm_1_177 wm_1_178 wm_1_1 (by decide +kernel : plainY yX5_tree 1) kc5.1 kc5.2.1 dL_links_15 (by decide) (Nat.le_of_ble_eq_true rfl) hc85 (Or.inr hc86) ?_ ?_
      · exact fun M E h => h.elim
      · intro M9 v9 h
        obtain ⟨x88, rfl, h⟩ := h
        obtain ⟨hM9, h⟩ := h
        rw [hM9]
        show G X 7 M (0 + c2 + c86) (0 + s3 + s87) 18 [(0, .ref b0), (1, .ref b1), (2, .int p2), (3, .int p3)] [.int x88]
        refine g_aload_n (r := (some b0)) hC 0 dL_links_18 rfl ?_
        refine g_iload_n hC 3 dL_links_19 rfl ?_
        obtain ⟨hc89, h⟩ := h
        obtain ⟨c90, s91, hc90, h⟩ := h
        refine gx_callV hC (As := [.int p3]) (fun l D dA ht => s_X5_tree l D dA ht _ _ _ _ _ _ _ h) wm_1_179 wm_1_176 wm_1_177 wm_1_178 wm_1_1 (by decide +kernel : plainY yX5_tree 1) kc5.1 kc5.2.1 dL_links_20 (by decide) (Nat.le_of_ble_eq_true rfl) hc89 (Or.inr hc90) ?_ ?_
        · exact fun M E h => h.elim
        · intro M9 v9 h
          obtain ⟨x92, rfl, h⟩ := h
          obtain ⟨hM9, h⟩ := h
          rw [hM9]
          show G X 7 M (0 + c2 + c86 + c90) (0 + s3 + s87 + s91) 23 [(0, .ref b0), (1, .ref b1), (2, .int p2), (3, .int p3)] [.int x92, .int x88]
          replace h := h (fun (x93 : Int32) => G X 7 M (0 + c2 + c86 + c90) (0 + s3 + s87 + s91) 31 [(0, .ref b0), (1, .ref b1), (2, .int p2), (3, .int p3)] [.int x93]) (by
            intro x93 h
            show G X 7 M (0 + c2 + c86 + c90) (0 + s3 + s87 + s91) 31 [(0, .ref b0), (1, .ref b1), (2, .int p2), (3, .int p3)] [.int x93]
            refine g_pc (pc' := 31) rfl ?_
            exact hR.2.2.1 rfl _ _ _ _ _ _ dL_links_31 ⟨h.1, ⟨_, rfl, h.2⟩⟩)
          refine g_pc (pc' := 23) rfl ?_
          refine g_icmp_ne hC 30 dL_links_23 (by decide) (fun c95 => ?_) (fun c95 => ?_)
          · replace h := h.2 c95
            refine g_iconst (v := 0) hC dL_links_30 (by decide) ?_
            exact h
          · replace h := h.1 c95
            refine g_iconst (v := 1) hC dL_links_26 (by decide) ?_
            refine g_goto hC 31 dL_links_27 (by decide) ?_
            exact h

def w_L_isThere (mc ms : Nat) (M : Mem) (b0 : Nat) (b1 : Nat) (p2 : Int32) (post : Int32 → Prop) : Prop :=
  inA M b1 10 (28 + p2) ∧ gT M b0 = some (5, 0) ∧ ∃ c3 s4, (0 + c3 ≤ mc ∧ 0 + s4 ≤ ms) ∧ w_X5_known c3 s4 M b0 (gI M b1 (Int32.toNatClampNeg (28 + p2))) (fun _ _ => False) (fun x5 => ∀ J7 : Int32 → Prop, (∀ (x6 : Int32), (((x6 : Int32) = 0 ∨ (x6 : Int32) = 1) ∧ post x6) → J7 x6) → (((x5 >>> (p2 &&& 31)) &&& 1 = 1 → J7 1) ∧ (¬ ((x5 >>> (p2 &&& 31)) &&& 1 = 1) → J7 0)))
set_option maxRecDepth 100000 in
set_option maxHeartbeats 8000000 in
theorem s_L_isThere (l : Launch) (D : va_G) (dA : Nat → ClassId) (htr : l.stackTraces = false) (mc ms : Nat) (M : Mem) (b0 : Nat) (b1 : Nat) (p2 : Int32) (post : Int32 → Prop) (h : w_L_isThere mc ms M b0 b1 p2 post) : CtN l D dA yL_isThere cL_isThere 3 (some .boolean) 8 [.ref b0, .ref b1, .int p2] M mc ms (pI (fun M' r => M' = M ∧ post r)) := by
  refine ct_ofN htr (by decide) (Nat.le_of_ble_eq_true rfl) ?_
  intro X hC hN hR
  show G X 3 M 0 0 0 [(0, .ref b0), (1, .ref b1), (2, .int p2)] []
  unfold w_L_isThere at h
  refine g_aload_n (r := (some b0)) hC 0 dL_isThere_0 rfl ?_
  refine g_aload_n (r := (some b1)) hC 1 dL_isThere_1 rfl ?_
  refine g_bipush (v := 28) hC dL_isThere_2 (by decide) ?_
  refine g_iload_n hC 2 dL_isThere_4 rfl ?_
  refine g_iadd hC dL_isThere_5 ?_
  obtain ⟨hc1, h⟩ := h
  refine g_ialdA hC dL_isThere_6 hc1 ?_
  obtain ⟨hc2, h⟩ := h
  obtain ⟨c3, s4, hc3, h⟩ := h
  refine gx_callV hC (As := [.int (gI M b1 (Int32.toNatClampNeg (28 + p2)))]) (fun l D dA ht => s_X5_known l D dA ht _ _ _ _ _ _ _ h) wm_2_41 wm_2_38 wm_2_39 wm_2_40 wm_1_1 (by decide +kernel : plainY yX5_known 1) kc5.1 kc5.2.1 dL_isThere_7 (by decide) (Nat.le_of_ble_eq_true rfl) hc2 (Or.inr hc3) ?_ ?_
  · exact fun M E h => h.elim
  · intro M9 v9 h
    obtain ⟨x5, rfl, h⟩ := h
    obtain ⟨hM9, h⟩ := h
    rw [hM9]
    show G X 3 M (0 + c3) (0 + s4) 10 [(0, .ref b0), (1, .ref b1), (2, .int p2)] [.int x5]
    refine g_pc (pc' := 10) rfl ?_
    refine g_iload_n hC 2 dL_isThere_10 rfl ?_
    refine g_ishr hC dL_isThere_11 ?_
    refine g_iconst (v := 1) hC dL_isThere_12 (by decide) ?_
    refine g_iand hC dL_isThere_13 ?_
    refine g_iconst (v := 1) hC dL_isThere_14 (by decide) ?_
    replace h := h (fun (x6 : Int32) => G X 3 M (0 + c3) (0 + s4) 23 [(0, .ref b0), (1, .ref b1), (2, .int p2)] [.int x6]) (by
      intro x6 h
      show G X 3 M (0 + c3) (0 + s4) 23 [(0, .ref b0), (1, .ref b1), (2, .int p2)] [.int x6]
      exact hR.2.2.1 rfl _ _ _ _ _ _ dL_isThere_23 ⟨h.1, ⟨_, rfl, rfl, h.2⟩⟩)
    refine g_icmp_ne hC 22 dL_isThere_15 (by decide) (fun c8 => ?_) (fun c8 => ?_)
    · replace h := h.2 c8
      refine g_iconst (v := 0) hC dL_isThere_22 (by decide) ?_
      exact h
    · replace h := h.1 c8
      refine g_iconst (v := 1) hC dL_isThere_18 (by decide) ?_
      refine g_goto hC 23 dL_isThere_19 (by decide) ?_
      exact h

def w_L_delivers (mc ms : Nat) (M : Mem) (b0 : Nat) (b1 : Nat) (p2 : Int32) (post : Mem → Int32 → Prop) : Prop :=
  Lp (fun (K2 : Int32 → Prop) (z : Int32) => ∀ (x1 : Int32), z = x1 → (inA M b1 10 (2 + p2) ∧ (((gI M b1 (Int32.toNatClampNeg (2 + p2))) >>> (x1 &&& 31)) &&& 1 = 0 → ∀ x21, x21 = x1 + 1 → K2 x21) ∧ (¬ (((gI M b1 (Int32.toNatClampNeg (2 + p2))) >>> (x1 &&& 31)) &&& 1 = 0) → gT M b0 = some (5, 0) ∧ w_X5_lines M b0 (fun x5 => inA M b1 10 0 ∧ inA M b1 10 0 ∧ ∀ M7, M7 = sI M b1 (Int32.toNatClampNeg 0) ((gI M b1 (Int32.toNatClampNeg 0)) + 1) → gT M7 b0 = some (5, 0) ∧ ∃ c10 s11, (0 + c10 ≤ mc ∧ 0 + s11 ≤ ms) ∧ w_X5_deliver c10 s11 M7 b0 p2 x1 (fun _ _ => False) (fun M12 x13 => ∀ J15 : Int32 → Prop, (∀ (x14 : Int32), (((x14 : Int32) = 0 ∨ (x14 : Int32) = 1) ∧ post M12 x14) → J15 x14) → (∀ J16 : Prop, ((J15 0) → J16) → ((x13 < x5 - 1 → J16) ∧ (¬ (x13 < x5 - 1) → gT M12 b0 = some (5, 0) ∧ w_X5_lines M12 b0 (fun x18 => (x18 < x5 - 1 → J16) ∧ (¬ (x18 < x5 - 1) → J15 1)))))))))) 0
set_option maxRecDepth 100000 in
set_option maxHeartbeats 8000000 in
theorem s_L_delivers (l : Launch) (D : va_G) (dA : Nat → ClassId) (htr : l.stackTraces = false) (mc ms : Nat) (M : Mem) (b0 : Nat) (b1 : Nat) (p2 : Int32) (post : Mem → Int32 → Prop) (h : w_L_delivers mc ms M b0 b1 p2 post) : CtN l D dA yL_delivers cL_delivers 5 (some .boolean) 8 [.ref b0, .ref b1, .int p2] M mc ms (pI post) := by
  refine ct_ofN htr (by decide) (Nat.le_of_ble_eq_true rfl) ?_
  intro X hC hN hR
  show G X 5 M 0 0 0 [(0, .ref b0), (1, .ref b1), (2, .int p2)] []
  unfold w_L_delivers at h
  refine g_iconst (v := 0) hC dL_delivers_0 (by decide) ?_
  refine g_istore_n (lv' := [(3, .int 0), (0, .ref b0), (1, .ref b1), (2, .int p2)]) hC dL_delivers_1 (by decide) rfl ?_
  refine g_sub [1, 2, 3, 0] (lv' := [(0, .ref b0), (1, .ref b1), (2, .int p2), (3, .int 0)]) rfl ?_
  refine Lp_use (fun (z23 : Int32) => G X 5 M 0 0 2 [(0, .ref b0), (1, .ref b1), (2, .int p2), (3, .int z23)] []) h ?_
  intro K2 z hK_K2 h
  obtain ⟨x1, hz⟩ : ∃ w, w = z := ⟨_, rfl⟩; subst hz
  replace h := h _ rfl
  show G X 5 M 0 0 2 [(0, .ref b0), (1, .ref b1), (2, .int p2), (3, .int x1)] []
  refine g_aload_n (r := (some b1)) hC 1 dL_delivers_2 rfl ?_
  refine g_iconst (v := 2) hC dL_delivers_3 (by decide) ?_
  refine g_iload_n hC 2 dL_delivers_4 rfl ?_
  refine g_iadd hC dL_delivers_5 ?_
  obtain ⟨hc3, h⟩ := h
  refine g_ialdA hC dL_delivers_6 hc3 ?_
  refine g_pc (pc' := 7) rfl ?_
  refine g_iload_n hC 3 dL_delivers_7 rfl ?_
  refine g_ishr hC dL_delivers_8 ?_
  refine g_iconst (v := 1) hC dL_delivers_9 (by decide) ?_
  refine g_iand hC dL_delivers_10 ?_
  refine g_if_ne hC 20 dL_delivers_11 (by decide) (fun c22 => ?_) (fun c22 => ?_)
  · replace h := h.2 c22
    refine g_aload_n (r := (some b0)) hC 0 dL_delivers_20 rfl ?_
    obtain ⟨hc4, h⟩ := h
    refine g_callV hC (As := []) (fun l D dA ht => s_X5_lines l D dA ht _ _ _ h) wm_1_175 wm_1_172 wm_1_173 wm_1_174 wm_1_1 (by decide +kernel : plainY yX5_lines 0) kc5.1 kc5.2.1 dL_delivers_21 (by decide) (Nat.le_of_ble_eq_true rfl) hc4 (Or.inl ⟨rfl, rfl⟩) ?_
    intro M9 v9 h
    obtain ⟨x5, rfl, h⟩ := h
    obtain ⟨hM9, h⟩ := h
    rw [hM9]
    show G X 5 M 0 0 24 [(0, .ref b0), (1, .ref b1), (2, .int p2), (3, .int x1)] [.int x5]
    refine g_istore (lv' := [(4, .int x5), (0, .ref b0), (1, .ref b1), (2, .int p2), (3, .int x1)]) hC dL_delivers_24 (by decide) rfl ?_
    refine g_pc (pc' := 26) rfl ?_
    refine g_aload_n (r := (some b1)) hC 2 dL_delivers_26 rfl ?_
    refine g_iconst (v := 0) hC dL_delivers_27 (by decide) ?_
    refine g_dup2 hC dL_delivers_28 rfl rfl ?_
    obtain ⟨hc6, h⟩ := h
    refine g_ialdA hC dL_delivers_29 hc6 ?_
    refine g_iconst (v := 1) hC dL_delivers_30 (by decide) ?_
    refine g_iadd hC dL_delivers_31 ?_
    obtain ⟨hc8, h⟩ := h
    refine g_iastA hC dL_delivers_32 hc8 ?_
    obtain ⟨M7, eM7⟩ : ∃ w, w = sI M b1 (Int32.toNatClampNeg 0) ((gI M b1 (Int32.toNatClampNeg 0)) + 1) := ⟨_, rfl⟩
    replace h := h M7 eM7
    rw [← eM7]
    refine g_aload_n (r := (some b0)) hC 1 dL_delivers_33 rfl ?_
    refine g_pc (pc' := 34) rfl ?_
    refine g_iload_n hC 3 dL_delivers_34 rfl ?_
    refine g_iload_n hC 4 dL_delivers_35 rfl ?_
    obtain ⟨hc9, h⟩ := h
    obtain ⟨c10, s11, hc10, h⟩ := h
    refine gx_callV hC (As := [.int p2, .int x1]) (fun l D dA ht => s_X5_deliver l D dA ht _ _ _ _ _ _ _ _ h) wm_2_205 wm_2_202 wm_2_203 wm_2_204 wm_1_1 (by decide +kernel : plainY yX5_deliver 2) kc5.1 kc5.2.1 dL_delivers_36 (by decide) (Nat.le_of_ble_eq_true rfl) hc9 (Or.inr hc10) ?_ ?_
    · exact fun M E h => h.elim
    · intro M9 v9 h
      obtain ⟨x13, rfl, h⟩ := h
      generalize M9 = M12 at h ⊢
      show G X 5 M12 (0 + c10) (0 + s11) 39 [(4, .int x5), (0, .ref b0), (1, .ref b1), (2, .int p2), (3, .int x1)] [.int x13]
      refine g_iload hC 0 dL_delivers_39 rfl ?_
      refine g_iconst (v := 1) hC dL_delivers_41 (by decide) ?_
      refine g_isub hC dL_delivers_42 ?_
      replace h := h (fun (x14 : Int32) => G X 5 M12 (0 + c10) (0 + s11) 62 [(0, .ref b0), (1, .ref b1), (2, .int p2), (3, .int x1), (4, .int x5)] [.int x14]) (by
        intro x14 h
        show G X 5 M12 (0 + c10) (0 + s11) 62 [(0, .ref b0), (1, .ref b1), (2, .int p2), (3, .int x1), (4, .int x5)] [.int x14]
        exact hR.2.2.1 rfl _ _ _ _ _ _ dL_delivers_62 ⟨h.1, ⟨_, rfl, h.2⟩⟩)
      replace h := h (G X 5 M12 (0 + c10) (0 + s11) 61 [(0, .ref b0), (1, .ref b1), (2, .int p2), (3, .int x1), (4, .int x5)] []) (by
        intro h
        refine g_iconst (v := 0) hC dL_delivers_61 (by decide) ?_
        exact h)
      refine g_icmp_lt hC 61 dL_delivers_43 (by decide) (fun c20 => ?_) (fun c20 => ?_)
      · replace h := h.1 c20
        refine g_sub [1, 2, 3, 4, 0] (lv' := [(0, .ref b0), (1, .ref b1), (2, .int p2), (3, .int x1), (4, .int x5)]) rfl ?_
        exact h
      · replace h := h.2 c20
        refine g_aload_n (r := (some b0)) hC 1 dL_delivers_46 rfl ?_
        refine g_pc (pc' := 47) rfl ?_
        obtain ⟨hc17, h⟩ := h
        refine g_callV hC (As := []) (fun l D dA ht => s_X5_lines l D dA ht _ _ _ h) wm_1_175 wm_1_172 wm_1_173 wm_1_174 wm_1_1 (by decide +kernel : plainY yX5_lines 0) kc5.1 kc5.2.1 dL_delivers_47 (by decide) (Nat.le_of_ble_eq_true rfl) hc17 (Or.inl ⟨rfl, rfl⟩) ?_
        intro M9 v9 h
        obtain ⟨x18, rfl, h⟩ := h
        obtain ⟨hM9, h⟩ := h
        rw [hM9]
        show G X 5 M12 (0 + c10) (0 + s11) 50 [(4, .int x5), (0, .ref b0), (1, .ref b1), (2, .int p2), (3, .int x1)] [.int x18]
        refine g_iload hC 0 dL_delivers_50 rfl ?_
        refine g_iconst (v := 1) hC dL_delivers_52 (by decide) ?_
        refine g_isub hC dL_delivers_53 ?_
        refine g_icmp_lt hC 61 dL_delivers_54 (by decide) (fun c19 => ?_) (fun c19 => ?_)
        · replace h := h.1 c19
          refine g_sub [1, 2, 3, 4, 0] (lv' := [(0, .ref b0), (1, .ref b1), (2, .int p2), (3, .int x1), (4, .int x5)]) rfl ?_
          exact h
        · replace h := h.2 c19
          refine g_iconst (v := 1) hC dL_delivers_57 (by decide) ?_
          refine g_goto hC 62 dL_delivers_58 (by decide) ?_
          refine g_sub [1, 2, 3, 4, 0] (lv' := [(0, .ref b0), (1, .ref b1), (2, .int p2), (3, .int x1), (4, .int x5)]) rfl ?_
          exact h
  · replace h := h.1 c22
    obtain ⟨x21, ex21⟩ : ∃ w, w = x1 + 1 := ⟨_, rfl⟩
    replace h := h x21 ex21
    refine g_iinc (v := x21) (lv' := [(3, .int x21), (0, .ref b0), (1, .ref b1), (2, .int p2)]) hC 3 dL_delivers_14 rfl (by rw [ex21]; rfl) (by decide) rfl ?_
    refine g_goto hC 2 dL_delivers_17 (by decide) ?_
    refine g_sub [1, 2, 3, 0] (lv' := [(0, .ref b0), (1, .ref b1), (2, .int p2), (3, .int x21)]) rfl ?_
    exact hK_K2 _ h

def w_L_signs (mc ms : Nat) (M : Mem) (b0 : Nat) (b1 : Nat) (p2 : Int32) (p3 : Int32) (p4 : Int32) (post : Mem → Int32 → Prop) : Prop :=
  inA M b1 10 1 ∧ ∀ J3 : Int32 → Prop, (∀ (x2 : Int32), (Lp (fun (K8 : Int32 × Int32 × Nat × Nat → Prop) (z : Int32 × Int32 × Nat × Nat) => ∀ (x4 : Int32) (x5 : Int32) (k6 : Nat) (n7 : Nat), z = (x4, x5, k6, n7) → (inA M b1 10 1 ∧ ((gI M b1 (Int32.toNatClampNeg 1)) ≤ x5 → (x4 = 0 → gT M b0 = some (5, 0) ∧ w_X5_users M b0 (fun x76 => inA M b1 10 1 ∧ ∀ J79 : Int32 → Prop, (∀ (x78 : Int32), (((x78 : Int32) = 0 ∨ (x78 : Int32) = 1) ∧ post M x78) → J79 x78) → ((x76 = gI M b1 (Int32.toNatClampNeg 1) → J79 1) ∧ (¬ (x76 = gI M b1 (Int32.toNatClampNeg 1)) → J79 0)))) ∧ (¬ (x4 = 0) → inA M b1 10 1 ∧ ∀ x11, x11 = gI M b1 (Int32.toNatClampNeg 1) → gT M b0 = some (5, 0) ∧ w_X5_lines M b0 (fun x13 => inA M b1 10 (8 + x11) ∧ ∀ M14, M14 = sI M b1 (Int32.toNatClampNeg (8 + x11)) p3 → inA M14 b1 10 (28 + x11) ∧ ∀ M16, M16 = sI M14 b1 (Int32.toNatClampNeg (28 + x11)) p2 → inA M16 b1 10 0 ∧ inA M16 b1 10 0 ∧ ∀ M19, M19 = sI M16 b1 (Int32.toNatClampNeg 0) ((gI M16 b1 (Int32.toNatClampNeg 0)) + 1) → inA M19 b1 10 1 ∧ inA M19 b1 10 1 ∧ ∀ M22, M22 = sI M19 b1 (Int32.toNatClampNeg 1) ((gI M19 b1 (Int32.toNatClampNeg 1)) + 1) → ∀ J25 : Int32 → Prop, (∀ (x24 : Int32), (gT M22 b0 = some (5, 0) ∧ ∃ c27 s28, (k6 + c27 ≤ mc ∧ n7 + s28 ≤ ms) ∧ w_X5_signOn c27 s28 M22 b0 p2 (((x24 + p3).toUInt32 % 65536).toInt32) (fun _ _ => False) (fun M29 x30 => ∀ J34 : Int32 → Nat → Nat → Prop, (∀ (x31 : Int32) (k32 : Nat) (n33 : Nat), (∀ J39 : Int32 → Mem → Nat → Nat → Prop, (∀ (x35 : Int32) (M36 : Mem) (k37 : Nat) (n38 : Nat), (((x35 : Int32) = 0 ∨ (x35 : Int32) = 1) ∧ post M36 x35) → J39 x35 M36 k37 n38) → (∀ J43 : Mem → Nat → Nat → Prop, (∀ (M40 : Mem) (k41 : Nat) (n42 : Nat), (J39 0 M40 k41 n42) → J43 M40 k41 n42) → ((x31 = 0 → J43 M29 k32 n33) ∧ (¬ (x31 = 0) → inA M29 b1 10 (2 + p2) ∧ ∀ J48 : Mem → Nat → Nat → Prop, (∀ (M45 : Mem) (k46 : Nat) (n47 : Nat), (J39 1 M45 k46 n47) → J48 M45 k46 n47) → ((gI M29 b1 (Int32.toNatClampNeg (2 + p2)) = 0 → J48 M29 k32 n33) ∧ (¬ (gI M29 b1 (Int32.toNatClampNeg (2 + p2)) = 0) → (p4 = 0 → ∃ c49 s50, (k32 + c49 ≤ mc ∧ n33 + s50 ≤ ms) ∧ w_L_delivers c49 s50 M29 b0 b1 p2 (fun M51 x52 => (x52 = 0 → J43 M51 (k32 + c49) (n33 + s50)) ∧ (¬ (x52 = 0) → J48 M51 (k32 + c49) (n33 + s50)))) ∧ (¬ (p4 = 0) → J48 M29 k32 n33))))))) → J34 x31 k32 n33) → (∀ J59 : Nat → Nat → Prop, (∀ (k57 : Nat) (n58 : Nat), (J34 0 k57 n58) → J59 k57 n58) → ((x30 = x11 → gT M29 b0 = some (5, 0) ∧ w_X5_users M29 b0 (fun x61 => (x61 = x11 + 1 → gT M29 b0 = some (5, 0) ∧ ∃ c63 s64, ((k6 + c27) + c63 ≤ mc ∧ (n7 + s28) + s64 ≤ ms) ∧ w_X5_known c63 s64 M29 b0 p2 (fun _ _ => False) (fun x65 => ((x65 >>> (x11 &&& 31)) &&& 1 = 1 → gT M29 b0 = some (5, 0) ∧ w_X5_lines M29 b0 (fun x67 => inA M29 b1 10 (2 + p2) ∧ w_L_count M29 (gI M29 b1 (Int32.toNatClampNeg (2 + p2))) (fun x69 => (x67 = x13 + x69 → J34 1 (k6 + c27 + c63) (n7 + s28 + s64)) ∧ (¬ (x67 = x13 + x69) → J59 (k6 + c27 + c63) (n7 + s28 + s64))))) ∧ (¬ ((x65 >>> (x11 &&& 31)) &&& 1 = 1) → J59 (k6 + c27 + c63) (n7 + s28 + s64)))) ∧ (¬ (x61 = x11 + 1) → J59 (k6 + c27) (n7 + s28)))) ∧ (¬ (x30 = x11) → J59 (k6 + c27) (n7 + s28)))))) → J25 x24) → ((p4 = 0 → J25 65) ∧ (¬ (p4 = 0) → J25 97))))) ∧ (¬ ((gI M b1 (Int32.toNatClampNeg 1)) ≤ x5) → ∀ J85 : Int32 → Nat → Nat → Prop, (∀ (x82 : Int32) (k83 : Nat) (n84 : Nat), (∀ x86, x86 = x5 + 1 → K8 (x82, x86, k83, n84)) → J85 x82 k83 n84) → (∀ J89 : Nat → Nat → Prop, (∀ (k87 : Nat) (n88 : Nat), (J85 0 k87 n88) → J89 k87 n88) → ((x4 = 0 → J89 k6 n7) ∧ (¬ (x4 = 0) → gT M b0 = some (5, 0) ∧ ∃ c91 s92, (k6 + c91 ≤ mc ∧ n7 + s92 ≤ ms) ∧ w_X5_known c91 s92 M b0 p2 (fun _ _ => False) (fun x93 => ∀ J94 : Prop, ((J85 1 (k6 + c91) (n7 + s92)) → J94) → (((x93 >>> (x5 &&& 31)) &&& 1 = 0 → J94) ∧ (¬ ((x93 >>> (x5 &&& 31)) &&& 1 = 0) → inA M b1 10 (8 + x5) ∧ (gI M b1 (Int32.toNatClampNeg (8 + x5)) = p3 → J89 (k6 + c91) (n7 + s92)) ∧ (¬ (gI M b1 (Int32.toNatClampNeg (8 + x5)) = p3) → J94)))))))))) (x2, 0, 0, 0)) → J3 x2) → ((20 ≤ (gI M b1 (Int32.toNatClampNeg 1)) → J3 0) ∧ (¬ (20 ≤ (gI M b1 (Int32.toNatClampNeg 1))) → J3 1))
set_option maxRecDepth 100000 in
set_option maxHeartbeats 8000000 in
theorem s_L_signs (l : Launch) (D : va_G) (dA : Nat → ClassId) (htr : l.stackTraces = false) (mc ms : Nat) (M : Mem) (b0 : Nat) (b1 : Nat) (p2 : Int32) (p3 : Int32) (p4 : Int32) (post : Mem → Int32 → Prop) (h : w_L_signs mc ms M b0 b1 p2 p3 p4 post) : CtN l D dA yL_signs cL_signs 9 (some .boolean) 9 [.ref b0, .ref b1, .int p2, .int p3, .int p4] M mc ms (pI post) := by
  refine ct_ofN htr (by decide) (Nat.le_of_ble_eq_true rfl) ?_
  intro X hC hN hR
  show G X 9 M 0 0 0 [(0, .ref b0), (1, .ref b1), (2, .int p2), (3, .int p3), (4, .int p4)] []
  unfold w_L_signs at h
  refine g_aload_n (r := (some b1)) hC 1 dL_signs_0 rfl ?_
  refine g_iconst (v := 1) hC dL_signs_1 (by decide) ?_
  obtain ⟨hc1, h⟩ := h
  refine g_ialdA hC dL_signs_2 hc1 ?_
  refine g_bipush (v := 20) hC dL_signs_3 (by decide) ?_
  replace h := h (fun (x2 : Int32) => G X 9 M 0 0 13 [(0, .ref b0), (1, .ref b1), (2, .int p2), (3, .int p3), (4, .int p4)] [.int x2]) (by
    intro x2 h
    show G X 9 M 0 0 13 [(0, .ref b0), (1, .ref b1), (2, .int p2), (3, .int p3), (4, .int p4)] [.int x2]
    refine g_istore (lv' := [(5, .int x2), (0, .ref b0), (1, .ref b1), (2, .int p2), (3, .int p3), (4, .int p4)]) hC dL_signs_13 (by decide) rfl ?_
    refine g_iconst (v := 0) hC dL_signs_15 (by decide) ?_
    refine g_istore (lv' := [(6, .int 0), (5, .int x2), (0, .ref b0), (1, .ref b1), (2, .int p2), (3, .int p3), (4, .int p4)]) hC dL_signs_16 (by decide) rfl ?_
    refine g_sub [2, 3, 4, 5, 6, 1, 0] (lv' := [(0, .ref b0), (1, .ref b1), (2, .int p2), (3, .int p3), (4, .int p4), (5, .int x2), (6, .int 0)]) rfl ?_
    refine Lp_use (fun (z100 : Int32 × Int32 × Nat × Nat) => G X 9 M z100.2.2.1 z100.2.2.2 18 [(0, .ref b0), (1, .ref b1), (2, .int p2), (3, .int p3), (4, .int p4), (5, .int z100.1), (6, .int z100.2.1)] []) h ?_
    intro K8 z hK_K8 h
    obtain ⟨x4, x5, k6, n7⟩ := z
    replace h := h _ _ _ _ rfl
    show G X 9 M k6 n7 18 [(0, .ref b0), (1, .ref b1), (2, .int p2), (3, .int p3), (4, .int p4), (5, .int x4), (6, .int x5)] []
    refine g_pc (pc' := 18) rfl ?_
    refine g_iload hC 6 dL_signs_18 rfl ?_
    refine g_aload_n (r := (some b1)) hC 1 dL_signs_20 rfl ?_
    refine g_iconst (v := 1) hC dL_signs_21 (by decide) ?_
    obtain ⟨hc9, h⟩ := h
    refine g_ialdA hC dL_signs_22 hc9 ?_
    refine g_icmp_ge hC 68 dL_signs_23 (by decide) (fun c99 => ?_) (fun c99 => ?_)
    · replace h := h.1 c99
      refine g_iload hC 5 dL_signs_68 rfl ?_
      refine g_if_ne hC 89 dL_signs_70 (by decide) (fun c81 => ?_) (fun c81 => ?_)
      · replace h := h.2 c81
        refine g_aload_n (r := (some b1)) hC 1 dL_signs_89 rfl ?_
        refine g_pc (pc' := 90) rfl ?_
        refine g_iconst (v := 1) hC dL_signs_90 (by decide) ?_
        obtain ⟨hc10, h⟩ := h
        refine g_ialdA hC dL_signs_91 hc10 ?_
        obtain ⟨x11, ex11⟩ : ∃ w, w = gI M b1 (Int32.toNatClampNeg 1) := ⟨_, rfl⟩
        replace h := h x11 ex11
        rw [← ex11]
        refine g_istore (lv' := [(6, .int x11), (0, .ref b0), (1, .ref b1), (2, .int p2), (3, .int p3), (4, .int p4), (5, .int x4)]) hC dL_signs_92 (by decide) rfl ?_
        refine g_aload_n (r := (some b0)) hC 1 dL_signs_94 rfl ?_
        obtain ⟨hc12, h⟩ := h
        refine g_callV hC (As := []) (fun l D dA ht => s_X5_lines l D dA ht _ _ _ h) wm_1_175 wm_1_172 wm_1_173 wm_1_174 wm_1_1 (by decide +kernel : plainY yX5_lines 0) kc5.1 kc5.2.1 dL_signs_95 (by decide) (Nat.le_of_ble_eq_true rfl) hc12 (Or.inl ⟨rfl, rfl⟩) ?_
        intro M9 v9 h
        obtain ⟨x13, rfl, h⟩ := h
        obtain ⟨hM9, h⟩ := h
        rw [hM9]
        show G X 9 M k6 n7 98 [(6, .int x11), (0, .ref b0), (1, .ref b1), (2, .int p2), (3, .int p3), (4, .int p4), (5, .int x4)] [.int x13]
        refine g_istore (lv' := [(7, .int x13), (6, .int x11), (0, .ref b0), (1, .ref b1), (2, .int p2), (3, .int p3), (4, .int p4), (5, .int x4)]) hC dL_signs_98 (by decide) rfl ?_
        refine g_aload_n (r := (some b1)) hC 3 dL_signs_100 rfl ?_
        refine g_bipush (v := 8) hC dL_signs_101 (by decide) ?_
        refine g_pc (pc' := 103) rfl ?_
        refine g_iload hC 1 dL_signs_103 rfl ?_
        refine g_iadd hC dL_signs_105 ?_
        refine g_iload_n hC 5 dL_signs_106 rfl ?_
        obtain ⟨hc15, h⟩ := h
        refine g_iastA hC dL_signs_107 hc15 ?_
        obtain ⟨M14, eM14⟩ : ∃ w, w = sI M b1 (Int32.toNatClampNeg (8 + x11)) p3 := ⟨_, rfl⟩
        replace h := h M14 eM14
        rw [← eM14]
        refine g_aload_n (r := (some b1)) hC 3 dL_signs_108 rfl ?_
        refine g_bipush (v := 28) hC dL_signs_109 (by decide) ?_
        refine g_iload hC 1 dL_signs_111 rfl ?_
        refine g_iadd hC dL_signs_113 ?_
        refine g_pc (pc' := 114) rfl ?_
        refine g_iload_n hC 4 dL_signs_114 rfl ?_
        obtain ⟨hc17, h⟩ := h
        refine g_iastA hC dL_signs_115 hc17 ?_
        obtain ⟨M16, eM16⟩ : ∃ w, w = sI M14 b1 (Int32.toNatClampNeg (28 + x11)) p2 := ⟨_, rfl⟩
        replace h := h M16 eM16
        rw [← eM16]
        refine g_aload_n (r := (some b1)) hC 3 dL_signs_116 rfl ?_
        refine g_iconst (v := 0) hC dL_signs_117 (by decide) ?_
        refine g_dup2 hC dL_signs_118 rfl rfl ?_
        obtain ⟨hc18, h⟩ := h
        refine g_ialdA hC dL_signs_119 hc18 ?_
        refine g_iconst (v := 1) hC dL_signs_120 (by decide) ?_
        refine g_iadd hC dL_signs_121 ?_
        obtain ⟨hc20, h⟩ := h
        refine g_pc (pc' := 122) rfl ?_
        refine g_iastA hC dL_signs_122 hc20 ?_
        obtain ⟨M19, eM19⟩ : ∃ w, w = sI M16 b1 (Int32.toNatClampNeg 0) ((gI M16 b1 (Int32.toNatClampNeg 0)) + 1) := ⟨_, rfl⟩
        replace h := h M19 eM19
        rw [← eM19]
        refine g_aload_n (r := (some b1)) hC 3 dL_signs_123 rfl ?_
        refine g_iconst (v := 1) hC dL_signs_124 (by decide) ?_
        refine g_dup2 hC dL_signs_125 rfl rfl ?_
        obtain ⟨hc21, h⟩ := h
        refine g_ialdA hC dL_signs_126 hc21 ?_
        refine g_iconst (v := 1) hC dL_signs_127 (by decide) ?_
        refine g_iadd hC dL_signs_128 ?_
        obtain ⟨hc23, h⟩ := h
        refine g_iastA hC dL_signs_129 hc23 ?_
        obtain ⟨M22, eM22⟩ : ∃ w, w = sI M19 b1 (Int32.toNatClampNeg 1) ((gI M19 b1 (Int32.toNatClampNeg 1)) + 1) := ⟨_, rfl⟩
        replace h := h M22 eM22
        rw [← eM22]
        refine g_pc (pc' := 130) rfl ?_
        refine g_aload_n (r := (some b0)) hC 2 dL_signs_130 rfl ?_
        refine g_iload_n hC 4 dL_signs_131 rfl ?_
        refine g_iload hC 6 dL_signs_132 rfl ?_
        replace h := h (fun (x24 : Int32) => G X 9 M22 k6 n7 144 [(0, .ref b0), (1, .ref b1), (2, .int p2), (3, .int p3), (4, .int p4), (5, .int x4), (6, .int x11), (7, .int x13)] [.int x24, .int p2, .ref b0]) (by
          intro x24 h
          show G X 9 M22 k6 n7 144 [(0, .ref b0), (1, .ref b1), (2, .int p2), (3, .int p3), (4, .int p4), (5, .int x4), (6, .int x11), (7, .int x13)] [.int x24, .int p2, .ref b0]
          refine g_iload_n hC 3 dL_signs_144 rfl ?_
          refine g_iadd hC dL_signs_145 ?_
          refine g_i2c hC dL_signs_146 ?_
          obtain ⟨hc26, h⟩ := h
          obtain ⟨c27, s28, hc27, h⟩ := h
          refine gx_callV hC (As := [.int p2, .int (((x24 + p3).toUInt32 % 65536).toInt32)]) (fun l D dA ht => s_X5_signOn l D dA ht _ _ _ _ _ _ _ _ h) wm_2_164 wm_2_161 wm_2_162 wm_2_163 wm_1_1 (by decide +kernel : plainY yX5_signOn 2) kc5.1 kc5.2.1 dL_signs_147 (by decide) (Nat.le_of_ble_eq_true rfl) hc26 (Or.inr hc27) ?_ ?_
          · exact fun M E h => h.elim
          · intro M9 v9 h
            obtain ⟨x30, rfl, h⟩ := h
            generalize M9 = M29 at h ⊢
            show G X 9 M29 (k6 + c27) (n7 + s28) 150 [(0, .ref b0), (1, .ref b1), (2, .int p2), (3, .int p3), (4, .int p4), (5, .int x4), (6, .int x11), (7, .int x13)] [.int x30]
            refine g_iload hC 6 dL_signs_150 rfl ?_
            replace h := h (fun (x31 : Int32) (k32 : Nat) (n33 : Nat) => G X 9 M29 k32 n33 203 [(0, .ref b0), (1, .ref b1), (2, .int p2), (3, .int p3), (4, .int p4), (5, .int x4), (6, .int x11), (7, .int x13)] [.int x31]) (by
              intro x31 k32 n33 h
              show G X 9 M29 k32 n33 203 [(0, .ref b0), (1, .ref b1), (2, .int p2), (3, .int p3), (4, .int p4), (5, .int x4), (6, .int x11), (7, .int x13)] [.int x31]
              refine g_pc (pc' := 203) rfl ?_
              refine g_istore (lv' := [(8, .int x31), (0, .ref b0), (1, .ref b1), (2, .int p2), (3, .int p3), (4, .int p4), (5, .int x4), (6, .int x11), (7, .int x13)]) hC dL_signs_203 (by decide) rfl ?_
              refine g_iload hC 0 dL_signs_205 rfl ?_
              replace h := h (fun (x35 : Int32) (M36 : Mem) (k37 : Nat) (n38 : Nat) => G X 9 M36 k37 n38 237 [(0, .ref b0), (1, .ref b1), (2, .int p2), (3, .int p3), (4, .int p4), (5, .int x4), (6, .int x11), (7, .int x13), (8, .int x31)] [.int x35]) (by
                intro x35 M36 k37 n38 h
                show G X 9 M36 k37 n38 237 [(0, .ref b0), (1, .ref b1), (2, .int p2), (3, .int p3), (4, .int p4), (5, .int x4), (6, .int x11), (7, .int x13), (8, .int x31)] [.int x35]
                exact hR.2.2.1 rfl _ _ _ _ _ _ dL_signs_237 ⟨h.1, ⟨_, rfl, h.2⟩⟩)
              replace h := h (fun (M40 : Mem) (k41 : Nat) (n42 : Nat) => G X 9 M40 k41 n42 236 [(0, .ref b0), (1, .ref b1), (2, .int p2), (3, .int p3), (4, .int p4), (5, .int x4), (6, .int x11), (7, .int x13), (8, .int x31)] []) (by
                intro M40 k41 n42 h
                show G X 9 M40 k41 n42 236 [(0, .ref b0), (1, .ref b1), (2, .int p2), (3, .int p3), (4, .int p4), (5, .int x4), (6, .int x11), (7, .int x13), (8, .int x31)] []
                refine g_iconst (v := 0) hC dL_signs_236 (by decide) ?_
                exact h)
              refine g_if_eq hC 236 dL_signs_207 (by decide) (fun c56 => ?_) (fun c56 => ?_)
              · replace h := h.1 c56
                refine g_sub [1, 2, 3, 4, 5, 6, 7, 8, 0] (lv' := [(0, .ref b0), (1, .ref b1), (2, .int p2), (3, .int p3), (4, .int p4), (5, .int x4), (6, .int x11), (7, .int x13), (8, .int x31)]) rfl ?_
                exact h
              · replace h := h.2 c56
                refine g_aload_n (r := (some b1)) hC 2 dL_signs_210 rfl ?_
                refine g_iconst (v := 2) hC dL_signs_211 (by decide) ?_
                refine g_iload_n hC 3 dL_signs_212 rfl ?_
                refine g_iadd hC dL_signs_213 ?_
                obtain ⟨hc44, h⟩ := h
                refine g_ialdA hC dL_signs_214 hc44 ?_
                replace h := h (fun (M45 : Mem) (k46 : Nat) (n47 : Nat) => G X 9 M45 k46 n47 232 [(0, .ref b0), (1, .ref b1), (2, .int p2), (3, .int p3), (4, .int p4), (5, .int x4), (6, .int x11), (7, .int x13), (8, .int x31)] []) (by
                  intro M45 k46 n47 h
                  show G X 9 M45 k46 n47 232 [(0, .ref b0), (1, .ref b1), (2, .int p2), (3, .int p3), (4, .int p4), (5, .int x4), (6, .int x11), (7, .int x13), (8, .int x31)] []
                  refine g_pc (pc' := 232) rfl ?_
                  refine g_iconst (v := 1) hC dL_signs_232 (by decide) ?_
                  refine g_goto hC 237 dL_signs_233 (by decide) ?_
                  exact h)
                refine g_pc (pc' := 215) rfl ?_
                refine g_if_eq hC 232 dL_signs_215 (by decide) (fun c55 => ?_) (fun c55 => ?_)
                · replace h := h.1 c55
                  refine g_sub [1, 2, 3, 4, 5, 6, 7, 8, 0] (lv' := [(0, .ref b0), (1, .ref b1), (2, .int p2), (3, .int p3), (4, .int p4), (5, .int x4), (6, .int x11), (7, .int x13), (8, .int x31)]) rfl ?_
                  exact h
                · replace h := h.2 c55
                  refine g_iload hC 5 dL_signs_218 rfl ?_
                  refine g_if_ne hC 232 dL_signs_220 (by decide) (fun c54 => ?_) (fun c54 => ?_)
                  · replace h := h.2 c54
                    refine g_sub [1, 2, 3, 4, 5, 6, 7, 8, 0] (lv' := [(0, .ref b0), (1, .ref b1), (2, .int p2), (3, .int p3), (4, .int p4), (5, .int x4), (6, .int x11), (7, .int x13), (8, .int x31)]) rfl ?_
                    exact h
                  · replace h := h.1 c54
                    refine g_aload_n (r := (some b0)) hC 1 dL_signs_223 rfl ?_
                    refine g_aload_n (r := (some b1)) hC 2 dL_signs_224 rfl ?_
                    refine g_iload_n hC 3 dL_signs_225 rfl ?_
                    obtain ⟨c49, s50, hc49, h⟩ := h
                    refine g_callS hC (As := [.ref b0, .ref b1, .int p2]) (fun l D dA ht => s_L_delivers l D dA ht _ _ _ _ _ _ _ h) wm_2_201 wm_2_199 wm_2_200 wm_1_0 (by decide +kernel : plainY yL_delivers 3) dL_signs_226 (by decide) (Nat.le_of_ble_eq_true rfl) (Or.inr hc49) ?_
                    intro M9 v9 h
                    obtain ⟨x52, rfl, h⟩ := h
                    generalize M9 = M51 at h ⊢
                    show G X 9 M51 (k32 + c49) (n33 + s50) 229 [(8, .int x31), (0, .ref b0), (1, .ref b1), (2, .int p2), (3, .int p3), (4, .int p4), (5, .int x4), (6, .int x11), (7, .int x13)] [.int x52]
                    refine g_if_eq hC 236 dL_signs_229 (by decide) (fun c53 => ?_) (fun c53 => ?_)
                    · replace h := h.1 c53
                      refine g_sub [1, 2, 3, 4, 5, 6, 7, 8, 0] (lv' := [(0, .ref b0), (1, .ref b1), (2, .int p2), (3, .int p3), (4, .int p4), (5, .int x4), (6, .int x11), (7, .int x13), (8, .int x31)]) rfl ?_
                      exact h
                    · replace h := h.2 c53
                      refine g_sub [1, 2, 3, 4, 5, 6, 7, 8, 0] (lv' := [(0, .ref b0), (1, .ref b1), (2, .int p2), (3, .int p3), (4, .int p4), (5, .int x4), (6, .int x11), (7, .int x13), (8, .int x31)]) rfl ?_
                      exact h)
            replace h := h (fun (k57 : Nat) (n58 : Nat) => G X 9 M29 k57 n58 202 [(0, .ref b0), (1, .ref b1), (2, .int p2), (3, .int p3), (4, .int p4), (5, .int x4), (6, .int x11), (7, .int x13)] []) (by
              intro k57 n58 h
              show G X 9 M29 k57 n58 202 [(0, .ref b0), (1, .ref b1), (2, .int p2), (3, .int p3), (4, .int p4), (5, .int x4), (6, .int x11), (7, .int x13)] []
              refine g_pc (pc' := 202) rfl ?_
              refine g_iconst (v := 0) hC dL_signs_202 (by decide) ?_
              exact h)
            refine g_pc (pc' := 152) rfl ?_
            refine g_icmp_ne hC 202 dL_signs_152 (by decide) (fun c73 => ?_) (fun c73 => ?_)
            · replace h := h.2 c73
              exact h
            · replace h := h.1 c73
              refine g_aload_n (r := (some b0)) hC 0 dL_signs_155 rfl ?_
              obtain ⟨hc60, h⟩ := h
              refine g_callV hC (As := []) (fun l D dA ht => s_X5_users l D dA ht _ _ _ h) wm_2_21 wm_2_18 wm_2_19 wm_2_20 wm_1_1 (by decide +kernel : plainY yX5_users 0) kc5.1 kc5.2.1 dL_signs_156 (by decide) (Nat.le_of_ble_eq_true rfl) hc60 (Or.inl ⟨rfl, rfl⟩) ?_
              intro M9 v9 h
              obtain ⟨x61, rfl, h⟩ := h
              obtain ⟨hM9, h⟩ := h
              rw [hM9]
              show G X 9 M29 (k6 + c27) (n7 + s28) 159 [(0, .ref b0), (1, .ref b1), (2, .int p2), (3, .int p3), (4, .int p4), (5, .int x4), (6, .int x11), (7, .int x13)] [.int x61]
              refine g_iload hC 6 dL_signs_159 rfl ?_
              refine g_iconst (v := 1) hC dL_signs_161 (by decide) ?_
              refine g_iadd hC dL_signs_162 ?_
              refine g_icmp_ne hC 202 dL_signs_163 (by decide) (fun c72 => ?_) (fun c72 => ?_)
              · replace h := h.2 c72
                exact h
              · replace h := h.1 c72
                refine g_aload_n (r := (some b0)) hC 0 dL_signs_166 rfl ?_
                refine g_pc (pc' := 167) rfl ?_
                refine g_iload_n hC 2 dL_signs_167 rfl ?_
                obtain ⟨hc62, h⟩ := h
                obtain ⟨c63, s64, hc63, h⟩ := h
                refine gx_callV hC (As := [.int p2]) (fun l D dA ht => s_X5_known l D dA ht _ _ _ _ _ _ _ h) wm_2_41 wm_2_38 wm_2_39 wm_2_40 wm_1_1 (by decide +kernel : plainY yX5_known 1) kc5.1 kc5.2.1 dL_signs_168 (by decide) (Nat.le_of_ble_eq_true rfl) hc62 (Or.inr hc63) ?_ ?_
                · exact fun M E h => h.elim
                · intro M9 v9 h
                  obtain ⟨x65, rfl, h⟩ := h
                  obtain ⟨hM9, h⟩ := h
                  rw [hM9]
                  show G X 9 M29 (k6 + c27 + c63) (n7 + s28 + s64) 171 [(0, .ref b0), (1, .ref b1), (2, .int p2), (3, .int p3), (4, .int p4), (5, .int x4), (6, .int x11), (7, .int x13)] [.int x65]
                  refine g_iload hC 6 dL_signs_171 rfl ?_
                  refine g_ishr hC dL_signs_173 ?_
                  refine g_iconst (v := 1) hC dL_signs_174 (by decide) ?_
                  refine g_iand hC dL_signs_175 ?_
                  refine g_iconst (v := 1) hC dL_signs_176 (by decide) ?_
                  refine g_icmp_ne hC 202 dL_signs_177 (by decide) (fun c71 => ?_) (fun c71 => ?_)
                  · replace h := h.2 c71
                    exact h
                  · replace h := h.1 c71
                    refine g_pc (pc' := 180) rfl ?_
                    refine g_aload_n (r := (some b0)) hC 0 dL_signs_180 rfl ?_
                    obtain ⟨hc66, h⟩ := h
                    refine g_callV hC (As := []) (fun l D dA ht => s_X5_lines l D dA ht _ _ _ h) wm_1_175 wm_1_172 wm_1_173 wm_1_174 wm_1_1 (by decide +kernel : plainY yX5_lines 0) kc5.1 kc5.2.1 dL_signs_181 (by decide) (Nat.le_of_ble_eq_true rfl) hc66 (Or.inl ⟨rfl, rfl⟩) ?_
                    intro M9 v9 h
                    obtain ⟨x67, rfl, h⟩ := h
                    obtain ⟨hM9, h⟩ := h
                    rw [hM9]
                    show G X 9 M29 (k6 + c27 + c63) (n7 + s28 + s64) 184 [(0, .ref b0), (1, .ref b1), (2, .int p2), (3, .int p3), (4, .int p4), (5, .int x4), (6, .int x11), (7, .int x13)] [.int x67]
                    refine g_iload hC 7 dL_signs_184 rfl ?_
                    refine g_aload_n (r := (some b1)) hC 1 dL_signs_186 rfl ?_
                    refine g_iconst (v := 2) hC dL_signs_187 (by decide) ?_
                    refine g_iload_n hC 2 dL_signs_188 rfl ?_
                    refine g_iadd hC dL_signs_189 ?_
                    obtain ⟨hc68, h⟩ := h
                    refine g_ialdA hC dL_signs_190 hc68 ?_
                    refine g_pc (pc' := 191) rfl ?_
                    refine g_callS hC (As := [.int (gI M29 b1 (Int32.toNatClampNeg (2 + p2)))]) (fun l D dA ht => s_L_count l D dA ht _ _ _ h) wm_2_44 wm_2_42 wm_2_43 wm_1_0 (by decide +kernel : plainY yL_count 1) dL_signs_191 (by decide) (Nat.le_of_ble_eq_true rfl) (Or.inl ⟨rfl, rfl⟩) ?_
                    intro M9 v9 h
                    obtain ⟨x69, rfl, h⟩ := h
                    obtain ⟨hM9, h⟩ := h
                    rw [hM9]
                    show G X 9 M29 (k6 + c27 + c63) (n7 + s28 + s64) 194 [(0, .ref b0), (1, .ref b1), (2, .int p2), (3, .int p3), (4, .int p4), (5, .int x4), (6, .int x11), (7, .int x13)] [.int x69, .int x13, .int x67]
                    refine g_iadd hC dL_signs_194 ?_
                    refine g_icmp_ne hC 202 dL_signs_195 (by decide) (fun c70 => ?_) (fun c70 => ?_)
                    · replace h := h.2 c70
                      exact h
                    · replace h := h.1 c70
                      refine g_iconst (v := 1) hC dL_signs_198 (by decide) ?_
                      refine g_goto hC 203 dL_signs_199 (by decide) ?_
                      exact h)
        refine g_if_eq hC 142 dL_signs_134 (by decide) (fun c74 => ?_) (fun c74 => ?_)
        · replace h := h.1 c74
          refine g_bipush (v := 65) hC dL_signs_142 (by decide) ?_
          refine g_sub [2, 3, 4, 5, 6, 7, 1, 0] (lv' := [(0, .ref b0), (1, .ref b1), (2, .int p2), (3, .int p3), (4, .int p4), (5, .int x4), (6, .int x11), (7, .int x13)]) rfl ?_
          exact h
        · replace h := h.2 c74
          refine g_bipush (v := 97) hC dL_signs_137 (by decide) ?_
          refine g_goto hC 144 dL_signs_139 (by decide) ?_
          refine g_sub [2, 3, 4, 5, 6, 7, 1, 0] (lv' := [(0, .ref b0), (1, .ref b1), (2, .int p2), (3, .int p3), (4, .int p4), (5, .int x4), (6, .int x11), (7, .int x13)]) rfl ?_
          exact h
      · replace h := h.1 c81
        refine g_aload_n (r := (some b0)) hC 0 dL_signs_73 rfl ?_
        refine g_pc (pc' := 74) rfl ?_
        obtain ⟨hc75, h⟩ := h
        refine g_callV hC (As := []) (fun l D dA ht => s_X5_users l D dA ht _ _ _ h) wm_2_21 wm_2_18 wm_2_19 wm_2_20 wm_1_1 (by decide +kernel : plainY yX5_users 0) kc5.1 kc5.2.1 dL_signs_74 (by decide) (Nat.le_of_ble_eq_true rfl) hc75 (Or.inl ⟨rfl, rfl⟩) ?_
        intro M9 v9 h
        obtain ⟨x76, rfl, h⟩ := h
        obtain ⟨hM9, h⟩ := h
        rw [hM9]
        show G X 9 M k6 n7 77 [(0, .ref b0), (1, .ref b1), (2, .int p2), (3, .int p3), (4, .int p4), (5, .int x4), (6, .int x5)] [.int x76]
        refine g_aload_n (r := (some b1)) hC 1 dL_signs_77 rfl ?_
        refine g_iconst (v := 1) hC dL_signs_78 (by decide) ?_
        obtain ⟨hc77, h⟩ := h
        refine g_ialdA hC dL_signs_79 hc77 ?_
        replace h := h (fun (x78 : Int32) => G X 9 M k6 n7 88 [(0, .ref b0), (1, .ref b1), (2, .int p2), (3, .int p3), (4, .int p4), (5, .int x4), (6, .int x5)] [.int x78]) (by
          intro x78 h
          show G X 9 M k6 n7 88 [(0, .ref b0), (1, .ref b1), (2, .int p2), (3, .int p3), (4, .int p4), (5, .int x4), (6, .int x5)] [.int x78]
          exact hR.2.2.1 rfl _ _ _ _ _ _ dL_signs_88 ⟨h.1, ⟨_, rfl, h.2⟩⟩)
        refine g_icmp_ne hC 87 dL_signs_80 (by decide) (fun c80 => ?_) (fun c80 => ?_)
        · replace h := h.2 c80
          refine g_iconst (v := 0) hC dL_signs_87 (by decide) ?_
          exact h
        · replace h := h.1 c80
          refine g_iconst (v := 1) hC dL_signs_83 (by decide) ?_
          refine g_goto hC 88 dL_signs_84 (by decide) ?_
          exact h
    · replace h := h.2 c99
      refine g_iload hC 5 dL_signs_26 rfl ?_
      replace h := h (fun (x82 : Int32) (k83 : Nat) (n84 : Nat) => G X 9 M k83 n84 60 [(0, .ref b0), (1, .ref b1), (2, .int p2), (3, .int p3), (4, .int p4), (5, .int x4), (6, .int x5)] [.int x82]) (by
        intro x82 k83 n84 h
        show G X 9 M k83 n84 60 [(0, .ref b0), (1, .ref b1), (2, .int p2), (3, .int p3), (4, .int p4), (5, .int x4), (6, .int x5)] [.int x82]
        refine g_istore (lv' := [(5, .int x82), (0, .ref b0), (1, .ref b1), (2, .int p2), (3, .int p3), (4, .int p4), (6, .int x5)]) hC dL_signs_60 (by decide) rfl ?_
        obtain ⟨x86, ex86⟩ : ∃ w, w = x5 + 1 := ⟨_, rfl⟩
        replace h := h x86 ex86
        refine g_iinc (v := x86) (lv' := [(6, .int x86), (5, .int x82), (0, .ref b0), (1, .ref b1), (2, .int p2), (3, .int p3), (4, .int p4)]) hC 6 dL_signs_62 rfl (by rw [ex86]; rfl) (by decide) rfl ?_
        refine g_pc (pc' := 65) rfl ?_
        refine g_goto hC 18 dL_signs_65 (by decide) ?_
        refine g_sub [2, 3, 4, 5, 6, 1, 0] (lv' := [(0, .ref b0), (1, .ref b1), (2, .int p2), (3, .int p3), (4, .int p4), (5, .int x82), (6, .int x86)]) rfl ?_
        exact hK_K8 _ h)
      replace h := h (fun (k87 : Nat) (n88 : Nat) => G X 9 M k87 n88 59 [(0, .ref b0), (1, .ref b1), (2, .int p2), (3, .int p3), (4, .int p4), (5, .int x4), (6, .int x5)] []) (by
        intro k87 n88 h
        show G X 9 M k87 n88 59 [(0, .ref b0), (1, .ref b1), (2, .int p2), (3, .int p3), (4, .int p4), (5, .int x4), (6, .int x5)] []
        refine g_iconst (v := 0) hC dL_signs_59 (by decide) ?_
        exact h)
      refine g_if_eq hC 59 dL_signs_28 (by decide) (fun c98 => ?_) (fun c98 => ?_)
      · replace h := h.1 c98
        exact h
      · replace h := h.2 c98
        refine g_aload_n (r := (some b0)) hC 0 dL_signs_31 rfl ?_
        refine g_pc (pc' := 32) rfl ?_
        refine g_iload_n hC 2 dL_signs_32 rfl ?_
        obtain ⟨hc90, h⟩ := h
        obtain ⟨c91, s92, hc91, h⟩ := h
        refine gx_callV hC (As := [.int p2]) (fun l D dA ht => s_X5_known l D dA ht _ _ _ _ _ _ _ h) wm_2_41 wm_2_38 wm_2_39 wm_2_40 wm_1_1 (by decide +kernel : plainY yX5_known 1) kc5.1 kc5.2.1 dL_signs_33 (by decide) (Nat.le_of_ble_eq_true rfl) hc90 (Or.inr hc91) ?_ ?_
        · exact fun M E h => h.elim
        · intro M9 v9 h
          obtain ⟨x93, rfl, h⟩ := h
          obtain ⟨hM9, h⟩ := h
          rw [hM9]
          show G X 9 M (k6 + c91) (n7 + s92) 36 [(0, .ref b0), (1, .ref b1), (2, .int p2), (3, .int p3), (4, .int p4), (5, .int x4), (6, .int x5)] [.int x93]
          refine g_iload hC 6 dL_signs_36 rfl ?_
          refine g_ishr hC dL_signs_38 ?_
          refine g_iconst (v := 1) hC dL_signs_39 (by decide) ?_
          refine g_iand hC dL_signs_40 ?_
          replace h := h (G X 9 M (k6 + c91) (n7 + s92) 55 [(0, .ref b0), (1, .ref b1), (2, .int p2), (3, .int p3), (4, .int p4), (5, .int x4), (6, .int x5)] []) (by
            intro h
            refine g_iconst (v := 1) hC dL_signs_55 (by decide) ?_
            refine g_goto hC 60 dL_signs_56 (by decide) ?_
            exact h)
          refine g_if_eq hC 55 dL_signs_41 (by decide) (fun c97 => ?_) (fun c97 => ?_)
          · replace h := h.1 c97
            exact h
          · replace h := h.2 c97
            refine g_aload_n (r := (some b1)) hC 1 dL_signs_44 rfl ?_
            refine g_pc (pc' := 45) rfl ?_
            refine g_bipush (v := 8) hC dL_signs_45 (by decide) ?_
            refine g_iload hC 6 dL_signs_47 rfl ?_
            refine g_iadd hC dL_signs_49 ?_
            obtain ⟨hc95, h⟩ := h
            refine g_ialdA hC dL_signs_50 hc95 ?_
            refine g_iload_n hC 3 dL_signs_51 rfl ?_
            refine g_icmp_eq hC 59 dL_signs_52 (by decide) (fun c96 => ?_) (fun c96 => ?_)
            · replace h := h.1 c96
              exact h
            · replace h := h.2 c96
              exact h)
  refine g_icmp_ge hC 12 dL_signs_5 (by decide) (fun c101 => ?_) (fun c101 => ?_)
  · replace h := h.1 c101
    refine g_iconst (v := 0) hC dL_signs_12 (by decide) ?_
    exact h
  · replace h := h.2 c101
    refine g_iconst (v := 1) hC dL_signs_8 (by decide) ?_
    refine g_goto hC 13 dL_signs_9 (by decide) ?_
    exact h

def w_L_joins (mc ms : Nat) (M : Mem) (b0 : Nat) (b1 : Nat) (p2 : Int32) (p3 : Int32) (post : Mem → Int32 → Prop) : Prop :=
  inA M b1 10 (28 + p2) ∧ ∀ x2, x2 = gI M b1 (Int32.toNatClampNeg (28 + p2)) → gT M b0 = some (5, 0) ∧ ∃ c4 s5, (0 + c4 ≤ mc ∧ 0 + s5 ≤ ms) ∧ w_X5_members c4 s5 M b0 x2 p3 (fun _ _ => False) (fun x6 => gT M b0 = some (5, 0) ∧ ∃ c8 s9, ((0 + c4) + c8 ≤ mc ∧ (0 + s5) + s9 ≤ ms) ∧ w_X5_bans c8 s9 M b0 x2 p3 (fun _ _ => False) (fun x10 => ∀ J12 : Int32 → Prop, (∀ (x11 : Int32), (∃ c13 s14, ((0 + c4 + c8) + c13 ≤ mc ∧ (0 + s5 + s9) + s14 ≤ ms) ∧ w_L_isThere c13 s14 M b0 b1 p2 (fun x15 => ∀ J16 : Prop, ((gT M b0 = some (5, 0) ∧ ∃ c18 s19, ((0 + c4 + c8 + c13) + c18 ≤ mc ∧ (0 + s5 + s9 + s14) + s19 ≤ ms) ∧ w_X5_say c18 s19 M b0 p2 p3 (fun _ _ => False) (fun x20 => ∀ J22 : Int32 → Prop, (∀ (x21 : Int32), (((x21 : Int32) = 0 ∨ (x21 : Int32) = 1) ∧ post M x21) → J22 x21) → ((x20 < (-5) → J22 0) ∧ (¬ (x20 < (-5)) → J22 1)))) → J16) → ((x15 = 0 → J16) ∧ (¬ (x15 = 0) → (x11 = 0 → ((x6 >>> (p2 &&& 31)) &&& 1 = 1 → J16) ∧ (¬ ((x6 >>> (p2 &&& 31)) &&& 1 = 1) → gT M b0 = some (5, 0) ∧ ∃ c25 s26, ((0 + c4 + c8 + c13) + c25 ≤ mc ∧ (0 + s5 + s9 + s14) + s26 ≤ ms) ∧ w_X5_age c25 s26 M b0 x2 p3 (fun _ _ => False) (fun x27 => ∀ J29 : Int32 → Prop, (∀ (x28 : Int32), (inA M b1 10 0 ∧ inA M b1 10 0 ∧ ∀ M31, M31 = sI M b1 (Int32.toNatClampNeg 0) ((gI M b1 (Int32.toNatClampNeg 0)) + 1) → gT M31 b0 = some (5, 0) ∧ ∃ c34 s35, ((0 + c4 + c8 + c13 + c25) + c34 ≤ mc ∧ (0 + s5 + s9 + s14 + s26) + s35 ≤ ms) ∧ w_X5_join c34 s35 M31 b0 p2 p3 (fun _ _ => False) (fun M36 x37 => w_L_count M36 x6 (fun x38 => ∀ J42 : Int32 → Nat → Nat → Prop, (∀ (x39 : Int32) (k40 : Nat) (n41 : Nat), (((x39 : Int32) = 0 ∨ (x39 : Int32) = 1) ∧ post M36 x39) → J42 x39 k40 n41) → (∀ J45 : Nat → Nat → Prop, (∀ (k43 : Nat) (n44 : Nat), (J42 0 k43 n44) → J45 k43 n44) → ((x37 = x38 + 1 → gT M36 b0 = some (5, 0) ∧ ∃ c47 s48, ((0 + c4 + c8 + c13 + c25 + c34) + c47 ≤ mc ∧ (0 + s5 + s9 + s14 + s26 + s35) + s48 ≤ ms) ∧ w_X5_members c47 s48 M36 b0 x2 p3 (fun _ _ => False) (fun x49 => (x49 = x6 ||| (1 <<< (p2 &&& 31)) → gT M36 b0 = some (5, 0) ∧ ∃ c51 s52, ((0 + c4 + c8 + c13 + c25 + c34 + c47) + c51 ≤ mc ∧ (0 + s5 + s9 + s14 + s26 + s35 + s48) + s52 ≤ ms) ∧ w_X5_age c51 s52 M36 b0 x2 p3 (fun _ _ => False) (fun x53 => (x53 = x28 → ∀ J56 : Nat → Nat → Prop, (∀ (k54 : Nat) (n55 : Nat), (J42 1 k54 n55) → J56 k54 n55) → ((x27 = (-1) → gT M36 b0 = some (5, 0) ∧ ∃ c58 s59, ((0 + c4 + c8 + c13 + c25 + c34 + c47 + c51) + c58 ≤ mc ∧ (0 + s5 + s9 + s14 + s26 + s35 + s48 + s52) + s59 ≤ ms) ∧ w_X5_modes c58 s59 M36 b0 x2 p3 (fun _ _ => False) (fun x60 => (x60 = 0 → gT M36 b0 = some (5, 0) ∧ ∃ c62 s63, ((0 + c4 + c8 + c13 + c25 + c34 + c47 + c51 + c58) + c62 ≤ mc ∧ (0 + s5 + s9 + s14 + s26 + s35 + s48 + s52 + s59) + s63 ≤ ms) ∧ w_X5_bans c62 s63 M36 b0 x2 p3 (fun _ _ => False) (fun x64 => (x64 = 0 → J56 (0 + c4 + c8 + c13 + c25 + c34 + c47 + c51 + c58 + c62) (0 + s5 + s9 + s14 + s26 + s35 + s48 + s52 + s59 + s63)) ∧ (¬ (x64 = 0) → J45 (0 + c4 + c8 + c13 + c25 + c34 + c47 + c51 + c58 + c62) (0 + s5 + s9 + s14 + s26 + s35 + s48 + s52 + s59 + s63)))) ∧ (¬ (x60 = 0) → J45 (0 + c4 + c8 + c13 + c25 + c34 + c47 + c51 + c58) (0 + s5 + s9 + s14 + s26 + s35 + s48 + s52 + s59)))) ∧ (¬ (x27 = (-1)) → J56 (0 + c4 + c8 + c13 + c25 + c34 + c47 + c51) (0 + s5 + s9 + s14 + s26 + s35 + s48 + s52)))) ∧ (¬ (x53 = x28) → J45 (0 + c4 + c8 + c13 + c25 + c34 + c47 + c51) (0 + s5 + s9 + s14 + s26 + s35 + s48 + s52)))) ∧ (¬ (x49 = x6 ||| (1 <<< (p2 &&& 31))) → J45 (0 + c4 + c8 + c13 + c25 + c34 + c47) (0 + s5 + s9 + s14 + s26 + s35 + s48)))) ∧ (¬ (x37 = x38 + 1) → J45 (0 + c4 + c8 + c13 + c25 + c34) (0 + s5 + s9 + s14 + s26 + s35))))))) → J29 x28) → ((x27 = (-1) → inA M b1 10 0 ∧ J29 (gI M b1 (Int32.toNatClampNeg 0))) ∧ (¬ (x27 = (-1)) → J29 x27))))) ∧ (¬ (x11 = 0) → J16))))) → J12 x11) → (∀ J76 : Prop, ((J12 0) → J76) → ((x10 = (-1) → J76) ∧ (¬ (x10 = (-1)) → inA M b1 10 (8 + p2) ∧ ((x10 >>> ((gI M b1 (Int32.toNatClampNeg (8 + p2))) &&& 31)) &&& 1 = 1 → J12 1) ∧ (¬ ((x10 >>> ((gI M b1 (Int32.toNatClampNeg (8 + p2))) &&& 31)) &&& 1 = 1) → J76))))))
set_option maxRecDepth 100000 in
set_option maxHeartbeats 8000000 in
theorem s_L_joins (l : Launch) (D : va_G) (dA : Nat → ClassId) (htr : l.stackTraces = false) (mc ms : Nat) (M : Mem) (b0 : Nat) (b1 : Nat) (p2 : Int32) (p3 : Int32) (post : Mem → Int32 → Prop) (h : w_L_joins mc ms M b0 b1 p2 p3 post) : CtN l D dA yL_joins cL_joins 10 (some .boolean) 9 [.ref b0, .ref b1, .int p2, .int p3] M mc ms (pI post) := by
  refine ct_ofN htr (by decide) (Nat.le_of_ble_eq_true rfl) ?_
  intro X hC hN hR
  show G X 10 M 0 0 0 [(0, .ref b0), (1, .ref b1), (2, .int p2), (3, .int p3)] []
  unfold w_L_joins at h
  refine g_aload_n (r := (some b1)) hC 1 dL_joins_0 rfl ?_
  refine g_bipush (v := 28) hC dL_joins_1 (by decide) ?_
  refine g_iload_n hC 2 dL_joins_3 rfl ?_
  refine g_iadd hC dL_joins_4 ?_
  obtain ⟨hc1, h⟩ := h
  refine g_ialdA hC dL_joins_5 hc1 ?_
  obtain ⟨x2, ex2⟩ : ∃ w, w = gI M b1 (Int32.toNatClampNeg (28 + p2)) := ⟨_, rfl⟩
  replace h := h x2 ex2
  rw [← ex2]
  refine g_istore (lv' := [(4, .int x2), (0, .ref b0), (1, .ref b1), (2, .int p2), (3, .int p3)]) hC dL_joins_6 (by decide) rfl ?_
  refine g_aload_n (r := (some b0)) hC 1 dL_joins_8 rfl ?_
  refine g_pc (pc' := 9) rfl ?_
  refine g_iload hC 0 dL_joins_9 rfl ?_
  refine g_iload_n hC 4 dL_joins_11 rfl ?_
  obtain ⟨hc3, h⟩ := h
  obtain ⟨c4, s5, hc4, h⟩ := h
  refine gx_callV hC (As := [.int x2, .int p3]) (fun l D dA ht => s_X5_members l D dA ht _ _ _ _ _ _ _ _ h) wm_3_6 wm_3_3 wm_3_4 wm_3_5 wm_1_1 (by decide +kernel : plainY yX5_members 2) kc5.1 kc5.2.1 dL_joins_12 (by decide) (Nat.le_of_ble_eq_true rfl) hc3 (Or.inr hc4) ?_ ?_
  · exact fun M E h => h.elim
  · intro M9 v9 h
    obtain ⟨x6, rfl, h⟩ := h
    obtain ⟨hM9, h⟩ := h
    rw [hM9]
    show G X 10 M (0 + c4) (0 + s5) 15 [(4, .int x2), (0, .ref b0), (1, .ref b1), (2, .int p2), (3, .int p3)] [.int x6]
    refine g_istore (lv' := [(5, .int x6), (4, .int x2), (0, .ref b0), (1, .ref b1), (2, .int p2), (3, .int p3)]) hC dL_joins_15 (by decide) rfl ?_
    refine g_aload_n (r := (some b0)) hC 2 dL_joins_17 rfl ?_
    refine g_iload hC 1 dL_joins_18 rfl ?_
    refine g_iload_n hC 5 dL_joins_20 rfl ?_
    obtain ⟨hc7, h⟩ := h
    obtain ⟨c8, s9, hc8, h⟩ := h
    refine gx_callV hC (As := [.int x2, .int p3]) (fun l D dA ht => s_X5_bans l D dA ht _ _ _ _ _ _ _ _ h) wm_3_10 wm_3_7 wm_3_8 wm_3_9 wm_1_1 (by decide +kernel : plainY yX5_bans 2) kc5.1 kc5.2.1 dL_joins_21 (by decide) (Nat.le_of_ble_eq_true rfl) hc7 (Or.inr hc8) ?_ ?_
    · exact fun M E h => h.elim
    · intro M9 v9 h
      obtain ⟨x10, rfl, h⟩ := h
      obtain ⟨hM9, h⟩ := h
      rw [hM9]
      show G X 10 M (0 + c4 + c8) (0 + s5 + s9) 24 [(5, .int x6), (4, .int x2), (0, .ref b0), (1, .ref b1), (2, .int p2), (3, .int p3)] [.int x10]
      refine g_pc (pc' := 24) rfl ?_
      refine g_istore (lv' := [(6, .int x10), (5, .int x6), (4, .int x2), (0, .ref b0), (1, .ref b1), (2, .int p2), (3, .int p3)]) hC dL_joins_24 (by decide) rfl ?_
      refine g_iload hC 0 dL_joins_26 rfl ?_
      refine g_iconst (v := (-1)) hC dL_joins_28 (by decide) ?_
      replace h := h (fun (x11 : Int32) => G X 10 M (0 + c4 + c8) (0 + s5 + s9) 52 [(0, .ref b0), (1, .ref b1), (2, .int p2), (3, .int p3), (4, .int x2), (5, .int x6), (6, .int x10)] [.int x11]) (by
        intro x11 h
        show G X 10 M (0 + c4 + c8) (0 + s5 + s9) 52 [(0, .ref b0), (1, .ref b1), (2, .int p2), (3, .int p3), (4, .int x2), (5, .int x6), (6, .int x10)] [.int x11]
        refine g_istore (lv' := [(7, .int x11), (0, .ref b0), (1, .ref b1), (2, .int p2), (3, .int p3), (4, .int x2), (5, .int x6), (6, .int x10)]) hC dL_joins_52 (by decide) rfl ?_
        refine g_aload_n (r := (some b0)) hC 1 dL_joins_54 rfl ?_
        refine g_aload_n (r := (some b1)) hC 2 dL_joins_55 rfl ?_
        refine g_iload_n hC 3 dL_joins_56 rfl ?_
        obtain ⟨c13, s14, hc13, h⟩ := h
        refine g_callS hC (As := [.ref b0, .ref b1, .int p2]) (fun l D dA ht => s_L_isThere l D dA ht _ _ _ _ _ _ _ h) wm_3_13 wm_3_11 wm_3_12 wm_1_0 (by decide +kernel : plainY yL_isThere 3) dL_joins_57 (by decide) (Nat.le_of_ble_eq_true rfl) (Or.inr hc13) ?_
        intro M9 v9 h
        obtain ⟨x15, rfl, h⟩ := h
        obtain ⟨hM9, h⟩ := h
        rw [hM9]
        show G X 10 M (0 + c4 + c8 + c13) (0 + s5 + s9 + s14) 60 [(7, .int x11), (0, .ref b0), (1, .ref b1), (2, .int p2), (3, .int p3), (4, .int x2), (5, .int x6), (6, .int x10)] [.int x15]
        replace h := h (G X 10 M (0 + c4 + c8 + c13) (0 + s5 + s9 + s14) 78 [(0, .ref b0), (1, .ref b1), (2, .int p2), (3, .int p3), (4, .int x2), (5, .int x6), (6, .int x10), (7, .int x11)] []) (by
          intro h
          refine g_pc (pc' := 78) rfl ?_
          refine g_aload_n (r := (some b0)) hC 0 dL_joins_78 rfl ?_
          refine g_iload_n hC 2 dL_joins_79 rfl ?_
          refine g_iload_n hC 3 dL_joins_80 rfl ?_
          obtain ⟨hc17, h⟩ := h
          obtain ⟨c18, s19, hc18, h⟩ := h
          refine gx_callV hC (As := [.int p2, .int p3]) (fun l D dA ht => s_X5_say l D dA ht _ _ _ _ _ _ _ _ h) wm_3_17 wm_3_14 wm_3_15 wm_3_16 wm_1_1 (by decide +kernel : plainY yX5_say 2) kc5.1 kc5.2.1 dL_joins_81 (by decide) (Nat.le_of_ble_eq_true rfl) hc17 (Or.inr hc18) ?_ ?_
          · exact fun M E h => h.elim
          · intro M9 v9 h
            obtain ⟨x20, rfl, h⟩ := h
            obtain ⟨hM9, h⟩ := h
            rw [hM9]
            show G X 10 M (0 + c4 + c8 + c13 + c18) (0 + s5 + s9 + s14 + s19) 84 [(0, .ref b0), (1, .ref b1), (2, .int p2), (3, .int p3), (4, .int x2), (5, .int x6), (6, .int x10), (7, .int x11)] [.int x20]
            refine g_bipush (v := (-5)) hC dL_joins_84 (by decide) ?_
            replace h := h (fun (x21 : Int32) => G X 10 M (0 + c4 + c8 + c13 + c18) (0 + s5 + s9 + s14 + s19) 94 [(0, .ref b0), (1, .ref b1), (2, .int p2), (3, .int p3), (4, .int x2), (5, .int x6), (6, .int x10), (7, .int x11)] [.int x21]) (by
              intro x21 h
              show G X 10 M (0 + c4 + c8 + c13 + c18) (0 + s5 + s9 + s14 + s19) 94 [(0, .ref b0), (1, .ref b1), (2, .int p2), (3, .int p3), (4, .int x2), (5, .int x6), (6, .int x10), (7, .int x11)] [.int x21]
              exact hR.2.2.1 rfl _ _ _ _ _ _ dL_joins_94 ⟨h.1, ⟨_, rfl, h.2⟩⟩)
            refine g_icmp_lt hC 93 dL_joins_86 (by decide) (fun c23 => ?_) (fun c23 => ?_)
            · replace h := h.1 c23
              refine g_iconst (v := 0) hC dL_joins_93 (by decide) ?_
              exact h
            · replace h := h.2 c23
              refine g_iconst (v := 1) hC dL_joins_89 (by decide) ?_
              refine g_goto hC 94 dL_joins_90 (by decide) ?_
              exact h)
        refine g_pc (pc' := 60) rfl ?_
        refine g_if_eq hC 78 dL_joins_60 (by decide) (fun c75 => ?_) (fun c75 => ?_)
        · replace h := h.1 c75
          refine g_sub [1, 2, 3, 4, 5, 6, 7, 0] (lv' := [(0, .ref b0), (1, .ref b1), (2, .int p2), (3, .int p3), (4, .int x2), (5, .int x6), (6, .int x10), (7, .int x11)]) rfl ?_
          exact h
        · replace h := h.2 c75
          refine g_iload hC 0 dL_joins_63 rfl ?_
          refine g_if_ne hC 78 dL_joins_65 (by decide) (fun c74 => ?_) (fun c74 => ?_)
          · replace h := h.2 c74
            refine g_sub [1, 2, 3, 4, 5, 6, 7, 0] (lv' := [(0, .ref b0), (1, .ref b1), (2, .int p2), (3, .int p3), (4, .int x2), (5, .int x6), (6, .int x10), (7, .int x11)]) rfl ?_
            exact h
          · replace h := h.1 c74
            refine g_iload hC 6 dL_joins_68 rfl ?_
            refine g_iload_n hC 3 dL_joins_70 rfl ?_
            refine g_ishr hC dL_joins_71 ?_
            refine g_iconst (v := 1) hC dL_joins_72 (by decide) ?_
            refine g_iand hC dL_joins_73 ?_
            refine g_pc (pc' := 74) rfl ?_
            refine g_iconst (v := 1) hC dL_joins_74 (by decide) ?_
            refine g_icmp_ne hC 95 dL_joins_75 (by decide) (fun c73 => ?_) (fun c73 => ?_)
            · replace h := h.2 c73
              refine g_aload_n (r := (some b0)) hC 1 dL_joins_95 rfl ?_
              refine g_iload hC 5 dL_joins_96 rfl ?_
              refine g_iload_n hC 4 dL_joins_98 rfl ?_
              obtain ⟨hc24, h⟩ := h
              obtain ⟨c25, s26, hc25, h⟩ := h
              refine gx_callV hC (As := [.int x2, .int p3]) (fun l D dA ht => s_X5_age l D dA ht _ _ _ _ _ _ _ _ h) wm_2_48 wm_2_45 wm_2_46 wm_2_47 wm_1_1 (by decide +kernel : plainY yX5_age 2) kc5.1 kc5.2.1 dL_joins_99 (by decide) (Nat.le_of_ble_eq_true rfl) hc24 (Or.inr hc25) ?_ ?_
              · exact fun M E h => h.elim
              · intro M9 v9 h
                obtain ⟨x27, rfl, h⟩ := h
                obtain ⟨hM9, h⟩ := h
                rw [hM9]
                show G X 10 M (0 + c4 + c8 + c13 + c25) (0 + s5 + s9 + s14 + s26) 102 [(7, .int x11), (0, .ref b0), (1, .ref b1), (2, .int p2), (3, .int p3), (4, .int x2), (5, .int x6), (6, .int x10)] [.int x27]
                refine g_istore (lv' := [(8, .int x27), (7, .int x11), (0, .ref b0), (1, .ref b1), (2, .int p2), (3, .int p3), (4, .int x2), (5, .int x6), (6, .int x10)]) hC dL_joins_102 (by decide) rfl ?_
                refine g_iload hC 0 dL_joins_104 rfl ?_
                refine g_pc (pc' := 106) rfl ?_
                refine g_iconst (v := (-1)) hC dL_joins_106 (by decide) ?_
                replace h := h (fun (x28 : Int32) => G X 10 M (0 + c4 + c8 + c13 + c25) (0 + s5 + s9 + s14 + s26) 118 [(0, .ref b0), (1, .ref b1), (2, .int p2), (3, .int p3), (4, .int x2), (5, .int x6), (6, .int x10), (7, .int x11), (8, .int x27)] [.int x28]) (by
                  intro x28 h
                  show G X 10 M (0 + c4 + c8 + c13 + c25) (0 + s5 + s9 + s14 + s26) 118 [(0, .ref b0), (1, .ref b1), (2, .int p2), (3, .int p3), (4, .int x2), (5, .int x6), (6, .int x10), (7, .int x11), (8, .int x27)] [.int x28]
                  refine g_istore (lv' := [(9, .int x28), (0, .ref b0), (1, .ref b1), (2, .int p2), (3, .int p3), (4, .int x2), (5, .int x6), (6, .int x10), (7, .int x11), (8, .int x27)]) hC dL_joins_118 (by decide) rfl ?_
                  refine g_aload_n (r := (some b1)) hC 2 dL_joins_120 rfl ?_
                  refine g_iconst (v := 0) hC dL_joins_121 (by decide) ?_
                  refine g_dup2 hC dL_joins_122 rfl rfl ?_
                  obtain ⟨hc30, h⟩ := h
                  refine g_ialdA hC dL_joins_123 hc30 ?_
                  refine g_iconst (v := 1) hC dL_joins_124 (by decide) ?_
                  refine g_iadd hC dL_joins_125 ?_
                  obtain ⟨hc32, h⟩ := h
                  refine g_pc (pc' := 126) rfl ?_
                  refine g_iastA hC dL_joins_126 hc32 ?_
                  obtain ⟨M31, eM31⟩ : ∃ w, w = sI M b1 (Int32.toNatClampNeg 0) ((gI M b1 (Int32.toNatClampNeg 0)) + 1) := ⟨_, rfl⟩
                  replace h := h M31 eM31
                  rw [← eM31]
                  refine g_aload_n (r := (some b0)) hC 1 dL_joins_127 rfl ?_
                  refine g_iload_n hC 3 dL_joins_128 rfl ?_
                  refine g_iload_n hC 4 dL_joins_129 rfl ?_
                  obtain ⟨hc33, h⟩ := h
                  obtain ⟨c34, s35, hc34, h⟩ := h
                  refine gx_callV hC (As := [.int p2, .int p3]) (fun l D dA ht => s_X5_join l D dA ht _ _ _ _ _ _ _ _ h) wm_3_49 wm_3_46 wm_3_47 wm_3_48 wm_1_1 (by decide +kernel : plainY yX5_join 2) kc5.1 kc5.2.1 dL_joins_130 (by decide) (Nat.le_of_ble_eq_true rfl) hc33 (Or.inr hc34) ?_ ?_
                  · exact fun M E h => h.elim
                  · intro M9 v9 h
                    obtain ⟨x37, rfl, h⟩ := h
                    generalize M9 = M36 at h ⊢
                    show G X 10 M36 (0 + c4 + c8 + c13 + c25 + c34) (0 + s5 + s9 + s14 + s26 + s35) 133 [(9, .int x28), (0, .ref b0), (1, .ref b1), (2, .int p2), (3, .int p3), (4, .int x2), (5, .int x6), (6, .int x10), (7, .int x11), (8, .int x27)] [.int x37]
                    refine g_iload hC 6 dL_joins_133 rfl ?_
                    refine g_callS hC (As := [.int x6]) (fun l D dA ht => s_L_count l D dA ht _ _ _ h) wm_2_44 wm_2_42 wm_2_43 wm_1_0 (by decide +kernel : plainY yL_count 1) dL_joins_135 (by decide) (Nat.le_of_ble_eq_true rfl) (Or.inl ⟨rfl, rfl⟩) ?_
                    intro M9 v9 h
                    obtain ⟨x38, rfl, h⟩ := h
                    obtain ⟨hM9, h⟩ := h
                    rw [hM9]
                    show G X 10 M36 (0 + c4 + c8 + c13 + c25 + c34) (0 + s5 + s9 + s14 + s26 + s35) 138 [(9, .int x28), (0, .ref b0), (1, .ref b1), (2, .int p2), (3, .int p3), (4, .int x2), (5, .int x6), (6, .int x10), (7, .int x11), (8, .int x27)] [.int x38, .int x37]
                    refine g_iconst (v := 1) hC dL_joins_138 (by decide) ?_
                    refine g_pc (pc' := 139) rfl ?_
                    refine g_iadd hC dL_joins_139 ?_
                    replace h := h (fun (x39 : Int32) (k40 : Nat) (n41 : Nat) => G X 10 M36 k40 n41 202 [(0, .ref b0), (1, .ref b1), (2, .int p2), (3, .int p3), (4, .int x2), (5, .int x6), (6, .int x10), (7, .int x11), (8, .int x27), (9, .int x28)] [.int x39]) (by
                      intro x39 k40 n41 h
                      show G X 10 M36 k40 n41 202 [(0, .ref b0), (1, .ref b1), (2, .int p2), (3, .int p3), (4, .int x2), (5, .int x6), (6, .int x10), (7, .int x11), (8, .int x27), (9, .int x28)] [.int x39]
                      exact hR.2.2.1 rfl _ _ _ _ _ _ dL_joins_202 ⟨h.1, ⟨_, rfl, h.2⟩⟩)
                    replace h := h (fun (k43 : Nat) (n44 : Nat) => G X 10 M36 k43 n44 201 [(0, .ref b0), (1, .ref b1), (2, .int p2), (3, .int p3), (4, .int x2), (5, .int x6), (6, .int x10), (7, .int x11), (8, .int x27), (9, .int x28)] []) (by
                      intro k43 n44 h
                      show G X 10 M36 k43 n44 201 [(0, .ref b0), (1, .ref b1), (2, .int p2), (3, .int p3), (4, .int x2), (5, .int x6), (6, .int x10), (7, .int x11), (8, .int x27), (9, .int x28)] []
                      refine g_iconst (v := 0) hC dL_joins_201 (by decide) ?_
                      exact h)
                    refine g_icmp_ne hC 201 dL_joins_140 (by decide) (fun c70 => ?_) (fun c70 => ?_)
                    · replace h := h.2 c70
                      refine g_sub [1, 2, 3, 4, 5, 6, 7, 8, 9, 0] (lv' := [(0, .ref b0), (1, .ref b1), (2, .int p2), (3, .int p3), (4, .int x2), (5, .int x6), (6, .int x10), (7, .int x11), (8, .int x27), (9, .int x28)]) rfl ?_
                      exact h
                    · replace h := h.1 c70
                      refine g_aload_n (r := (some b0)) hC 1 dL_joins_143 rfl ?_
                      refine g_iload hC 5 dL_joins_144 rfl ?_
                      refine g_iload_n hC 4 dL_joins_146 rfl ?_
                      obtain ⟨hc46, h⟩ := h
                      obtain ⟨c47, s48, hc47, h⟩ := h
                      refine gx_callV hC (As := [.int x2, .int p3]) (fun l D dA ht => s_X5_members l D dA ht _ _ _ _ _ _ _ _ h) wm_3_6 wm_3_3 wm_3_4 wm_3_5 wm_1_1 (by decide +kernel : plainY yX5_members 2) kc5.1 kc5.2.1 dL_joins_147 (by decide) (Nat.le_of_ble_eq_true rfl) hc46 (Or.inr hc47) ?_ ?_
                      · exact fun M E h => h.elim
                      · intro M9 v9 h
                        obtain ⟨x49, rfl, h⟩ := h
                        obtain ⟨hM9, h⟩ := h
                        rw [hM9]
                        show G X 10 M36 (0 + c4 + c8 + c13 + c25 + c34 + c47) (0 + s5 + s9 + s14 + s26 + s35 + s48) 150 [(9, .int x28), (0, .ref b0), (1, .ref b1), (2, .int p2), (3, .int p3), (4, .int x2), (5, .int x6), (6, .int x10), (7, .int x11), (8, .int x27)] [.int x49]
                        refine g_iload hC 6 dL_joins_150 rfl ?_
                        refine g_iconst (v := 1) hC dL_joins_152 (by decide) ?_
                        refine g_pc (pc' := 153) rfl ?_
                        refine g_iload_n hC 3 dL_joins_153 rfl ?_
                        refine g_ishl hC dL_joins_154 ?_
                        refine g_ior hC dL_joins_155 ?_
                        refine g_icmp_ne hC 201 dL_joins_156 (by decide) (fun c69 => ?_) (fun c69 => ?_)
                        · replace h := h.2 c69
                          refine g_sub [1, 2, 3, 4, 5, 6, 7, 8, 9, 0] (lv' := [(0, .ref b0), (1, .ref b1), (2, .int p2), (3, .int p3), (4, .int x2), (5, .int x6), (6, .int x10), (7, .int x11), (8, .int x27), (9, .int x28)]) rfl ?_
                          exact h
                        · replace h := h.1 c69
                          refine g_aload_n (r := (some b0)) hC 1 dL_joins_159 rfl ?_
                          refine g_iload hC 5 dL_joins_160 rfl ?_
                          refine g_iload_n hC 4 dL_joins_162 rfl ?_
                          obtain ⟨hc50, h⟩ := h
                          obtain ⟨c51, s52, hc51, h⟩ := h
                          refine gx_callV hC (As := [.int x2, .int p3]) (fun l D dA ht => s_X5_age l D dA ht _ _ _ _ _ _ _ _ h) wm_2_48 wm_2_45 wm_2_46 wm_2_47 wm_1_1 (by decide +kernel : plainY yX5_age 2) kc5.1 kc5.2.1 dL_joins_163 (by decide) (Nat.le_of_ble_eq_true rfl) hc50 (Or.inr hc51) ?_ ?_
                          · exact fun M E h => h.elim
                          · intro M9 v9 h
                            obtain ⟨x53, rfl, h⟩ := h
                            obtain ⟨hM9, h⟩ := h
                            rw [hM9]
                            show G X 10 M36 (0 + c4 + c8 + c13 + c25 + c34 + c47 + c51) (0 + s5 + s9 + s14 + s26 + s35 + s48 + s52) 166 [(9, .int x28), (0, .ref b0), (1, .ref b1), (2, .int p2), (3, .int p3), (4, .int x2), (5, .int x6), (6, .int x10), (7, .int x11), (8, .int x27)] [.int x53]
                            refine g_pc (pc' := 166) rfl ?_
                            refine g_iload hC 0 dL_joins_166 rfl ?_
                            refine g_icmp_ne hC 201 dL_joins_168 (by decide) (fun c68 => ?_) (fun c68 => ?_)
                            · replace h := h.2 c68
                              refine g_sub [1, 2, 3, 4, 5, 6, 7, 8, 9, 0] (lv' := [(0, .ref b0), (1, .ref b1), (2, .int p2), (3, .int p3), (4, .int x2), (5, .int x6), (6, .int x10), (7, .int x11), (8, .int x27), (9, .int x28)]) rfl ?_
                              exact h
                            · replace h := h.1 c68
                              refine g_iload hC 9 dL_joins_171 rfl ?_
                              refine g_iconst (v := (-1)) hC dL_joins_173 (by decide) ?_
                              replace h := h (fun (k54 : Nat) (n55 : Nat) => G X 10 M36 k54 n55 197 [(0, .ref b0), (1, .ref b1), (2, .int p2), (3, .int p3), (4, .int x2), (5, .int x6), (6, .int x10), (7, .int x11), (8, .int x27), (9, .int x28)] []) (by
                                intro k54 n55 h
                                show G X 10 M36 k54 n55 197 [(0, .ref b0), (1, .ref b1), (2, .int p2), (3, .int p3), (4, .int x2), (5, .int x6), (6, .int x10), (7, .int x11), (8, .int x27), (9, .int x28)] []
                                refine g_iconst (v := 1) hC dL_joins_197 (by decide) ?_
                                refine g_goto hC 202 dL_joins_198 (by decide) ?_
                                exact h)
                              refine g_icmp_ne hC 197 dL_joins_174 (by decide) (fun c67 => ?_) (fun c67 => ?_)
                              · replace h := h.2 c67
                                refine g_sub [1, 2, 3, 4, 5, 6, 7, 8, 9, 0] (lv' := [(0, .ref b0), (1, .ref b1), (2, .int p2), (3, .int p3), (4, .int x2), (5, .int x6), (6, .int x10), (7, .int x11), (8, .int x27), (9, .int x28)]) rfl ?_
                                exact h
                              · replace h := h.1 c67
                                refine g_aload_n (r := (some b0)) hC 1 dL_joins_177 rfl ?_
                                refine g_iload hC 5 dL_joins_178 rfl ?_
                                refine g_iload_n hC 4 dL_joins_180 rfl ?_
                                refine g_pc (pc' := 181) rfl ?_
                                obtain ⟨hc57, h⟩ := h
                                obtain ⟨c58, s59, hc58, h⟩ := h
                                refine gx_callV hC (As := [.int x2, .int p3]) (fun l D dA ht => s_X5_modes l D dA ht _ _ _ _ _ _ _ _ h) wm_3_65 wm_3_62 wm_3_63 wm_3_64 wm_1_1 (by decide +kernel : plainY yX5_modes 2) kc5.1 kc5.2.1 dL_joins_181 (by decide) (Nat.le_of_ble_eq_true rfl) hc57 (Or.inr hc58) ?_ ?_
                                · exact fun M E h => h.elim
                                · intro M9 v9 h
                                  obtain ⟨x60, rfl, h⟩ := h
                                  obtain ⟨hM9, h⟩ := h
                                  rw [hM9]
                                  show G X 10 M36 (0 + c4 + c8 + c13 + c25 + c34 + c47 + c51 + c58) (0 + s5 + s9 + s14 + s26 + s35 + s48 + s52 + s59) 184 [(9, .int x28), (0, .ref b0), (1, .ref b1), (2, .int p2), (3, .int p3), (4, .int x2), (5, .int x6), (6, .int x10), (7, .int x11), (8, .int x27)] [.int x60]
                                  refine g_if_ne hC 201 dL_joins_184 (by decide) (fun c66 => ?_) (fun c66 => ?_)
                                  · replace h := h.2 c66
                                    refine g_sub [1, 2, 3, 4, 5, 6, 7, 8, 9, 0] (lv' := [(0, .ref b0), (1, .ref b1), (2, .int p2), (3, .int p3), (4, .int x2), (5, .int x6), (6, .int x10), (7, .int x11), (8, .int x27), (9, .int x28)]) rfl ?_
                                    exact h
                                  · replace h := h.1 c66
                                    refine g_aload_n (r := (some b0)) hC 1 dL_joins_187 rfl ?_
                                    refine g_iload hC 5 dL_joins_188 rfl ?_
                                    refine g_iload_n hC 4 dL_joins_190 rfl ?_
                                    obtain ⟨hc61, h⟩ := h
                                    obtain ⟨c62, s63, hc62, h⟩ := h
                                    refine gx_callV hC (As := [.int x2, .int p3]) (fun l D dA ht => s_X5_bans l D dA ht _ _ _ _ _ _ _ _ h) wm_3_10 wm_3_7 wm_3_8 wm_3_9 wm_1_1 (by decide +kernel : plainY yX5_bans 2) kc5.1 kc5.2.1 dL_joins_191 (by decide) (Nat.le_of_ble_eq_true rfl) hc61 (Or.inr hc62) ?_ ?_
                                    · exact fun M E h => h.elim
                                    · intro M9 v9 h
                                      obtain ⟨x64, rfl, h⟩ := h
                                      obtain ⟨hM9, h⟩ := h
                                      rw [hM9]
                                      show G X 10 M36 (0 + c4 + c8 + c13 + c25 + c34 + c47 + c51 + c58 + c62) (0 + s5 + s9 + s14 + s26 + s35 + s48 + s52 + s59 + s63) 194 [(9, .int x28), (0, .ref b0), (1, .ref b1), (2, .int p2), (3, .int p3), (4, .int x2), (5, .int x6), (6, .int x10), (7, .int x11), (8, .int x27)] [.int x64]
                                      refine g_if_ne hC 201 dL_joins_194 (by decide) (fun c65 => ?_) (fun c65 => ?_)
                                      · replace h := h.2 c65
                                        refine g_sub [1, 2, 3, 4, 5, 6, 7, 8, 9, 0] (lv' := [(0, .ref b0), (1, .ref b1), (2, .int p2), (3, .int p3), (4, .int x2), (5, .int x6), (6, .int x10), (7, .int x11), (8, .int x27), (9, .int x28)]) rfl ?_
                                        exact h
                                      · replace h := h.1 c65
                                        refine g_sub [1, 2, 3, 4, 5, 6, 7, 8, 9, 0] (lv' := [(0, .ref b0), (1, .ref b1), (2, .int p2), (3, .int p3), (4, .int x2), (5, .int x6), (6, .int x10), (7, .int x11), (8, .int x27), (9, .int x28)]) rfl ?_
                                        exact h)
                refine g_icmp_ne hC 116 dL_joins_107 (by decide) (fun c72 => ?_) (fun c72 => ?_)
                · replace h := h.2 c72
                  refine g_iload hC 0 dL_joins_116 rfl ?_
                  refine g_sub [2, 3, 4, 5, 6, 7, 8, 1, 0] (lv' := [(0, .ref b0), (1, .ref b1), (2, .int p2), (3, .int p3), (4, .int x2), (5, .int x6), (6, .int x10), (7, .int x11), (8, .int x27)]) rfl ?_
                  exact h
                · replace h := h.1 c72
                  refine g_aload_n (r := (some b1)) hC 3 dL_joins_110 rfl ?_
                  refine g_iconst (v := 0) hC dL_joins_111 (by decide) ?_
                  obtain ⟨hc71, h⟩ := h
                  refine g_ialdA hC dL_joins_112 hc71 ?_
                  refine g_goto hC 118 dL_joins_113 (by decide) ?_
                  refine g_sub [2, 3, 4, 5, 6, 7, 8, 1, 0] (lv' := [(0, .ref b0), (1, .ref b1), (2, .int p2), (3, .int p3), (4, .int x2), (5, .int x6), (6, .int x10), (7, .int x11), (8, .int x27)]) rfl ?_
                  exact h
            · replace h := h.1 c73
              refine g_sub [1, 2, 3, 4, 5, 6, 7, 0] (lv' := [(0, .ref b0), (1, .ref b1), (2, .int p2), (3, .int p3), (4, .int x2), (5, .int x6), (6, .int x10), (7, .int x11)]) rfl ?_
              exact h)
      replace h := h (G X 10 M (0 + c4 + c8) (0 + s5 + s9) 51 [(0, .ref b0), (1, .ref b1), (2, .int p2), (3, .int p3), (4, .int x2), (5, .int x6), (6, .int x10)] []) (by
        intro h
        refine g_iconst (v := 0) hC dL_joins_51 (by decide) ?_
        exact h)
      refine g_icmp_eq hC 51 dL_joins_29 (by decide) (fun c79 => ?_) (fun c79 => ?_)
      · replace h := h.1 c79
        refine g_sub [3, 4, 5, 6, 2, 1, 0] (lv' := [(0, .ref b0), (1, .ref b1), (2, .int p2), (3, .int p3), (4, .int x2), (5, .int x6), (6, .int x10)]) rfl ?_
        exact h
      · replace h := h.2 c79
        refine g_iload hC 0 dL_joins_32 rfl ?_
        refine g_aload_n (r := (some b1)) hC 4 dL_joins_34 rfl ?_
        refine g_bipush (v := 8) hC dL_joins_35 (by decide) ?_
        refine g_iload_n hC 5 dL_joins_37 rfl ?_
        refine g_pc (pc' := 38) rfl ?_
        refine g_iadd hC dL_joins_38 ?_
        obtain ⟨hc77, h⟩ := h
        refine g_ialdA hC dL_joins_39 hc77 ?_
        refine g_ishr hC dL_joins_40 ?_
        refine g_iconst (v := 1) hC dL_joins_41 (by decide) ?_
        refine g_iand hC dL_joins_42 ?_
        refine g_iconst (v := 1) hC dL_joins_43 (by decide) ?_
        refine g_icmp_ne hC 51 dL_joins_44 (by decide) (fun c78 => ?_) (fun c78 => ?_)
        · replace h := h.2 c78
          refine g_sub [3, 4, 5, 6, 2, 1, 0] (lv' := [(0, .ref b0), (1, .ref b1), (2, .int p2), (3, .int p3), (4, .int x2), (5, .int x6), (6, .int x10)]) rfl ?_
          exact h
        · replace h := h.1 c78
          refine g_iconst (v := 1) hC dL_joins_47 (by decide) ?_
          refine g_pc (pc' := 48) rfl ?_
          refine g_goto hC 52 dL_joins_48 (by decide) ?_
          refine g_sub [3, 4, 5, 6, 2, 1, 0] (lv' := [(0, .ref b0), (1, .ref b1), (2, .int p2), (3, .int p3), (4, .int x2), (5, .int x6), (6, .int x10)]) rfl ?_
          exact h
