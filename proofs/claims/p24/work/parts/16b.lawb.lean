def w_L_leaves (mc ms : Nat) (M : Mem) (b0 : Nat) (b1 : Nat) (p2 : Int32) (p3 : Int32) (p4 : Int32) (post : Mem → Int32 → Prop) : Prop :=
  inA M b1 10 (28 + p2) ∧ ∀ x2, x2 = gI M b1 (Int32.toNatClampNeg (28 + p2)) → gT M b0 = some (5, 0) ∧ ∃ c4 s5, (0 + c4 ≤ mc ∧ 0 + s5 ≤ ms) ∧ w_X5_members c4 s5 M b0 x2 p3 (fun _ _ => False) (fun x6 => ∃ c7 s8, ((0 + c4) + c7 ≤ mc ∧ (0 + s5) + s8 ≤ ms) ∧ w_L_isThere c7 s8 M b0 b1 p2 (fun x9 => (x9 = 0 → gT M b0 = some (5, 0) ∧ ∃ c73 s74, ((0 + c4 + c7) + c73 ≤ mc ∧ (0 + s5 + s8) + s74 ≤ ms) ∧ w_X5_say c73 s74 M b0 p2 p3 (fun _ _ => False) (fun x75 => ∀ J77 : Int32 → Prop, (∀ (x76 : Int32), (((x76 : Int32) = 0 ∨ (x76 : Int32) = 1) ∧ post M x76) → J77 x76) → ((x75 = (-2) → J77 1) ∧ (¬ (x75 = (-2)) → J77 0)))) ∧ (¬ (x9 = 0) → (p4 = 0 → ((x6 >>> (p2 &&& 31)) &&& 1 = 0 → gT M b0 = some (5, 0) ∧ ∃ c41 s42, ((0 + c4 + c7) + c41 ≤ mc ∧ (0 + s5 + s8) + s42 ≤ ms) ∧ w_X5_say c41 s42 M b0 p2 p3 (fun _ _ => False) (fun x43 => ∀ J45 : Int32 → Prop, (∀ (x44 : Int32), (((x44 : Int32) = 0 ∨ (x44 : Int32) = 1) ∧ post M x44) → J45 x44) → ((x43 = (-3) → J45 1) ∧ (¬ (x43 = (-3)) → J45 0)))) ∧ (¬ ((x6 >>> (p2 &&& 31)) &&& 1 = 0) → inA M b1 10 0 ∧ inA M b1 10 0 ∧ ∀ M11, M11 = sI M b1 (Int32.toNatClampNeg 0) ((gI M b1 (Int32.toNatClampNeg 0)) + 1) → gT M11 b0 = some (5, 0) ∧ ∃ c14 s15, ((0 + c4 + c7) + c14 ≤ mc ∧ (0 + s5 + s8) + s15 ≤ ms) ∧ w_X5_leave c14 s15 M11 b0 p2 p3 (fun _ _ => False) (fun M16 => gT M16 b0 = some (5, 0) ∧ ∃ c18 s19, ((0 + c4 + c7 + c14) + c18 ≤ mc ∧ (0 + s5 + s8 + s15) + s19 ≤ ms) ∧ w_X5_members c18 s19 M16 b0 x2 p3 (fun _ _ => False) (fun x20 => ∀ J24 : Int32 → Nat → Nat → Prop, (∀ (x21 : Int32) (k22 : Nat) (n23 : Nat), (((x21 : Int32) = 0 ∨ (x21 : Int32) = 1) ∧ post M16 x21) → J24 x21 k22 n23) → (∀ J27 : Nat → Nat → Prop, (∀ (k25 : Nat) (n26 : Nat), (J24 0 k25 n26) → J27 k25 n26) → ((x20 = x6 &&& ((1 <<< (p2 &&& 31)) ^^^ ((-1))) → gT M16 b0 = some (5, 0) ∧ ∃ c29 s30, ((0 + c4 + c7 + c14 + c18) + c29 ≤ mc ∧ (0 + s5 + s8 + s15 + s19) + s30 ≤ ms) ∧ w_X5_age c29 s30 M16 b0 x2 p3 (fun _ _ => False) (fun x31 => ∀ J33 : Int32 → Prop, (∀ (x32 : Int32), (∀ J35 : Int32 → Prop, (∀ (x34 : Int32), ((x32 = x34 → J24 1 (0 + c4 + c7 + c14 + c18 + c29) (0 + s5 + s8 + s15 + s19 + s30)) ∧ (¬ (x32 = x34) → J27 (0 + c4 + c7 + c14 + c18 + c29) (0 + s5 + s8 + s15 + s19 + s30))) → J35 x34) → ((x6 = 1 <<< (p2 &&& 31) → J35 1) ∧ (¬ (x6 = 1 <<< (p2 &&& 31)) → J35 0))) → J33 x32) → ((x31 = (-1) → J33 1) ∧ (¬ (x31 = (-1)) → J33 0)))) ∧ (¬ (x20 = x6 &&& ((1 <<< (p2 &&& 31)) ^^^ ((-1)))) → J27 (0 + c4 + c7 + c14 + c18) (0 + s5 + s8 + s15 + s19)))))))) ∧ (¬ (p4 = 0) → inA M b1 10 0 ∧ inA M b1 10 0 ∧ ∀ M49, M49 = sI M b1 (Int32.toNatClampNeg 0) ((gI M b1 (Int32.toNatClampNeg 0)) + 1) → gT M49 b0 = some (5, 0) ∧ ∃ c52 s53, ((0 + c4 + c7) + c52 ≤ mc ∧ (0 + s5 + s8) + s53 ≤ ms) ∧ w_X5_quit c52 s53 M49 b0 p2 (fun _ _ => False) (fun M54 => ∃ c55 s56, ((0 + c4 + c7 + c52) + c55 ≤ mc ∧ (0 + s5 + s8 + s53) + s56 ≤ ms) ∧ w_L_isThere c55 s56 M54 b0 b1 p2 (fun x57 => ∀ J61 : Int32 → Nat → Nat → Prop, (∀ (x58 : Int32) (k59 : Nat) (n60 : Nat), (((x58 : Int32) = 0 ∨ (x58 : Int32) = 1) ∧ post M54 x58) → J61 x58 k59 n60) → (∀ J64 : Nat → Nat → Prop, (∀ (k62 : Nat) (n63 : Nat), (J61 0 k62 n63) → J64 k62 n63) → ((x57 = 0 → gT M54 b0 = some (5, 0) ∧ ∃ c66 s67, ((0 + c4 + c7 + c52 + c55) + c66 ≤ mc ∧ (0 + s5 + s8 + s53 + s56) + s67 ≤ ms) ∧ w_X5_members c66 s67 M54 b0 x2 p3 (fun _ _ => False) (fun x68 => (x68 = x6 &&& ((1 <<< (p2 &&& 31)) ^^^ ((-1))) → J61 1 (0 + c4 + c7 + c52 + c55 + c66) (0 + s5 + s8 + s53 + s56 + s67)) ∧ (¬ (x68 = x6 &&& ((1 <<< (p2 &&& 31)) ^^^ ((-1)))) → J64 (0 + c4 + c7 + c52 + c55 + c66) (0 + s5 + s8 + s53 + s56 + s67)))) ∧ (¬ (x57 = 0) → J64 (0 + c4 + c7 + c52 + c55) (0 + s5 + s8 + s53 + s56))))))))))
set_option maxRecDepth 100000 in
set_option maxHeartbeats 8000000 in
theorem s_L_leaves (l : Launch) (D : va_G) (dA : Nat → ClassId) (htr : l.stackTraces = false) (mc ms : Nat) (M : Mem) (b0 : Nat) (b1 : Nat) (p2 : Int32) (p3 : Int32) (p4 : Int32) (post : Mem → Int32 → Prop) (h : w_L_leaves mc ms M b0 b1 p2 p3 p4 post) : CtN l D dA yL_leaves cL_leaves 7 (some .boolean) 9 [.ref b0, .ref b1, .int p2, .int p3, .int p4] M mc ms (pI post) := by
  refine ct_ofN htr (by decide) (Nat.le_of_ble_eq_true rfl) ?_
  intro X hC hN hR
  show G X 7 M 0 0 0 [(0, .ref b0), (1, .ref b1), (2, .int p2), (3, .int p3), (4, .int p4)] []
  unfold w_L_leaves at h
  refine g_aload_n (r := (some b1)) hC 1 dL_leaves_0 rfl ?_
  refine g_bipush (v := 28) hC dL_leaves_1 (by decide) ?_
  refine g_iload_n hC 2 dL_leaves_3 rfl ?_
  refine g_iadd hC dL_leaves_4 ?_
  obtain ⟨hc1, h⟩ := h
  refine g_ialdA hC dL_leaves_5 hc1 ?_
  obtain ⟨x2, ex2⟩ : ∃ w, w = gI M b1 (Int32.toNatClampNeg (28 + p2)) := ⟨_, rfl⟩
  replace h := h x2 ex2
  rw [← ex2]
  refine g_istore (lv' := [(5, .int x2), (0, .ref b0), (1, .ref b1), (2, .int p2), (3, .int p3), (4, .int p4)]) hC dL_leaves_6 (by decide) rfl ?_
  refine g_aload_n (r := (some b0)) hC 1 dL_leaves_8 rfl ?_
  refine g_pc (pc' := 9) rfl ?_
  refine g_iload hC 0 dL_leaves_9 rfl ?_
  refine g_iload_n hC 4 dL_leaves_11 rfl ?_
  obtain ⟨hc3, h⟩ := h
  obtain ⟨c4, s5, hc4, h⟩ := h
  refine gx_callV hC (As := [.int x2, .int p3]) (fun l D dA ht => s_X5_members l D dA ht _ _ _ _ _ _ _ _ h) wm_3_6 wm_3_3 wm_3_4 wm_3_5 wm_1_1 (by decide +kernel : plainY yX5_members 2) kc5.1 kc5.2.1 dL_leaves_12 (by decide) (Nat.le_of_ble_eq_true rfl) hc3 (Or.inr hc4) ?_ ?_
  · exact fun M E h => h.elim
  · intro M9 v9 h
    obtain ⟨x6, rfl, h⟩ := h
    obtain ⟨hM9, h⟩ := h
    rw [hM9]
    show G X 7 M (0 + c4) (0 + s5) 15 [(5, .int x2), (0, .ref b0), (1, .ref b1), (2, .int p2), (3, .int p3), (4, .int p4)] [.int x6]
    refine g_istore (lv' := [(6, .int x6), (5, .int x2), (0, .ref b0), (1, .ref b1), (2, .int p2), (3, .int p3), (4, .int p4)]) hC dL_leaves_15 (by decide) rfl ?_
    refine g_aload_n (r := (some b0)) hC 2 dL_leaves_17 rfl ?_
    refine g_aload_n (r := (some b1)) hC 3 dL_leaves_18 rfl ?_
    refine g_iload_n hC 4 dL_leaves_19 rfl ?_
    obtain ⟨c7, s8, hc7, h⟩ := h
    refine g_callS hC (As := [.ref b0, .ref b1, .int p2]) (fun l D dA ht => s_L_isThere l D dA ht _ _ _ _ _ _ _ h) wm_3_13 wm_3_11 wm_3_12 wm_1_0 (by decide +kernel : plainY yL_isThere 3) dL_leaves_20 (by decide) (Nat.le_of_ble_eq_true rfl) (Or.inr hc7) ?_
    intro M9 v9 h
    obtain ⟨x9, rfl, h⟩ := h
    obtain ⟨hM9, h⟩ := h
    rw [hM9]
    show G X 7 M (0 + c4 + c7) (0 + s5 + s8) 23 [(6, .int x6), (5, .int x2), (0, .ref b0), (1, .ref b1), (2, .int p2), (3, .int p3), (4, .int p4)] [.int x9]
    refine g_pc (pc' := 23) rfl ?_
    refine g_if_ne hC 43 dL_leaves_23 (by decide) (fun c79 => ?_) (fun c79 => ?_)
    · replace h := h.2 c79
      refine g_iload hC 6 dL_leaves_43 rfl ?_
      refine g_if_eq hC 93 dL_leaves_45 (by decide) (fun c71 => ?_) (fun c71 => ?_)
      · replace h := h.1 c71
        refine g_iload hC 0 dL_leaves_93 rfl ?_
        refine g_iload_n hC 4 dL_leaves_95 rfl ?_
        refine g_ishr hC dL_leaves_96 ?_
        refine g_iconst (v := 1) hC dL_leaves_97 (by decide) ?_
        refine g_iand hC dL_leaves_98 ?_
        refine g_pc (pc' := 99) rfl ?_
        refine g_if_ne hC 119 dL_leaves_99 (by decide) (fun c47 => ?_) (fun c47 => ?_)
        · replace h := h.2 c47
          refine g_aload_n (r := (some b1)) hC 3 dL_leaves_119 rfl ?_
          refine g_iconst (v := 0) hC dL_leaves_120 (by decide) ?_
          refine g_dup2 hC dL_leaves_121 rfl rfl ?_
          obtain ⟨hc10, h⟩ := h
          refine g_ialdA hC dL_leaves_122 hc10 ?_
          refine g_iconst (v := 1) hC dL_leaves_123 (by decide) ?_
          refine g_iadd hC dL_leaves_124 ?_
          obtain ⟨hc12, h⟩ := h
          refine g_iastA hC dL_leaves_125 hc12 ?_
          obtain ⟨M11, eM11⟩ : ∃ w, w = sI M b1 (Int32.toNatClampNeg 0) ((gI M b1 (Int32.toNatClampNeg 0)) + 1) := ⟨_, rfl⟩
          replace h := h M11 eM11
          rw [← eM11]
          refine g_pc (pc' := 126) rfl ?_
          refine g_aload_n (r := (some b0)) hC 2 dL_leaves_126 rfl ?_
          refine g_iload_n hC 4 dL_leaves_127 rfl ?_
          refine g_iload_n hC 5 dL_leaves_128 rfl ?_
          obtain ⟨hc13, h⟩ := h
          obtain ⟨c14, s15, hc14, h⟩ := h
          refine gx_callV hC (As := [.int p2, .int p3]) (fun l D dA ht => s_X5_leave l D dA ht _ _ _ _ _ _ _ _ h) wm_3_76 wm_3_73 wm_3_74 wm_3_75 wm_1_1 (by decide +kernel : plainY yX5_leave 2) kc5.1 kc5.2.1 dL_leaves_129 (by decide) (Nat.le_of_ble_eq_true rfl) hc13 (Or.inr hc14) ?_ ?_
          · exact fun M E h => h.elim
          · intro M9 v9 h
            obtain ⟨rfl, h⟩ := h
            generalize M9 = M16 at h ⊢
            show G X 7 M16 (0 + c4 + c7 + c14) (0 + s5 + s8 + s15) 132 [(6, .int x6), (5, .int x2), (0, .ref b0), (1, .ref b1), (2, .int p2), (3, .int p3), (4, .int p4)] []
            refine g_aload_n (r := (some b0)) hC 2 dL_leaves_132 rfl ?_
            refine g_iload hC 1 dL_leaves_133 rfl ?_
            refine g_iload_n hC 5 dL_leaves_135 rfl ?_
            obtain ⟨hc17, h⟩ := h
            obtain ⟨c18, s19, hc18, h⟩ := h
            refine gx_callV hC (As := [.int x2, .int p3]) (fun l D dA ht => s_X5_members l D dA ht _ _ _ _ _ _ _ _ h) wm_3_6 wm_3_3 wm_3_4 wm_3_5 wm_1_1 (by decide +kernel : plainY yX5_members 2) kc5.1 kc5.2.1 dL_leaves_136 (by decide) (Nat.le_of_ble_eq_true rfl) hc17 (Or.inr hc18) ?_ ?_
            · exact fun M E h => h.elim
            · intro M9 v9 h
              obtain ⟨x20, rfl, h⟩ := h
              obtain ⟨hM9, h⟩ := h
              rw [hM9]
              show G X 7 M16 (0 + c4 + c7 + c14 + c18) (0 + s5 + s8 + s15 + s19) 139 [(6, .int x6), (5, .int x2), (0, .ref b0), (1, .ref b1), (2, .int p2), (3, .int p3), (4, .int p4)] [.int x20]
              refine g_pc (pc' := 139) rfl ?_
              refine g_iload hC 0 dL_leaves_139 rfl ?_
              refine g_iconst (v := 1) hC dL_leaves_141 (by decide) ?_
              refine g_iload_n hC 4 dL_leaves_142 rfl ?_
              refine g_ishl hC dL_leaves_143 ?_
              refine g_iconst (v := (-1)) hC dL_leaves_144 (by decide) ?_
              refine g_ixor hC dL_leaves_145 ?_
              refine g_iand hC dL_leaves_146 ?_
              replace h := h (fun (x21 : Int32) (k22 : Nat) (n23 : Nat) => G X 7 M16 k22 n23 187 [(0, .ref b0), (1, .ref b1), (2, .int p2), (3, .int p3), (4, .int p4), (5, .int x2), (6, .int x6)] [.int x21]) (by
                intro x21 k22 n23 h
                show G X 7 M16 k22 n23 187 [(0, .ref b0), (1, .ref b1), (2, .int p2), (3, .int p3), (4, .int p4), (5, .int x2), (6, .int x6)] [.int x21]
                exact hR.2.2.1 rfl _ _ _ _ _ _ dL_leaves_187 ⟨h.1, ⟨_, rfl, h.2⟩⟩)
              replace h := h (fun (k25 : Nat) (n26 : Nat) => G X 7 M16 k25 n26 186 [(0, .ref b0), (1, .ref b1), (2, .int p2), (3, .int p3), (4, .int p4), (5, .int x2), (6, .int x6)] []) (by
                intro k25 n26 h
                show G X 7 M16 k25 n26 186 [(0, .ref b0), (1, .ref b1), (2, .int p2), (3, .int p3), (4, .int p4), (5, .int x2), (6, .int x6)] []
                refine g_iconst (v := 0) hC dL_leaves_186 (by decide) ?_
                exact h)
              refine g_icmp_ne hC 186 dL_leaves_147 (by decide) (fun c39 => ?_) (fun c39 => ?_)
              · replace h := h.2 c39
                refine g_sub [2, 3, 4, 5, 6, 1, 0] (lv' := [(0, .ref b0), (1, .ref b1), (2, .int p2), (3, .int p3), (4, .int p4), (5, .int x2), (6, .int x6)]) rfl ?_
                exact h
              · replace h := h.1 c39
                refine g_pc (pc' := 150) rfl ?_
                refine g_aload_n (r := (some b0)) hC 2 dL_leaves_150 rfl ?_
                refine g_iload hC 1 dL_leaves_151 rfl ?_
                refine g_iload_n hC 5 dL_leaves_153 rfl ?_
                obtain ⟨hc28, h⟩ := h
                obtain ⟨c29, s30, hc29, h⟩ := h
                refine gx_callV hC (As := [.int x2, .int p3]) (fun l D dA ht => s_X5_age l D dA ht _ _ _ _ _ _ _ _ h) wm_2_48 wm_2_45 wm_2_46 wm_2_47 wm_1_1 (by decide +kernel : plainY yX5_age 2) kc5.1 kc5.2.1 dL_leaves_154 (by decide) (Nat.le_of_ble_eq_true rfl) hc28 (Or.inr hc29) ?_ ?_
                · exact fun M E h => h.elim
                · intro M9 v9 h
                  obtain ⟨x31, rfl, h⟩ := h
                  obtain ⟨hM9, h⟩ := h
                  rw [hM9]
                  show G X 7 M16 (0 + c4 + c7 + c14 + c18 + c29) (0 + s5 + s8 + s15 + s19 + s30) 157 [(6, .int x6), (5, .int x2), (0, .ref b0), (1, .ref b1), (2, .int p2), (3, .int p3), (4, .int p4)] [.int x31]
                  refine g_iconst (v := (-1)) hC dL_leaves_157 (by decide) ?_
                  replace h := h (fun (x32 : Int32) => G X 7 M16 (0 + c4 + c7 + c14 + c18 + c29) (0 + s5 + s8 + s15 + s19 + s30) 166 [(0, .ref b0), (1, .ref b1), (2, .int p2), (3, .int p3), (4, .int p4), (5, .int x2), (6, .int x6)] [.int x32]) (by
                    intro x32 h
                    show G X 7 M16 (0 + c4 + c7 + c14 + c18 + c29) (0 + s5 + s8 + s15 + s19 + s30) 166 [(0, .ref b0), (1, .ref b1), (2, .int p2), (3, .int p3), (4, .int p4), (5, .int x2), (6, .int x6)] [.int x32]
                    refine g_iload hC 6 dL_leaves_166 rfl ?_
                    refine g_iconst (v := 1) hC dL_leaves_168 (by decide) ?_
                    refine g_iload_n hC 2 dL_leaves_169 rfl ?_
                    refine g_pc (pc' := 170) rfl ?_
                    refine g_ishl hC dL_leaves_170 ?_
                    replace h := h (fun (x34 : Int32) => G X 7 M16 (0 + c4 + c7 + c14 + c18 + c29) (0 + s5 + s8 + s15 + s19 + s30) 179 [(0, .ref b0), (1, .ref b1), (2, .int p2), (3, .int p3), (4, .int p4), (5, .int x2), (6, .int x6)] [.int x34, .int x32]) (by
                      intro x34 h
                      show G X 7 M16 (0 + c4 + c7 + c14 + c18 + c29) (0 + s5 + s8 + s15 + s19 + s30) 179 [(0, .ref b0), (1, .ref b1), (2, .int p2), (3, .int p3), (4, .int p4), (5, .int x2), (6, .int x6)] [.int x34, .int x32]
                      refine g_icmp_ne hC 186 dL_leaves_179 (by decide) (fun c36 => ?_) (fun c36 => ?_)
                      · replace h := h.2 c36
                        exact h
                      · replace h := h.1 c36
                        refine g_iconst (v := 1) hC dL_leaves_182 (by decide) ?_
                        refine g_goto hC 187 dL_leaves_183 (by decide) ?_
                        exact h)
                    refine g_icmp_ne hC 178 dL_leaves_171 (by decide) (fun c37 => ?_) (fun c37 => ?_)
                    · replace h := h.2 c37
                      refine g_iconst (v := 0) hC dL_leaves_178 (by decide) ?_
                      exact h
                    · replace h := h.1 c37
                      refine g_iconst (v := 1) hC dL_leaves_174 (by decide) ?_
                      refine g_goto hC 179 dL_leaves_175 (by decide) ?_
                      exact h)
                  refine g_icmp_ne hC 165 dL_leaves_158 (by decide) (fun c38 => ?_) (fun c38 => ?_)
                  · replace h := h.2 c38
                    refine g_iconst (v := 0) hC dL_leaves_165 (by decide) ?_
                    refine g_sub [2, 3, 4, 5, 6, 1, 0] (lv' := [(0, .ref b0), (1, .ref b1), (2, .int p2), (3, .int p3), (4, .int p4), (5, .int x2), (6, .int x6)]) rfl ?_
                    exact h
                  · replace h := h.1 c38
                    refine g_iconst (v := 1) hC dL_leaves_161 (by decide) ?_
                    refine g_goto hC 166 dL_leaves_162 (by decide) ?_
                    refine g_sub [2, 3, 4, 5, 6, 1, 0] (lv' := [(0, .ref b0), (1, .ref b1), (2, .int p2), (3, .int p3), (4, .int p4), (5, .int x2), (6, .int x6)]) rfl ?_
                    exact h
        · replace h := h.1 c47
          refine g_aload_n (r := (some b0)) hC 2 dL_leaves_102 rfl ?_
          refine g_iload_n hC 4 dL_leaves_103 rfl ?_
          refine g_iload_n hC 5 dL_leaves_104 rfl ?_
          obtain ⟨hc40, h⟩ := h
          obtain ⟨c41, s42, hc41, h⟩ := h
          refine gx_callV hC (As := [.int p2, .int p3]) (fun l D dA ht => s_X5_say l D dA ht _ _ _ _ _ _ _ _ h) wm_3_17 wm_3_14 wm_3_15 wm_3_16 wm_1_1 (by decide +kernel : plainY yX5_say 2) kc5.1 kc5.2.1 dL_leaves_105 (by decide) (Nat.le_of_ble_eq_true rfl) hc40 (Or.inr hc41) ?_ ?_
          · exact fun M E h => h.elim
          · intro M9 v9 h
            obtain ⟨x43, rfl, h⟩ := h
            obtain ⟨hM9, h⟩ := h
            rw [hM9]
            show G X 7 M (0 + c4 + c7 + c41) (0 + s5 + s8 + s42) 108 [(6, .int x6), (5, .int x2), (0, .ref b0), (1, .ref b1), (2, .int p2), (3, .int p3), (4, .int p4)] [.int x43]
            refine g_bipush (v := (-3)) hC dL_leaves_108 (by decide) ?_
            replace h := h (fun (x44 : Int32) => G X 7 M (0 + c4 + c7 + c41) (0 + s5 + s8 + s42) 118 [(0, .ref b0), (1, .ref b1), (2, .int p2), (3, .int p3), (4, .int p4), (5, .int x2), (6, .int x6)] [.int x44]) (by
              intro x44 h
              show G X 7 M (0 + c4 + c7 + c41) (0 + s5 + s8 + s42) 118 [(0, .ref b0), (1, .ref b1), (2, .int p2), (3, .int p3), (4, .int p4), (5, .int x2), (6, .int x6)] [.int x44]
              exact hR.2.2.1 rfl _ _ _ _ _ _ dL_leaves_118 ⟨h.1, ⟨_, rfl, h.2⟩⟩)
            refine g_icmp_ne hC 117 dL_leaves_110 (by decide) (fun c46 => ?_) (fun c46 => ?_)
            · replace h := h.2 c46
              refine g_iconst (v := 0) hC dL_leaves_117 (by decide) ?_
              refine g_sub [2, 3, 4, 5, 6, 1, 0] (lv' := [(0, .ref b0), (1, .ref b1), (2, .int p2), (3, .int p3), (4, .int p4), (5, .int x2), (6, .int x6)]) rfl ?_
              exact h
            · replace h := h.1 c46
              refine g_iconst (v := 1) hC dL_leaves_113 (by decide) ?_
              refine g_pc (pc' := 114) rfl ?_
              refine g_goto hC 118 dL_leaves_114 (by decide) ?_
              refine g_sub [2, 3, 4, 5, 6, 1, 0] (lv' := [(0, .ref b0), (1, .ref b1), (2, .int p2), (3, .int p3), (4, .int p4), (5, .int x2), (6, .int x6)]) rfl ?_
              exact h
      · replace h := h.2 c71
        refine g_aload_n (r := (some b1)) hC 3 dL_leaves_48 rfl ?_
        refine g_iconst (v := 0) hC dL_leaves_49 (by decide) ?_
        refine g_dup2 hC dL_leaves_50 rfl rfl ?_
        obtain ⟨hc48, h⟩ := h
        refine g_ialdA hC dL_leaves_51 hc48 ?_
        refine g_iconst (v := 1) hC dL_leaves_52 (by decide) ?_
        refine g_pc (pc' := 53) rfl ?_
        refine g_iadd hC dL_leaves_53 ?_
        obtain ⟨hc50, h⟩ := h
        refine g_iastA hC dL_leaves_54 hc50 ?_
        obtain ⟨M49, eM49⟩ : ∃ w, w = sI M b1 (Int32.toNatClampNeg 0) ((gI M b1 (Int32.toNatClampNeg 0)) + 1) := ⟨_, rfl⟩
        replace h := h M49 eM49
        rw [← eM49]
        refine g_aload_n (r := (some b0)) hC 2 dL_leaves_55 rfl ?_
        refine g_iload_n hC 4 dL_leaves_56 rfl ?_
        obtain ⟨hc51, h⟩ := h
        obtain ⟨c52, s53, hc52, h⟩ := h
        refine gx_callV hC (As := [.int p2]) (fun l D dA ht => s_X5_quit l D dA ht _ _ _ _ _ _ _ h) wm_3_72 wm_3_69 wm_3_70 wm_3_71 wm_1_1 (by decide +kernel : plainY yX5_quit 1) kc5.1 kc5.2.1 dL_leaves_57 (by decide) (Nat.le_of_ble_eq_true rfl) hc51 (Or.inr hc52) ?_ ?_
        · exact fun M E h => h.elim
        · intro M9 v9 h
          obtain ⟨rfl, h⟩ := h
          generalize M9 = M54 at h ⊢
          show G X 7 M54 (0 + c4 + c7 + c52) (0 + s5 + s8 + s53) 60 [(6, .int x6), (5, .int x2), (0, .ref b0), (1, .ref b1), (2, .int p2), (3, .int p3), (4, .int p4)] []
          refine g_aload_n (r := (some b0)) hC 2 dL_leaves_60 rfl ?_
          refine g_aload_n (r := (some b1)) hC 3 dL_leaves_61 rfl ?_
          refine g_iload_n hC 4 dL_leaves_62 rfl ?_
          refine g_pc (pc' := 63) rfl ?_
          obtain ⟨c55, s56, hc55, h⟩ := h
          refine g_callS hC (As := [.ref b0, .ref b1, .int p2]) (fun l D dA ht => s_L_isThere l D dA ht _ _ _ _ _ _ _ h) wm_3_13 wm_3_11 wm_3_12 wm_1_0 (by decide +kernel : plainY yL_isThere 3) dL_leaves_63 (by decide) (Nat.le_of_ble_eq_true rfl) (Or.inr hc55) ?_
          intro M9 v9 h
          obtain ⟨x57, rfl, h⟩ := h
          obtain ⟨hM9, h⟩ := h
          rw [hM9]
          show G X 7 M54 (0 + c4 + c7 + c52 + c55) (0 + s5 + s8 + s53 + s56) 66 [(6, .int x6), (5, .int x2), (0, .ref b0), (1, .ref b1), (2, .int p2), (3, .int p3), (4, .int p4)] [.int x57]
          replace h := h (fun (x58 : Int32) (k59 : Nat) (n60 : Nat) => G X 7 M54 k59 n60 92 [(0, .ref b0), (1, .ref b1), (2, .int p2), (3, .int p3), (4, .int p4), (5, .int x2), (6, .int x6)] [.int x58]) (by
            intro x58 k59 n60 h
            show G X 7 M54 k59 n60 92 [(0, .ref b0), (1, .ref b1), (2, .int p2), (3, .int p3), (4, .int p4), (5, .int x2), (6, .int x6)] [.int x58]
            exact hR.2.2.1 rfl _ _ _ _ _ _ dL_leaves_92 ⟨h.1, ⟨_, rfl, h.2⟩⟩)
          replace h := h (fun (k62 : Nat) (n63 : Nat) => G X 7 M54 k62 n63 91 [(0, .ref b0), (1, .ref b1), (2, .int p2), (3, .int p3), (4, .int p4), (5, .int x2), (6, .int x6)] []) (by
            intro k62 n63 h
            show G X 7 M54 k62 n63 91 [(0, .ref b0), (1, .ref b1), (2, .int p2), (3, .int p3), (4, .int p4), (5, .int x2), (6, .int x6)] []
            refine g_iconst (v := 0) hC dL_leaves_91 (by decide) ?_
            exact h)
          refine g_if_ne hC 91 dL_leaves_66 (by decide) (fun c70 => ?_) (fun c70 => ?_)
          · replace h := h.2 c70
            refine g_sub [2, 3, 4, 5, 6, 1, 0] (lv' := [(0, .ref b0), (1, .ref b1), (2, .int p2), (3, .int p3), (4, .int p4), (5, .int x2), (6, .int x6)]) rfl ?_
            exact h
          · replace h := h.1 c70
            refine g_aload_n (r := (some b0)) hC 2 dL_leaves_69 rfl ?_
            refine g_iload hC 1 dL_leaves_70 rfl ?_
            refine g_iload_n hC 5 dL_leaves_72 rfl ?_
            obtain ⟨hc65, h⟩ := h
            obtain ⟨c66, s67, hc66, h⟩ := h
            refine gx_callV hC (As := [.int x2, .int p3]) (fun l D dA ht => s_X5_members l D dA ht _ _ _ _ _ _ _ _ h) wm_3_6 wm_3_3 wm_3_4 wm_3_5 wm_1_1 (by decide +kernel : plainY yX5_members 2) kc5.1 kc5.2.1 dL_leaves_73 (by decide) (Nat.le_of_ble_eq_true rfl) hc65 (Or.inr hc66) ?_ ?_
            · exact fun M E h => h.elim
            · intro M9 v9 h
              obtain ⟨x68, rfl, h⟩ := h
              obtain ⟨hM9, h⟩ := h
              rw [hM9]
              show G X 7 M54 (0 + c4 + c7 + c52 + c55 + c66) (0 + s5 + s8 + s53 + s56 + s67) 76 [(6, .int x6), (5, .int x2), (0, .ref b0), (1, .ref b1), (2, .int p2), (3, .int p3), (4, .int p4)] [.int x68]
              refine g_iload hC 0 dL_leaves_76 rfl ?_
              refine g_iconst (v := 1) hC dL_leaves_78 (by decide) ?_
              refine g_pc (pc' := 79) rfl ?_
              refine g_iload_n hC 4 dL_leaves_79 rfl ?_
              refine g_ishl hC dL_leaves_80 ?_
              refine g_iconst (v := (-1)) hC dL_leaves_81 (by decide) ?_
              refine g_ixor hC dL_leaves_82 ?_
              refine g_iand hC dL_leaves_83 ?_
              refine g_icmp_ne hC 91 dL_leaves_84 (by decide) (fun c69 => ?_) (fun c69 => ?_)
              · replace h := h.2 c69
                refine g_sub [2, 3, 4, 5, 6, 1, 0] (lv' := [(0, .ref b0), (1, .ref b1), (2, .int p2), (3, .int p3), (4, .int p4), (5, .int x2), (6, .int x6)]) rfl ?_
                exact h
              · replace h := h.1 c69
                refine g_iconst (v := 1) hC dL_leaves_87 (by decide) ?_
                refine g_goto hC 92 dL_leaves_88 (by decide) ?_
                refine g_sub [2, 3, 4, 5, 6, 1, 0] (lv' := [(0, .ref b0), (1, .ref b1), (2, .int p2), (3, .int p3), (4, .int p4), (5, .int x2), (6, .int x6)]) rfl ?_
                exact h
    · replace h := h.1 c79
      refine g_aload_n (r := (some b0)) hC 2 dL_leaves_26 rfl ?_
      refine g_iload_n hC 4 dL_leaves_27 rfl ?_
      refine g_iload_n hC 5 dL_leaves_28 rfl ?_
      obtain ⟨hc72, h⟩ := h
      obtain ⟨c73, s74, hc73, h⟩ := h
      refine gx_callV hC (As := [.int p2, .int p3]) (fun l D dA ht => s_X5_say l D dA ht _ _ _ _ _ _ _ _ h) wm_3_17 wm_3_14 wm_3_15 wm_3_16 wm_1_1 (by decide +kernel : plainY yX5_say 2) kc5.1 kc5.2.1 dL_leaves_29 (by decide) (Nat.le_of_ble_eq_true rfl) hc72 (Or.inr hc73) ?_ ?_
      · exact fun M E h => h.elim
      · intro M9 v9 h
        obtain ⟨x75, rfl, h⟩ := h
        obtain ⟨hM9, h⟩ := h
        rw [hM9]
        show G X 7 M (0 + c4 + c7 + c73) (0 + s5 + s8 + s74) 32 [(6, .int x6), (5, .int x2), (0, .ref b0), (1, .ref b1), (2, .int p2), (3, .int p3), (4, .int p4)] [.int x75]
        refine g_bipush (v := (-2)) hC dL_leaves_32 (by decide) ?_
        replace h := h (fun (x76 : Int32) => G X 7 M (0 + c4 + c7 + c73) (0 + s5 + s8 + s74) 42 [(0, .ref b0), (1, .ref b1), (2, .int p2), (3, .int p3), (4, .int p4), (5, .int x2), (6, .int x6)] [.int x76]) (by
          intro x76 h
          show G X 7 M (0 + c4 + c7 + c73) (0 + s5 + s8 + s74) 42 [(0, .ref b0), (1, .ref b1), (2, .int p2), (3, .int p3), (4, .int p4), (5, .int x2), (6, .int x6)] [.int x76]
          exact hR.2.2.1 rfl _ _ _ _ _ _ dL_leaves_42 ⟨h.1, ⟨_, rfl, h.2⟩⟩)
        refine g_icmp_ne hC 41 dL_leaves_34 (by decide) (fun c78 => ?_) (fun c78 => ?_)
        · replace h := h.2 c78
          refine g_iconst (v := 0) hC dL_leaves_41 (by decide) ?_
          refine g_sub [2, 3, 4, 5, 6, 1, 0] (lv' := [(0, .ref b0), (1, .ref b1), (2, .int p2), (3, .int p3), (4, .int p4), (5, .int x2), (6, .int x6)]) rfl ?_
          exact h
        · replace h := h.1 c78
          refine g_iconst (v := 1) hC dL_leaves_37 (by decide) ?_
          refine g_pc (pc' := 38) rfl ?_
          refine g_goto hC 42 dL_leaves_38 (by decide) ?_
          refine g_sub [2, 3, 4, 5, 6, 1, 0] (lv' := [(0, .ref b0), (1, .ref b1), (2, .int p2), (3, .int p3), (4, .int p4), (5, .int x2), (6, .int x6)]) rfl ?_
          exact h

def w_L_sets (mc ms : Nat) (M : Mem) (b0 : Nat) (b1 : Nat) (p2 : Int32) (p3 : Int32) (p4 : Int32) (p5 : Int32) (post : Mem → Int32 → Prop) : Prop :=
  inA M b1 10 (28 + p2) ∧ ∀ x2, x2 = gI M b1 (Int32.toNatClampNeg (28 + p2)) → ∃ c3 s4, (0 + c3 ≤ mc ∧ 0 + s4 ≤ ms) ∧ w_L_isThere c3 s4 M b0 b1 p2 (fun x5 => ∀ J8 : Nat → Nat → Prop, (∀ (k6 : Nat) (n7 : Nat), (gT M b0 = some (5, 0) ∧ ∃ c10 s11, (k6 + c10 ≤ mc ∧ n7 + s11 ≤ ms) ∧ w_X5_say c10 s11 M b0 p2 p3 (fun _ _ => False) (fun x12 => ∀ J14 : Int32 → Prop, (∀ (x13 : Int32), (((x13 : Int32) = 0 ∨ (x13 : Int32) = 1) ∧ post M x13) → J14 x13) → ((((-1)) ≤ x12 → J14 0) ∧ (¬ (((-1)) ≤ x12) → J14 1)))) → J8 k6 n7) → ((x5 = 0 → J8 (0 + c3) (0 + s4)) ∧ (¬ (x5 = 0) → gT M b0 = some (5, 0) ∧ ∃ c17 s18, ((0 + c3) + c17 ≤ mc ∧ (0 + s4) + s18 ≤ ms) ∧ w_X5_members c17 s18 M b0 x2 p3 (fun _ _ => False) (fun x19 => ((x19 >>> (p2 &&& 31)) &&& 1 = 0 → J8 (0 + c3 + c17) (0 + s4 + s18)) ∧ (¬ ((x19 >>> (p2 &&& 31)) &&& 1 = 0) → gT M b0 = some (5, 0) ∧ ∃ c21 s22, ((0 + c3 + c17) + c21 ≤ mc ∧ (0 + s4 + s18) + s22 ≤ ms) ∧ w_X5_modes c21 s22 M b0 x2 p3 (fun _ _ => False) (fun x23 => gT M b0 = some (5, 0) ∧ ∃ c25 s26, ((0 + c3 + c17 + c21) + c25 ≤ mc ∧ (0 + s4 + s18 + s22) + s26 ≤ ms) ∧ w_X5_age c25 s26 M b0 x2 p3 (fun _ _ => False) (fun x27 => inA M b1 10 0 ∧ inA M b1 10 0 ∧ ∀ M29, M29 = sI M b1 (Int32.toNatClampNeg 0) ((gI M b1 (Int32.toNatClampNeg 0)) + 1) → gT M29 b0 = some (5, 0) ∧ ∃ c32 s33, ((0 + c3 + c17 + c21 + c25) + c32 ≤ mc ∧ (0 + s4 + s18 + s22 + s26) + s33 ≤ ms) ∧ w_X5_setModes c32 s33 M29 b0 p2 p3 p4 p5 (fun _ _ => False) (fun M34 x35 => ∀ J39 : Int32 → Nat → Nat → Prop, (∀ (x36 : Int32) (k37 : Nat) (n38 : Nat), (gT M34 b0 = some (5, 0) ∧ ∃ c41 s42, (k37 + c41 ≤ mc ∧ n38 + s42 ≤ ms) ∧ w_X5_say c41 s42 M34 b0 p2 p3 (fun _ _ => False) (fun x43 => inA M34 b1 10 (8 + p2) ∧ ∀ J46 : Int32 → Prop, (∀ (x45 : Int32), (∀ J50 : Int32 → Nat → Nat → Prop, (∀ (x47 : Int32) (k48 : Nat) (n49 : Nat), (((x47 : Int32) = 0 ∨ (x47 : Int32) = 1) ∧ post M34 x47) → J50 x47 k48 n49) → (∀ J53 : Nat → Nat → Prop, (∀ (k51 : Nat) (n52 : Nat), (J50 0 k51 n52) → J53 k51 n52) → ((x36 = 0 → J53 (k37 + c41) (n38 + s42)) ∧ (¬ (x36 = 0) → ∀ J55 : Int32 → Prop, (∀ (x54 : Int32), ((x45 = x54 → ∀ J58 : Nat → Nat → Prop, (∀ (k56 : Nat) (n57 : Nat), (J50 1 k56 n57) → J58 k56 n57) → ((x45 = 0 → (p4 - p4 / 2 * 2 = 1 → J58 (k37 + c41) (n38 + s42)) ∧ (¬ (p4 - p4 / 2 * 2 = 1) → (x43 < 0 → J53 (k37 + c41) (n38 + s42)) ∧ (¬ (x43 < 0) → gT M34 b0 = some (5, 0) ∧ ∃ c60 s61, ((k37 + c41) + c60 ≤ mc ∧ (n38 + s42) + s61 ≤ ms) ∧ w_X5_tree c60 s61 M34 b0 x2 (fun _ _ => False) (fun x62 => w_L_count M34 x62 (fun x63 => (x63 ≤ x43 → J53 (k37 + c41 + c60) (n38 + s42 + s61)) ∧ (¬ (x63 ≤ x43) → J58 (k37 + c41 + c60) (n38 + s42 + s61))))))) ∧ (¬ (x45 = 0) → J58 (k37 + c41) (n38 + s42)))) ∧ (¬ (x45 = x54) → J53 (k37 + c41) (n38 + s42))) → J55 x54) → ((x43 = (-4) → J55 1) ∧ (¬ (x43 = (-4)) → J55 0)))))) → J46 x45) → (((p5 >>> ((gI M34 b1 (Int32.toNatClampNeg (8 + p2))) &&& 31)) &&& 1 = 1 → J46 1) ∧ (¬ ((p5 >>> ((gI M34 b1 (Int32.toNatClampNeg (8 + p2))) &&& 31)) &&& 1 = 1) → J46 0)))) → J39 x36 k37 n38) → (∀ J74 : Nat → Nat → Prop, (∀ (k72 : Nat) (n73 : Nat), (J39 0 k72 n73) → J74 k72 n73) → ((x35 = x23 → gT M34 b0 = some (5, 0) ∧ ∃ c76 s77, ((0 + c3 + c17 + c21 + c25 + c32) + c76 ≤ mc ∧ (0 + s4 + s18 + s22 + s26 + s33) + s77 ≤ ms) ∧ w_X5_modes c76 s77 M34 b0 x2 p3 (fun _ _ => False) (fun x78 => (x78 = p4 → gT M34 b0 = some (5, 0) ∧ ∃ c80 s81, ((0 + c3 + c17 + c21 + c25 + c32 + c76) + c80 ≤ mc ∧ (0 + s4 + s18 + s22 + s26 + s33 + s77) + s81 ≤ ms) ∧ w_X5_bans c80 s81 M34 b0 x2 p3 (fun _ _ => False) (fun x82 => (x82 = p5 → gT M34 b0 = some (5, 0) ∧ ∃ c84 s85, ((0 + c3 + c17 + c21 + c25 + c32 + c76 + c80) + c84 ≤ mc ∧ (0 + s4 + s18 + s22 + s26 + s33 + s77 + s81) + s85 ≤ ms) ∧ w_X5_age c84 s85 M34 b0 x2 p3 (fun _ _ => False) (fun x86 => (x86 = x27 → J39 1 (0 + c3 + c17 + c21 + c25 + c32 + c76 + c80 + c84) (0 + s4 + s18 + s22 + s26 + s33 + s77 + s81 + s85)) ∧ (¬ (x86 = x27) → J74 (0 + c3 + c17 + c21 + c25 + c32 + c76 + c80 + c84) (0 + s4 + s18 + s22 + s26 + s33 + s77 + s81 + s85)))) ∧ (¬ (x82 = p5) → J74 (0 + c3 + c17 + c21 + c25 + c32 + c76 + c80) (0 + s4 + s18 + s22 + s26 + s33 + s77 + s81)))) ∧ (¬ (x78 = p4) → J74 (0 + c3 + c17 + c21 + c25 + c32 + c76) (0 + s4 + s18 + s22 + s26 + s33 + s77)))) ∧ (¬ (x35 = x23) → J74 (0 + c3 + c17 + c21 + c25 + c32) (0 + s4 + s18 + s22 + s26 + s33))))))))))))
set_option maxRecDepth 100000 in
set_option maxHeartbeats 8000000 in
theorem s_L_sets (l : Launch) (D : va_G) (dA : Nat → ClassId) (htr : l.stackTraces = false) (mc ms : Nat) (M : Mem) (b0 : Nat) (b1 : Nat) (p2 : Int32) (p3 : Int32) (p4 : Int32) (p5 : Int32) (post : Mem → Int32 → Prop) (h : w_L_sets mc ms M b0 b1 p2 p3 p4 p5 post) : CtN l D dA yL_sets cL_sets 12 (some .boolean) 9 [.ref b0, .ref b1, .int p2, .int p3, .int p4, .int p5] M mc ms (pI post) := by
  refine ct_ofN htr (by decide) (Nat.le_of_ble_eq_true rfl) ?_
  intro X hC hN hR
  show G X 12 M 0 0 0 [(0, .ref b0), (1, .ref b1), (2, .int p2), (3, .int p3), (4, .int p4), (5, .int p5)] []
  unfold w_L_sets at h
  refine g_aload_n (r := (some b1)) hC 1 dL_sets_0 rfl ?_
  refine g_bipush (v := 28) hC dL_sets_1 (by decide) ?_
  refine g_iload_n hC 2 dL_sets_3 rfl ?_
  refine g_iadd hC dL_sets_4 ?_
  obtain ⟨hc1, h⟩ := h
  refine g_ialdA hC dL_sets_5 hc1 ?_
  obtain ⟨x2, ex2⟩ : ∃ w, w = gI M b1 (Int32.toNatClampNeg (28 + p2)) := ⟨_, rfl⟩
  replace h := h x2 ex2
  rw [← ex2]
  refine g_istore (lv' := [(6, .int x2), (0, .ref b0), (1, .ref b1), (2, .int p2), (3, .int p3), (4, .int p4), (5, .int p5)]) hC dL_sets_6 (by decide) rfl ?_
  refine g_aload_n (r := (some b0)) hC 1 dL_sets_8 rfl ?_
  refine g_pc (pc' := 9) rfl ?_
  refine g_aload_n (r := (some b1)) hC 2 dL_sets_9 rfl ?_
  refine g_iload_n hC 3 dL_sets_10 rfl ?_
  obtain ⟨c3, s4, hc3, h⟩ := h
  refine g_callS hC (As := [.ref b0, .ref b1, .int p2]) (fun l D dA ht => s_L_isThere l D dA ht _ _ _ _ _ _ _ h) wm_3_13 wm_3_11 wm_3_12 wm_1_0 (by decide +kernel : plainY yL_isThere 3) dL_sets_11 (by decide) (Nat.le_of_ble_eq_true rfl) (Or.inr hc3) ?_
  intro M9 v9 h
  obtain ⟨x5, rfl, h⟩ := h
  obtain ⟨hM9, h⟩ := h
  rw [hM9]
  show G X 12 M (0 + c3) (0 + s4) 14 [(6, .int x2), (0, .ref b0), (1, .ref b1), (2, .int p2), (3, .int p3), (4, .int p4), (5, .int p5)] [.int x5]
  replace h := h (fun (k6 : Nat) (n7 : Nat) => G X 12 M k6 n7 31 [(0, .ref b0), (1, .ref b1), (2, .int p2), (3, .int p3), (4, .int p4), (5, .int p5), (6, .int x2)] []) (by
    intro k6 n7 h
    show G X 12 M k6 n7 31 [(0, .ref b0), (1, .ref b1), (2, .int p2), (3, .int p3), (4, .int p4), (5, .int p5), (6, .int x2)] []
    refine g_aload_n (r := (some b0)) hC 0 dL_sets_31 rfl ?_
    refine g_iload_n hC 2 dL_sets_32 rfl ?_
    refine g_iload_n hC 3 dL_sets_33 rfl ?_
    obtain ⟨hc9, h⟩ := h
    obtain ⟨c10, s11, hc10, h⟩ := h
    refine gx_callV hC (As := [.int p2, .int p3]) (fun l D dA ht => s_X5_say l D dA ht _ _ _ _ _ _ _ _ h) wm_3_17 wm_3_14 wm_3_15 wm_3_16 wm_1_1 (by decide +kernel : plainY yX5_say 2) kc5.1 kc5.2.1 dL_sets_34 (by decide) (Nat.le_of_ble_eq_true rfl) hc9 (Or.inr hc10) ?_ ?_
    · exact fun M E h => h.elim
    · intro M9 v9 h
      obtain ⟨x12, rfl, h⟩ := h
      obtain ⟨hM9, h⟩ := h
      rw [hM9]
      show G X 12 M (k6 + c10) (n7 + s11) 37 [(0, .ref b0), (1, .ref b1), (2, .int p2), (3, .int p3), (4, .int p4), (5, .int p5), (6, .int x2)] [.int x12]
      refine g_iconst (v := (-1)) hC dL_sets_37 (by decide) ?_
      replace h := h (fun (x13 : Int32) => G X 12 M (k6 + c10) (n7 + s11) 46 [(0, .ref b0), (1, .ref b1), (2, .int p2), (3, .int p3), (4, .int p4), (5, .int p5), (6, .int x2)] [.int x13]) (by
        intro x13 h
        show G X 12 M (k6 + c10) (n7 + s11) 46 [(0, .ref b0), (1, .ref b1), (2, .int p2), (3, .int p3), (4, .int p4), (5, .int p5), (6, .int x2)] [.int x13]
        refine g_pc (pc' := 46) rfl ?_
        exact hR.2.2.1 rfl _ _ _ _ _ _ dL_sets_46 ⟨h.1, ⟨_, rfl, h.2⟩⟩)
      refine g_pc (pc' := 38) rfl ?_
      refine g_icmp_ge hC 45 dL_sets_38 (by decide) (fun c15 => ?_) (fun c15 => ?_)
      · replace h := h.1 c15
        refine g_iconst (v := 0) hC dL_sets_45 (by decide) ?_
        exact h
      · replace h := h.2 c15
        refine g_iconst (v := 1) hC dL_sets_41 (by decide) ?_
        refine g_goto hC 46 dL_sets_42 (by decide) ?_
        exact h)
  refine g_if_eq hC 31 dL_sets_14 (by decide) (fun c92 => ?_) (fun c92 => ?_)
  · replace h := h.1 c92
    refine g_sub [1, 2, 3, 4, 5, 6, 0] (lv' := [(0, .ref b0), (1, .ref b1), (2, .int p2), (3, .int p3), (4, .int p4), (5, .int p5), (6, .int x2)]) rfl ?_
    exact h
  · replace h := h.2 c92
    refine g_aload_n (r := (some b0)) hC 1 dL_sets_17 rfl ?_
    refine g_iload hC 0 dL_sets_18 rfl ?_
    refine g_iload_n hC 4 dL_sets_20 rfl ?_
    obtain ⟨hc16, h⟩ := h
    obtain ⟨c17, s18, hc17, h⟩ := h
    refine gx_callV hC (As := [.int x2, .int p3]) (fun l D dA ht => s_X5_members l D dA ht _ _ _ _ _ _ _ _ h) wm_3_6 wm_3_3 wm_3_4 wm_3_5 wm_1_1 (by decide +kernel : plainY yX5_members 2) kc5.1 kc5.2.1 dL_sets_21 (by decide) (Nat.le_of_ble_eq_true rfl) hc16 (Or.inr hc17) ?_ ?_
    · exact fun M E h => h.elim
    · intro M9 v9 h
      obtain ⟨x19, rfl, h⟩ := h
      obtain ⟨hM9, h⟩ := h
      rw [hM9]
      show G X 12 M (0 + c3 + c17) (0 + s4 + s18) 24 [(6, .int x2), (0, .ref b0), (1, .ref b1), (2, .int p2), (3, .int p3), (4, .int p4), (5, .int p5)] [.int x19]
      refine g_pc (pc' := 24) rfl ?_
      refine g_iload_n hC 3 dL_sets_24 rfl ?_
      refine g_ishr hC dL_sets_25 ?_
      refine g_iconst (v := 1) hC dL_sets_26 (by decide) ?_
      refine g_iand hC dL_sets_27 ?_
      refine g_if_ne hC 47 dL_sets_28 (by decide) (fun c91 => ?_) (fun c91 => ?_)
      · replace h := h.2 c91
        refine g_aload_n (r := (some b0)) hC 1 dL_sets_47 rfl ?_
        refine g_iload hC 0 dL_sets_48 rfl ?_
        refine g_iload_n hC 4 dL_sets_50 rfl ?_
        refine g_pc (pc' := 51) rfl ?_
        obtain ⟨hc20, h⟩ := h
        obtain ⟨c21, s22, hc21, h⟩ := h
        refine gx_callV hC (As := [.int x2, .int p3]) (fun l D dA ht => s_X5_modes l D dA ht _ _ _ _ _ _ _ _ h) wm_3_65 wm_3_62 wm_3_63 wm_3_64 wm_1_1 (by decide +kernel : plainY yX5_modes 2) kc5.1 kc5.2.1 dL_sets_51 (by decide) (Nat.le_of_ble_eq_true rfl) hc20 (Or.inr hc21) ?_ ?_
        · exact fun M E h => h.elim
        · intro M9 v9 h
          obtain ⟨x23, rfl, h⟩ := h
          obtain ⟨hM9, h⟩ := h
          rw [hM9]
          show G X 12 M (0 + c3 + c17 + c21) (0 + s4 + s18 + s22) 54 [(6, .int x2), (0, .ref b0), (1, .ref b1), (2, .int p2), (3, .int p3), (4, .int p4), (5, .int p5)] [.int x23]
          refine g_istore (lv' := [(7, .int x23), (6, .int x2), (0, .ref b0), (1, .ref b1), (2, .int p2), (3, .int p3), (4, .int p4), (5, .int p5)]) hC dL_sets_54 (by decide) rfl ?_
          refine g_aload_n (r := (some b0)) hC 2 dL_sets_56 rfl ?_
          refine g_iload hC 1 dL_sets_57 rfl ?_
          refine g_iload_n hC 5 dL_sets_59 rfl ?_
          obtain ⟨hc24, h⟩ := h
          obtain ⟨c25, s26, hc25, h⟩ := h
          refine gx_callV hC (As := [.int x2, .int p3]) (fun l D dA ht => s_X5_age l D dA ht _ _ _ _ _ _ _ _ h) wm_2_48 wm_2_45 wm_2_46 wm_2_47 wm_1_1 (by decide +kernel : plainY yX5_age 2) kc5.1 kc5.2.1 dL_sets_60 (by decide) (Nat.le_of_ble_eq_true rfl) hc24 (Or.inr hc25) ?_ ?_
          · exact fun M E h => h.elim
          · intro M9 v9 h
            obtain ⟨x27, rfl, h⟩ := h
            obtain ⟨hM9, h⟩ := h
            rw [hM9]
            show G X 12 M (0 + c3 + c17 + c21 + c25) (0 + s4 + s18 + s22 + s26) 63 [(7, .int x23), (6, .int x2), (0, .ref b0), (1, .ref b1), (2, .int p2), (3, .int p3), (4, .int p4), (5, .int p5)] [.int x27]
            refine g_istore (lv' := [(8, .int x27), (7, .int x23), (6, .int x2), (0, .ref b0), (1, .ref b1), (2, .int p2), (3, .int p3), (4, .int p4), (5, .int p5)]) hC dL_sets_63 (by decide) rfl ?_
            refine g_aload_n (r := (some b1)) hC 4 dL_sets_65 rfl ?_
            refine g_pc (pc' := 66) rfl ?_
            refine g_iconst (v := 0) hC dL_sets_66 (by decide) ?_
            refine g_dup2 hC dL_sets_67 rfl rfl ?_
            obtain ⟨hc28, h⟩ := h
            refine g_ialdA hC dL_sets_68 hc28 ?_
            refine g_iconst (v := 1) hC dL_sets_69 (by decide) ?_
            refine g_iadd hC dL_sets_70 ?_
            obtain ⟨hc30, h⟩ := h
            refine g_iastA hC dL_sets_71 hc30 ?_
            obtain ⟨M29, eM29⟩ : ∃ w, w = sI M b1 (Int32.toNatClampNeg 0) ((gI M b1 (Int32.toNatClampNeg 0)) + 1) := ⟨_, rfl⟩
            replace h := h M29 eM29
            rw [← eM29]
            refine g_aload_n (r := (some b0)) hC 3 dL_sets_72 rfl ?_
            refine g_iload_n hC 5 dL_sets_73 rfl ?_
            refine g_pc (pc' := 74) rfl ?_
            refine g_iload_n hC 6 dL_sets_74 rfl ?_
            refine g_iload hC 7 dL_sets_75 rfl ?_
            refine g_iload hC 8 dL_sets_77 rfl ?_
            obtain ⟨hc31, h⟩ := h
            obtain ⟨c32, s33, hc32, h⟩ := h
            refine gx_callV hC (As := [.int p2, .int p3, .int p4, .int p5]) (fun l D dA ht => s_X5_setModes l D dA ht _ _ _ _ _ _ _ _ _ _ h) wm_3_92 wm_3_89 wm_3_90 wm_3_91 wm_1_1 (by decide +kernel : plainY yX5_setModes 4) kc5.1 kc5.2.1 dL_sets_79 (by decide) (Nat.le_of_ble_eq_true rfl) hc31 (Or.inr hc32) ?_ ?_
            · exact fun M E h => h.elim
            · intro M9 v9 h
              obtain ⟨x35, rfl, h⟩ := h
              generalize M9 = M34 at h ⊢
              show G X 12 M34 (0 + c3 + c17 + c21 + c25 + c32) (0 + s4 + s18 + s22 + s26 + s33) 82 [(8, .int x27), (7, .int x23), (6, .int x2), (0, .ref b0), (1, .ref b1), (2, .int p2), (3, .int p3), (4, .int p4), (5, .int p5)] [.int x35]
              refine g_iload hC 1 dL_sets_82 rfl ?_
              replace h := h (fun (x36 : Int32) (k37 : Nat) (n38 : Nat) => G X 12 M34 k37 n38 128 [(0, .ref b0), (1, .ref b1), (2, .int p2), (3, .int p3), (4, .int p4), (5, .int p5), (6, .int x2), (7, .int x23), (8, .int x27)] [.int x36]) (by
                intro x36 k37 n38 h
                show G X 12 M34 k37 n38 128 [(0, .ref b0), (1, .ref b1), (2, .int p2), (3, .int p3), (4, .int p4), (5, .int p5), (6, .int x2), (7, .int x23), (8, .int x27)] [.int x36]
                refine g_istore (lv' := [(9, .int x36), (0, .ref b0), (1, .ref b1), (2, .int p2), (3, .int p3), (4, .int p4), (5, .int p5), (6, .int x2), (7, .int x23), (8, .int x27)]) hC dL_sets_128 (by decide) rfl ?_
                refine g_aload_n (r := (some b0)) hC 1 dL_sets_130 rfl ?_
                refine g_iload_n hC 3 dL_sets_131 rfl ?_
                refine g_pc (pc' := 132) rfl ?_
                refine g_iload_n hC 4 dL_sets_132 rfl ?_
                obtain ⟨hc40, h⟩ := h
                obtain ⟨c41, s42, hc41, h⟩ := h
                refine gx_callV hC (As := [.int p2, .int p3]) (fun l D dA ht => s_X5_say l D dA ht _ _ _ _ _ _ _ _ h) wm_3_17 wm_3_14 wm_3_15 wm_3_16 wm_1_1 (by decide +kernel : plainY yX5_say 2) kc5.1 kc5.2.1 dL_sets_133 (by decide) (Nat.le_of_ble_eq_true rfl) hc40 (Or.inr hc41) ?_ ?_
                · exact fun M E h => h.elim
                · intro M9 v9 h
                  obtain ⟨x43, rfl, h⟩ := h
                  obtain ⟨hM9, h⟩ := h
                  rw [hM9]
                  show G X 12 M34 (k37 + c41) (n38 + s42) 136 [(9, .int x36), (0, .ref b0), (1, .ref b1), (2, .int p2), (3, .int p3), (4, .int p4), (5, .int p5), (6, .int x2), (7, .int x23), (8, .int x27)] [.int x43]
                  refine g_istore (lv' := [(10, .int x43), (9, .int x36), (0, .ref b0), (1, .ref b1), (2, .int p2), (3, .int p3), (4, .int p4), (5, .int p5), (6, .int x2), (7, .int x23), (8, .int x27)]) hC dL_sets_136 (by decide) rfl ?_
                  refine g_iload hC 7 dL_sets_138 rfl ?_
                  refine g_aload_n (r := (some b1)) hC 3 dL_sets_140 rfl ?_
                  refine g_bipush (v := 8) hC dL_sets_141 (by decide) ?_
                  refine g_iload_n hC 4 dL_sets_143 rfl ?_
                  refine g_iadd hC dL_sets_144 ?_
                  obtain ⟨hc44, h⟩ := h
                  refine g_pc (pc' := 145) rfl ?_
                  refine g_ialdA hC dL_sets_145 hc44 ?_
                  refine g_ishr hC dL_sets_146 ?_
                  refine g_iconst (v := 1) hC dL_sets_147 (by decide) ?_
                  refine g_iand hC dL_sets_148 ?_
                  refine g_iconst (v := 1) hC dL_sets_149 (by decide) ?_
                  replace h := h (fun (x45 : Int32) => G X 12 M34 (k37 + c41) (n38 + s42) 158 [(0, .ref b0), (1, .ref b1), (2, .int p2), (3, .int p3), (4, .int p4), (5, .int p5), (6, .int x2), (7, .int x23), (8, .int x27), (9, .int x36), (10, .int x43)] [.int x45]) (by
                    intro x45 h
                    show G X 12 M34 (k37 + c41) (n38 + s42) 158 [(0, .ref b0), (1, .ref b1), (2, .int p2), (3, .int p3), (4, .int p4), (5, .int p5), (6, .int x2), (7, .int x23), (8, .int x27), (9, .int x36), (10, .int x43)] [.int x45]
                    refine g_istore (lv' := [(11, .int x45), (0, .ref b0), (1, .ref b1), (2, .int p2), (3, .int p3), (4, .int p4), (5, .int p5), (6, .int x2), (7, .int x23), (8, .int x27), (9, .int x36), (10, .int x43)]) hC dL_sets_158 (by decide) rfl ?_
                    refine g_iload hC 10 dL_sets_160 rfl ?_
                    replace h := h (fun (x47 : Int32) (k48 : Nat) (n49 : Nat) => G X 12 M34 k48 n49 219 [(0, .ref b0), (1, .ref b1), (2, .int p2), (3, .int p3), (4, .int p4), (5, .int p5), (6, .int x2), (7, .int x23), (8, .int x27), (9, .int x36), (10, .int x43), (11, .int x45)] [.int x47]) (by
                      intro x47 k48 n49 h
                      show G X 12 M34 k48 n49 219 [(0, .ref b0), (1, .ref b1), (2, .int p2), (3, .int p3), (4, .int p4), (5, .int p5), (6, .int x2), (7, .int x23), (8, .int x27), (9, .int x36), (10, .int x43), (11, .int x45)] [.int x47]
                      exact hR.2.2.1 rfl _ _ _ _ _ _ dL_sets_219 ⟨h.1, ⟨_, rfl, h.2⟩⟩)
                    replace h := h (fun (k51 : Nat) (n52 : Nat) => G X 12 M34 k51 n52 218 [(0, .ref b0), (1, .ref b1), (2, .int p2), (3, .int p3), (4, .int p4), (5, .int p5), (6, .int x2), (7, .int x23), (8, .int x27), (9, .int x36), (10, .int x43), (11, .int x45)] []) (by
                      intro k51 n52 h
                      show G X 12 M34 k51 n52 218 [(0, .ref b0), (1, .ref b1), (2, .int p2), (3, .int p3), (4, .int p4), (5, .int p5), (6, .int x2), (7, .int x23), (8, .int x27), (9, .int x36), (10, .int x43), (11, .int x45)] []
                      refine g_iconst (v := 0) hC dL_sets_218 (by decide) ?_
                      exact h)
                    refine g_if_eq hC 218 dL_sets_162 (by decide) (fun c70 => ?_) (fun c70 => ?_)
                    · replace h := h.1 c70
                      refine g_sub [1, 2, 3, 4, 5, 6, 7, 8, 9, 10, 11, 0] (lv' := [(0, .ref b0), (1, .ref b1), (2, .int p2), (3, .int p3), (4, .int p4), (5, .int p5), (6, .int x2), (7, .int x23), (8, .int x27), (9, .int x36), (10, .int x43), (11, .int x45)]) rfl ?_
                      exact h
                    · replace h := h.2 c70
                      refine g_pc (pc' := 165) rfl ?_
                      refine g_iload hC 0 dL_sets_165 rfl ?_
                      refine g_iload hC 11 dL_sets_167 rfl ?_
                      refine g_bipush (v := (-4)) hC dL_sets_169 (by decide) ?_
                      replace h := h (fun (x54 : Int32) => G X 12 M34 (k37 + c41) (n38 + s42) 179 [(0, .ref b0), (1, .ref b1), (2, .int p2), (3, .int p3), (4, .int p4), (5, .int p5), (6, .int x2), (7, .int x23), (8, .int x27), (9, .int x36), (10, .int x43), (11, .int x45)] [.int x54, .int x45]) (by
                        intro x54 h
                        show G X 12 M34 (k37 + c41) (n38 + s42) 179 [(0, .ref b0), (1, .ref b1), (2, .int p2), (3, .int p3), (4, .int p4), (5, .int p5), (6, .int x2), (7, .int x23), (8, .int x27), (9, .int x36), (10, .int x43), (11, .int x45)] [.int x54, .int x45]
                        refine g_icmp_ne hC 218 dL_sets_179 (by decide) (fun c68 => ?_) (fun c68 => ?_)
                        · replace h := h.2 c68
                          exact h
                        · replace h := h.1 c68
                          refine g_iload hC 11 dL_sets_182 rfl ?_
                          replace h := h (fun (k56 : Nat) (n57 : Nat) => G X 12 M34 k56 n57 214 [(0, .ref b0), (1, .ref b1), (2, .int p2), (3, .int p3), (4, .int p4), (5, .int p5), (6, .int x2), (7, .int x23), (8, .int x27), (9, .int x36), (10, .int x43), (11, .int x45)] []) (by
                            intro k56 n57 h
                            show G X 12 M34 k56 n57 214 [(0, .ref b0), (1, .ref b1), (2, .int p2), (3, .int p3), (4, .int p4), (5, .int p5), (6, .int x2), (7, .int x23), (8, .int x27), (9, .int x36), (10, .int x43), (11, .int x45)] []
                            refine g_iconst (v := 1) hC dL_sets_214 (by decide) ?_
                            refine g_goto hC 219 dL_sets_215 (by decide) ?_
                            exact h)
                          refine g_if_ne hC 214 dL_sets_184 (by decide) (fun c67 => ?_) (fun c67 => ?_)
                          · replace h := h.2 c67
                            exact h
                          · replace h := h.1 c67
                            refine g_iload hC 4 dL_sets_187 rfl ?_
                            refine g_iconst (v := 2) hC dL_sets_189 (by decide) ?_
                            refine g_pc (pc' := 190) rfl ?_
                            refine g_irem hC dL_sets_190 (by decide) ?_
                            refine g_iconst (v := 1) hC dL_sets_191 (by decide) ?_
                            refine g_icmp_eq hC 214 dL_sets_192 (by decide) (fun c66 => ?_) (fun c66 => ?_)
                            · replace h := h.1 c66
                              exact h
                            · replace h := h.2 c66
                              refine g_iload hC 10 dL_sets_195 rfl ?_
                              refine g_if_lt hC 218 dL_sets_197 (by decide) (fun c65 => ?_) (fun c65 => ?_)
                              · replace h := h.1 c65
                                exact h
                              · replace h := h.2 c65
                                refine g_iload hC 10 dL_sets_200 rfl ?_
                                refine g_aload_n (r := (some b0)) hC 0 dL_sets_202 rfl ?_
                                refine g_iload hC 6 dL_sets_203 rfl ?_
                                refine g_pc (pc' := 205) rfl ?_
                                obtain ⟨hc59, h⟩ := h
                                obtain ⟨c60, s61, hc60, h⟩ := h
                                refine gx_callV hC (As := [.int x2]) (fun l D dA ht => s_X5_tree l D dA ht _ _ _ _ _ _ _ h) wm_1_179 wm_1_176 wm_1_177 wm_1_178 wm_1_1 (by decide +kernel : plainY yX5_tree 1) kc5.1 kc5.2.1 dL_sets_205 (by decide) (Nat.le_of_ble_eq_true rfl) hc59 (Or.inr hc60) ?_ ?_
                                · exact fun M E h => h.elim
                                · intro M9 v9 h
                                  obtain ⟨x62, rfl, h⟩ := h
                                  obtain ⟨hM9, h⟩ := h
                                  rw [hM9]
                                  show G X 12 M34 (k37 + c41 + c60) (n38 + s42 + s61) 208 [(0, .ref b0), (1, .ref b1), (2, .int p2), (3, .int p3), (4, .int p4), (5, .int p5), (6, .int x2), (7, .int x23), (8, .int x27), (9, .int x36), (10, .int x43), (11, .int x45)] [.int x62, .int x43]
                                  refine g_callS hC (As := [.int x62]) (fun l D dA ht => s_L_count l D dA ht _ _ _ h) wm_2_44 wm_2_42 wm_2_43 wm_1_0 (by decide +kernel : plainY yL_count 1) dL_sets_208 (by decide) (Nat.le_of_ble_eq_true rfl) (Or.inl ⟨rfl, rfl⟩) ?_
                                  intro M9 v9 h
                                  obtain ⟨x63, rfl, h⟩ := h
                                  obtain ⟨hM9, h⟩ := h
                                  rw [hM9]
                                  show G X 12 M34 (k37 + c41 + c60) (n38 + s42 + s61) 211 [(0, .ref b0), (1, .ref b1), (2, .int p2), (3, .int p3), (4, .int p4), (5, .int p5), (6, .int x2), (7, .int x23), (8, .int x27), (9, .int x36), (10, .int x43), (11, .int x45)] [.int x63, .int x43]
                                  refine g_icmp_ge hC 218 dL_sets_211 (by decide) (fun c64 => ?_) (fun c64 => ?_)
                                  · replace h := h.1 c64
                                    exact h
                                  · replace h := h.2 c64
                                    exact h)
                      refine g_icmp_ne hC 178 dL_sets_171 (by decide) (fun c69 => ?_) (fun c69 => ?_)
                      · replace h := h.2 c69
                        refine g_iconst (v := 0) hC dL_sets_178 (by decide) ?_
                        refine g_sub [1, 2, 3, 4, 5, 6, 7, 8, 9, 10, 11, 0] (lv' := [(0, .ref b0), (1, .ref b1), (2, .int p2), (3, .int p3), (4, .int p4), (5, .int p5), (6, .int x2), (7, .int x23), (8, .int x27), (9, .int x36), (10, .int x43), (11, .int x45)]) rfl ?_
                        exact h
                      · replace h := h.1 c69
                        refine g_iconst (v := 1) hC dL_sets_174 (by decide) ?_
                        refine g_goto hC 179 dL_sets_175 (by decide) ?_
                        refine g_sub [1, 2, 3, 4, 5, 6, 7, 8, 9, 10, 11, 0] (lv' := [(0, .ref b0), (1, .ref b1), (2, .int p2), (3, .int p3), (4, .int p4), (5, .int p5), (6, .int x2), (7, .int x23), (8, .int x27), (9, .int x36), (10, .int x43), (11, .int x45)]) rfl ?_
                        exact h)
                  refine g_icmp_ne hC 157 dL_sets_150 (by decide) (fun c71 => ?_) (fun c71 => ?_)
                  · replace h := h.2 c71
                    refine g_iconst (v := 0) hC dL_sets_157 (by decide) ?_
                    refine g_sub [2, 3, 4, 5, 6, 7, 8, 9, 10, 1, 0] (lv' := [(0, .ref b0), (1, .ref b1), (2, .int p2), (3, .int p3), (4, .int p4), (5, .int p5), (6, .int x2), (7, .int x23), (8, .int x27), (9, .int x36), (10, .int x43)]) rfl ?_
                    exact h
                  · replace h := h.1 c71
                    refine g_iconst (v := 1) hC dL_sets_153 (by decide) ?_
                    refine g_goto hC 158 dL_sets_154 (by decide) ?_
                    refine g_sub [2, 3, 4, 5, 6, 7, 8, 9, 10, 1, 0] (lv' := [(0, .ref b0), (1, .ref b1), (2, .int p2), (3, .int p3), (4, .int p4), (5, .int p5), (6, .int x2), (7, .int x23), (8, .int x27), (9, .int x36), (10, .int x43)]) rfl ?_
                    exact h)
              replace h := h (fun (k72 : Nat) (n73 : Nat) => G X 12 M34 k72 n73 127 [(0, .ref b0), (1, .ref b1), (2, .int p2), (3, .int p3), (4, .int p4), (5, .int p5), (6, .int x2), (7, .int x23), (8, .int x27)] []) (by
                intro k72 n73 h
                show G X 12 M34 k72 n73 127 [(0, .ref b0), (1, .ref b1), (2, .int p2), (3, .int p3), (4, .int p4), (5, .int p5), (6, .int x2), (7, .int x23), (8, .int x27)] []
                refine g_iconst (v := 0) hC dL_sets_127 (by decide) ?_
                exact h)
              refine g_icmp_ne hC 127 dL_sets_84 (by decide) (fun c90 => ?_) (fun c90 => ?_)
              · replace h := h.2 c90
                refine g_sub [3, 4, 5, 6, 7, 8, 2, 1, 0] (lv' := [(0, .ref b0), (1, .ref b1), (2, .int p2), (3, .int p3), (4, .int p4), (5, .int p5), (6, .int x2), (7, .int x23), (8, .int x27)]) rfl ?_
                exact h
              · replace h := h.1 c90
                refine g_aload_n (r := (some b0)) hC 3 dL_sets_87 rfl ?_
                refine g_iload hC 2 dL_sets_88 rfl ?_
                refine g_pc (pc' := 90) rfl ?_
                refine g_iload_n hC 6 dL_sets_90 rfl ?_
                obtain ⟨hc75, h⟩ := h
                obtain ⟨c76, s77, hc76, h⟩ := h
                refine gx_callV hC (As := [.int x2, .int p3]) (fun l D dA ht => s_X5_modes l D dA ht _ _ _ _ _ _ _ _ h) wm_3_65 wm_3_62 wm_3_63 wm_3_64 wm_1_1 (by decide +kernel : plainY yX5_modes 2) kc5.1 kc5.2.1 dL_sets_91 (by decide) (Nat.le_of_ble_eq_true rfl) hc75 (Or.inr hc76) ?_ ?_
                · exact fun M E h => h.elim
                · intro M9 v9 h
                  obtain ⟨x78, rfl, h⟩ := h
                  obtain ⟨hM9, h⟩ := h
                  rw [hM9]
                  show G X 12 M34 (0 + c3 + c17 + c21 + c25 + c32 + c76) (0 + s4 + s18 + s22 + s26 + s33 + s77) 94 [(8, .int x27), (7, .int x23), (6, .int x2), (0, .ref b0), (1, .ref b1), (2, .int p2), (3, .int p3), (4, .int p4), (5, .int p5)] [.int x78]
                  refine g_iload hC 7 dL_sets_94 rfl ?_
                  refine g_icmp_ne hC 127 dL_sets_96 (by decide) (fun c89 => ?_) (fun c89 => ?_)
                  · replace h := h.2 c89
                    refine g_sub [3, 4, 5, 6, 7, 8, 2, 1, 0] (lv' := [(0, .ref b0), (1, .ref b1), (2, .int p2), (3, .int p3), (4, .int p4), (5, .int p5), (6, .int x2), (7, .int x23), (8, .int x27)]) rfl ?_
                    exact h
                  · replace h := h.1 c89
                    refine g_aload_n (r := (some b0)) hC 3 dL_sets_99 rfl ?_
                    refine g_iload hC 2 dL_sets_100 rfl ?_
                    refine g_iload_n hC 6 dL_sets_102 rfl ?_
                    obtain ⟨hc79, h⟩ := h
                    obtain ⟨c80, s81, hc80, h⟩ := h
                    refine gx_callV hC (As := [.int x2, .int p3]) (fun l D dA ht => s_X5_bans l D dA ht _ _ _ _ _ _ _ _ h) wm_3_10 wm_3_7 wm_3_8 wm_3_9 wm_1_1 (by decide +kernel : plainY yX5_bans 2) kc5.1 kc5.2.1 dL_sets_103 (by decide) (Nat.le_of_ble_eq_true rfl) hc79 (Or.inr hc80) ?_ ?_
                    · exact fun M E h => h.elim
                    · intro M9 v9 h
                      obtain ⟨x82, rfl, h⟩ := h
                      obtain ⟨hM9, h⟩ := h
                      rw [hM9]
                      show G X 12 M34 (0 + c3 + c17 + c21 + c25 + c32 + c76 + c80) (0 + s4 + s18 + s22 + s26 + s33 + s77 + s81) 106 [(8, .int x27), (7, .int x23), (6, .int x2), (0, .ref b0), (1, .ref b1), (2, .int p2), (3, .int p3), (4, .int p4), (5, .int p5)] [.int x82]
                      refine g_pc (pc' := 106) rfl ?_
                      refine g_iload hC 8 dL_sets_106 rfl ?_
                      refine g_icmp_ne hC 127 dL_sets_108 (by decide) (fun c88 => ?_) (fun c88 => ?_)
                      · replace h := h.2 c88
                        refine g_sub [3, 4, 5, 6, 7, 8, 2, 1, 0] (lv' := [(0, .ref b0), (1, .ref b1), (2, .int p2), (3, .int p3), (4, .int p4), (5, .int p5), (6, .int x2), (7, .int x23), (8, .int x27)]) rfl ?_
                        exact h
                      · replace h := h.1 c88
                        refine g_aload_n (r := (some b0)) hC 3 dL_sets_111 rfl ?_
                        refine g_iload hC 2 dL_sets_112 rfl ?_
                        refine g_iload_n hC 6 dL_sets_114 rfl ?_
                        obtain ⟨hc83, h⟩ := h
                        obtain ⟨c84, s85, hc84, h⟩ := h
                        refine gx_callV hC (As := [.int x2, .int p3]) (fun l D dA ht => s_X5_age l D dA ht _ _ _ _ _ _ _ _ h) wm_2_48 wm_2_45 wm_2_46 wm_2_47 wm_1_1 (by decide +kernel : plainY yX5_age 2) kc5.1 kc5.2.1 dL_sets_115 (by decide) (Nat.le_of_ble_eq_true rfl) hc83 (Or.inr hc84) ?_ ?_
                        · exact fun M E h => h.elim
                        · intro M9 v9 h
                          obtain ⟨x86, rfl, h⟩ := h
                          obtain ⟨hM9, h⟩ := h
                          rw [hM9]
                          show G X 12 M34 (0 + c3 + c17 + c21 + c25 + c32 + c76 + c80 + c84) (0 + s4 + s18 + s22 + s26 + s33 + s77 + s81 + s85) 118 [(8, .int x27), (7, .int x23), (6, .int x2), (0, .ref b0), (1, .ref b1), (2, .int p2), (3, .int p3), (4, .int p4), (5, .int p5)] [.int x86]
                          refine g_iload hC 0 dL_sets_118 rfl ?_
                          refine g_icmp_ne hC 127 dL_sets_120 (by decide) (fun c87 => ?_) (fun c87 => ?_)
                          · replace h := h.2 c87
                            refine g_sub [3, 4, 5, 6, 7, 8, 2, 1, 0] (lv' := [(0, .ref b0), (1, .ref b1), (2, .int p2), (3, .int p3), (4, .int p4), (5, .int p5), (6, .int x2), (7, .int x23), (8, .int x27)]) rfl ?_
                            exact h
                          · replace h := h.1 c87
                            refine g_pc (pc' := 123) rfl ?_
                            refine g_iconst (v := 1) hC dL_sets_123 (by decide) ?_
                            refine g_goto hC 128 dL_sets_124 (by decide) ?_
                            refine g_sub [3, 4, 5, 6, 7, 8, 2, 1, 0] (lv' := [(0, .ref b0), (1, .ref b1), (2, .int p2), (3, .int p3), (4, .int p4), (5, .int p5), (6, .int x2), (7, .int x23), (8, .int x27)]) rfl ?_
                            exact h
      · replace h := h.1 c91
        refine g_sub [1, 2, 3, 4, 5, 6, 0] (lv' := [(0, .ref b0), (1, .ref b1), (2, .int p2), (3, .int p3), (4, .int p4), (5, .int p5), (6, .int x2)]) rfl ?_
        exact h

def w_L_areViews (mc ms : Nat) (M : Mem) (b0 : Nat) (b1 : Nat) (post : Int32 → Prop) : Prop :=
  gT M b0 = some (5, 0) ∧ w_X5_clock M b0 (fun x2 => inA M b1 10 0 ∧ ∀ J5 : Int32 → Prop, (∀ (x4 : Int32), (Lp (fun (K10 : Int32 × Int32 × Nat × Nat → Prop) (z : Int32 × Int32 × Nat × Nat) => ∀ (x6 : Int32) (x7 : Int32) (k8 : Nat) (n9 : Nat), z = (x6, x7, k8, n9) → (∀ J11 : Prop, ((((x6 : Int32) = 0 ∨ (x6 : Int32) = 1) ∧ post x6) → J11) → ((6 ≤ x7 → J11) ∧ (¬ (6 ≤ x7) → (x6 = 0 → J11) ∧ (¬ (x6 = 0) → gT M b0 = some (5, 0) ∧ ∃ c13 s14, (k8 + c13 ≤ mc ∧ n9 + s14 ≤ ms) ∧ w_X5_known c13 s14 M b0 x7 (fun _ _ => False) (fun x15 => gT M b0 = some (5, 0) ∧ ∃ c17 s18, ((k8 + c13) + c17 ≤ mc ∧ (n9 + s14) + s18 ≤ ms) ∧ w_X5_tree c17 s18 M b0 x7 (fun _ _ => False) (fun x19 => w_L_homesIn M b1 x19 (fun x20 => ∀ J24 : Int32 → Nat → Nat → Prop, (∀ (x21 : Int32) (k22 : Nat) (n23 : Nat), (Lp (fun (K28 : Int32 × Int32 × Int32 → Prop) (z : Int32 × Int32 × Int32) => ∀ (x25 : Int32) (x26 : Int32) (x27 : Int32), z = (x25, x26, x27) → (inA M b1 10 1 ∧ ∀ J30 : Prop, ((Lp (fun (K35 : Int32 × Int32 × Nat × Nat → Prop) (z : Int32 × Int32 × Nat × Nat) => ∀ (x31 : Int32) (x32 : Int32) (k33 : Nat) (n34 : Nat), z = (x31, x32, k33, n34) → (∀ J36 : Prop, ((∀ x37, x37 = x7 + 1 → K10 (x31, x37, k33, n34)) → J36) → ((4 ≤ x32 → J36) ∧ (¬ (4 ≤ x32) → (x31 = 0 → J36) ∧ (¬ (x31 = 0) → gT M b0 = some (5, 0) ∧ ∃ c39 s40, (k33 + c39 ≤ mc ∧ n34 + s40 ≤ ms) ∧ w_X5_members c39 s40 M b0 x7 x32 (fun _ _ => False) (fun x41 => ∀ J43 : Int32 → Prop, (∀ (x42 : Int32), (∀ J47 : Int32 → Nat → Nat → Prop, (∀ (x44 : Int32) (k45 : Nat) (n46 : Nat), (∀ x48, x48 = x32 + 1 → K35 (x44, x48, k45, n46)) → J47 x44 k45 n46) → (∀ J51 : Nat → Nat → Prop, (∀ (k49 : Nat) (n50 : Nat), (J47 0 k49 n50) → J51 k49 n50) → ((x41 &&& (x15 ^^^ ((-1))) = 0 → gT M b0 = some (5, 0) ∧ ∃ c53 s54, ((k33 + c39) + c53 ≤ mc ∧ (n34 + s40) + s54 ≤ ms) ∧ w_X5_age c53 s54 M b0 x7 x32 (fun _ _ => False) (fun x55 => ∀ J57 : Int32 → Prop, (∀ (x56 : Int32), ((x56 = x42 → gT M b0 = some (5, 0) ∧ ∃ c59 s60, ((k33 + c39 + c53) + c59 ≤ mc ∧ (n34 + s40 + s54) + s60 ≤ ms) ∧ w_X5_modes c59 s60 M b0 x7 x32 (fun _ _ => False) (fun x61 => ∀ J63 : Int32 → Prop, (∀ (x62 : Int32), ((x62 = x42 → gT M b0 = some (5, 0) ∧ ∃ c65 s66, ((k33 + c39 + c53 + c59) + c65 ≤ mc ∧ (n34 + s40 + s54 + s60) + s66 ≤ ms) ∧ w_X5_bans c65 s66 M b0 x7 x32 (fun _ _ => False) (fun x67 => ∀ J69 : Int32 → Prop, (∀ (x68 : Int32), ((x68 = x42 → gT M b0 = some (5, 0) ∧ ∃ c71 s72, ((k33 + c39 + c53 + c59 + c65) + c71 ≤ mc ∧ (n34 + s40 + s54 + s60 + s66) + s72 ≤ ms) ∧ w_X5_joinedModes c71 s72 M b0 x7 x7 x32 (fun _ _ => False) (fun x73 => gT M b0 = some (5, 0) ∧ ∃ c75 s76, ((k33 + c39 + c53 + c59 + c65 + c71) + c75 ≤ mc ∧ (n34 + s40 + s54 + s60 + s66 + s72) + s76 ≤ ms) ∧ w_X5_modes c75 s76 M b0 x7 x32 (fun _ _ => False) (fun x77 => (x73 = x77 → J47 1 (k33 + c39 + c53 + c59 + c65 + c71 + c75) (n34 + s40 + s54 + s60 + s66 + s72 + s76)) ∧ (¬ (x73 = x77) → J51 (k33 + c39 + c53 + c59 + c65 + c71 + c75) (n34 + s40 + s54 + s60 + s66 + s72 + s76))))) ∧ (¬ (x68 = x42) → J51 (k33 + c39 + c53 + c59 + c65) (n34 + s40 + s54 + s60 + s66))) → J69 x68) → ((x67 = (-1) → J69 0) ∧ (¬ (x67 = (-1)) → J69 1)))) ∧ (¬ (x62 = x42) → J51 (k33 + c39 + c53 + c59) (n34 + s40 + s54 + s60))) → J63 x62) → ((x61 = (-1) → J63 0) ∧ (¬ (x61 = (-1)) → J63 1)))) ∧ (¬ (x56 = x42) → J51 (k33 + c39 + c53) (n34 + s40 + s54))) → J57 x56) → ((x55 = (-1) → J57 0) ∧ (¬ (x55 = (-1)) → J57 1)))) ∧ (¬ (x41 &&& (x15 ^^^ ((-1))) = 0) → J51 (k33 + c39) (n34 + s40))))) → J43 x42) → ((x41 = 0 → J43 0) ∧ (¬ (x41 = 0) → J43 1)))))))) (x25, 0, k22, n23)) → J30) → (((gI M b1 (Int32.toNatClampNeg 1)) ≤ x27 → J30) ∧ (¬ ((gI M b1 (Int32.toNatClampNeg 1)) ≤ x27) → (x25 = 0 → J30) ∧ (¬ (x25 = 0) → ∀ J92 : Int32 → Int32 → Prop, (∀ (x90 : Int32) (x91 : Int32), (∀ x93, x93 = x27 + 1 → K28 (x90, x91, x93)) → J92 x90 x91) → (((x15 >>> (x27 &&& 31)) &&& 1 = 1 → inA M b1 10 (8 + x27) ∧ ∀ J96 : Int32 → Prop, (∀ (x95 : Int32), (inA M b1 10 (8 + x27) ∧ ∀ x98, x98 = x26 ||| (1 <<< ((gI M b1 (Int32.toNatClampNeg (8 + x27))) &&& 31)) → J92 x95 x98) → J96 x95) → (((x26 >>> ((gI M b1 (Int32.toNatClampNeg (8 + x27))) &&& 31)) &&& 1 = 0 → J96 1) ∧ (¬ ((x26 >>> ((gI M b1 (Int32.toNatClampNeg (8 + x27))) &&& 31)) &&& 1 = 0) → J96 0))) ∧ (¬ ((x15 >>> (x27 &&& 31)) &&& 1 = 1) → J92 x25 x26))))))) (x21, 0, 0)) → J24 x21 k22 n23) → (∀ J106 : Nat → Nat → Prop, (∀ (k104 : Nat) (n105 : Nat), (J24 0 k104 n105) → J106 k104 n105) → ((x15 &&& (x20 ^^^ ((-1))) = 0 → gT M b0 = some (5, 0) ∧ ∃ c108 s109, ((k8 + c13 + c17) + c108 ≤ mc ∧ (n9 + s14 + s18) + s109 ≤ ms) ∧ w_X5_tree c108 s109 M b0 x7 (fun _ _ => False) (fun x110 => ((x110 >>> (x7 &&& 31)) &&& 1 = 1 → gT M b0 = some (5, 0) ∧ ∃ c112 s113, ((k8 + c13 + c17 + c108) + c112 ≤ mc ∧ (n9 + s14 + s18 + s109) + s113 ≤ ms) ∧ w_X5_areSame c112 s113 M b0 x7 x7 (fun _ _ => False) (fun x114 => (x114 = 0 → J106 (k8 + c13 + c17 + c108 + c112) (n9 + s14 + s18 + s109 + s113)) ∧ (¬ (x114 = 0) → J24 1 (k8 + c13 + c17 + c108 + c112) (n9 + s14 + s18 + s109 + s113)))) ∧ (¬ ((x110 >>> (x7 &&& 31)) &&& 1 = 1) → J106 (k8 + c13 + c17 + c108) (n9 + s14 + s18 + s109)))) ∧ (¬ (x15 &&& (x20 ^^^ ((-1))) = 0) → J106 (k8 + c13 + c17) (n9 + s14 + s18)))))))))))) (x4, 0, 0, 0)) → J5 x4) → (∀ J121 : Prop, ((J5 0) → J121) → ((x2 = gI M b1 (Int32.toNatClampNeg 0) → gT M b0 = some (5, 0) ∧ w_X5_users M b0 (fun x123 => inA M b1 10 1 ∧ (x123 = gI M b1 (Int32.toNatClampNeg 1) → J5 1) ∧ (¬ (x123 = gI M b1 (Int32.toNatClampNeg 1)) → J121))) ∧ (¬ (x2 = gI M b1 (Int32.toNatClampNeg 0)) → J121))))
set_option maxRecDepth 100000 in
set_option maxHeartbeats 8000000 in
theorem s_L_areViews (l : Launch) (D : va_G) (dA : Nat → ClassId) (htr : l.stackTraces = false) (mc ms : Nat) (M : Mem) (b0 : Nat) (b1 : Nat) (post : Int32 → Prop) (h : w_L_areViews mc ms M b0 b1 post) : CtN l D dA yL_areViews cL_areViews 9 (some .boolean) 8 [.ref b0, .ref b1] M mc ms (pI (fun M' r => M' = M ∧ post r)) := by
  refine ct_ofN htr (by decide) (Nat.le_of_ble_eq_true rfl) ?_
  intro X hC hN hR
  show G X 9 M 0 0 0 [(0, .ref b0), (1, .ref b1)] []
  unfold w_L_areViews at h
  refine g_aload_n (r := (some b0)) hC 0 dL_areViews_0 rfl ?_
  obtain ⟨hc1, h⟩ := h
  refine g_callV hC (As := []) (fun l D dA ht => s_X5_clock l D dA ht _ _ _ h) wm_2_25 wm_2_22 wm_2_23 wm_2_24 wm_1_1 (by decide +kernel : plainY yX5_clock 0) kc5.1 kc5.2.1 dL_areViews_1 (by decide) (Nat.le_of_ble_eq_true rfl) hc1 (Or.inl ⟨rfl, rfl⟩) ?_
  intro M9 v9 h
  obtain ⟨x2, rfl, h⟩ := h
  obtain ⟨hM9, h⟩ := h
  rw [hM9]
  show G X 9 M 0 0 4 [(0, .ref b0), (1, .ref b1)] [.int x2]
  refine g_aload_n (r := (some b1)) hC 1 dL_areViews_4 rfl ?_
  refine g_iconst (v := 0) hC dL_areViews_5 (by decide) ?_
  obtain ⟨hc3, h⟩ := h
  refine g_ialdA hC dL_areViews_6 hc3 ?_
  replace h := h (fun (x4 : Int32) => G X 9 M 0 0 25 [(0, .ref b0), (1, .ref b1)] [.int x4]) (by
    intro x4 h
    show G X 9 M 0 0 25 [(0, .ref b0), (1, .ref b1)] [.int x4]
    refine g_istore_n (lv' := [(2, .int x4), (0, .ref b0), (1, .ref b1)]) hC dL_areViews_25 (by decide) rfl ?_
    refine g_iconst (v := 0) hC dL_areViews_26 (by decide) ?_
    refine g_pc (pc' := 27) rfl ?_
    refine g_istore_n (lv' := [(3, .int 0), (2, .int x4), (0, .ref b0), (1, .ref b1)]) hC dL_areViews_27 (by decide) rfl ?_
    refine g_sub [2, 3, 1, 0] (lv' := [(0, .ref b0), (1, .ref b1), (2, .int x4), (3, .int 0)]) rfl ?_
    refine Lp_use (fun (z120 : Int32 × Int32 × Nat × Nat) => G X 9 M z120.2.2.1 z120.2.2.2 28 [(0, .ref b0), (1, .ref b1), (2, .int z120.1), (3, .int z120.2.1)] []) h ?_
    intro K10 z hK_K10 h
    obtain ⟨x6, x7, k8, n9⟩ := z
    replace h := h _ _ _ _ rfl
    show G X 9 M k8 n9 28 [(0, .ref b0), (1, .ref b1), (2, .int x6), (3, .int x7)] []
    refine g_iload_n hC 3 dL_areViews_28 rfl ?_
    refine g_bipush (v := 6) hC dL_areViews_29 (by decide) ?_
    replace h := h (G X 9 M k8 n9 303 [(0, .ref b0), (1, .ref b1), (2, .int x6), (3, .int x7)] []) (by
      intro h
      refine g_iload_n hC 2 dL_areViews_303 rfl ?_
      exact hR.2.2.1 rfl _ _ _ _ _ _ dL_areViews_304 ⟨h.1, ⟨_, rfl, rfl, h.2⟩⟩)
    refine g_icmp_ge hC 303 dL_areViews_31 (by decide) (fun c119 => ?_) (fun c119 => ?_)
    · replace h := h.1 c119
      exact h
    · replace h := h.2 c119
      refine g_iload_n hC 2 dL_areViews_34 rfl ?_
      refine g_if_eq hC 303 dL_areViews_35 (by decide) (fun c118 => ?_) (fun c118 => ?_)
      · replace h := h.1 c118
        exact h
      · replace h := h.2 c118
        refine g_aload_n (r := (some b0)) hC 0 dL_areViews_38 rfl ?_
        refine g_iload_n hC 3 dL_areViews_39 rfl ?_
        refine g_pc (pc' := 40) rfl ?_
        obtain ⟨hc12, h⟩ := h
        obtain ⟨c13, s14, hc13, h⟩ := h
        refine gx_callV hC (As := [.int x7]) (fun l D dA ht => s_X5_known l D dA ht _ _ _ _ _ _ _ h) wm_2_41 wm_2_38 wm_2_39 wm_2_40 wm_1_1 (by decide +kernel : plainY yX5_known 1) kc5.1 kc5.2.1 dL_areViews_40 (by decide) (Nat.le_of_ble_eq_true rfl) hc12 (Or.inr hc13) ?_ ?_
        · exact fun M E h => h.elim
        · intro M9 v9 h
          obtain ⟨x15, rfl, h⟩ := h
          obtain ⟨hM9, h⟩ := h
          rw [hM9]
          show G X 9 M (k8 + c13) (n9 + s14) 43 [(0, .ref b0), (1, .ref b1), (2, .int x6), (3, .int x7)] [.int x15]
          refine g_istore (lv' := [(4, .int x15), (0, .ref b0), (1, .ref b1), (2, .int x6), (3, .int x7)]) hC dL_areViews_43 (by decide) rfl ?_
          refine g_iconst (v := 0) hC dL_areViews_45 (by decide) ?_
          refine g_istore (lv' := [(5, .int 0), (4, .int x15), (0, .ref b0), (1, .ref b1), (2, .int x6), (3, .int x7)]) hC dL_areViews_46 (by decide) rfl ?_
          refine g_iload hC 1 dL_areViews_48 rfl ?_
          refine g_aload_n (r := (some b1)) hC 3 dL_areViews_50 rfl ?_
          refine g_aload_n (r := (some b0)) hC 2 dL_areViews_51 rfl ?_
          refine g_iload_n hC 5 dL_areViews_52 rfl ?_
          refine g_pc (pc' := 53) rfl ?_
          obtain ⟨hc16, h⟩ := h
          obtain ⟨c17, s18, hc17, h⟩ := h
          refine gx_callV hC (As := [.int x7]) (fun l D dA ht => s_X5_tree l D dA ht _ _ _ _ _ _ _ h) wm_1_179 wm_1_176 wm_1_177 wm_1_178 wm_1_1 (by decide +kernel : plainY yX5_tree 1) kc5.1 kc5.2.1 dL_areViews_53 (by decide) (Nat.le_of_ble_eq_true rfl) hc16 (Or.inr hc17) ?_ ?_
          · exact fun M E h => h.elim
          · intro M9 v9 h
            obtain ⟨x19, rfl, h⟩ := h
            obtain ⟨hM9, h⟩ := h
            rw [hM9]
            show G X 9 M (k8 + c13 + c17) (n9 + s14 + s18) 56 [(5, .int 0), (4, .int x15), (0, .ref b0), (1, .ref b1), (2, .int x6), (3, .int x7)] [.int x19, .ref b1, .int x15]
            refine g_callS hC (As := [.ref b1, .int x19]) (fun l D dA ht => s_L_homesIn l D dA ht _ _ _ _ h) wm_2_157 wm_2_155 wm_2_156 wm_1_0 (by decide +kernel : plainY yL_homesIn 2) dL_areViews_56 (by decide) (Nat.le_of_ble_eq_true rfl) (Or.inl ⟨rfl, rfl⟩) ?_
            intro M9 v9 h
            obtain ⟨x20, rfl, h⟩ := h
            obtain ⟨hM9, h⟩ := h
            rw [hM9]
            show G X 9 M (k8 + c13 + c17) (n9 + s14 + s18) 59 [(5, .int 0), (4, .int x15), (0, .ref b0), (1, .ref b1), (2, .int x6), (3, .int x7)] [.int x20, .int x15]
            refine g_iconst (v := (-1)) hC dL_areViews_59 (by decide) ?_
            refine g_ixor hC dL_areViews_60 ?_
            refine g_iand hC dL_areViews_61 ?_
            replace h := h (fun (x21 : Int32) (k22 : Nat) (n23 : Nat) => G X 9 M k22 n23 92 [(0, .ref b0), (1, .ref b1), (2, .int x6), (3, .int x7), (4, .int x15), (5, .int 0)] [.int x21]) (by
              intro x21 k22 n23 h
              show G X 9 M k22 n23 92 [(0, .ref b0), (1, .ref b1), (2, .int x6), (3, .int x7), (4, .int x15), (5, .int 0)] [.int x21]
              refine g_istore_n (lv' := [(2, .int x21), (0, .ref b0), (1, .ref b1), (3, .int x7), (4, .int x15), (5, .int 0)]) hC dL_areViews_92 (by decide) rfl ?_
              refine g_iconst (v := 0) hC dL_areViews_93 (by decide) ?_
              refine g_istore (lv' := [(6, .int 0), (2, .int x21), (0, .ref b0), (1, .ref b1), (3, .int x7), (4, .int x15), (5, .int 0)]) hC dL_areViews_94 (by decide) rfl ?_
              refine g_sub [2, 3, 1, 4, 5, 6, 0] (lv' := [(0, .ref b0), (1, .ref b1), (2, .int x21), (3, .int x7), (4, .int x15), (5, .int 0), (6, .int 0)]) rfl ?_
              refine Lp_use (fun (z103 : Int32 × Int32 × Int32) => G X 9 M k22 n23 96 [(0, .ref b0), (1, .ref b1), (2, .int z103.1), (3, .int x7), (4, .int x15), (5, .int z103.2.1), (6, .int z103.2.2)] []) h ?_
              intro K28 z hK_K28 h
              obtain ⟨x25, x26, x27⟩ := z
              replace h := h _ _ _ rfl
              show G X 9 M k22 n23 96 [(0, .ref b0), (1, .ref b1), (2, .int x25), (3, .int x7), (4, .int x15), (5, .int x26), (6, .int x27)] []
              refine g_pc (pc' := 96) rfl ?_
              refine g_iload hC 6 dL_areViews_96 rfl ?_
              refine g_aload_n (r := (some b1)) hC 1 dL_areViews_98 rfl ?_
              refine g_iconst (v := 1) hC dL_areViews_99 (by decide) ?_
              obtain ⟨hc29, h⟩ := h
              refine g_ialdA hC dL_areViews_100 hc29 ?_
              replace h := h (G X 9 M k22 n23 160 [(0, .ref b0), (1, .ref b1), (2, .int x25), (3, .int x7), (4, .int x15), (5, .int x26), (6, .int x27)] []) (by
                intro h
                refine g_iconst (v := 0) hC dL_areViews_160 (by decide) ?_
                refine g_istore (lv' := [(6, .int 0), (0, .ref b0), (1, .ref b1), (2, .int x25), (3, .int x7), (4, .int x15), (5, .int x26)]) hC dL_areViews_161 (by decide) rfl ?_
                refine g_sub [1, 2, 3, 4, 5, 6, 0] (lv' := [(0, .ref b0), (1, .ref b1), (2, .int x25), (3, .int x7), (4, .int x15), (5, .int x26), (6, .int 0)]) rfl ?_
                refine Lp_use (fun (z89 : Int32 × Int32 × Nat × Nat) => G X 9 M z89.2.2.1 z89.2.2.2 163 [(0, .ref b0), (1, .ref b1), (2, .int z89.1), (3, .int x7), (4, .int x15), (5, .int x26), (6, .int z89.2.1)] []) h ?_
                intro K35 z hK_K35 h
                obtain ⟨x31, x32, k33, n34⟩ := z
                replace h := h _ _ _ _ rfl
                show G X 9 M k33 n34 163 [(0, .ref b0), (1, .ref b1), (2, .int x31), (3, .int x7), (4, .int x15), (5, .int x26), (6, .int x32)] []
                refine g_iload hC 6 dL_areViews_163 rfl ?_
                refine g_iconst (v := 4) hC dL_areViews_165 (by decide) ?_
                replace h := h (G X 9 M k33 n34 297 [(0, .ref b0), (1, .ref b1), (2, .int x31), (3, .int x7), (4, .int x15), (5, .int x26), (6, .int x32)] []) (by
                  intro h
                  obtain ⟨x37, ex37⟩ : ∃ w, w = x7 + 1 := ⟨_, rfl⟩
                  replace h := h x37 ex37
                  refine g_pc (pc' := 297) rfl ?_
                  refine g_iinc (v := x37) (lv' := [(3, .int x37), (0, .ref b0), (1, .ref b1), (2, .int x31), (4, .int x15), (5, .int x26), (6, .int x32)]) hC 3 dL_areViews_297 rfl (by rw [ex37]; rfl) (by decide) rfl ?_
                  refine g_goto hC 28 dL_areViews_300 (by decide) ?_
                  refine g_sub [1, 2, 3, 0] (lv' := [(0, .ref b0), (1, .ref b1), (2, .int x31), (3, .int x37)]) rfl ?_
                  exact hK_K10 _ h)
                refine g_pc (pc' := 166) rfl ?_
                refine g_icmp_ge hC 297 dL_areViews_166 (by decide) (fun c88 => ?_) (fun c88 => ?_)
                · replace h := h.1 c88
                  exact h
                · replace h := h.2 c88
                  refine g_iload_n hC 2 dL_areViews_169 rfl ?_
                  refine g_if_eq hC 297 dL_areViews_170 (by decide) (fun c87 => ?_) (fun c87 => ?_)
                  · replace h := h.1 c87
                    exact h
                  · replace h := h.2 c87
                    refine g_aload_n (r := (some b0)) hC 0 dL_areViews_173 rfl ?_
                    refine g_iload_n hC 3 dL_areViews_174 rfl ?_
                    refine g_iload hC 6 dL_areViews_175 rfl ?_
                    obtain ⟨hc38, h⟩ := h
                    obtain ⟨c39, s40, hc39, h⟩ := h
                    refine gx_callV hC (As := [.int x7, .int x32]) (fun l D dA ht => s_X5_members l D dA ht _ _ _ _ _ _ _ _ h) wm_3_6 wm_3_3 wm_3_4 wm_3_5 wm_1_1 (by decide +kernel : plainY yX5_members 2) kc5.1 kc5.2.1 dL_areViews_177 (by decide) (Nat.le_of_ble_eq_true rfl) hc38 (Or.inr hc39) ?_ ?_
                    · exact fun M E h => h.elim
                    · intro M9 v9 h
                      obtain ⟨x41, rfl, h⟩ := h
                      obtain ⟨hM9, h⟩ := h
                      rw [hM9]
                      show G X 9 M (k33 + c39) (n34 + s40) 180 [(0, .ref b0), (1, .ref b1), (2, .int x31), (3, .int x7), (4, .int x15), (5, .int x26), (6, .int x32)] [.int x41]
                      refine g_istore (lv' := [(7, .int x41), (0, .ref b0), (1, .ref b1), (2, .int x31), (3, .int x7), (4, .int x15), (5, .int x26), (6, .int x32)]) hC dL_areViews_180 (by decide) rfl ?_
                      refine g_pc (pc' := 182) rfl ?_
                      refine g_iload hC 0 dL_areViews_182 rfl ?_
                      replace h := h (fun (x42 : Int32) => G X 9 M (k33 + c39) (n34 + s40) 192 [(0, .ref b0), (1, .ref b1), (2, .int x31), (3, .int x7), (4, .int x15), (5, .int x26), (6, .int x32), (7, .int x41)] [.int x42]) (by
                        intro x42 h
                        show G X 9 M (k33 + c39) (n34 + s40) 192 [(0, .ref b0), (1, .ref b1), (2, .int x31), (3, .int x7), (4, .int x15), (5, .int x26), (6, .int x32), (7, .int x41)] [.int x42]
                        refine g_istore (lv' := [(8, .int x42), (0, .ref b0), (1, .ref b1), (2, .int x31), (3, .int x7), (4, .int x15), (5, .int x26), (6, .int x32), (7, .int x41)]) hC dL_areViews_192 (by decide) rfl ?_
                        refine g_iload hC 8 dL_areViews_194 rfl ?_
                        refine g_iload hC 5 dL_areViews_196 rfl ?_
                        refine g_iconst (v := (-1)) hC dL_areViews_198 (by decide) ?_
                        refine g_ixor hC dL_areViews_199 ?_
                        refine g_iand hC dL_areViews_200 ?_
                        replace h := h (fun (x44 : Int32) (k45 : Nat) (n46 : Nat) => G X 9 M k45 n46 290 [(0, .ref b0), (1, .ref b1), (2, .int x31), (3, .int x7), (4, .int x15), (5, .int x26), (6, .int x32), (7, .int x41), (8, .int x42)] [.int x44]) (by
                          intro x44 k45 n46 h
                          show G X 9 M k45 n46 290 [(0, .ref b0), (1, .ref b1), (2, .int x31), (3, .int x7), (4, .int x15), (5, .int x26), (6, .int x32), (7, .int x41), (8, .int x42)] [.int x44]
                          refine g_istore_n (lv' := [(2, .int x44), (0, .ref b0), (1, .ref b1), (3, .int x7), (4, .int x15), (5, .int x26), (6, .int x32), (7, .int x41), (8, .int x42)]) hC dL_areViews_290 (by decide) rfl ?_
                          obtain ⟨x48, ex48⟩ : ∃ w, w = x32 + 1 := ⟨_, rfl⟩
                          replace h := h x48 ex48
                          refine g_pc (pc' := 291) rfl ?_
                          refine g_iinc (v := x48) (lv' := [(6, .int x48), (2, .int x44), (0, .ref b0), (1, .ref b1), (3, .int x7), (4, .int x15), (5, .int x26), (7, .int x41), (8, .int x42)]) hC 6 dL_areViews_291 rfl (by rw [ex48]; rfl) (by decide) rfl ?_
                          refine g_goto hC 163 dL_areViews_294 (by decide) ?_
                          refine g_sub [2, 3, 1, 4, 5, 6, 0] (lv' := [(0, .ref b0), (1, .ref b1), (2, .int x44), (3, .int x7), (4, .int x15), (5, .int x26), (6, .int x48)]) rfl ?_
                          exact hK_K35 _ h)
                        replace h := h (fun (k49 : Nat) (n50 : Nat) => G X 9 M k49 n50 289 [(0, .ref b0), (1, .ref b1), (2, .int x31), (3, .int x7), (4, .int x15), (5, .int x26), (6, .int x32), (7, .int x41), (8, .int x42)] []) (by
                          intro k49 n50 h
                          show G X 9 M k49 n50 289 [(0, .ref b0), (1, .ref b1), (2, .int x31), (3, .int x7), (4, .int x15), (5, .int x26), (6, .int x32), (7, .int x41), (8, .int x42)] []
                          refine g_iconst (v := 0) hC dL_areViews_289 (by decide) ?_
                          exact h)
                        refine g_if_ne hC 289 dL_areViews_201 (by decide) (fun c85 => ?_) (fun c85 => ?_)
                        · replace h := h.2 c85
                          refine g_sub [1, 2, 3, 4, 5, 6, 7, 8, 0] (lv' := [(0, .ref b0), (1, .ref b1), (2, .int x31), (3, .int x7), (4, .int x15), (5, .int x26), (6, .int x32), (7, .int x41), (8, .int x42)]) rfl ?_
                          exact h
                        · replace h := h.1 c85
                          refine g_pc (pc' := 204) rfl ?_
                          refine g_aload_n (r := (some b0)) hC 1 dL_areViews_204 rfl ?_
                          refine g_iload_n hC 4 dL_areViews_205 rfl ?_
                          refine g_iload hC 7 dL_areViews_206 rfl ?_
                          obtain ⟨hc52, h⟩ := h
                          obtain ⟨c53, s54, hc53, h⟩ := h
                          refine gx_callV hC (As := [.int x7, .int x32]) (fun l D dA ht => s_X5_age l D dA ht _ _ _ _ _ _ _ _ h) wm_2_48 wm_2_45 wm_2_46 wm_2_47 wm_1_1 (by decide +kernel : plainY yX5_age 2) kc5.1 kc5.2.1 dL_areViews_208 (by decide) (Nat.le_of_ble_eq_true rfl) hc52 (Or.inr hc53) ?_ ?_
                          · exact fun M E h => h.elim
                          · intro M9 v9 h
                            obtain ⟨x55, rfl, h⟩ := h
                            obtain ⟨hM9, h⟩ := h
                            rw [hM9]
                            show G X 9 M (k33 + c39 + c53) (n34 + s40 + s54) 211 [(8, .int x42), (0, .ref b0), (1, .ref b1), (2, .int x31), (3, .int x7), (4, .int x15), (5, .int x26), (6, .int x32), (7, .int x41)] [.int x55]
                            refine g_iconst (v := (-1)) hC dL_areViews_211 (by decide) ?_
                            replace h := h (fun (x56 : Int32) => G X 9 M (k33 + c39 + c53) (n34 + s40 + s54) 220 [(0, .ref b0), (1, .ref b1), (2, .int x31), (3, .int x7), (4, .int x15), (5, .int x26), (6, .int x32), (7, .int x41), (8, .int x42)] [.int x56]) (by
                              intro x56 h
                              show G X 9 M (k33 + c39 + c53) (n34 + s40 + s54) 220 [(0, .ref b0), (1, .ref b1), (2, .int x31), (3, .int x7), (4, .int x15), (5, .int x26), (6, .int x32), (7, .int x41), (8, .int x42)] [.int x56]
                              refine g_iload hC 8 dL_areViews_220 rfl ?_
                              refine g_icmp_ne hC 289 dL_areViews_222 (by decide) (fun c83 => ?_) (fun c83 => ?_)
                              · replace h := h.2 c83
                                exact h
                              · replace h := h.1 c83
                                refine g_aload_n (r := (some b0)) hC 0 dL_areViews_225 rfl ?_
                                refine g_pc (pc' := 226) rfl ?_
                                refine g_iload_n hC 3 dL_areViews_226 rfl ?_
                                refine g_iload hC 6 dL_areViews_227 rfl ?_
                                obtain ⟨hc58, h⟩ := h
                                obtain ⟨c59, s60, hc59, h⟩ := h
                                refine gx_callV hC (As := [.int x7, .int x32]) (fun l D dA ht => s_X5_modes l D dA ht _ _ _ _ _ _ _ _ h) wm_3_65 wm_3_62 wm_3_63 wm_3_64 wm_1_1 (by decide +kernel : plainY yX5_modes 2) kc5.1 kc5.2.1 dL_areViews_229 (by decide) (Nat.le_of_ble_eq_true rfl) hc58 (Or.inr hc59) ?_ ?_
                                · exact fun M E h => h.elim
                                · intro M9 v9 h
                                  obtain ⟨x61, rfl, h⟩ := h
                                  obtain ⟨hM9, h⟩ := h
                                  rw [hM9]
                                  show G X 9 M (k33 + c39 + c53 + c59) (n34 + s40 + s54 + s60) 232 [(0, .ref b0), (1, .ref b1), (2, .int x31), (3, .int x7), (4, .int x15), (5, .int x26), (6, .int x32), (7, .int x41), (8, .int x42)] [.int x61]
                                  refine g_iconst (v := (-1)) hC dL_areViews_232 (by decide) ?_
                                  replace h := h (fun (x62 : Int32) => G X 9 M (k33 + c39 + c53 + c59) (n34 + s40 + s54 + s60) 241 [(0, .ref b0), (1, .ref b1), (2, .int x31), (3, .int x7), (4, .int x15), (5, .int x26), (6, .int x32), (7, .int x41), (8, .int x42)] [.int x62]) (by
                                    intro x62 h
                                    show G X 9 M (k33 + c39 + c53 + c59) (n34 + s40 + s54 + s60) 241 [(0, .ref b0), (1, .ref b1), (2, .int x31), (3, .int x7), (4, .int x15), (5, .int x26), (6, .int x32), (7, .int x41), (8, .int x42)] [.int x62]
                                    refine g_iload hC 8 dL_areViews_241 rfl ?_
                                    refine g_icmp_ne hC 289 dL_areViews_243 (by decide) (fun c81 => ?_) (fun c81 => ?_)
                                    · replace h := h.2 c81
                                      exact h
                                    · replace h := h.1 c81
                                      refine g_aload_n (r := (some b0)) hC 0 dL_areViews_246 rfl ?_
                                      refine g_iload_n hC 3 dL_areViews_247 rfl ?_
                                      refine g_pc (pc' := 248) rfl ?_
                                      refine g_iload hC 6 dL_areViews_248 rfl ?_
                                      obtain ⟨hc64, h⟩ := h
                                      obtain ⟨c65, s66, hc65, h⟩ := h
                                      refine gx_callV hC (As := [.int x7, .int x32]) (fun l D dA ht => s_X5_bans l D dA ht _ _ _ _ _ _ _ _ h) wm_3_10 wm_3_7 wm_3_8 wm_3_9 wm_1_1 (by decide +kernel : plainY yX5_bans 2) kc5.1 kc5.2.1 dL_areViews_250 (by decide) (Nat.le_of_ble_eq_true rfl) hc64 (Or.inr hc65) ?_ ?_
                                      · exact fun M E h => h.elim
                                      · intro M9 v9 h
                                        obtain ⟨x67, rfl, h⟩ := h
                                        obtain ⟨hM9, h⟩ := h
                                        rw [hM9]
                                        show G X 9 M (k33 + c39 + c53 + c59 + c65) (n34 + s40 + s54 + s60 + s66) 253 [(0, .ref b0), (1, .ref b1), (2, .int x31), (3, .int x7), (4, .int x15), (5, .int x26), (6, .int x32), (7, .int x41), (8, .int x42)] [.int x67]
                                        refine g_iconst (v := (-1)) hC dL_areViews_253 (by decide) ?_
                                        replace h := h (fun (x68 : Int32) => G X 9 M (k33 + c39 + c53 + c59 + c65) (n34 + s40 + s54 + s60 + s66) 262 [(0, .ref b0), (1, .ref b1), (2, .int x31), (3, .int x7), (4, .int x15), (5, .int x26), (6, .int x32), (7, .int x41), (8, .int x42)] [.int x68]) (by
                                          intro x68 h
                                          show G X 9 M (k33 + c39 + c53 + c59 + c65) (n34 + s40 + s54 + s60 + s66) 262 [(0, .ref b0), (1, .ref b1), (2, .int x31), (3, .int x7), (4, .int x15), (5, .int x26), (6, .int x32), (7, .int x41), (8, .int x42)] [.int x68]
                                          refine g_iload hC 8 dL_areViews_262 rfl ?_
                                          refine g_icmp_ne hC 289 dL_areViews_264 (by decide) (fun c79 => ?_) (fun c79 => ?_)
                                          · replace h := h.2 c79
                                            exact h
                                          · replace h := h.1 c79
                                            refine g_aload_n (r := (some b0)) hC 0 dL_areViews_267 rfl ?_
                                            refine g_iload_n hC 3 dL_areViews_268 rfl ?_
                                            refine g_iload_n hC 3 dL_areViews_269 rfl ?_
                                            refine g_pc (pc' := 270) rfl ?_
                                            refine g_iload hC 6 dL_areViews_270 rfl ?_
                                            obtain ⟨hc70, h⟩ := h
                                            obtain ⟨c71, s72, hc71, h⟩ := h
                                            refine gx_callV hC (As := [.int x7, .int x7, .int x32]) (fun l D dA ht => s_X5_joinedModes l D dA ht _ _ _ _ _ _ _ _ _ h) wm_3_125 wm_3_122 wm_3_123 wm_3_124 wm_1_1 (by decide +kernel : plainY yX5_joinedModes 3) kc5.1 kc5.2.1 dL_areViews_272 (by decide) (Nat.le_of_ble_eq_true rfl) hc70 (Or.inr hc71) ?_ ?_
                                            · exact fun M E h => h.elim
                                            · intro M9 v9 h
                                              obtain ⟨x73, rfl, h⟩ := h
                                              obtain ⟨hM9, h⟩ := h
                                              rw [hM9]
                                              show G X 9 M (k33 + c39 + c53 + c59 + c65 + c71) (n34 + s40 + s54 + s60 + s66 + s72) 275 [(0, .ref b0), (1, .ref b1), (2, .int x31), (3, .int x7), (4, .int x15), (5, .int x26), (6, .int x32), (7, .int x41), (8, .int x42)] [.int x73]
                                              refine g_aload_n (r := (some b0)) hC 0 dL_areViews_275 rfl ?_
                                              refine g_iload_n hC 3 dL_areViews_276 rfl ?_
                                              refine g_iload hC 6 dL_areViews_277 rfl ?_
                                              obtain ⟨hc74, h⟩ := h
                                              obtain ⟨c75, s76, hc75, h⟩ := h
                                              refine gx_callV hC (As := [.int x7, .int x32]) (fun l D dA ht => s_X5_modes l D dA ht _ _ _ _ _ _ _ _ h) wm_3_65 wm_3_62 wm_3_63 wm_3_64 wm_1_1 (by decide +kernel : plainY yX5_modes 2) kc5.1 kc5.2.1 dL_areViews_279 (by decide) (Nat.le_of_ble_eq_true rfl) hc74 (Or.inr hc75) ?_ ?_
                                              · exact fun M E h => h.elim
                                              · intro M9 v9 h
                                                obtain ⟨x77, rfl, h⟩ := h
                                                obtain ⟨hM9, h⟩ := h
                                                rw [hM9]
                                                show G X 9 M (k33 + c39 + c53 + c59 + c65 + c71 + c75) (n34 + s40 + s54 + s60 + s66 + s72 + s76) 282 [(0, .ref b0), (1, .ref b1), (2, .int x31), (3, .int x7), (4, .int x15), (5, .int x26), (6, .int x32), (7, .int x41), (8, .int x42)] [.int x77, .int x73]
                                                refine g_icmp_ne hC 289 dL_areViews_282 (by decide) (fun c78 => ?_) (fun c78 => ?_)
                                                · replace h := h.2 c78
                                                  exact h
                                                · replace h := h.1 c78
                                                  refine g_iconst (v := 1) hC dL_areViews_285 (by decide) ?_
                                                  refine g_pc (pc' := 286) rfl ?_
                                                  refine g_goto hC 290 dL_areViews_286 (by decide) ?_
                                                  exact h)
                                        refine g_icmp_eq hC 261 dL_areViews_254 (by decide) (fun c80 => ?_) (fun c80 => ?_)
                                        · replace h := h.1 c80
                                          refine g_iconst (v := 0) hC dL_areViews_261 (by decide) ?_
                                          exact h
                                        · replace h := h.2 c80
                                          refine g_iconst (v := 1) hC dL_areViews_257 (by decide) ?_
                                          refine g_goto hC 262 dL_areViews_258 (by decide) ?_
                                          exact h)
                                  refine g_icmp_eq hC 240 dL_areViews_233 (by decide) (fun c82 => ?_) (fun c82 => ?_)
                                  · replace h := h.1 c82
                                    refine g_iconst (v := 0) hC dL_areViews_240 (by decide) ?_
                                    exact h
                                  · replace h := h.2 c82
                                    refine g_iconst (v := 1) hC dL_areViews_236 (by decide) ?_
                                    refine g_goto hC 241 dL_areViews_237 (by decide) ?_
                                    exact h)
                            refine g_icmp_eq hC 219 dL_areViews_212 (by decide) (fun c84 => ?_) (fun c84 => ?_)
                            · replace h := h.1 c84
                              refine g_iconst (v := 0) hC dL_areViews_219 (by decide) ?_
                              refine g_sub [1, 2, 3, 4, 5, 6, 7, 8, 0] (lv' := [(0, .ref b0), (1, .ref b1), (2, .int x31), (3, .int x7), (4, .int x15), (5, .int x26), (6, .int x32), (7, .int x41), (8, .int x42)]) rfl ?_
                              exact h
                            · replace h := h.2 c84
                              refine g_iconst (v := 1) hC dL_areViews_215 (by decide) ?_
                              refine g_goto hC 220 dL_areViews_216 (by decide) ?_
                              refine g_sub [1, 2, 3, 4, 5, 6, 7, 8, 0] (lv' := [(0, .ref b0), (1, .ref b1), (2, .int x31), (3, .int x7), (4, .int x15), (5, .int x26), (6, .int x32), (7, .int x41), (8, .int x42)]) rfl ?_
                              exact h)
                      refine g_if_eq hC 191 dL_areViews_184 (by decide) (fun c86 => ?_) (fun c86 => ?_)
                      · replace h := h.1 c86
                        refine g_iconst (v := 0) hC dL_areViews_191 (by decide) ?_
                        refine g_sub [1, 2, 3, 4, 5, 6, 7, 0] (lv' := [(0, .ref b0), (1, .ref b1), (2, .int x31), (3, .int x7), (4, .int x15), (5, .int x26), (6, .int x32), (7, .int x41)]) rfl ?_
                        exact h
                      · replace h := h.2 c86
                        refine g_iconst (v := 1) hC dL_areViews_187 (by decide) ?_
                        refine g_goto hC 192 dL_areViews_188 (by decide) ?_
                        refine g_sub [1, 2, 3, 4, 5, 6, 7, 0] (lv' := [(0, .ref b0), (1, .ref b1), (2, .int x31), (3, .int x7), (4, .int x15), (5, .int x26), (6, .int x32), (7, .int x41)]) rfl ?_
                        exact h)
              refine g_icmp_ge hC 160 dL_areViews_101 (by decide) (fun c102 => ?_) (fun c102 => ?_)
              · replace h := h.1 c102
                exact h
              · replace h := h.2 c102
                refine g_iload_n hC 2 dL_areViews_104 rfl ?_
                refine g_if_eq hC 160 dL_areViews_105 (by decide) (fun c101 => ?_) (fun c101 => ?_)
                · replace h := h.1 c101
                  exact h
                · replace h := h.2 c101
                  refine g_iload hC 4 dL_areViews_108 rfl ?_
                  refine g_pc (pc' := 110) rfl ?_
                  refine g_iload hC 6 dL_areViews_110 rfl ?_
                  refine g_ishr hC dL_areViews_112 ?_
                  refine g_iconst (v := 1) hC dL_areViews_113 (by decide) ?_
                  refine g_iand hC dL_areViews_114 ?_
                  refine g_iconst (v := 1) hC dL_areViews_115 (by decide) ?_
                  replace h := h (fun (x90 : Int32) (x91 : Int32) => G X 9 M k22 n23 154 [(0, .ref b0), (1, .ref b1), (2, .int x90), (3, .int x7), (4, .int x15), (5, .int x91), (6, .int x27)] []) (by
                    intro x90 x91 h
                    show G X 9 M k22 n23 154 [(0, .ref b0), (1, .ref b1), (2, .int x90), (3, .int x7), (4, .int x15), (5, .int x91), (6, .int x27)] []
                    obtain ⟨x93, ex93⟩ : ∃ w, w = x27 + 1 := ⟨_, rfl⟩
                    replace h := h x93 ex93
                    refine g_iinc (v := x93) (lv' := [(6, .int x93), (0, .ref b0), (1, .ref b1), (2, .int x90), (3, .int x7), (4, .int x15), (5, .int x91)]) hC 6 dL_areViews_154 rfl (by rw [ex93]; rfl) (by decide) rfl ?_
                    refine g_goto hC 96 dL_areViews_157 (by decide) ?_
                    refine g_sub [1, 2, 3, 4, 5, 6, 0] (lv' := [(0, .ref b0), (1, .ref b1), (2, .int x90), (3, .int x7), (4, .int x15), (5, .int x91), (6, .int x93)]) rfl ?_
                    exact hK_K28 _ h)
                  refine g_icmp_ne hC 154 dL_areViews_116 (by decide) (fun c100 => ?_) (fun c100 => ?_)
                  · replace h := h.2 c100
                    exact h
                  · replace h := h.1 c100
                    refine g_iload hC 5 dL_areViews_119 rfl ?_
                    refine g_aload_n (r := (some b1)) hC 1 dL_areViews_121 rfl ?_
                    refine g_pc (pc' := 122) rfl ?_
                    refine g_bipush (v := 8) hC dL_areViews_122 (by decide) ?_
                    refine g_iload hC 6 dL_areViews_124 rfl ?_
                    refine g_iadd hC dL_areViews_126 ?_
                    obtain ⟨hc94, h⟩ := h
                    refine g_ialdA hC dL_areViews_127 hc94 ?_
                    refine g_ishr hC dL_areViews_128 ?_
                    refine g_iconst (v := 1) hC dL_areViews_129 (by decide) ?_
                    refine g_iand hC dL_areViews_130 ?_
                    replace h := h (fun (x95 : Int32) => G X 9 M k22 n23 139 [(0, .ref b0), (1, .ref b1), (2, .int x25), (3, .int x7), (4, .int x15), (5, .int x26), (6, .int x27)] [.int x95]) (by
                      intro x95 h
                      show G X 9 M k22 n23 139 [(0, .ref b0), (1, .ref b1), (2, .int x25), (3, .int x7), (4, .int x15), (5, .int x26), (6, .int x27)] [.int x95]
                      refine g_istore_n (lv' := [(2, .int x95), (0, .ref b0), (1, .ref b1), (3, .int x7), (4, .int x15), (5, .int x26), (6, .int x27)]) hC dL_areViews_139 (by decide) rfl ?_
                      refine g_pc (pc' := 140) rfl ?_
                      refine g_iload hC 5 dL_areViews_140 rfl ?_
                      refine g_iconst (v := 1) hC dL_areViews_142 (by decide) ?_
                      refine g_aload_n (r := (some b1)) hC 2 dL_areViews_143 rfl ?_
                      refine g_bipush (v := 8) hC dL_areViews_144 (by decide) ?_
                      refine g_iload hC 6 dL_areViews_146 rfl ?_
                      refine g_iadd hC dL_areViews_148 ?_
                      obtain ⟨hc97, h⟩ := h
                      refine g_ialdA hC dL_areViews_149 hc97 ?_
                      refine g_ishl hC dL_areViews_150 ?_
                      refine g_pc (pc' := 151) rfl ?_
                      refine g_ior hC dL_areViews_151 ?_
                      obtain ⟨x98, ex98⟩ : ∃ w, w = x26 ||| (1 <<< ((gI M b1 (Int32.toNatClampNeg (8 + x27))) &&& 31)) := ⟨_, rfl⟩
                      replace h := h x98 ex98
                      rw [← ex98]
                      refine g_istore (lv' := [(5, .int x98), (2, .int x95), (0, .ref b0), (1, .ref b1), (3, .int x7), (4, .int x15), (6, .int x27)]) hC dL_areViews_152 (by decide) rfl ?_
                      refine g_sub [2, 3, 1, 4, 5, 0, 6] (lv' := [(0, .ref b0), (1, .ref b1), (2, .int x95), (3, .int x7), (4, .int x15), (5, .int x98), (6, .int x27)]) rfl ?_
                      exact h)
                    refine g_if_ne hC 138 dL_areViews_131 (by decide) (fun c99 => ?_) (fun c99 => ?_)
                    · replace h := h.2 c99
                      refine g_pc (pc' := 138) rfl ?_
                      refine g_iconst (v := 0) hC dL_areViews_138 (by decide) ?_
                      exact h
                    · replace h := h.1 c99
                      refine g_pc (pc' := 134) rfl ?_
                      refine g_iconst (v := 1) hC dL_areViews_134 (by decide) ?_
                      refine g_goto hC 139 dL_areViews_135 (by decide) ?_
                      exact h)
            replace h := h (fun (k104 : Nat) (n105 : Nat) => G X 9 M k104 n105 91 [(0, .ref b0), (1, .ref b1), (2, .int x6), (3, .int x7), (4, .int x15), (5, .int 0)] []) (by
              intro k104 n105 h
              show G X 9 M k104 n105 91 [(0, .ref b0), (1, .ref b1), (2, .int x6), (3, .int x7), (4, .int x15), (5, .int 0)] []
              refine g_iconst (v := 0) hC dL_areViews_91 (by decide) ?_
              exact h)
            refine g_if_ne hC 91 dL_areViews_62 (by decide) (fun c117 => ?_) (fun c117 => ?_)
            · replace h := h.2 c117
              refine g_sub [2, 3, 4, 5, 1, 0] (lv' := [(0, .ref b0), (1, .ref b1), (2, .int x6), (3, .int x7), (4, .int x15), (5, .int 0)]) rfl ?_
              exact h
            · replace h := h.1 c117
              refine g_aload_n (r := (some b0)) hC 2 dL_areViews_65 rfl ?_
              refine g_iload_n hC 5 dL_areViews_66 rfl ?_
              refine g_pc (pc' := 67) rfl ?_
              obtain ⟨hc107, h⟩ := h
              obtain ⟨c108, s109, hc108, h⟩ := h
              refine gx_callV hC (As := [.int x7]) (fun l D dA ht => s_X5_tree l D dA ht _ _ _ _ _ _ _ h) wm_1_179 wm_1_176 wm_1_177 wm_1_178 wm_1_1 (by decide +kernel : plainY yX5_tree 1) kc5.1 kc5.2.1 dL_areViews_67 (by decide) (Nat.le_of_ble_eq_true rfl) hc107 (Or.inr hc108) ?_ ?_
              · exact fun M E h => h.elim
              · intro M9 v9 h
                obtain ⟨x110, rfl, h⟩ := h
                obtain ⟨hM9, h⟩ := h
                rw [hM9]
                show G X 9 M (k8 + c13 + c17 + c108) (n9 + s14 + s18 + s109) 70 [(5, .int 0), (4, .int x15), (0, .ref b0), (1, .ref b1), (2, .int x6), (3, .int x7)] [.int x110]
                refine g_iload_n hC 5 dL_areViews_70 rfl ?_
                refine g_ishr hC dL_areViews_71 ?_
                refine g_iconst (v := 1) hC dL_areViews_72 (by decide) ?_
                refine g_iand hC dL_areViews_73 ?_
                refine g_iconst (v := 1) hC dL_areViews_74 (by decide) ?_
                refine g_icmp_ne hC 91 dL_areViews_75 (by decide) (fun c116 => ?_) (fun c116 => ?_)
                · replace h := h.2 c116
                  refine g_sub [2, 3, 4, 5, 1, 0] (lv' := [(0, .ref b0), (1, .ref b1), (2, .int x6), (3, .int x7), (4, .int x15), (5, .int 0)]) rfl ?_
                  exact h
                · replace h := h.1 c116
                  refine g_aload_n (r := (some b0)) hC 2 dL_areViews_78 rfl ?_
                  refine g_pc (pc' := 79) rfl ?_
                  refine g_iload_n hC 5 dL_areViews_79 rfl ?_
                  refine g_iload_n hC 5 dL_areViews_80 rfl ?_
                  obtain ⟨hc111, h⟩ := h
                  obtain ⟨c112, s113, hc112, h⟩ := h
                  refine gx_callV hC (As := [.int x7, .int x7]) (fun l D dA ht => s_X5_areSame l D dA ht _ _ _ _ _ _ _ _ h) wm_3_110 wm_3_107 wm_3_108 wm_3_109 wm_1_1 (by decide +kernel : plainY yX5_areSame 2) kc5.1 kc5.2.1 dL_areViews_81 (by decide) (Nat.le_of_ble_eq_true rfl) hc111 (Or.inr hc112) ?_ ?_
                  · exact fun M E h => h.elim
                  · intro M9 v9 h
                    obtain ⟨x114, rfl, h⟩ := h
                    obtain ⟨hM9, h⟩ := h
                    rw [hM9]
                    show G X 9 M (k8 + c13 + c17 + c108 + c112) (n9 + s14 + s18 + s109 + s113) 84 [(5, .int 0), (4, .int x15), (0, .ref b0), (1, .ref b1), (2, .int x6), (3, .int x7)] [.int x114]
                    refine g_if_eq hC 91 dL_areViews_84 (by decide) (fun c115 => ?_) (fun c115 => ?_)
                    · replace h := h.1 c115
                      refine g_sub [2, 3, 4, 5, 1, 0] (lv' := [(0, .ref b0), (1, .ref b1), (2, .int x6), (3, .int x7), (4, .int x15), (5, .int 0)]) rfl ?_
                      exact h
                    · replace h := h.2 c115
                      refine g_iconst (v := 1) hC dL_areViews_87 (by decide) ?_
                      refine g_goto hC 92 dL_areViews_88 (by decide) ?_
                      refine g_sub [2, 3, 4, 5, 1, 0] (lv' := [(0, .ref b0), (1, .ref b1), (2, .int x6), (3, .int x7), (4, .int x15), (5, .int 0)]) rfl ?_
                      exact h)
  replace h := h (G X 9 M 0 0 24 [(0, .ref b0), (1, .ref b1)] []) (by
    intro h
    refine g_iconst (v := 0) hC dL_areViews_24 (by decide) ?_
    exact h)
  refine g_icmp_ne hC 24 dL_areViews_7 (by decide) (fun c126 => ?_) (fun c126 => ?_)
  · replace h := h.2 c126
    exact h
  · replace h := h.1 c126
    refine g_aload_n (r := (some b0)) hC 0 dL_areViews_10 rfl ?_
    refine g_pc (pc' := 11) rfl ?_
    obtain ⟨hc122, h⟩ := h
    refine g_callV hC (As := []) (fun l D dA ht => s_X5_users l D dA ht _ _ _ h) wm_2_21 wm_2_18 wm_2_19 wm_2_20 wm_1_1 (by decide +kernel : plainY yX5_users 0) kc5.1 kc5.2.1 dL_areViews_11 (by decide) (Nat.le_of_ble_eq_true rfl) hc122 (Or.inl ⟨rfl, rfl⟩) ?_
    intro M9 v9 h
    obtain ⟨x123, rfl, h⟩ := h
    obtain ⟨hM9, h⟩ := h
    rw [hM9]
    show G X 9 M 0 0 14 [(0, .ref b0), (1, .ref b1)] [.int x123]
    refine g_aload_n (r := (some b1)) hC 1 dL_areViews_14 rfl ?_
    refine g_iconst (v := 1) hC dL_areViews_15 (by decide) ?_
    obtain ⟨hc124, h⟩ := h
    refine g_ialdA hC dL_areViews_16 hc124 ?_
    refine g_icmp_ne hC 24 dL_areViews_17 (by decide) (fun c125 => ?_) (fun c125 => ?_)
    · replace h := h.2 c125
      exact h
    · replace h := h.1 c125
      refine g_iconst (v := 1) hC dL_areViews_20 (by decide) ?_
      refine g_goto hC 25 dL_areViews_21 (by decide) ?_
      exact h

def w_L_areQuiet (mc ms : Nat) (M : Mem) (b0 : Nat) (b1 : Nat) (post : Int32 → Prop) : Prop :=
  Lp (fun (K5 : Int32 × Int32 × Nat × Nat → Prop) (z : Int32 × Int32 × Nat × Nat) => ∀ (x1 : Int32) (x2 : Int32) (k3 : Nat) (n4 : Nat), z = (x1, x2, k3, n4) → (inA M b1 10 1 ∧ ∀ J7 : Prop, ((((x1 : Int32) = 0 ∨ (x1 : Int32) = 1) ∧ post x1) → J7) → (((gI M b1 (Int32.toNatClampNeg 1)) ≤ x2 → J7) ∧ (¬ ((gI M b1 (Int32.toNatClampNeg 1)) ≤ x2) → (x1 = 0 → J7) ∧ (¬ (x1 = 0) → inA M b1 10 (28 + x2) ∧ ∀ x9, x9 = gI M b1 (Int32.toNatClampNeg (28 + x2)) → Lp (fun (K14 : Int32 × Int32 × Nat × Nat → Prop) (z : Int32 × Int32 × Nat × Nat) => ∀ (x10 : Int32) (x11 : Int32) (k12 : Nat) (n13 : Nat), z = (x10, x11, k12, n13) → (∀ J15 : Prop, ((∀ x16, x16 = x2 + 1 → K5 (x10, x16, k12, n13)) → J15) → ((6 ≤ x11 → J15) ∧ (¬ (6 ≤ x11) → (x10 = 0 → J15) ∧ (¬ (x10 = 0) → gT M b0 = some (5, 0) ∧ ∃ c18 s19, (k12 + c18 ≤ mc ∧ n13 + s19 ≤ ms) ∧ w_X5_tree c18 s19 M b0 x9 (fun _ _ => False) (fun x20 => ∀ J22 : Int32 → Prop, (∀ (x21 : Int32), (∀ J26 : Int32 → Nat → Nat → Prop, (∀ (x23 : Int32) (k24 : Nat) (n25 : Nat), (∀ x27, x27 = x11 + 1 → K14 (x23, x27, k24, n25)) → J26 x23 k24 n25) → (∀ J30 : Nat → Nat → Prop, (∀ (k28 : Nat) (n29 : Nat), (J26 1 k28 n29) → J30 k28 n29) → ((x21 = 0 → gT M b0 = some (5, 0) ∧ ∃ c32 s33, ((k12 + c18) + c32 ≤ mc ∧ (n13 + s19) + s33 ≤ ms) ∧ w_X5_known c32 s33 M b0 x11 (fun _ _ => False) (fun x34 => ((x34 >>> (x2 &&& 31)) &&& 1 = 0 → J30 (k12 + c18 + c32) (n13 + s19 + s33)) ∧ (¬ ((x34 >>> (x2 &&& 31)) &&& 1 = 0) → J26 0 (k12 + c18 + c32) (n13 + s19 + s33)))) ∧ (¬ (x21 = 0) → J30 (k12 + c18) (n13 + s19))))) → J22 x21) → (((x20 >>> (x11 &&& 31)) &&& 1 = 1 → J22 1) ∧ (¬ ((x20 >>> (x11 &&& 31)) &&& 1 = 1) → J22 0)))))))) (x1, 0, k3, n4)))))) (1, 0, 0, 0)
set_option maxRecDepth 100000 in
set_option maxHeartbeats 8000000 in
theorem s_L_areQuiet (l : Launch) (D : va_G) (dA : Nat → ClassId) (htr : l.stackTraces = false) (mc ms : Nat) (M : Mem) (b0 : Nat) (b1 : Nat) (post : Int32 → Prop) (h : w_L_areQuiet mc ms M b0 b1 post) : CtN l D dA yL_areQuiet cL_areQuiet 7 (some .boolean) 8 [.ref b0, .ref b1] M mc ms (pI (fun M' r => M' = M ∧ post r)) := by
  refine ct_ofN htr (by decide) (Nat.le_of_ble_eq_true rfl) ?_
  intro X hC hN hR
  show G X 7 M 0 0 0 [(0, .ref b0), (1, .ref b1)] []
  unfold w_L_areQuiet at h
  refine g_iconst (v := 1) hC dL_areQuiet_0 (by decide) ?_
  refine g_istore_n (lv' := [(2, .int 1), (0, .ref b0), (1, .ref b1)]) hC dL_areQuiet_1 (by decide) rfl ?_
  refine g_iconst (v := 0) hC dL_areQuiet_2 (by decide) ?_
  refine g_istore_n (lv' := [(3, .int 0), (2, .int 1), (0, .ref b0), (1, .ref b1)]) hC dL_areQuiet_3 (by decide) rfl ?_
  refine g_sub [2, 3, 1, 0] (lv' := [(0, .ref b0), (1, .ref b1), (2, .int 1), (3, .int 0)]) rfl ?_
  refine Lp_use (fun (z43 : Int32 × Int32 × Nat × Nat) => G X 7 M z43.2.2.1 z43.2.2.2 4 [(0, .ref b0), (1, .ref b1), (2, .int z43.1), (3, .int z43.2.1)] []) h ?_
  intro K5 z hK_K5 h
  obtain ⟨x1, x2, k3, n4⟩ := z
  replace h := h _ _ _ _ rfl
  show G X 7 M k3 n4 4 [(0, .ref b0), (1, .ref b1), (2, .int x1), (3, .int x2)] []
  refine g_iload_n hC 3 dL_areQuiet_4 rfl ?_
  refine g_aload_n (r := (some b1)) hC 1 dL_areQuiet_5 rfl ?_
  refine g_iconst (v := 1) hC dL_areQuiet_6 (by decide) ?_
  obtain ⟨hc6, h⟩ := h
  refine g_pc (pc' := 7) rfl ?_
  refine g_ialdA hC dL_areQuiet_7 hc6 ?_
  replace h := h (G X 7 M k3 n4 95 [(0, .ref b0), (1, .ref b1), (2, .int x1), (3, .int x2)] []) (by
    intro h
    refine g_iload_n hC 2 dL_areQuiet_95 rfl ?_
    exact hR.2.2.1 rfl _ _ _ _ _ _ dL_areQuiet_96 ⟨h.1, ⟨_, rfl, rfl, h.2⟩⟩)
  refine g_icmp_ge hC 95 dL_areQuiet_8 (by decide) (fun c42 => ?_) (fun c42 => ?_)
  · replace h := h.1 c42
    exact h
  · replace h := h.2 c42
    refine g_iload_n hC 2 dL_areQuiet_11 rfl ?_
    refine g_if_eq hC 95 dL_areQuiet_12 (by decide) (fun c41 => ?_) (fun c41 => ?_)
    · replace h := h.1 c41
      exact h
    · replace h := h.2 c41
      refine g_aload_n (r := (some b1)) hC 1 dL_areQuiet_15 rfl ?_
      refine g_bipush (v := 28) hC dL_areQuiet_16 (by decide) ?_
      refine g_iload_n hC 3 dL_areQuiet_18 rfl ?_
      refine g_iadd hC dL_areQuiet_19 ?_
      obtain ⟨hc8, h⟩ := h
      refine g_pc (pc' := 20) rfl ?_
      refine g_ialdA hC dL_areQuiet_20 hc8 ?_
      obtain ⟨x9, ex9⟩ : ∃ w, w = gI M b1 (Int32.toNatClampNeg (28 + x2)) := ⟨_, rfl⟩
      replace h := h x9 ex9
      rw [← ex9]
      refine g_istore (lv' := [(4, .int x9), (0, .ref b0), (1, .ref b1), (2, .int x1), (3, .int x2)]) hC dL_areQuiet_21 (by decide) rfl ?_
      refine g_iconst (v := 0) hC dL_areQuiet_23 (by decide) ?_
      refine g_istore (lv' := [(5, .int 0), (4, .int x9), (0, .ref b0), (1, .ref b1), (2, .int x1), (3, .int x2)]) hC dL_areQuiet_24 (by decide) rfl ?_
      refine g_sub [2, 3, 4, 5, 1, 0] (lv' := [(0, .ref b0), (1, .ref b1), (2, .int x1), (3, .int x2), (4, .int x9), (5, .int 0)]) rfl ?_
      refine Lp_use (fun (z40 : Int32 × Int32 × Nat × Nat) => G X 7 M z40.2.2.1 z40.2.2.2 26 [(0, .ref b0), (1, .ref b1), (2, .int z40.1), (3, .int x2), (4, .int x9), (5, .int z40.2.1)] []) h ?_
      intro K14 z hK_K14 h
      obtain ⟨x10, x11, k12, n13⟩ := z
      replace h := h _ _ _ _ rfl
      show G X 7 M k12 n13 26 [(0, .ref b0), (1, .ref b1), (2, .int x10), (3, .int x2), (4, .int x9), (5, .int x11)] []
      refine g_iload hC 5 dL_areQuiet_26 rfl ?_
      refine g_bipush (v := 6) hC dL_areQuiet_28 (by decide) ?_
      replace h := h (G X 7 M k12 n13 89 [(0, .ref b0), (1, .ref b1), (2, .int x10), (3, .int x2), (4, .int x9), (5, .int x11)] []) (by
        intro h
        obtain ⟨x16, ex16⟩ : ∃ w, w = x2 + 1 := ⟨_, rfl⟩
        replace h := h x16 ex16
        refine g_iinc (v := x16) (lv' := [(3, .int x16), (0, .ref b0), (1, .ref b1), (2, .int x10), (4, .int x9), (5, .int x11)]) hC 3 dL_areQuiet_89 rfl (by rw [ex16]; rfl) (by decide) rfl ?_
        refine g_goto hC 4 dL_areQuiet_92 (by decide) ?_
        refine g_sub [1, 2, 3, 0] (lv' := [(0, .ref b0), (1, .ref b1), (2, .int x10), (3, .int x16)]) rfl ?_
        exact hK_K5 _ h)
      refine g_icmp_ge hC 89 dL_areQuiet_30 (by decide) (fun c39 => ?_) (fun c39 => ?_)
      · replace h := h.1 c39
        exact h
      · replace h := h.2 c39
        refine g_iload_n hC 2 dL_areQuiet_33 rfl ?_
        refine g_pc (pc' := 34) rfl ?_
        refine g_if_eq hC 89 dL_areQuiet_34 (by decide) (fun c38 => ?_) (fun c38 => ?_)
        · replace h := h.1 c38
          exact h
        · replace h := h.2 c38
          refine g_aload_n (r := (some b0)) hC 0 dL_areQuiet_37 rfl ?_
          refine g_iload hC 4 dL_areQuiet_38 rfl ?_
          obtain ⟨hc17, h⟩ := h
          obtain ⟨c18, s19, hc18, h⟩ := h
          refine gx_callV hC (As := [.int x9]) (fun l D dA ht => s_X5_tree l D dA ht _ _ _ _ _ _ _ h) wm_1_179 wm_1_176 wm_1_177 wm_1_178 wm_1_1 (by decide +kernel : plainY yX5_tree 1) kc5.1 kc5.2.1 dL_areQuiet_40 (by decide) (Nat.le_of_ble_eq_true rfl) hc17 (Or.inr hc18) ?_ ?_
          · exact fun M E h => h.elim
          · intro M9 v9 h
            obtain ⟨x20, rfl, h⟩ := h
            obtain ⟨hM9, h⟩ := h
            rw [hM9]
            show G X 7 M (k12 + c18) (n13 + s19) 43 [(0, .ref b0), (1, .ref b1), (2, .int x10), (3, .int x2), (4, .int x9), (5, .int x11)] [.int x20]
            refine g_iload hC 5 dL_areQuiet_43 rfl ?_
            refine g_ishr hC dL_areQuiet_45 ?_
            refine g_iconst (v := 1) hC dL_areQuiet_46 (by decide) ?_
            refine g_iand hC dL_areQuiet_47 ?_
            refine g_pc (pc' := 48) rfl ?_
            refine g_iconst (v := 1) hC dL_areQuiet_48 (by decide) ?_
            replace h := h (fun (x21 : Int32) => G X 7 M (k12 + c18) (n13 + s19) 57 [(0, .ref b0), (1, .ref b1), (2, .int x10), (3, .int x2), (4, .int x9), (5, .int x11)] [.int x21]) (by
              intro x21 h
              show G X 7 M (k12 + c18) (n13 + s19) 57 [(0, .ref b0), (1, .ref b1), (2, .int x10), (3, .int x2), (4, .int x9), (5, .int x11)] [.int x21]
              refine g_istore (lv' := [(6, .int x21), (0, .ref b0), (1, .ref b1), (2, .int x10), (3, .int x2), (4, .int x9), (5, .int x11)]) hC dL_areQuiet_57 (by decide) rfl ?_
              refine g_iload hC 0 dL_areQuiet_59 rfl ?_
              replace h := h (fun (x23 : Int32) (k24 : Nat) (n25 : Nat) => G X 7 M k24 n25 82 [(0, .ref b0), (1, .ref b1), (2, .int x10), (3, .int x2), (4, .int x9), (5, .int x11), (6, .int x21)] [.int x23]) (by
                intro x23 k24 n25 h
                show G X 7 M k24 n25 82 [(0, .ref b0), (1, .ref b1), (2, .int x10), (3, .int x2), (4, .int x9), (5, .int x11), (6, .int x21)] [.int x23]
                refine g_istore_n (lv' := [(2, .int x23), (0, .ref b0), (1, .ref b1), (3, .int x2), (4, .int x9), (5, .int x11), (6, .int x21)]) hC dL_areQuiet_82 (by decide) rfl ?_
                obtain ⟨x27, ex27⟩ : ∃ w, w = x11 + 1 := ⟨_, rfl⟩
                replace h := h x27 ex27
                refine g_iinc (v := x27) (lv' := [(5, .int x27), (2, .int x23), (0, .ref b0), (1, .ref b1), (3, .int x2), (4, .int x9), (6, .int x21)]) hC 5 dL_areQuiet_83 rfl (by rw [ex27]; rfl) (by decide) rfl ?_
                refine g_goto hC 26 dL_areQuiet_86 (by decide) ?_
                refine g_sub [2, 3, 1, 4, 5, 0] (lv' := [(0, .ref b0), (1, .ref b1), (2, .int x23), (3, .int x2), (4, .int x9), (5, .int x27)]) rfl ?_
                exact hK_K14 _ h)
              replace h := h (fun (k28 : Nat) (n29 : Nat) => G X 7 M k28 n29 77 [(0, .ref b0), (1, .ref b1), (2, .int x10), (3, .int x2), (4, .int x9), (5, .int x11), (6, .int x21)] []) (by
                intro k28 n29 h
                show G X 7 M k28 n29 77 [(0, .ref b0), (1, .ref b1), (2, .int x10), (3, .int x2), (4, .int x9), (5, .int x11), (6, .int x21)] []
                refine g_iconst (v := 1) hC dL_areQuiet_77 (by decide) ?_
                refine g_goto hC 82 dL_areQuiet_78 (by decide) ?_
                exact h)
              refine g_if_ne hC 77 dL_areQuiet_61 (by decide) (fun c36 => ?_) (fun c36 => ?_)
              · replace h := h.2 c36
                refine g_sub [1, 2, 3, 4, 5, 6, 0] (lv' := [(0, .ref b0), (1, .ref b1), (2, .int x10), (3, .int x2), (4, .int x9), (5, .int x11), (6, .int x21)]) rfl ?_
                exact h
              · replace h := h.1 c36
                refine g_aload_n (r := (some b0)) hC 1 dL_areQuiet_64 rfl ?_
                refine g_iload hC 6 dL_areQuiet_65 rfl ?_
                obtain ⟨hc31, h⟩ := h
                obtain ⟨c32, s33, hc32, h⟩ := h
                refine gx_callV hC (As := [.int x11]) (fun l D dA ht => s_X5_known l D dA ht _ _ _ _ _ _ _ h) wm_2_41 wm_2_38 wm_2_39 wm_2_40 wm_1_1 (by decide +kernel : plainY yX5_known 1) kc5.1 kc5.2.1 dL_areQuiet_67 (by decide) (Nat.le_of_ble_eq_true rfl) hc31 (Or.inr hc32) ?_ ?_
                · exact fun M E h => h.elim
                · intro M9 v9 h
                  obtain ⟨x34, rfl, h⟩ := h
                  obtain ⟨hM9, h⟩ := h
                  rw [hM9]
                  show G X 7 M (k12 + c18 + c32) (n13 + s19 + s33) 70 [(6, .int x21), (0, .ref b0), (1, .ref b1), (2, .int x10), (3, .int x2), (4, .int x9), (5, .int x11)] [.int x34]
                  refine g_iload_n hC 4 dL_areQuiet_70 rfl ?_
                  refine g_pc (pc' := 71) rfl ?_
                  refine g_ishr hC dL_areQuiet_71 ?_
                  refine g_iconst (v := 1) hC dL_areQuiet_72 (by decide) ?_
                  refine g_iand hC dL_areQuiet_73 ?_
                  refine g_if_ne hC 81 dL_areQuiet_74 (by decide) (fun c35 => ?_) (fun c35 => ?_)
                  · replace h := h.2 c35
                    refine g_iconst (v := 0) hC dL_areQuiet_81 (by decide) ?_
                    refine g_sub [1, 2, 3, 4, 5, 6, 0] (lv' := [(0, .ref b0), (1, .ref b1), (2, .int x10), (3, .int x2), (4, .int x9), (5, .int x11), (6, .int x21)]) rfl ?_
                    exact h
                  · replace h := h.1 c35
                    refine g_sub [1, 2, 3, 4, 5, 6, 0] (lv' := [(0, .ref b0), (1, .ref b1), (2, .int x10), (3, .int x2), (4, .int x9), (5, .int x11), (6, .int x21)]) rfl ?_
                    exact h)
            refine g_icmp_ne hC 56 dL_areQuiet_49 (by decide) (fun c37 => ?_) (fun c37 => ?_)
            · replace h := h.2 c37
              refine g_iconst (v := 0) hC dL_areQuiet_56 (by decide) ?_
              exact h
            · replace h := h.1 c37
              refine g_iconst (v := 1) hC dL_areQuiet_52 (by decide) ?_
              refine g_goto hC 57 dL_areQuiet_53 (by decide) ?_
              exact h

def w_L_step (mc ms : Nat) (M : Mem) (b0 : Nat) (b1 : Nat) (p2 : Int32) (p3 : Int32) (p4 : Int32) (post : Mem → Int32 → Prop) : Prop :=
  ∀ x1, x1 = p3 - p3 / 6 * 6 → ∀ x2, x2 = p4 - p4 / 6 * 6 → inA M b1 10 1 ∧ ∀ J5 : Int32 → Prop, (∀ (x4 : Int32), (∀ x6, x6 = p3 - p3 / 4 * 4 → ∀ J7 : Prop, ((inA M b1 10 1 ∧ ∀ J13 : Int32 → Mem → Nat → Nat → Prop, (∀ (x9 : Int32) (M10 : Mem) (k11 : Nat) (n12 : Nat), (((x9 : Int32) = 0 ∨ (x9 : Int32) = 1) ∧ post M10 x9) → J13 x9 M10 k11 n12) → (∀ J17 : Mem → Nat → Nat → Prop, (∀ (M14 : Mem) (k15 : Nat) (n16 : Nat), (J13 1 M14 k15 n16) → J17 M14 k15 n16) → ((gI M b1 (Int32.toNatClampNeg 1) = 0 → J17 M 0 0) ∧ (¬ (gI M b1 (Int32.toNatClampNeg 1) = 0) → ∃ c18 s19, (0 + c18 ≤ mc ∧ 0 + s19 ≤ ms) ∧ w_L_joins c18 s19 M b0 b1 x4 x6 (fun M20 x21 => (x21 = 0 → J13 0 M20 (0 + c18) (0 + s19)) ∧ (¬ (x21 = 0) → J17 M20 (0 + c18) (0 + s19))))))) → J7) → (∀ J24 : Prop, ((∀ J26 : Int32 → Prop, (∀ (x25 : Int32), ((¬ x25 = 0) ∧ ∀ J29 : Int32 → Prop, (∀ (x28 : Int32), (∃ c30 s31, (0 + c30 ≤ mc ∧ 0 + s31 ≤ ms) ∧ w_L_signs c30 s31 M b0 b1 x1 ((p3 / 6) - (p3 / 6) / x25 * x25) x28 (fun M32 x33 => ((x33 : Int32) = 0 ∨ (x33 : Int32) = 1) ∧ post M32 x33)) → J29 x28) → ((p4 - p4 / 2 * 2 = 0 → J29 1) ∧ (¬ (p4 - p4 / 2 * 2 = 0) → J29 0))) → J26 x25) → ((p4 - p4 / 3 * 3 = 0 → J26 26) ∧ (¬ (p4 - p4 / 3 * 3 = 0) → J26 6))) → J24) → (∀ J36 : Prop, ((∃ c37 s38, (0 + c37 ≤ mc ∧ 0 + s38 ≤ ms) ∧ w_L_links c37 s38 M b0 b1 x1 x2 (fun M39 x40 => ((x40 : Int32) = 0 ∨ (x40 : Int32) = 1) ∧ post M39 x40)) → J36) → ((p2 - p2 / 13 * 13 = 0 → J36) ∧ (p2 - p2 / 13 * 13 = 1 → J36) ∧ (p2 - p2 / 13 * 13 = 2 → J36) ∧ (p2 - p2 / 13 * 13 = 3 → inA M b1 10 (2 + x1) ∧ (((gI M b1 (Int32.toNatClampNeg (2 + x1))) >>> (x2 &&& 31)) &&& 1 = 0 → gT M b0 = some (5, 0) ∧ ∃ c86 s87, (0 + c86 ≤ mc ∧ 0 + s87 ≤ ms) ∧ w_X5_tree c86 s87 M b0 x1 (fun _ _ => False) (fun x88 => gT M b0 = some (5, 0) ∧ ∃ c90 s91, ((0 + c86) + c90 ≤ mc ∧ (0 + s87) + s91 ≤ ms) ∧ w_X5_tree c90 s91 M b0 x2 (fun _ _ => False) (fun x92 => ∀ J94 : Int32 → Prop, (∀ (x93 : Int32), (((x93 : Int32) = 0 ∨ (x93 : Int32) = 1) ∧ post M x93) → J94 x93) → (((x88 >>> (x2 &&& 31)) &&& 1 = (x92 >>> (x1 &&& 31)) &&& 1 → J94 1) ∧ (¬ ((x88 >>> (x2 &&& 31)) &&& 1 = (x92 >>> (x1 &&& 31)) &&& 1) → J94 0))))) ∧ (¬ (((gI M b1 (Int32.toNatClampNeg (2 + x1))) >>> (x2 &&& 31)) &&& 1 = 0) → gT M b0 = some (5, 0) ∧ w_X5_lines M b0 (fun x44 => inA M b1 10 0 ∧ inA M b1 10 0 ∧ ∀ M46, M46 = sI M b1 (Int32.toNatClampNeg 0) ((gI M b1 (Int32.toNatClampNeg 0)) + 1) → inA M46 b1 10 (2 + x1) ∧ inA M46 b1 10 (2 + x1) ∧ ∀ M49, M49 = sI M46 b1 (Int32.toNatClampNeg (2 + x1)) ((gI M46 b1 (Int32.toNatClampNeg (2 + x1))) &&& ((1 <<< (x2 &&& 31)) ^^^ ((-1)))) → inA M49 b1 10 (2 + x2) ∧ inA M49 b1 10 (2 + x2) ∧ ∀ M52, M52 = sI M49 b1 (Int32.toNatClampNeg (2 + x2)) ((gI M49 b1 (Int32.toNatClampNeg (2 + x2))) &&& ((1 <<< (x1 &&& 31)) ^^^ ((-1)))) → gT M52 b0 = some (5, 0) ∧ ∃ c55 s56, (0 + c55 ≤ mc ∧ 0 + s56 ≤ ms) ∧ w_X5_split c55 s56 M52 b0 x1 x2 (fun _ _ => False) (fun M57 x58 => ∀ J62 : Int32 → Nat → Nat → Prop, (∀ (x59 : Int32) (k60 : Nat) (n61 : Nat), (((x59 : Int32) = 0 ∨ (x59 : Int32) = 1) ∧ post M57 x59) → J62 x59 k60 n61) → (∀ J65 : Nat → Nat → Prop, (∀ (k63 : Nat) (n64 : Nat), (J62 0 k63 n64) → J65 k63 n64) → ((x58 < 0 → J65 (0 + c55) (0 + s56)) ∧ (¬ (x58 < 0) → gT M57 b0 = some (5, 0) ∧ w_X5_lines M57 b0 (fun x67 => (x67 = x44 - x58 → gT M57 b0 = some (5, 0) ∧ ∃ c69 s70, ((0 + c55) + c69 ≤ mc ∧ (0 + s56) + s70 ≤ ms) ∧ w_X5_tree c69 s70 M57 b0 x1 (fun _ _ => False) (fun x71 => ((x71 >>> (x2 &&& 31)) &&& 1 = 0 → gT M57 b0 = some (5, 0) ∧ ∃ c73 s74, ((0 + c55 + c69) + c73 ≤ mc ∧ (0 + s56 + s70) + s74 ≤ ms) ∧ w_X5_known c73 s74 M57 b0 x1 (fun _ _ => False) (fun x75 => gT M57 b0 = some (5, 0) ∧ ∃ c77 s78, ((0 + c55 + c69 + c73) + c77 ≤ mc ∧ (0 + s56 + s70 + s74) + s78 ≤ ms) ∧ w_X5_tree c77 s78 M57 b0 x2 (fun _ _ => False) (fun x79 => w_L_homesIn M57 b1 x79 (fun x80 => (x75 &&& x80 = 0 → J62 1 (0 + c55 + c69 + c73 + c77) (0 + s56 + s70 + s74 + s78)) ∧ (¬ (x75 &&& x80 = 0) → J65 (0 + c55 + c69 + c73 + c77) (0 + s56 + s70 + s74 + s78)))))) ∧ (¬ ((x71 >>> (x2 &&& 31)) &&& 1 = 0) → J65 (0 + c55 + c69) (0 + s56 + s70)))) ∧ (¬ (x67 = x44 - x58) → J65 (0 + c55) (0 + s56)))))))))) ∧ (p2 - p2 / 13 * 13 = 4 → J24) ∧ (p2 - p2 / 13 * 13 = 5 → J24) ∧ (p2 - p2 / 13 * 13 = 6 → J24) ∧ (p2 - p2 / 13 * 13 = 7 → J7) ∧ (p2 - p2 / 13 * 13 = 8 → J7) ∧ (p2 - p2 / 13 * 13 = 9 → inA M b1 10 1 ∧ ∀ J102 : Int32 → Mem → Nat → Nat → Prop, (∀ (x98 : Int32) (M99 : Mem) (k100 : Nat) (n101 : Nat), (((x98 : Int32) = 0 ∨ (x98 : Int32) = 1) ∧ post M99 x98) → J102 x98 M99 k100 n101) → (∀ J106 : Mem → Nat → Nat → Prop, (∀ (M103 : Mem) (k104 : Nat) (n105 : Nat), (J102 1 M103 k104 n105) → J106 M103 k104 n105) → ((gI M b1 (Int32.toNatClampNeg 1) = 0 → J106 M 0 0) ∧ (¬ (gI M b1 (Int32.toNatClampNeg 1) = 0) → ∀ J108 : Int32 → Prop, (∀ (x107 : Int32), (∃ c109 s110, (0 + c109 ≤ mc ∧ 0 + s110 ≤ ms) ∧ w_L_leaves c109 s110 M b0 b1 x4 x6 x107 (fun M111 x112 => (x112 = 0 → J102 0 M111 (0 + c109) (0 + s110)) ∧ (¬ (x112 = 0) → J106 M111 (0 + c109) (0 + s110)))) → J108 x107) → ((p3 - p3 / 3 * 3 = 0 → J108 1) ∧ (¬ (p3 - p3 / 3 * 3 = 0) → J108 0)))))) ∧ (p2 - p2 / 13 * 13 = 10 → inA M b1 10 1 ∧ ∀ J121 : Int32 → Mem → Nat → Nat → Prop, (∀ (x117 : Int32) (M118 : Mem) (k119 : Nat) (n120 : Nat), (((x117 : Int32) = 0 ∨ (x117 : Int32) = 1) ∧ post M118 x117) → J121 x117 M118 k119 n120) → (∀ J125 : Mem → Nat → Nat → Prop, (∀ (M122 : Mem) (k123 : Nat) (n124 : Nat), (J121 1 M122 k123 n124) → J125 M122 k123 n124) → ((gI M b1 (Int32.toNatClampNeg 1) = 0 → J125 M 0 0) ∧ (¬ (gI M b1 (Int32.toNatClampNeg 1) = 0) → ∃ c126 s127, (0 + c126 ≤ mc ∧ 0 + s127 ≤ ms) ∧ w_L_sets c126 s127 M b0 b1 x4 x6 ((p3 / 4) - (p3 / 4) / 16 * 16) ((p4 / 20) - (p4 / 20) / 64 * 64) (fun M128 x129 => (x129 = 0 → J121 0 M128 (0 + c126) (0 + s127)) ∧ (¬ (x129 = 0) → J125 M128 (0 + c126) (0 + s127))))))) ∧ (p2 - p2 / 13 * 13 = 11 → inA M b1 10 0 ∧ inA M b1 10 0 ∧ ∀ M133, M133 = sI M b1 (Int32.toNatClampNeg 0) ((gI M b1 (Int32.toNatClampNeg 0)) + 1) → gT M133 b0 = some (5, 0) ∧ w_X5_lines M133 b0 (fun x136 => gT M133 b0 = some (5, 0) ∧ ∃ c138 s139, (0 + c138 ≤ mc ∧ 0 + s139 ≤ ms) ∧ w_X5_deliverAll c138 s139 M133 b0 (fun M140 x141 => ∀ J145 : Int32 → Nat → Nat → Prop, (∀ (x142 : Int32) (k143 : Nat) (n144 : Nat), (((x142 : Int32) = 0 ∨ (x142 : Int32) = 1) ∧ post M140 x142) → J145 x142 k143 n144) → (∀ J148 : Nat → Nat → Prop, (∀ (k146 : Nat) (n147 : Nat), (J145 0 k146 n147) → J148 k146 n147) → ((x141 < x136 → J148 (0 + c138) (0 + s139)) ∧ (¬ (x141 < x136) → gT M140 b0 = some (5, 0) ∧ w_X5_lines M140 b0 (fun x150 => (x150 = 0 → gT M140 b0 = some (5, 0) ∧ w_X5_clock M140 b0 (fun x152 => inA M140 b1 10 0 ∧ (x152 = gI M140 b1 (Int32.toNatClampNeg 0) → ∃ c154 s155, ((0 + c138) + c154 ≤ mc ∧ (0 + s139) + s155 ≤ ms) ∧ w_L_areQuiet c154 s155 M140 b0 b1 (fun x156 => (x156 = 0 → J148 (0 + c138 + c154) (0 + s139 + s155)) ∧ (¬ (x156 = 0) → J145 1 (0 + c138 + c154) (0 + s139 + s155)))) ∧ (¬ (x152 = gI M140 b1 (Int32.toNatClampNeg 0)) → J148 (0 + c138) (0 + s139)))) ∧ (¬ (x150 = 0) → J148 (0 + c138) (0 + s139))))))))) ∧ (¬ p2 - p2 / 13 * 13 = 0 ∧ ¬ p2 - p2 / 13 * 13 = 1 ∧ ¬ p2 - p2 / 13 * 13 = 2 ∧ ¬ p2 - p2 / 13 * 13 = 3 ∧ ¬ p2 - p2 / 13 * 13 = 4 ∧ ¬ p2 - p2 / 13 * 13 = 5 ∧ ¬ p2 - p2 / 13 * 13 = 6 ∧ ¬ p2 - p2 / 13 * 13 = 7 ∧ ¬ p2 - p2 / 13 * 13 = 8 ∧ ¬ p2 - p2 / 13 * 13 = 9 ∧ ¬ p2 - p2 / 13 * 13 = 10 ∧ ¬ p2 - p2 / 13 * 13 = 11 → gT M b0 = some (5, 0) ∧ w_X5_lines M b0 (fun x162 => ∀ J166 : Int32 → Nat → Nat → Prop, (∀ (x163 : Int32) (k164 : Nat) (n165 : Nat), (((x163 : Int32) = 0 ∨ (x163 : Int32) = 1) ∧ post M x163) → J166 x163 k164 n165) → (∀ J169 : Nat → Nat → Prop, (∀ (k167 : Nat) (n168 : Nat), (J166 0 k167 n168) → J169 k167 n168) → ((x162 < 0 → J169 0 0) ∧ (¬ (x162 < 0) → gT M b0 = some (5, 0) ∧ ∃ c171 s172, (0 + c171 ≤ mc ∧ 0 + s172 ≤ ms) ∧ w_X5_areSame c171 s172 M b0 x1 x2 (fun _ _ => False) (fun x173 => gT M b0 = some (5, 0) ∧ ∃ c175 s176, ((0 + c171) + c175 ≤ mc ∧ (0 + s172) + s176 ≤ ms) ∧ w_X5_areSame c175 s176 M b0 x2 x1 (fun _ _ => False) (fun x177 => (x173 = x177 → J166 1 (0 + c171 + c175) (0 + s172 + s176)) ∧ (¬ (x173 = x177) → J169 (0 + c171 + c175) (0 + s172 + s176))))))))))))) → J5 x4) → ((gI M b1 (Int32.toNatClampNeg 1) = 0 → J5 0) ∧ (¬ (gI M b1 (Int32.toNatClampNeg 1) = 0) → inA M b1 10 1 ∧ (¬ (gI M b1 (Int32.toNatClampNeg 1)) = 0) ∧ J5 (p4 - p4 / (gI M b1 (Int32.toNatClampNeg 1)) * (gI M b1 (Int32.toNatClampNeg 1)))))
set_option maxRecDepth 100000 in
set_option maxHeartbeats 8000000 in
theorem s_L_step (l : Launch) (D : va_G) (dA : Nat → ClassId) (htr : l.stackTraces = false) (mc ms : Nat) (M : Mem) (b0 : Nat) (b1 : Nat) (p2 : Int32) (p3 : Int32) (p4 : Int32) (post : Mem → Int32 → Prop) (h : w_L_step mc ms M b0 b1 p2 p3 p4 post) : CtN l D dA yL_step cL_step 12 (some .boolean) 10 [.ref b0, .ref b1, .int p2, .int p3, .int p4] M mc ms (pI post) := by
  refine ct_ofN htr (by decide) (Nat.le_of_ble_eq_true rfl) ?_
  intro X hC hN hR
  show G X 12 M 0 0 0 [(0, .ref b0), (1, .ref b1), (2, .int p2), (3, .int p3), (4, .int p4)] []
  unfold w_L_step at h
  refine g_iload_n hC 3 dL_step_0 rfl ?_
  refine g_bipush (v := 6) hC dL_step_1 (by decide) ?_
  refine g_irem hC dL_step_3 (by decide) ?_
  obtain ⟨x1, ex1⟩ : ∃ w, w = p3 - p3 / 6 * 6 := ⟨_, rfl⟩
  replace h := h x1 ex1
  rw [← ex1]
  refine g_istore (lv' := [(5, .int x1), (0, .ref b0), (1, .ref b1), (2, .int p2), (3, .int p3), (4, .int p4)]) hC dL_step_4 (by decide) rfl ?_
  refine g_iload hC 5 dL_step_6 rfl ?_
  refine g_bipush (v := 6) hC dL_step_8 (by decide) ?_
  refine g_irem hC dL_step_10 (by decide) ?_
  obtain ⟨x2, ex2⟩ : ∃ w, w = p4 - p4 / 6 * 6 := ⟨_, rfl⟩
  replace h := h x2 ex2
  rw [← ex2]
  refine g_pc (pc' := 11) rfl ?_
  refine g_istore (lv' := [(6, .int x2), (5, .int x1), (0, .ref b0), (1, .ref b1), (2, .int p2), (3, .int p3), (4, .int p4)]) hC dL_step_11 (by decide) rfl ?_
  refine g_aload_n (r := (some b1)) hC 3 dL_step_13 rfl ?_
  refine g_iconst (v := 1) hC dL_step_14 (by decide) ?_
  obtain ⟨hc3, h⟩ := h
  refine g_ialdA hC dL_step_15 hc3 ?_
  replace h := h (fun (x4 : Int32) => G X 12 M 0 0 29 [(0, .ref b0), (1, .ref b1), (2, .int p2), (3, .int p3), (4, .int p4), (5, .int x1), (6, .int x2)] [.int x4]) (by
    intro x4 h
    show G X 12 M 0 0 29 [(0, .ref b0), (1, .ref b1), (2, .int p2), (3, .int p3), (4, .int p4), (5, .int x1), (6, .int x2)] [.int x4]
    refine g_istore (lv' := [(7, .int x4), (0, .ref b0), (1, .ref b1), (2, .int p2), (3, .int p3), (4, .int p4), (5, .int x1), (6, .int x2)]) hC dL_step_29 (by decide) rfl ?_
    refine g_iload_n hC 4 dL_step_31 rfl ?_
    refine g_iconst (v := 4) hC dL_step_32 (by decide) ?_
    refine g_irem hC dL_step_33 (by decide) ?_
    obtain ⟨x6, ex6⟩ : ∃ w, w = p3 - p3 / 4 * 4 := ⟨_, rfl⟩
    replace h := h x6 ex6
    rw [← ex6]
    refine g_pc (pc' := 34) rfl ?_
    refine g_istore (lv' := [(8, .int x6), (7, .int x4), (0, .ref b0), (1, .ref b1), (2, .int p2), (3, .int p3), (4, .int p4), (5, .int x1), (6, .int x2)]) hC dL_step_34 (by decide) rfl ?_
    refine g_iload_n hC 4 dL_step_36 rfl ?_
    refine g_bipush (v := 13) hC dL_step_37 (by decide) ?_
    refine g_irem hC dL_step_39 (by decide) ?_
    replace h := h (G X 12 M 0 0 308 [(0, .ref b0), (1, .ref b1), (2, .int p2), (3, .int p3), (4, .int p4), (5, .int x1), (6, .int x2), (7, .int x4), (8, .int x6)] []) (by
      intro h
      refine g_aload_n (r := (some b1)) hC 1 dL_step_308 rfl ?_
      refine g_iconst (v := 1) hC dL_step_309 (by decide) ?_
      obtain ⟨hc8, h⟩ := h
      refine g_ialdA hC dL_step_310 hc8 ?_
      replace h := h (fun (x9 : Int32) (M10 : Mem) (k11 : Nat) (n12 : Nat) => G X 12 M10 k11 n12 331 [(0, .ref b0), (1, .ref b1), (2, .int p2), (3, .int p3), (4, .int p4), (5, .int x1), (6, .int x2), (7, .int x4), (8, .int x6)] [.int x9]) (by
        intro x9 M10 k11 n12 h
        show G X 12 M10 k11 n12 331 [(0, .ref b0), (1, .ref b1), (2, .int p2), (3, .int p3), (4, .int p4), (5, .int x1), (6, .int x2), (7, .int x4), (8, .int x6)] [.int x9]
        exact hR.2.2.1 rfl _ _ _ _ _ _ dL_step_331 ⟨h.1, ⟨_, rfl, h.2⟩⟩)
      replace h := h (fun (M14 : Mem) (k15 : Nat) (n16 : Nat) => G X 12 M14 k15 n16 326 [(0, .ref b0), (1, .ref b1), (2, .int p2), (3, .int p3), (4, .int p4), (5, .int x1), (6, .int x2), (7, .int x4), (8, .int x6)] []) (by
        intro M14 k15 n16 h
        show G X 12 M14 k15 n16 326 [(0, .ref b0), (1, .ref b1), (2, .int p2), (3, .int p3), (4, .int p4), (5, .int x1), (6, .int x2), (7, .int x4), (8, .int x6)] []
        refine g_iconst (v := 1) hC dL_step_326 (by decide) ?_
        refine g_pc (pc' := 327) rfl ?_
        refine g_goto hC 331 dL_step_327 (by decide) ?_
        exact h)
      refine g_if_eq hC 326 dL_step_311 (by decide) (fun c23 => ?_) (fun c23 => ?_)
      · replace h := h.1 c23
        exact h
      · replace h := h.2 c23
        refine g_pc (pc' := 314) rfl ?_
        refine g_aload_n (r := (some b0)) hC 0 dL_step_314 rfl ?_
        refine g_aload_n (r := (some b1)) hC 1 dL_step_315 rfl ?_
        refine g_iload hC 7 dL_step_316 rfl ?_
        refine g_iload hC 8 dL_step_318 rfl ?_
        obtain ⟨c18, s19, hc18, h⟩ := h
        refine g_callS hC (As := [.ref b0, .ref b1, .int x4, .int x6]) (fun l D dA ht => s_L_joins l D dA ht _ _ _ _ _ _ _ _ h) wm_3_2 wm_3_0 wm_3_1 wm_1_0 (by decide +kernel : plainY yL_joins 4) dL_step_320 (by decide) (Nat.le_of_ble_eq_true rfl) (Or.inr hc18) ?_
        intro M9 v9 h
        obtain ⟨x21, rfl, h⟩ := h
        generalize M9 = M20 at h ⊢
        show G X 12 M20 (0 + c18) (0 + s19) 323 [(0, .ref b0), (1, .ref b1), (2, .int p2), (3, .int p3), (4, .int p4), (5, .int x1), (6, .int x2), (7, .int x4), (8, .int x6)] [.int x21]
        refine g_if_eq hC 330 dL_step_323 (by decide) (fun c22 => ?_) (fun c22 => ?_)
        · replace h := h.1 c22
          refine g_iconst (v := 0) hC dL_step_330 (by decide) ?_
          exact h
        · replace h := h.2 c22
          exact h)
    replace h := h (G X 12 M 0 0 269 [(0, .ref b0), (1, .ref b1), (2, .int p2), (3, .int p3), (4, .int p4), (5, .int x1), (6, .int x2), (7, .int x4), (8, .int x6)] []) (by
      intro h
      refine g_aload_n (r := (some b0)) hC 0 dL_step_269 rfl ?_
      refine g_aload_n (r := (some b1)) hC 1 dL_step_270 rfl ?_
      refine g_iload hC 5 dL_step_271 rfl ?_
      refine g_iload_n hC 3 dL_step_273 rfl ?_
      refine g_pc (pc' := 274) rfl ?_
      refine g_bipush (v := 6) hC dL_step_274 (by decide) ?_
      refine g_idiv hC dL_step_276 (by decide) ?_
      refine g_iload hC 4 dL_step_277 rfl ?_
      refine g_iconst (v := 3) hC dL_step_279 (by decide) ?_
      refine g_irem hC dL_step_280 (by decide) ?_
      replace h := h (fun (x25 : Int32) => G X 12 M 0 0 291 [(0, .ref b0), (1, .ref b1), (2, .int p2), (3, .int p3), (4, .int p4), (5, .int x1), (6, .int x2), (7, .int x4), (8, .int x6)] [.int x25, .int (p3 / 6), .int x1, .ref b1, .ref b0]) (by
        intro x25 h
        show G X 12 M 0 0 291 [(0, .ref b0), (1, .ref b1), (2, .int p2), (3, .int p3), (4, .int p4), (5, .int x1), (6, .int x2), (7, .int x4), (8, .int x6)] [.int x25, .int (p3 / 6), .int x1, .ref b1, .ref b0]
        obtain ⟨hc27, h⟩ := h
        refine g_irem hC dL_step_291 hc27 ?_
        refine g_iload hC 4 dL_step_292 rfl ?_
        refine g_iconst (v := 2) hC dL_step_294 (by decide) ?_
        refine g_pc (pc' := 295) rfl ?_
        refine g_irem hC dL_step_295 (by decide) ?_
        replace h := h (fun (x28 : Int32) => G X 12 M 0 0 304 [(0, .ref b0), (1, .ref b1), (2, .int p2), (3, .int p3), (4, .int p4), (5, .int x1), (6, .int x2), (7, .int x4), (8, .int x6)] [.int x28, .int ((p3 / 6) - (p3 / 6) / x25 * x25), .int x1, .ref b1, .ref b0]) (by
          intro x28 h
          show G X 12 M 0 0 304 [(0, .ref b0), (1, .ref b1), (2, .int p2), (3, .int p3), (4, .int p4), (5, .int x1), (6, .int x2), (7, .int x4), (8, .int x6)] [.int x28, .int ((p3 / 6) - (p3 / 6) / x25 * x25), .int x1, .ref b1, .ref b0]
          obtain ⟨c30, s31, hc30, h⟩ := h
          refine g_callS hC (As := [.ref b0, .ref b1, .int x1, .int ((p3 / 6) - (p3 / 6) / x25 * x25), .int x28]) (fun l D dA ht => s_L_signs l D dA ht _ _ _ _ _ _ _ _ _ h) wm_2_160 wm_2_158 wm_2_159 wm_1_0 (by decide +kernel : plainY yL_signs 5) dL_step_304 (by decide) (Nat.le_of_ble_eq_true rfl) (Or.inr hc30) ?_
          intro M9 v9 h
          obtain ⟨x33, rfl, h⟩ := h
          generalize M9 = M32 at h ⊢
          show G X 12 M32 (0 + c30) (0 + s31) 307 [(0, .ref b0), (1, .ref b1), (2, .int p2), (3, .int p3), (4, .int p4), (5, .int x1), (6, .int x2), (7, .int x4), (8, .int x6)] [.int x33]
          exact hR.2.2.1 rfl _ _ _ _ _ _ dL_step_307 ⟨h.1, ⟨_, rfl, h.2⟩⟩)
        refine g_if_ne hC 303 dL_step_296 (by decide) (fun c34 => ?_) (fun c34 => ?_)
        · replace h := h.2 c34
          refine g_iconst (v := 0) hC dL_step_303 (by decide) ?_
          exact h
        · replace h := h.1 c34
          refine g_iconst (v := 1) hC dL_step_299 (by decide) ?_
          refine g_goto hC 304 dL_step_300 (by decide) ?_
          exact h)
      refine g_if_ne hC 289 dL_step_281 (by decide) (fun c35 => ?_) (fun c35 => ?_)
      · replace h := h.2 c35
        refine g_bipush (v := 6) hC dL_step_289 (by decide) ?_
        exact h
      · replace h := h.1 c35
        refine g_bipush (v := 26) hC dL_step_284 (by decide) ?_
        refine g_goto hC 291 dL_step_286 (by decide) ?_
        exact h)
    replace h := h (G X 12 M 0 0 104 [(0, .ref b0), (1, .ref b1), (2, .int p2), (3, .int p3), (4, .int p4), (5, .int x1), (6, .int x2), (7, .int x4), (8, .int x6)] []) (by
      intro h
      refine g_aload_n (r := (some b0)) hC 0 dL_step_104 rfl ?_
      refine g_aload_n (r := (some b1)) hC 1 dL_step_105 rfl ?_
      refine g_iload hC 5 dL_step_106 rfl ?_
      refine g_iload hC 6 dL_step_108 rfl ?_
      refine g_pc (pc' := 110) rfl ?_
      obtain ⟨c37, s38, hc37, h⟩ := h
      refine g_callS hC (As := [.ref b0, .ref b1, .int x1, .int x2]) (fun l D dA ht => s_L_links l D dA ht _ _ _ _ _ _ _ _ h) wm_2_37 wm_2_35 wm_2_36 wm_1_0 (by decide +kernel : plainY yL_links 4) dL_step_110 (by decide) (Nat.le_of_ble_eq_true rfl) (Or.inr hc37) ?_
      intro M9 v9 h
      obtain ⟨x40, rfl, h⟩ := h
      generalize M9 = M39 at h ⊢
      show G X 12 M39 (0 + c37) (0 + s38) 113 [(0, .ref b0), (1, .ref b1), (2, .int p2), (3, .int p3), (4, .int p4), (5, .int x1), (6, .int x2), (7, .int x4), (8, .int x6)] [.int x40]
      exact hR.2.2.1 rfl _ _ _ _ _ _ dL_step_113 ⟨h.1, ⟨_, rfl, h.2⟩⟩)
    obtain ⟨sx, esx⟩ : ∃ w, w = p2 - p2 / 13 * 13 := ⟨_, rfl⟩
    rw [← esx] at h ⊢
    by_cases c410 : sx = 0
    · replace h := h.1 c410
      refine g_tableIn (off := 64) hC 104 dL_step_40 (by rw [c410]; decide) (by rw [c410]; decide) (by rw [c410]; decide) (by decide) ?_
      refine g_sub [2, 3, 4, 5, 6, 7, 8, 1, 0] (lv' := [(0, .ref b0), (1, .ref b1), (2, .int p2), (3, .int p3), (4, .int p4), (5, .int x1), (6, .int x2), (7, .int x4), (8, .int x6)]) rfl ?_
      exact h
    by_cases c411 : sx = 1
    · replace h := h.2.1 c411
      refine g_tableIn (off := 64) hC 104 dL_step_40 (by rw [c411]; decide) (by rw [c411]; decide) (by rw [c411]; decide) (by decide) ?_
      refine g_sub [2, 3, 4, 5, 6, 7, 8, 1, 0] (lv' := [(0, .ref b0), (1, .ref b1), (2, .int p2), (3, .int p3), (4, .int p4), (5, .int x1), (6, .int x2), (7, .int x4), (8, .int x6)]) rfl ?_
      exact h
    by_cases c412 : sx = 2
    · replace h := h.2.2.1 c412
      refine g_tableIn (off := 64) hC 104 dL_step_40 (by rw [c412]; decide) (by rw [c412]; decide) (by rw [c412]; decide) (by decide) ?_
      refine g_sub [2, 3, 4, 5, 6, 7, 8, 1, 0] (lv' := [(0, .ref b0), (1, .ref b1), (2, .int p2), (3, .int p3), (4, .int p4), (5, .int x1), (6, .int x2), (7, .int x4), (8, .int x6)]) rfl ?_
      exact h
    by_cases c413 : sx = 3
    · replace h := h.2.2.2.1 c413
      refine g_tableIn (off := 74) hC 114 dL_step_40 (by rw [c413]; decide) (by rw [c413]; decide) (by rw [c413]; decide) (by decide) ?_
      refine g_aload_n (r := (some b1)) hC 3 dL_step_114 rfl ?_
      refine g_iconst (v := 2) hC dL_step_115 (by decide) ?_
      refine g_iload hC 7 dL_step_116 rfl ?_
      refine g_pc (pc' := 118) rfl ?_
      refine g_iadd hC dL_step_118 ?_
      obtain ⟨hc42, h⟩ := h
      refine g_ialdA hC dL_step_119 hc42 ?_
      refine g_iload hC 8 dL_step_120 rfl ?_
      refine g_ishr hC dL_step_122 ?_
      refine g_iconst (v := 1) hC dL_step_123 (by decide) ?_
      refine g_iand hC dL_step_124 ?_
      refine g_if_ne hC 159 dL_step_125 (by decide) (fun c96 => ?_) (fun c96 => ?_)
      · replace h := h.2 c96
        refine g_aload_n (r := (some b0)) hC 2 dL_step_159 rfl ?_
        refine g_pc (pc' := 160) rfl ?_
        obtain ⟨hc43, h⟩ := h
        refine g_callV hC (As := []) (fun l D dA ht => s_X5_lines l D dA ht _ _ _ h) wm_1_175 wm_1_172 wm_1_173 wm_1_174 wm_1_1 (by decide +kernel : plainY yX5_lines 0) kc5.1 kc5.2.1 dL_step_160 (by decide) (Nat.le_of_ble_eq_true rfl) hc43 (Or.inl ⟨rfl, rfl⟩) ?_
        intro M9 v9 h
        obtain ⟨x44, rfl, h⟩ := h
        obtain ⟨hM9, h⟩ := h
        rw [hM9]
        show G X 12 M 0 0 163 [(8, .int x6), (7, .int x4), (0, .ref b0), (1, .ref b1), (2, .int p2), (3, .int p3), (4, .int p4), (5, .int x1), (6, .int x2)] [.int x44]
        refine g_istore (lv' := [(9, .int x44), (8, .int x6), (7, .int x4), (0, .ref b0), (1, .ref b1), (2, .int p2), (3, .int p3), (4, .int p4), (5, .int x1), (6, .int x2)]) hC dL_step_163 (by decide) rfl ?_
        refine g_aload_n (r := (some b1)) hC 4 dL_step_165 rfl ?_
        refine g_iconst (v := 0) hC dL_step_166 (by decide) ?_
        refine g_dup2 hC dL_step_167 rfl rfl ?_
        obtain ⟨hc45, h⟩ := h
        refine g_ialdA hC dL_step_168 hc45 ?_
        refine g_iconst (v := 1) hC dL_step_169 (by decide) ?_
        refine g_iadd hC dL_step_170 ?_
        obtain ⟨hc47, h⟩ := h
        refine g_pc (pc' := 171) rfl ?_
        refine g_iastA hC dL_step_171 hc47 ?_
        obtain ⟨M46, eM46⟩ : ∃ w, w = sI M b1 (Int32.toNatClampNeg 0) ((gI M b1 (Int32.toNatClampNeg 0)) + 1) := ⟨_, rfl⟩
        replace h := h M46 eM46
        rw [← eM46]
        refine g_aload_n (r := (some b1)) hC 4 dL_step_172 rfl ?_
        refine g_iconst (v := 2) hC dL_step_173 (by decide) ?_
        refine g_iload hC 8 dL_step_174 rfl ?_
        refine g_iadd hC dL_step_176 ?_
        refine g_dup2 hC dL_step_177 rfl rfl ?_
        obtain ⟨hc48, h⟩ := h
        refine g_ialdA hC dL_step_178 hc48 ?_
        refine g_iconst (v := 1) hC dL_step_179 (by decide) ?_
        refine g_pc (pc' := 180) rfl ?_
        refine g_iload hC 9 dL_step_180 rfl ?_
        refine g_ishl hC dL_step_182 ?_
        refine g_iconst (v := (-1)) hC dL_step_183 (by decide) ?_
        refine g_ixor hC dL_step_184 ?_
        refine g_iand hC dL_step_185 ?_
        obtain ⟨hc50, h⟩ := h
        refine g_iastA hC dL_step_186 hc50 ?_
        obtain ⟨M49, eM49⟩ : ∃ w, w = sI M46 b1 (Int32.toNatClampNeg (2 + x1)) ((gI M46 b1 (Int32.toNatClampNeg (2 + x1))) &&& ((1 <<< (x2 &&& 31)) ^^^ ((-1)))) := ⟨_, rfl⟩
        replace h := h M49 eM49
        rw [← eM49]
        refine g_aload_n (r := (some b1)) hC 4 dL_step_187 rfl ?_
        refine g_iconst (v := 2) hC dL_step_188 (by decide) ?_
        refine g_pc (pc' := 189) rfl ?_
        refine g_iload hC 9 dL_step_189 rfl ?_
        refine g_iadd hC dL_step_191 ?_
        refine g_dup2 hC dL_step_192 rfl rfl ?_
        obtain ⟨hc51, h⟩ := h
        refine g_ialdA hC dL_step_193 hc51 ?_
        refine g_iconst (v := 1) hC dL_step_194 (by decide) ?_
        refine g_iload hC 8 dL_step_195 rfl ?_
        refine g_ishl hC dL_step_197 ?_
        refine g_iconst (v := (-1)) hC dL_step_198 (by decide) ?_
        refine g_pc (pc' := 199) rfl ?_
        refine g_ixor hC dL_step_199 ?_
        refine g_iand hC dL_step_200 ?_
        obtain ⟨hc53, h⟩ := h
        refine g_iastA hC dL_step_201 hc53 ?_
        obtain ⟨M52, eM52⟩ : ∃ w, w = sI M49 b1 (Int32.toNatClampNeg (2 + x2)) ((gI M49 b1 (Int32.toNatClampNeg (2 + x2))) &&& ((1 <<< (x1 &&& 31)) ^^^ ((-1)))) := ⟨_, rfl⟩
        replace h := h M52 eM52
        rw [← eM52]
        refine g_aload_n (r := (some b0)) hC 3 dL_step_202 rfl ?_
        refine g_iload hC 8 dL_step_203 rfl ?_
        refine g_iload hC 9 dL_step_205 rfl ?_
        obtain ⟨hc54, h⟩ := h
        obtain ⟨c55, s56, hc55, h⟩ := h
        refine gx_callV hC (As := [.int x1, .int x2]) (fun l D dA ht => s_X5_split l D dA ht _ _ _ _ _ _ _ _ h) wm_2_117 wm_2_114 wm_2_115 wm_2_116 wm_1_1 (by decide +kernel : plainY yX5_split 2) kc5.1 kc5.2.1 dL_step_207 (by decide) (Nat.le_of_ble_eq_true rfl) hc54 (Or.inr hc55) ?_ ?_
        · exact fun M E h => h.elim
        · intro M9 v9 h
          obtain ⟨x58, rfl, h⟩ := h
          generalize M9 = M57 at h ⊢
          show G X 12 M57 (0 + c55) (0 + s56) 210 [(9, .int x44), (8, .int x6), (7, .int x4), (0, .ref b0), (1, .ref b1), (2, .int p2), (3, .int p3), (4, .int p4), (5, .int x1), (6, .int x2)] [.int x58]
          refine g_istore (lv' := [(10, .int x58), (9, .int x44), (8, .int x6), (7, .int x4), (0, .ref b0), (1, .ref b1), (2, .int p2), (3, .int p3), (4, .int p4), (5, .int x1), (6, .int x2)]) hC dL_step_210 (by decide) rfl ?_
          refine g_pc (pc' := 212) rfl ?_
          refine g_iload hC 0 dL_step_212 rfl ?_
          replace h := h (fun (x59 : Int32) (k60 : Nat) (n61 : Nat) => G X 12 M57 k60 n61 268 [(0, .ref b0), (1, .ref b1), (2, .int p2), (3, .int p3), (4, .int p4), (5, .int x1), (6, .int x2), (7, .int x4), (8, .int x6), (9, .int x44), (10, .int x58)] [.int x59]) (by
            intro x59 k60 n61 h
            show G X 12 M57 k60 n61 268 [(0, .ref b0), (1, .ref b1), (2, .int p2), (3, .int p3), (4, .int p4), (5, .int x1), (6, .int x2), (7, .int x4), (8, .int x6), (9, .int x44), (10, .int x58)] [.int x59]
            exact hR.2.2.1 rfl _ _ _ _ _ _ dL_step_268 ⟨h.1, ⟨_, rfl, h.2⟩⟩)
          replace h := h (fun (k63 : Nat) (n64 : Nat) => G X 12 M57 k63 n64 267 [(0, .ref b0), (1, .ref b1), (2, .int p2), (3, .int p3), (4, .int p4), (5, .int x1), (6, .int x2), (7, .int x4), (8, .int x6), (9, .int x44), (10, .int x58)] []) (by
            intro k63 n64 h
            show G X 12 M57 k63 n64 267 [(0, .ref b0), (1, .ref b1), (2, .int p2), (3, .int p3), (4, .int p4), (5, .int x1), (6, .int x2), (7, .int x4), (8, .int x6), (9, .int x44), (10, .int x58)] []
            refine g_iconst (v := 0) hC dL_step_267 (by decide) ?_
            exact h)
          refine g_if_lt hC 267 dL_step_214 (by decide) (fun c84 => ?_) (fun c84 => ?_)
          · replace h := h.1 c84
            refine g_sub [4, 5, 6, 7, 8, 9, 10, 3, 2, 1, 0] (lv' := [(0, .ref b0), (1, .ref b1), (2, .int p2), (3, .int p3), (4, .int p4), (5, .int x1), (6, .int x2), (7, .int x4), (8, .int x6), (9, .int x44), (10, .int x58)]) rfl ?_
            exact h
          · replace h := h.2 c84
            refine g_aload_n (r := (some b0)) hC 4 dL_step_217 rfl ?_
            obtain ⟨hc66, h⟩ := h
            refine g_callV hC (As := []) (fun l D dA ht => s_X5_lines l D dA ht _ _ _ h) wm_1_175 wm_1_172 wm_1_173 wm_1_174 wm_1_1 (by decide +kernel : plainY yX5_lines 0) kc5.1 kc5.2.1 dL_step_218 (by decide) (Nat.le_of_ble_eq_true rfl) hc66 (Or.inl ⟨rfl, rfl⟩) ?_
            intro M9 v9 h
            obtain ⟨x67, rfl, h⟩ := h
            obtain ⟨hM9, h⟩ := h
            rw [hM9]
            show G X 12 M57 (0 + c55) (0 + s56) 221 [(10, .int x58), (9, .int x44), (8, .int x6), (7, .int x4), (0, .ref b0), (1, .ref b1), (2, .int p2), (3, .int p3), (4, .int p4), (5, .int x1), (6, .int x2)] [.int x67]
            refine g_iload hC 1 dL_step_221 rfl ?_
            refine g_iload hC 0 dL_step_223 rfl ?_
            refine g_isub hC dL_step_225 ?_
            refine g_icmp_ne hC 267 dL_step_226 (by decide) (fun c83 => ?_) (fun c83 => ?_)
            · replace h := h.2 c83
              refine g_sub [4, 5, 6, 7, 8, 9, 10, 3, 2, 1, 0] (lv' := [(0, .ref b0), (1, .ref b1), (2, .int p2), (3, .int p3), (4, .int p4), (5, .int x1), (6, .int x2), (7, .int x4), (8, .int x6), (9, .int x44), (10, .int x58)]) rfl ?_
              exact h
            · replace h := h.1 c83
              refine g_pc (pc' := 229) rfl ?_
              refine g_aload_n (r := (some b0)) hC 4 dL_step_229 rfl ?_
              refine g_iload hC 9 dL_step_230 rfl ?_
              obtain ⟨hc68, h⟩ := h
              obtain ⟨c69, s70, hc69, h⟩ := h
              refine gx_callV hC (As := [.int x1]) (fun l D dA ht => s_X5_tree l D dA ht _ _ _ _ _ _ _ h) wm_1_179 wm_1_176 wm_1_177 wm_1_178 wm_1_1 (by decide +kernel : plainY yX5_tree 1) kc5.1 kc5.2.1 dL_step_232 (by decide) (Nat.le_of_ble_eq_true rfl) hc68 (Or.inr hc69) ?_ ?_
              · exact fun M E h => h.elim
              · intro M9 v9 h
                obtain ⟨x71, rfl, h⟩ := h
                obtain ⟨hM9, h⟩ := h
                rw [hM9]
                show G X 12 M57 (0 + c55 + c69) (0 + s56 + s70) 235 [(10, .int x58), (9, .int x44), (8, .int x6), (7, .int x4), (0, .ref b0), (1, .ref b1), (2, .int p2), (3, .int p3), (4, .int p4), (5, .int x1), (6, .int x2)] [.int x71]
                refine g_iload hC 10 dL_step_235 rfl ?_
                refine g_ishr hC dL_step_237 ?_
                refine g_iconst (v := 1) hC dL_step_238 (by decide) ?_
                refine g_iand hC dL_step_239 ?_
                refine g_if_ne hC 267 dL_step_240 (by decide) (fun c82 => ?_) (fun c82 => ?_)
                · replace h := h.2 c82
                  refine g_sub [4, 5, 6, 7, 8, 9, 10, 3, 2, 1, 0] (lv' := [(0, .ref b0), (1, .ref b1), (2, .int p2), (3, .int p3), (4, .int p4), (5, .int x1), (6, .int x2), (7, .int x4), (8, .int x6), (9, .int x44), (10, .int x58)]) rfl ?_
                  exact h
                · replace h := h.1 c82
                  refine g_pc (pc' := 243) rfl ?_
                  refine g_aload_n (r := (some b0)) hC 4 dL_step_243 rfl ?_
                  refine g_iload hC 9 dL_step_244 rfl ?_
                  obtain ⟨hc72, h⟩ := h
                  obtain ⟨c73, s74, hc73, h⟩ := h
                  refine gx_callV hC (As := [.int x1]) (fun l D dA ht => s_X5_known l D dA ht _ _ _ _ _ _ _ h) wm_2_41 wm_2_38 wm_2_39 wm_2_40 wm_1_1 (by decide +kernel : plainY yX5_known 1) kc5.1 kc5.2.1 dL_step_246 (by decide) (Nat.le_of_ble_eq_true rfl) hc72 (Or.inr hc73) ?_ ?_
                  · exact fun M E h => h.elim
                  · intro M9 v9 h
                    obtain ⟨x75, rfl, h⟩ := h
                    obtain ⟨hM9, h⟩ := h
                    rw [hM9]
                    show G X 12 M57 (0 + c55 + c69 + c73) (0 + s56 + s70 + s74) 249 [(10, .int x58), (9, .int x44), (8, .int x6), (7, .int x4), (0, .ref b0), (1, .ref b1), (2, .int p2), (3, .int p3), (4, .int p4), (5, .int x1), (6, .int x2)] [.int x75]
                    refine g_aload_n (r := (some b1)) hC 5 dL_step_249 rfl ?_
                    refine g_aload_n (r := (some b0)) hC 4 dL_step_250 rfl ?_
                    refine g_iload hC 10 dL_step_251 rfl ?_
                    obtain ⟨hc76, h⟩ := h
                    obtain ⟨c77, s78, hc77, h⟩ := h
                    refine gx_callV hC (As := [.int x2]) (fun l D dA ht => s_X5_tree l D dA ht _ _ _ _ _ _ _ h) wm_1_179 wm_1_176 wm_1_177 wm_1_178 wm_1_1 (by decide +kernel : plainY yX5_tree 1) kc5.1 kc5.2.1 dL_step_253 (by decide) (Nat.le_of_ble_eq_true rfl) hc76 (Or.inr hc77) ?_ ?_
                    · exact fun M E h => h.elim
                    · intro M9 v9 h
                      obtain ⟨x79, rfl, h⟩ := h
                      obtain ⟨hM9, h⟩ := h
                      rw [hM9]
                      show G X 12 M57 (0 + c55 + c69 + c73 + c77) (0 + s56 + s70 + s74 + s78) 256 [(10, .int x58), (9, .int x44), (8, .int x6), (7, .int x4), (0, .ref b0), (1, .ref b1), (2, .int p2), (3, .int p3), (4, .int p4), (5, .int x1), (6, .int x2)] [.int x79, .ref b1, .int x75]
                      refine g_callS hC (As := [.ref b1, .int x79]) (fun l D dA ht => s_L_homesIn l D dA ht _ _ _ _ h) wm_2_157 wm_2_155 wm_2_156 wm_1_0 (by decide +kernel : plainY yL_homesIn 2) dL_step_256 (by decide) (Nat.le_of_ble_eq_true rfl) (Or.inl ⟨rfl, rfl⟩) ?_
                      intro M9 v9 h
                      obtain ⟨x80, rfl, h⟩ := h
                      obtain ⟨hM9, h⟩ := h
                      rw [hM9]
                      show G X 12 M57 (0 + c55 + c69 + c73 + c77) (0 + s56 + s70 + s74 + s78) 259 [(10, .int x58), (9, .int x44), (8, .int x6), (7, .int x4), (0, .ref b0), (1, .ref b1), (2, .int p2), (3, .int p3), (4, .int p4), (5, .int x1), (6, .int x2)] [.int x80, .int x75]
                      refine g_pc (pc' := 259) rfl ?_
                      refine g_iand hC dL_step_259 ?_
                      refine g_if_ne hC 267 dL_step_260 (by decide) (fun c81 => ?_) (fun c81 => ?_)
                      · replace h := h.2 c81
                        refine g_sub [4, 5, 6, 7, 8, 9, 10, 3, 2, 1, 0] (lv' := [(0, .ref b0), (1, .ref b1), (2, .int p2), (3, .int p3), (4, .int p4), (5, .int x1), (6, .int x2), (7, .int x4), (8, .int x6), (9, .int x44), (10, .int x58)]) rfl ?_
                        exact h
                      · replace h := h.1 c81
                        refine g_iconst (v := 1) hC dL_step_263 (by decide) ?_
                        refine g_goto hC 268 dL_step_264 (by decide) ?_
                        refine g_sub [4, 5, 6, 7, 8, 9, 10, 3, 2, 1, 0] (lv' := [(0, .ref b0), (1, .ref b1), (2, .int p2), (3, .int p3), (4, .int p4), (5, .int x1), (6, .int x2), (7, .int x4), (8, .int x6), (9, .int x44), (10, .int x58)]) rfl ?_
                        exact h
      · replace h := h.1 c96
        refine g_aload_n (r := (some b0)) hC 2 dL_step_128 rfl ?_
        refine g_pc (pc' := 129) rfl ?_
        refine g_iload hC 7 dL_step_129 rfl ?_
        obtain ⟨hc85, h⟩ := h
        obtain ⟨c86, s87, hc86, h⟩ := h
        refine gx_callV hC (As := [.int x1]) (fun l D dA ht => s_X5_tree l D dA ht _ _ _ _ _ _ _ h) wm_1_179 wm_1_176 wm_1_177 wm_1_178 wm_1_1 (by decide +kernel : plainY yX5_tree 1) kc5.1 kc5.2.1 dL_step_131 (by decide) (Nat.le_of_ble_eq_true rfl) hc85 (Or.inr hc86) ?_ ?_
        · exact fun M E h => h.elim
        · intro M9 v9 h
          obtain ⟨x88, rfl, h⟩ := h
          obtain ⟨hM9, h⟩ := h
          rw [hM9]
          show G X 12 M (0 + c86) (0 + s87) 134 [(8, .int x6), (7, .int x4), (0, .ref b0), (1, .ref b1), (2, .int p2), (3, .int p3), (4, .int p4), (5, .int x1), (6, .int x2)] [.int x88]
          refine g_iload hC 8 dL_step_134 rfl ?_
          refine g_ishr hC dL_step_136 ?_
          refine g_iconst (v := 1) hC dL_step_137 (by decide) ?_
          refine g_iand hC dL_step_138 ?_
          refine g_aload_n (r := (some b0)) hC 2 dL_step_139 rfl ?_
          refine g_iload hC 8 dL_step_140 rfl ?_
          refine g_pc (pc' := 142) rfl ?_
          obtain ⟨hc89, h⟩ := h
          obtain ⟨c90, s91, hc90, h⟩ := h
          refine gx_callV hC (As := [.int x2]) (fun l D dA ht => s_X5_tree l D dA ht _ _ _ _ _ _ _ h) wm_1_179 wm_1_176 wm_1_177 wm_1_178 wm_1_1 (by decide +kernel : plainY yX5_tree 1) kc5.1 kc5.2.1 dL_step_142 (by decide) (Nat.le_of_ble_eq_true rfl) hc89 (Or.inr hc90) ?_ ?_
          · exact fun M E h => h.elim
          · intro M9 v9 h
            obtain ⟨x92, rfl, h⟩ := h
            obtain ⟨hM9, h⟩ := h
            rw [hM9]
            show G X 12 M (0 + c86 + c90) (0 + s87 + s91) 145 [(8, .int x6), (7, .int x4), (0, .ref b0), (1, .ref b1), (2, .int p2), (3, .int p3), (4, .int p4), (5, .int x1), (6, .int x2)] [.int x92, .int ((x88 >>> (x2 &&& 31)) &&& 1)]
            refine g_iload hC 7 dL_step_145 rfl ?_
            refine g_ishr hC dL_step_147 ?_
            refine g_iconst (v := 1) hC dL_step_148 (by decide) ?_
            refine g_iand hC dL_step_149 ?_
            replace h := h (fun (x93 : Int32) => G X 12 M (0 + c86 + c90) (0 + s87 + s91) 158 [(0, .ref b0), (1, .ref b1), (2, .int p2), (3, .int p3), (4, .int p4), (5, .int x1), (6, .int x2), (7, .int x4), (8, .int x6)] [.int x93]) (by
              intro x93 h
              show G X 12 M (0 + c86 + c90) (0 + s87 + s91) 158 [(0, .ref b0), (1, .ref b1), (2, .int p2), (3, .int p3), (4, .int p4), (5, .int x1), (6, .int x2), (7, .int x4), (8, .int x6)] [.int x93]
              exact hR.2.2.1 rfl _ _ _ _ _ _ dL_step_158 ⟨h.1, ⟨_, rfl, h.2⟩⟩)
            refine g_icmp_ne hC 157 dL_step_150 (by decide) (fun c95 => ?_) (fun c95 => ?_)
            · replace h := h.2 c95
              refine g_iconst (v := 0) hC dL_step_157 (by decide) ?_
              refine g_sub [2, 3, 4, 5, 6, 7, 8, 1, 0] (lv' := [(0, .ref b0), (1, .ref b1), (2, .int p2), (3, .int p3), (4, .int p4), (5, .int x1), (6, .int x2), (7, .int x4), (8, .int x6)]) rfl ?_
              exact h
            · replace h := h.1 c95
              refine g_iconst (v := 1) hC dL_step_153 (by decide) ?_
              refine g_goto hC 158 dL_step_154 (by decide) ?_
              refine g_sub [2, 3, 4, 5, 6, 7, 8, 1, 0] (lv' := [(0, .ref b0), (1, .ref b1), (2, .int p2), (3, .int p3), (4, .int p4), (5, .int x1), (6, .int x2), (7, .int x4), (8, .int x6)]) rfl ?_
              exact h
    by_cases c414 : sx = 4
    · replace h := h.2.2.2.2.1 c414
      refine g_tableIn (off := 229) hC 269 dL_step_40 (by rw [c414]; decide) (by rw [c414]; decide) (by rw [c414]; decide) (by decide) ?_
      refine g_sub [2, 3, 4, 5, 6, 7, 8, 1, 0] (lv' := [(0, .ref b0), (1, .ref b1), (2, .int p2), (3, .int p3), (4, .int p4), (5, .int x1), (6, .int x2), (7, .int x4), (8, .int x6)]) rfl ?_
      exact h
    by_cases c415 : sx = 5
    · replace h := h.2.2.2.2.2.1 c415
      refine g_tableIn (off := 229) hC 269 dL_step_40 (by rw [c415]; decide) (by rw [c415]; decide) (by rw [c415]; decide) (by decide) ?_
      refine g_sub [2, 3, 4, 5, 6, 7, 8, 1, 0] (lv' := [(0, .ref b0), (1, .ref b1), (2, .int p2), (3, .int p3), (4, .int p4), (5, .int x1), (6, .int x2), (7, .int x4), (8, .int x6)]) rfl ?_
      exact h
    by_cases c416 : sx = 6
    · replace h := h.2.2.2.2.2.2.1 c416
      refine g_tableIn (off := 229) hC 269 dL_step_40 (by rw [c416]; decide) (by rw [c416]; decide) (by rw [c416]; decide) (by decide) ?_
      refine g_sub [2, 3, 4, 5, 6, 7, 8, 1, 0] (lv' := [(0, .ref b0), (1, .ref b1), (2, .int p2), (3, .int p3), (4, .int p4), (5, .int x1), (6, .int x2), (7, .int x4), (8, .int x6)]) rfl ?_
      exact h
    by_cases c417 : sx = 7
    · replace h := h.2.2.2.2.2.2.2.1 c417
      refine g_tableIn (off := 268) hC 308 dL_step_40 (by rw [c417]; decide) (by rw [c417]; decide) (by rw [c417]; decide) (by decide) ?_
      refine g_sub [2, 3, 4, 5, 6, 7, 8, 1, 0] (lv' := [(0, .ref b0), (1, .ref b1), (2, .int p2), (3, .int p3), (4, .int p4), (5, .int x1), (6, .int x2), (7, .int x4), (8, .int x6)]) rfl ?_
      exact h
    by_cases c418 : sx = 8
    · replace h := h.2.2.2.2.2.2.2.2.1 c418
      refine g_tableIn (off := 268) hC 308 dL_step_40 (by rw [c418]; decide) (by rw [c418]; decide) (by rw [c418]; decide) (by decide) ?_
      refine g_sub [2, 3, 4, 5, 6, 7, 8, 1, 0] (lv' := [(0, .ref b0), (1, .ref b1), (2, .int p2), (3, .int p3), (4, .int p4), (5, .int x1), (6, .int x2), (7, .int x4), (8, .int x6)]) rfl ?_
      exact h
    by_cases c419 : sx = 9
    · replace h := h.2.2.2.2.2.2.2.2.2.1 c419
      refine g_tableIn (off := 292) hC 332 dL_step_40 (by rw [c419]; decide) (by rw [c419]; decide) (by rw [c419]; decide) (by decide) ?_
      refine g_aload_n (r := (some b1)) hC 3 dL_step_332 rfl ?_
      refine g_iconst (v := 1) hC dL_step_333 (by decide) ?_
      obtain ⟨hc97, h⟩ := h
      refine g_ialdA hC dL_step_334 hc97 ?_
      replace h := h (fun (x98 : Int32) (M99 : Mem) (k100 : Nat) (n101 : Nat) => G X 12 M99 k100 n101 366 [(0, .ref b0), (1, .ref b1), (2, .int p2), (3, .int p3), (4, .int p4), (5, .int x1), (6, .int x2), (7, .int x4), (8, .int x6)] [.int x98]) (by
        intro x98 M99 k100 n101 h
        show G X 12 M99 k100 n101 366 [(0, .ref b0), (1, .ref b1), (2, .int p2), (3, .int p3), (4, .int p4), (5, .int x1), (6, .int x2), (7, .int x4), (8, .int x6)] [.int x98]
        refine g_pc (pc' := 366) rfl ?_
        exact hR.2.2.1 rfl _ _ _ _ _ _ dL_step_366 ⟨h.1, ⟨_, rfl, h.2⟩⟩)
      replace h := h (fun (M103 : Mem) (k104 : Nat) (n105 : Nat) => G X 12 M103 k104 n105 361 [(0, .ref b0), (1, .ref b1), (2, .int p2), (3, .int p3), (4, .int p4), (5, .int x1), (6, .int x2), (7, .int x4), (8, .int x6)] []) (by
        intro M103 k104 n105 h
        show G X 12 M103 k104 n105 361 [(0, .ref b0), (1, .ref b1), (2, .int p2), (3, .int p3), (4, .int p4), (5, .int x1), (6, .int x2), (7, .int x4), (8, .int x6)] []
        refine g_pc (pc' := 361) rfl ?_
        refine g_iconst (v := 1) hC dL_step_361 (by decide) ?_
        refine g_goto hC 366 dL_step_362 (by decide) ?_
        exact h)
      refine g_pc (pc' := 335) rfl ?_
      refine g_if_eq hC 361 dL_step_335 (by decide) (fun c115 => ?_) (fun c115 => ?_)
      · replace h := h.1 c115
        refine g_sub [2, 3, 4, 5, 6, 7, 8, 1, 0] (lv' := [(0, .ref b0), (1, .ref b1), (2, .int p2), (3, .int p3), (4, .int p4), (5, .int x1), (6, .int x2), (7, .int x4), (8, .int x6)]) rfl ?_
        exact h
      · replace h := h.2 c115
        refine g_aload_n (r := (some b0)) hC 2 dL_step_338 rfl ?_
        refine g_aload_n (r := (some b1)) hC 3 dL_step_339 rfl ?_
        refine g_iload hC 1 dL_step_340 rfl ?_
        refine g_iload hC 0 dL_step_342 rfl ?_
        refine g_iload_n hC 5 dL_step_344 rfl ?_
        refine g_iconst (v := 3) hC dL_step_345 (by decide) ?_
        refine g_irem hC dL_step_346 (by decide) ?_
        replace h := h (fun (x107 : Int32) => G X 12 M 0 0 355 [(0, .ref b0), (1, .ref b1), (2, .int p2), (3, .int p3), (4, .int p4), (5, .int x1), (6, .int x2), (7, .int x4), (8, .int x6)] [.int x107, .int x6, .int x4, .ref b1, .ref b0]) (by
          intro x107 h
          show G X 12 M 0 0 355 [(0, .ref b0), (1, .ref b1), (2, .int p2), (3, .int p3), (4, .int p4), (5, .int x1), (6, .int x2), (7, .int x4), (8, .int x6)] [.int x107, .int x6, .int x4, .ref b1, .ref b0]
          refine g_pc (pc' := 355) rfl ?_
          obtain ⟨c109, s110, hc109, h⟩ := h
          refine g_callS hC (As := [.ref b0, .ref b1, .int x4, .int x6, .int x107]) (fun l D dA ht => s_L_leaves l D dA ht _ _ _ _ _ _ _ _ _ h) wm_3_68 wm_3_66 wm_3_67 wm_1_0 (by decide +kernel : plainY yL_leaves 5) dL_step_355 (by decide) (Nat.le_of_ble_eq_true rfl) (Or.inr hc109) ?_
          intro M9 v9 h
          obtain ⟨x112, rfl, h⟩ := h
          generalize M9 = M111 at h ⊢
          show G X 12 M111 (0 + c109) (0 + s110) 358 [(0, .ref b0), (1, .ref b1), (2, .int p2), (3, .int p3), (4, .int p4), (5, .int x1), (6, .int x2), (7, .int x4), (8, .int x6)] [.int x112]
          refine g_if_eq hC 365 dL_step_358 (by decide) (fun c113 => ?_) (fun c113 => ?_)
          · replace h := h.1 c113
            refine g_iconst (v := 0) hC dL_step_365 (by decide) ?_
            exact h
          · replace h := h.2 c113
            exact h)
        refine g_pc (pc' := 347) rfl ?_
        refine g_if_ne hC 354 dL_step_347 (by decide) (fun c114 => ?_) (fun c114 => ?_)
        · replace h := h.2 c114
          refine g_iconst (v := 0) hC dL_step_354 (by decide) ?_
          refine g_sub [2, 3, 4, 5, 6, 7, 8, 1, 0] (lv' := [(0, .ref b0), (1, .ref b1), (2, .int p2), (3, .int p3), (4, .int p4), (5, .int x1), (6, .int x2), (7, .int x4), (8, .int x6)]) rfl ?_
          exact h
        · replace h := h.1 c114
          refine g_iconst (v := 1) hC dL_step_350 (by decide) ?_
          refine g_goto hC 355 dL_step_351 (by decide) ?_
          refine g_sub [2, 3, 4, 5, 6, 7, 8, 1, 0] (lv' := [(0, .ref b0), (1, .ref b1), (2, .int p2), (3, .int p3), (4, .int p4), (5, .int x1), (6, .int x2), (7, .int x4), (8, .int x6)]) rfl ?_
          exact h
    by_cases c4110 : sx = 10
    · replace h := h.2.2.2.2.2.2.2.2.2.2.1 c4110
      refine g_tableIn (off := 327) hC 367 dL_step_40 (by rw [c4110]; decide) (by rw [c4110]; decide) (by rw [c4110]; decide) (by decide) ?_
      refine g_aload_n (r := (some b1)) hC 3 dL_step_367 rfl ?_
      refine g_iconst (v := 1) hC dL_step_368 (by decide) ?_
      obtain ⟨hc116, h⟩ := h
      refine g_ialdA hC dL_step_369 hc116 ?_
      replace h := h (fun (x117 : Int32) (M118 : Mem) (k119 : Nat) (n120 : Nat) => G X 12 M118 k119 n120 404 [(0, .ref b0), (1, .ref b1), (2, .int p2), (3, .int p3), (4, .int p4), (5, .int x1), (6, .int x2), (7, .int x4), (8, .int x6)] [.int x117]) (by
        intro x117 M118 k119 n120 h
        show G X 12 M118 k119 n120 404 [(0, .ref b0), (1, .ref b1), (2, .int p2), (3, .int p3), (4, .int p4), (5, .int x1), (6, .int x2), (7, .int x4), (8, .int x6)] [.int x117]
        refine g_pc (pc' := 404) rfl ?_
        exact hR.2.2.1 rfl _ _ _ _ _ _ dL_step_404 ⟨h.1, ⟨_, rfl, h.2⟩⟩)
      replace h := h (fun (M122 : Mem) (k123 : Nat) (n124 : Nat) => G X 12 M122 k123 n124 399 [(0, .ref b0), (1, .ref b1), (2, .int p2), (3, .int p3), (4, .int p4), (5, .int x1), (6, .int x2), (7, .int x4), (8, .int x6)] []) (by
        intro M122 k123 n124 h
        show G X 12 M122 k123 n124 399 [(0, .ref b0), (1, .ref b1), (2, .int p2), (3, .int p3), (4, .int p4), (5, .int x1), (6, .int x2), (7, .int x4), (8, .int x6)] []
        refine g_pc (pc' := 399) rfl ?_
        refine g_iconst (v := 1) hC dL_step_399 (by decide) ?_
        refine g_goto hC 404 dL_step_400 (by decide) ?_
        exact h)
      refine g_pc (pc' := 370) rfl ?_
      refine g_if_eq hC 399 dL_step_370 (by decide) (fun c131 => ?_) (fun c131 => ?_)
      · replace h := h.1 c131
        refine g_sub [2, 3, 4, 5, 6, 7, 8, 1, 0] (lv' := [(0, .ref b0), (1, .ref b1), (2, .int p2), (3, .int p3), (4, .int p4), (5, .int x1), (6, .int x2), (7, .int x4), (8, .int x6)]) rfl ?_
        exact h
      · replace h := h.2 c131
        refine g_aload_n (r := (some b0)) hC 2 dL_step_373 rfl ?_
        refine g_aload_n (r := (some b1)) hC 3 dL_step_374 rfl ?_
        refine g_iload hC 1 dL_step_375 rfl ?_
        refine g_iload hC 0 dL_step_377 rfl ?_
        refine g_iload_n hC 5 dL_step_379 rfl ?_
        refine g_iconst (v := 4) hC dL_step_380 (by decide) ?_
        refine g_idiv hC dL_step_381 (by decide) ?_
        refine g_pc (pc' := 382) rfl ?_
        refine g_bipush (v := 16) hC dL_step_382 (by decide) ?_
        refine g_irem hC dL_step_384 (by decide) ?_
        refine g_iload hC 6 dL_step_385 rfl ?_
        refine g_bipush (v := 20) hC dL_step_387 (by decide) ?_
        refine g_idiv hC dL_step_389 (by decide) ?_
        refine g_bipush (v := 64) hC dL_step_390 (by decide) ?_
        refine g_irem hC dL_step_392 (by decide) ?_
        obtain ⟨c126, s127, hc126, h⟩ := h
        refine g_callS hC (As := [.ref b0, .ref b1, .int x4, .int x6, .int ((p3 / 4) - (p3 / 4) / 16 * 16), .int ((p4 / 20) - (p4 / 20) / 64 * 64)]) (fun l D dA ht => s_L_sets l D dA ht _ _ _ _ _ _ _ _ _ _ h) wm_3_88 wm_3_86 wm_3_87 wm_1_0 (by decide +kernel : plainY yL_sets 6) dL_step_393 (by decide) (Nat.le_of_ble_eq_true rfl) (Or.inr hc126) ?_
        intro M9 v9 h
        obtain ⟨x129, rfl, h⟩ := h
        generalize M9 = M128 at h ⊢
        show G X 12 M128 (0 + c126) (0 + s127) 396 [(8, .int x6), (7, .int x4), (0, .ref b0), (1, .ref b1), (2, .int p2), (3, .int p3), (4, .int p4), (5, .int x1), (6, .int x2)] [.int x129]
        refine g_pc (pc' := 396) rfl ?_
        refine g_if_eq hC 403 dL_step_396 (by decide) (fun c130 => ?_) (fun c130 => ?_)
        · replace h := h.1 c130
          refine g_iconst (v := 0) hC dL_step_403 (by decide) ?_
          refine g_sub [2, 3, 4, 5, 6, 7, 8, 1, 0] (lv' := [(0, .ref b0), (1, .ref b1), (2, .int p2), (3, .int p3), (4, .int p4), (5, .int x1), (6, .int x2), (7, .int x4), (8, .int x6)]) rfl ?_
          exact h
        · replace h := h.2 c130
          refine g_sub [2, 3, 4, 5, 6, 7, 8, 1, 0] (lv' := [(0, .ref b0), (1, .ref b1), (2, .int p2), (3, .int p3), (4, .int p4), (5, .int x1), (6, .int x2), (7, .int x4), (8, .int x6)]) rfl ?_
          exact h
    by_cases c4111 : sx = 11
    · replace h := h.2.2.2.2.2.2.2.2.2.2.2.1 c4111
      refine g_tableIn (off := 365) hC 405 dL_step_40 (by rw [c4111]; decide) (by rw [c4111]; decide) (by rw [c4111]; decide) (by decide) ?_
      refine g_aload_n (r := (some b1)) hC 3 dL_step_405 rfl ?_
      refine g_iconst (v := 0) hC dL_step_406 (by decide) ?_
      refine g_dup2 hC dL_step_407 rfl rfl ?_
      obtain ⟨hc132, h⟩ := h
      refine g_pc (pc' := 408) rfl ?_
      refine g_ialdA hC dL_step_408 hc132 ?_
      refine g_iconst (v := 1) hC dL_step_409 (by decide) ?_
      refine g_iadd hC dL_step_410 ?_
      obtain ⟨hc134, h⟩ := h
      refine g_iastA hC dL_step_411 hc134 ?_
      obtain ⟨M133, eM133⟩ : ∃ w, w = sI M b1 (Int32.toNatClampNeg 0) ((gI M b1 (Int32.toNatClampNeg 0)) + 1) := ⟨_, rfl⟩
      replace h := h M133 eM133
      rw [← eM133]
      refine g_aload_n (r := (some b0)) hC 2 dL_step_412 rfl ?_
      obtain ⟨hc135, h⟩ := h
      refine g_callV hC (As := []) (fun l D dA ht => s_X5_lines l D dA ht _ _ _ h) wm_1_175 wm_1_172 wm_1_173 wm_1_174 wm_1_1 (by decide +kernel : plainY yX5_lines 0) kc5.1 kc5.2.1 dL_step_413 (by decide) (Nat.le_of_ble_eq_true rfl) hc135 (Or.inl ⟨rfl, rfl⟩) ?_
      intro M9 v9 h
      obtain ⟨x136, rfl, h⟩ := h
      obtain ⟨hM9, h⟩ := h
      rw [hM9]
      show G X 12 M133 0 0 416 [(8, .int x6), (7, .int x4), (0, .ref b0), (1, .ref b1), (2, .int p2), (3, .int p3), (4, .int p4), (5, .int x1), (6, .int x2)] [.int x136]
      refine g_istore (lv' := [(11, .int x136), (8, .int x6), (7, .int x4), (0, .ref b0), (1, .ref b1), (2, .int p2), (3, .int p3), (4, .int p4), (5, .int x1), (6, .int x2)]) hC dL_step_416 (by decide) rfl ?_
      refine g_aload_n (r := (some b0)) hC 3 dL_step_418 rfl ?_
      refine g_pc (pc' := 419) rfl ?_
      obtain ⟨hc137, h⟩ := h
      obtain ⟨c138, s139, hc138, h⟩ := h
      refine g_callV hC (As := []) (fun l D dA ht => s_X5_deliverAll l D dA ht _ _ _ _ _ h) wm_3_98 wm_3_95 wm_3_96 wm_3_97 wm_1_1 (by decide +kernel : plainY yX5_deliverAll 0) kc5.1 kc5.2.1 dL_step_419 (by decide) (Nat.le_of_ble_eq_true rfl) hc137 (Or.inr hc138) ?_
      intro M9 v9 h
      obtain ⟨x141, rfl, h⟩ := h
      generalize M9 = M140 at h ⊢
      show G X 12 M140 (0 + c138) (0 + s139) 422 [(11, .int x136), (8, .int x6), (7, .int x4), (0, .ref b0), (1, .ref b1), (2, .int p2), (3, .int p3), (4, .int p4), (5, .int x1), (6, .int x2)] [.int x141]
      refine g_iload hC 0 dL_step_422 rfl ?_
      replace h := h (fun (x142 : Int32) (k143 : Nat) (n144 : Nat) => G X 12 M140 k143 n144 457 [(0, .ref b0), (1, .ref b1), (2, .int p2), (3, .int p3), (4, .int p4), (5, .int x1), (6, .int x2), (7, .int x4), (8, .int x6), (11, .int x136)] [.int x142]) (by
        intro x142 k143 n144 h
        show G X 12 M140 k143 n144 457 [(0, .ref b0), (1, .ref b1), (2, .int p2), (3, .int p3), (4, .int p4), (5, .int x1), (6, .int x2), (7, .int x4), (8, .int x6), (11, .int x136)] [.int x142]
        exact hR.2.2.1 rfl _ _ _ _ _ _ dL_step_457 ⟨h.1, ⟨_, rfl, h.2⟩⟩)
      replace h := h (fun (k146 : Nat) (n147 : Nat) => G X 12 M140 k146 n147 456 [(0, .ref b0), (1, .ref b1), (2, .int p2), (3, .int p3), (4, .int p4), (5, .int x1), (6, .int x2), (7, .int x4), (8, .int x6), (11, .int x136)] []) (by
        intro k146 n147 h
        show G X 12 M140 k146 n147 456 [(0, .ref b0), (1, .ref b1), (2, .int p2), (3, .int p3), (4, .int p4), (5, .int x1), (6, .int x2), (7, .int x4), (8, .int x6), (11, .int x136)] []
        refine g_iconst (v := 0) hC dL_step_456 (by decide) ?_
        exact h)
      refine g_icmp_lt hC 456 dL_step_424 (by decide) (fun c160 => ?_) (fun c160 => ?_)
      · replace h := h.1 c160
        refine g_sub [3, 4, 5, 6, 7, 8, 9, 2, 1, 0] (lv' := [(0, .ref b0), (1, .ref b1), (2, .int p2), (3, .int p3), (4, .int p4), (5, .int x1), (6, .int x2), (7, .int x4), (8, .int x6), (11, .int x136)]) rfl ?_
        exact h
      · replace h := h.2 c160
        refine g_aload_n (r := (some b0)) hC 3 dL_step_427 rfl ?_
        obtain ⟨hc149, h⟩ := h
        refine g_callV hC (As := []) (fun l D dA ht => s_X5_lines l D dA ht _ _ _ h) wm_1_175 wm_1_172 wm_1_173 wm_1_174 wm_1_1 (by decide +kernel : plainY yX5_lines 0) kc5.1 kc5.2.1 dL_step_428 (by decide) (Nat.le_of_ble_eq_true rfl) hc149 (Or.inl ⟨rfl, rfl⟩) ?_
        intro M9 v9 h
        obtain ⟨x150, rfl, h⟩ := h
        obtain ⟨hM9, h⟩ := h
        rw [hM9]
        show G X 12 M140 (0 + c138) (0 + s139) 431 [(11, .int x136), (8, .int x6), (7, .int x4), (0, .ref b0), (1, .ref b1), (2, .int p2), (3, .int p3), (4, .int p4), (5, .int x1), (6, .int x2)] [.int x150]
        refine g_if_ne hC 456 dL_step_431 (by decide) (fun c159 => ?_) (fun c159 => ?_)
        · replace h := h.2 c159
          refine g_sub [3, 4, 5, 6, 7, 8, 9, 2, 1, 0] (lv' := [(0, .ref b0), (1, .ref b1), (2, .int p2), (3, .int p3), (4, .int p4), (5, .int x1), (6, .int x2), (7, .int x4), (8, .int x6), (11, .int x136)]) rfl ?_
          exact h
        · replace h := h.1 c159
          refine g_aload_n (r := (some b0)) hC 3 dL_step_434 rfl ?_
          obtain ⟨hc151, h⟩ := h
          refine g_callV hC (As := []) (fun l D dA ht => s_X5_clock l D dA ht _ _ _ h) wm_2_25 wm_2_22 wm_2_23 wm_2_24 wm_1_1 (by decide +kernel : plainY yX5_clock 0) kc5.1 kc5.2.1 dL_step_435 (by decide) (Nat.le_of_ble_eq_true rfl) hc151 (Or.inl ⟨rfl, rfl⟩) ?_
          intro M9 v9 h
          obtain ⟨x152, rfl, h⟩ := h
          obtain ⟨hM9, h⟩ := h
          rw [hM9]
          show G X 12 M140 (0 + c138) (0 + s139) 438 [(11, .int x136), (8, .int x6), (7, .int x4), (0, .ref b0), (1, .ref b1), (2, .int p2), (3, .int p3), (4, .int p4), (5, .int x1), (6, .int x2)] [.int x152]
          refine g_pc (pc' := 438) rfl ?_
          refine g_aload_n (r := (some b1)) hC 4 dL_step_438 rfl ?_
          refine g_iconst (v := 0) hC dL_step_439 (by decide) ?_
          obtain ⟨hc153, h⟩ := h
          refine g_ialdA hC dL_step_440 hc153 ?_
          refine g_icmp_ne hC 456 dL_step_441 (by decide) (fun c158 => ?_) (fun c158 => ?_)
          · replace h := h.2 c158
            refine g_sub [3, 4, 5, 6, 7, 8, 9, 2, 1, 0] (lv' := [(0, .ref b0), (1, .ref b1), (2, .int p2), (3, .int p3), (4, .int p4), (5, .int x1), (6, .int x2), (7, .int x4), (8, .int x6), (11, .int x136)]) rfl ?_
            exact h
          · replace h := h.1 c158
            refine g_aload_n (r := (some b0)) hC 3 dL_step_444 rfl ?_
            refine g_aload_n (r := (some b1)) hC 4 dL_step_445 rfl ?_
            obtain ⟨c154, s155, hc154, h⟩ := h
            refine g_callS hC (As := [.ref b0, .ref b1]) (fun l D dA ht => s_L_areQuiet l D dA ht _ _ _ _ _ _ h) wm_3_106 wm_3_104 wm_3_105 wm_1_0 (by decide +kernel : plainY yL_areQuiet 2) dL_step_446 (by decide) (Nat.le_of_ble_eq_true rfl) (Or.inr hc154) ?_
            intro M9 v9 h
            obtain ⟨x156, rfl, h⟩ := h
            obtain ⟨hM9, h⟩ := h
            rw [hM9]
            show G X 12 M140 (0 + c138 + c154) (0 + s139 + s155) 449 [(11, .int x136), (8, .int x6), (7, .int x4), (0, .ref b0), (1, .ref b1), (2, .int p2), (3, .int p3), (4, .int p4), (5, .int x1), (6, .int x2)] [.int x156]
            refine g_if_eq hC 456 dL_step_449 (by decide) (fun c157 => ?_) (fun c157 => ?_)
            · replace h := h.1 c157
              refine g_sub [3, 4, 5, 6, 7, 8, 9, 2, 1, 0] (lv' := [(0, .ref b0), (1, .ref b1), (2, .int p2), (3, .int p3), (4, .int p4), (5, .int x1), (6, .int x2), (7, .int x4), (8, .int x6), (11, .int x136)]) rfl ?_
              exact h
            · replace h := h.2 c157
              refine g_pc (pc' := 452) rfl ?_
              refine g_iconst (v := 1) hC dL_step_452 (by decide) ?_
              refine g_goto hC 457 dL_step_453 (by decide) ?_
              refine g_sub [3, 4, 5, 6, 7, 8, 9, 2, 1, 0] (lv' := [(0, .ref b0), (1, .ref b1), (2, .int p2), (3, .int p3), (4, .int p4), (5, .int x1), (6, .int x2), (7, .int x4), (8, .int x6), (11, .int x136)]) rfl ?_
              exact h
    replace h := h.2.2.2.2.2.2.2.2.2.2.2.2 ⟨c410, c411, c412, c413, c414, c415, c416, c417, c418, c419, c4110, c4111⟩
    refine g_tableOut hC 458 dL_step_40 (sw_out12 c410 c411 c412 c413 c414 c415 c416 c417 c418 c419 c4110 c4111) (by decide) ?_
    refine g_aload_n (r := (some b0)) hC 2 dL_step_458 rfl ?_
    obtain ⟨hc161, h⟩ := h
    refine g_callV hC (As := []) (fun l D dA ht => s_X5_lines l D dA ht _ _ _ h) wm_1_175 wm_1_172 wm_1_173 wm_1_174 wm_1_1 (by decide +kernel : plainY yX5_lines 0) kc5.1 kc5.2.1 dL_step_459 (by decide) (Nat.le_of_ble_eq_true rfl) hc161 (Or.inl ⟨rfl, rfl⟩) ?_
    intro M9 v9 h
    obtain ⟨x162, rfl, h⟩ := h
    obtain ⟨hM9, h⟩ := h
    rw [hM9]
    show G X 12 M 0 0 462 [(8, .int x6), (7, .int x4), (0, .ref b0), (1, .ref b1), (2, .int p2), (3, .int p3), (4, .int p4), (5, .int x1), (6, .int x2)] [.int x162]
    replace h := h (fun (x163 : Int32) (k164 : Nat) (n165 : Nat) => G X 12 M k164 n165 489 [(0, .ref b0), (1, .ref b1), (2, .int p2), (3, .int p3), (4, .int p4), (5, .int x1), (6, .int x2), (7, .int x4), (8, .int x6)] [.int x163]) (by
      intro x163 k164 n165 h
      show G X 12 M k164 n165 489 [(0, .ref b0), (1, .ref b1), (2, .int p2), (3, .int p3), (4, .int p4), (5, .int x1), (6, .int x2), (7, .int x4), (8, .int x6)] [.int x163]
      exact hR.2.2.1 rfl _ _ _ _ _ _ dL_step_489 ⟨h.1, ⟨_, rfl, h.2⟩⟩)
    replace h := h (fun (k167 : Nat) (n168 : Nat) => G X 12 M k167 n168 488 [(0, .ref b0), (1, .ref b1), (2, .int p2), (3, .int p3), (4, .int p4), (5, .int x1), (6, .int x2), (7, .int x4), (8, .int x6)] []) (by
      intro k167 n168 h
      show G X 12 M k167 n168 488 [(0, .ref b0), (1, .ref b1), (2, .int p2), (3, .int p3), (4, .int p4), (5, .int x1), (6, .int x2), (7, .int x4), (8, .int x6)] []
      refine g_iconst (v := 0) hC dL_step_488 (by decide) ?_
      exact h)
    refine g_if_lt hC 488 dL_step_462 (by decide) (fun c179 => ?_) (fun c179 => ?_)
    · replace h := h.1 c179
      refine g_sub [2, 3, 4, 5, 6, 7, 8, 1, 0] (lv' := [(0, .ref b0), (1, .ref b1), (2, .int p2), (3, .int p3), (4, .int p4), (5, .int x1), (6, .int x2), (7, .int x4), (8, .int x6)]) rfl ?_
      exact h
    · replace h := h.2 c179
      refine g_pc (pc' := 465) rfl ?_
      refine g_aload_n (r := (some b0)) hC 2 dL_step_465 rfl ?_
      refine g_iload hC 7 dL_step_466 rfl ?_
      refine g_iload hC 8 dL_step_468 rfl ?_
      obtain ⟨hc170, h⟩ := h
      obtain ⟨c171, s172, hc171, h⟩ := h
      refine gx_callV hC (As := [.int x1, .int x2]) (fun l D dA ht => s_X5_areSame l D dA ht _ _ _ _ _ _ _ _ h) wm_3_110 wm_3_107 wm_3_108 wm_3_109 wm_1_1 (by decide +kernel : plainY yX5_areSame 2) kc5.1 kc5.2.1 dL_step_470 (by decide) (Nat.le_of_ble_eq_true rfl) hc170 (Or.inr hc171) ?_ ?_
      · exact fun M E h => h.elim
      · intro M9 v9 h
        obtain ⟨x173, rfl, h⟩ := h
        obtain ⟨hM9, h⟩ := h
        rw [hM9]
        show G X 12 M (0 + c171) (0 + s172) 473 [(8, .int x6), (7, .int x4), (0, .ref b0), (1, .ref b1), (2, .int p2), (3, .int p3), (4, .int p4), (5, .int x1), (6, .int x2)] [.int x173]
        refine g_aload_n (r := (some b0)) hC 2 dL_step_473 rfl ?_
        refine g_iload hC 8 dL_step_474 rfl ?_
        refine g_iload hC 7 dL_step_476 rfl ?_
        obtain ⟨hc174, h⟩ := h
        obtain ⟨c175, s176, hc175, h⟩ := h
        refine gx_callV hC (As := [.int x2, .int x1]) (fun l D dA ht => s_X5_areSame l D dA ht _ _ _ _ _ _ _ _ h) wm_3_110 wm_3_107 wm_3_108 wm_3_109 wm_1_1 (by decide +kernel : plainY yX5_areSame 2) kc5.1 kc5.2.1 dL_step_478 (by decide) (Nat.le_of_ble_eq_true rfl) hc174 (Or.inr hc175) ?_ ?_
        · exact fun M E h => h.elim
        · intro M9 v9 h
          obtain ⟨x177, rfl, h⟩ := h
          obtain ⟨hM9, h⟩ := h
          rw [hM9]
          show G X 12 M (0 + c171 + c175) (0 + s172 + s176) 481 [(8, .int x6), (7, .int x4), (0, .ref b0), (1, .ref b1), (2, .int p2), (3, .int p3), (4, .int p4), (5, .int x1), (6, .int x2)] [.int x177, .int x173]
          refine g_pc (pc' := 481) rfl ?_
          refine g_icmp_ne hC 488 dL_step_481 (by decide) (fun c178 => ?_) (fun c178 => ?_)
          · replace h := h.2 c178
            refine g_sub [2, 3, 4, 5, 6, 7, 8, 1, 0] (lv' := [(0, .ref b0), (1, .ref b1), (2, .int p2), (3, .int p3), (4, .int p4), (5, .int x1), (6, .int x2), (7, .int x4), (8, .int x6)]) rfl ?_
            exact h
          · replace h := h.1 c178
            refine g_iconst (v := 1) hC dL_step_484 (by decide) ?_
            refine g_goto hC 489 dL_step_485 (by decide) ?_
            refine g_sub [2, 3, 4, 5, 6, 7, 8, 1, 0] (lv' := [(0, .ref b0), (1, .ref b1), (2, .int p2), (3, .int p3), (4, .int p4), (5, .int x1), (6, .int x2), (7, .int x4), (8, .int x6)]) rfl ?_
            exact h)
  refine g_if_ne hC 23 dL_step_16 (by decide) (fun c182 => ?_) (fun c182 => ?_)
  · replace h := h.2 c182
    refine g_iload hC 6 dL_step_23 rfl ?_
    refine g_aload_n (r := (some b1)) hC 3 dL_step_25 rfl ?_
    refine g_iconst (v := 1) hC dL_step_26 (by decide) ?_
    obtain ⟨hc180, h⟩ := h
    refine g_pc (pc' := 27) rfl ?_
    refine g_ialdA hC dL_step_27 hc180 ?_
    obtain ⟨hc181, h⟩ := h
    refine g_irem hC dL_step_28 hc181 ?_
    refine g_sub [2, 3, 4, 5, 6, 1, 0] (lv' := [(0, .ref b0), (1, .ref b1), (2, .int p2), (3, .int p3), (4, .int p4), (5, .int x1), (6, .int x2)]) rfl ?_
    exact h
  · replace h := h.1 c182
    refine g_iconst (v := 0) hC dL_step_19 (by decide) ?_
    refine g_goto hC 29 dL_step_20 (by decide) ?_
    refine g_sub [2, 3, 4, 5, 6, 1, 0] (lv' := [(0, .ref b0), (1, .ref b1), (2, .int p2), (3, .int p3), (4, .int p4), (5, .int x1), (6, .int x2)]) rfl ?_
    exact h

def w_L_law (mc ms : Nat) (M : Mem) (b0 L : Nat) (xs : Nat → Int32) : Prop :=
  (0 + 1 ≤ mc ∧ 0 + 8 ≤ ms) ∧ ∀ q1, gT M q1 = none → ∀ M2, M2 = sN M q1 (5, 0) → ∃ c4 s5, ((0 + 1) + c4 ≤ mc ∧ (0 + 8) + s5 ≤ ms) ∧ w_X5_init c4 s5 M2 q1 (fun M6 => (0 + 1 + c4 + 1 ≤ mc ∧ 0 + 8 + s5 + 48 ≤ ms) ∧ ∀ q7, gT M6 q7 = none → ∀ M8, M8 = sN M6 q7 (10, 48) → gT M8 q1 = some (5, 0) ∧ w_X5_clock M8 q1 (fun x11 => ∀ J15 : Int32 → Nat → Nat → Prop, (∀ (x12 : Int32) (k13 : Nat) (n14 : Nat), (∀ J17 : Int32 → Prop, (∀ (x16 : Int32), (Lp (fun (K23 : Int32 × Int32 × Mem × Nat × Nat → Prop) (z : Int32 × Int32 × Mem × Nat × Nat) => ∀ (x18 : Int32) (x19 : Int32) (M20 : Mem) (k21 : Nat) (n22 : Nat), z = (x18, x19, M20, k21, n22) → (∀ J24 : Prop, (((x18 : Int32) = 1) → J24) → ((x16 ≤ x19 → J24) ∧ (¬ (x16 ≤ x19) → (x18 = 0 → J24) ∧ (¬ (x18 = 0) → w_L_draw M20 b0 L xs (3 * x19) (fun x25 => w_L_draw M20 b0 L xs ((3 * x19) + 1) (fun x26 => w_L_draw M20 b0 L xs ((3 * x19) + 2) (fun x27 => ∃ c28 s29, (k21 + c28 ≤ mc ∧ n22 + s29 ≤ ms) ∧ w_L_step c28 s29 M20 q1 q7 x25 x26 x27 (fun M30 x31 => ∀ J35 : Int32 → Nat → Nat → Prop, (∀ (x32 : Int32) (k33 : Nat) (n34 : Nat), (∀ x36, x36 = x19 + 1 → K23 (x32, x36, M30, k33, n34)) → J35 x32 k33 n34) → (∀ J39 : Nat → Nat → Prop, (∀ (k37 : Nat) (n38 : Nat), (J35 0 k37 n38) → J39 k37 n38) → ((x31 = 0 → J39 (k21 + c28) (n22 + s29)) ∧ (¬ (x31 = 0) → ∀ J42 : Nat → Nat → Prop, (∀ (k40 : Nat) (n41 : Nat), (J35 1 k40 n41) → J42 k40 n41) → ((x19 - x19 / 3 * 3 < 2 → J42 (k21 + c28) (n22 + s29)) ∧ (¬ (x19 - x19 / 3 * 3 < 2) → ∃ c43 s44, ((k21 + c28) + c43 ≤ mc ∧ (n22 + s29) + s44 ≤ ms) ∧ w_L_areViews c43 s44 M30 q1 q7 (fun x45 => (x45 = 0 → J39 (k21 + c28 + c43) (n22 + s29 + s44)) ∧ (¬ (x45 = 0) → J42 (k21 + c28 + c43) (n22 + s29 + s44))))))))))))))))) (x12, 0, M8, k13, n14)) → J17 x16) → (((nI L) / 3 ≤ 90 → J17 ((nI L) / 3)) ∧ (¬ ((nI L) / 3 ≤ 90) → J17 90))) → J15 x12 k13 n14) → (∀ J55 : Nat → Nat → Prop, (∀ (k53 : Nat) (n54 : Nat), (J15 0 k53 n54) → J55 k53 n54) → ((x11 = 0 → gT M8 q1 = some (5, 0) ∧ w_X5_users M8 q1 (fun x57 => (x57 = 0 → gT M8 q1 = some (5, 0) ∧ w_X5_lines M8 q1 (fun x59 => (x59 = 0 → gT M8 q1 = some (5, 0) ∧ ∃ c61 s62, ((0 + 1 + c4 + 1) + c61 ≤ mc ∧ (0 + 8 + s5 + 48) + s62 ≤ ms) ∧ w_X5_tree c61 s62 M8 q1 3 (fun _ _ => False) (fun x63 => (x63 = 8 → J15 1 (0 + 1 + c4 + 1 + c61) (0 + 8 + s5 + 48 + s62)) ∧ (¬ (x63 = 8) → J55 (0 + 1 + c4 + 1 + c61) (0 + 8 + s5 + 48 + s62)))) ∧ (¬ (x59 = 0) → J55 (0 + 1 + c4 + 1) (0 + 8 + s5 + 48)))) ∧ (¬ (x57 = 0) → J55 (0 + 1 + c4 + 1) (0 + 8 + s5 + 48)))) ∧ (¬ (x11 = 0) → J55 (0 + 1 + c4 + 1) (0 + 8 + s5 + 48))))))
set_option maxRecDepth 100000 in
set_option maxHeartbeats 16000000 in
theorem s_L_law (mc ms : Nat) (M : Mem) (b0 L : Nat) (xs : Nat → Int32) (h : w_L_law mc ms M b0 L xs) (X : XT) (hC : Cx X 11 cL_law 6 RL mc ms) (hX : Scr X b0 L xs) (hRet : ∀ (M : Mem) (k n pc : Nat) (lv : List (Nat × Value)) (x : Int32), decode cL_law pc = .ok (.ireturn, 1) → x = 1 → G X 6 M k n pc lv [.int x]) : G X 6 M 0 0 0 [(0, .ref b0)] [] := by
  unfold w_L_law at h
  obtain ⟨hc3, h⟩ := h
  refine g_newK hC kc5 wm_1_15 wm_1_16 wm_1_1 dL_law_0 hc3 (fun q1 hqq1 => ?_)
  obtain ⟨M2, eM2⟩ : ∃ w, w = sN M q1 (5, 0) := ⟨_, rfl⟩
  replace h := h q1 hqq1 M2 eM2
  rw [← eM2]
  refine g_dup hC dL_law_3 rfl ?_
  obtain ⟨c4, s5, hc4, h⟩ := h
  refine g_callI hC (As := []) (fun l D dA ht => s_X5_init l D dA ht _ _ _ _ _ h) rfl wm_1_19 wm_1_17 wm_1_18 wm_1_1 (by decide +kernel : plainY yX5_init 0) dL_law_4 (by decide) (Nat.le_of_ble_eq_true rfl) (Or.inr hc4) ?_
  intro M9 v9 h
  obtain ⟨rfl, h⟩ := h
  generalize M9 = M6 at h ⊢
  show G X 6 M6 (0 + 1 + c4) (0 + 8 + s5) 7 [(0, .ref b0)] [.ref q1]
  refine g_astore_n (r := (some q1)) (lv' := [(1, .ref q1), (0, .ref b0)]) hC dL_law_7 (by decide) rfl ?_
  refine g_bipush (v := 48) hC dL_law_8 (by decide) ?_
  obtain ⟨hc9, h⟩ := h
  refine g_newa (at0 := .int) (ty := .int) (ck := 10) (N' := 48) hC rfl (by decide) wm_1_45 (by decide) (by decide +kernel) (by decide +kernel) dL_law_10 hc9 (fun q7 hqq7 => ?_)
  obtain ⟨M8, eM8⟩ : ∃ w, w = sN M6 q7 (10, 48) := ⟨_, rfl⟩
  replace h := h q7 hqq7 M8 eM8
  rw [← eM8]
  refine g_astore_n (r := (some q7)) (lv' := [(2, .ref q7), (1, .ref q1), (0, .ref b0)]) hC dL_law_12 (by decide) rfl ?_
  refine g_pc (pc' := 13) rfl ?_
  refine g_aload_n (r := (some q1)) hC 1 dL_law_13 rfl ?_
  obtain ⟨hc10, h⟩ := h
  refine g_callV hC (As := []) (fun l D dA ht => s_X5_clock l D dA ht _ _ _ h) wm_2_25 wm_2_22 wm_2_23 wm_2_24 wm_1_1 (by decide +kernel : plainY yX5_clock 0) kc5.1 kc5.2.1 dL_law_14 (by decide) (Nat.le_of_ble_eq_true rfl) hc10 (Or.inl ⟨rfl, rfl⟩) ?_
  intro M9 v9 h
  obtain ⟨x11, rfl, h⟩ := h
  obtain ⟨hM9, h⟩ := h
  rw [hM9]
  show G X 6 M8 (0 + 1 + c4 + 1) (0 + 8 + s5 + 48) 17 [(2, .ref q7), (1, .ref q1), (0, .ref b0)] [.int x11]
  replace h := h (fun (x12 : Int32) (k13 : Nat) (n14 : Nat) => G X 6 M8 k13 n14 49 [(0, .ref b0), (1, .ref q1), (2, .ref q7)] [.int x12]) (by
    intro x12 k13 n14 h
    show G X 6 M8 k13 n14 49 [(0, .ref b0), (1, .ref q1), (2, .ref q7)] [.int x12]
    refine g_istore_n (lv' := [(3, .int x12), (0, .ref b0), (1, .ref q1), (2, .ref q7)]) hC dL_law_49 (by decide) rfl ?_
    refine g_aload_n (r := (some b0)) hC 1 dL_law_50 rfl ?_
    refine g_slen hC hX dL_law_51 ?_
    refine g_iconst (v := 3) hC dL_law_52 (by decide) ?_
    refine g_idiv hC dL_law_53 (by decide) ?_
    refine g_bipush (v := 90) hC dL_law_54 (by decide) ?_
    replace h := h (fun (x16 : Int32) => G X 6 M8 k13 n14 68 [(0, .ref b0), (1, .ref q1), (2, .ref q7), (3, .int x12)] [.int x16]) (by
      intro x16 h
      show G X 6 M8 k13 n14 68 [(0, .ref b0), (1, .ref q1), (2, .ref q7), (3, .int x12)] [.int x16]
      refine g_pc (pc' := 68) rfl ?_
      refine g_istore (lv' := [(4, .int x16), (0, .ref b0), (1, .ref q1), (2, .ref q7), (3, .int x12)]) hC dL_law_68 (by decide) rfl ?_
      refine g_iconst (v := 0) hC dL_law_70 (by decide) ?_
      refine g_istore (lv' := [(5, .int 0), (4, .int x16), (0, .ref b0), (1, .ref q1), (2, .ref q7), (3, .int x12)]) hC dL_law_71 (by decide) rfl ?_
      refine g_sub [2, 3, 4, 5, 1, 0] (lv' := [(0, .ref b0), (1, .ref q1), (2, .ref q7), (3, .int x12), (4, .int x16), (5, .int 0)]) rfl ?_
      refine Lp_use (fun (z51 : Int32 × Int32 × Mem × Nat × Nat) => G X 6 z51.2.2.1 z51.2.2.2.1 z51.2.2.2.2 73 [(0, .ref b0), (1, .ref q1), (2, .ref q7), (3, .int z51.1), (4, .int x16), (5, .int z51.2.1)] []) h ?_
      intro K23 z hK_K23 h
      obtain ⟨x18, x19, M20, k21, n22⟩ := z
      replace h := h _ _ _ _ _ rfl
      show G X 6 M20 k21 n22 73 [(0, .ref b0), (1, .ref q1), (2, .ref q7), (3, .int x18), (4, .int x16), (5, .int x19)] []
      refine g_iload hC 5 dL_law_73 rfl ?_
      refine g_iload hC 4 dL_law_75 rfl ?_
      replace h := h (G X 6 M20 k21 n22 148 [(0, .ref b0), (1, .ref q1), (2, .ref q7), (3, .int x18), (4, .int x16), (5, .int x19)] []) (by
        intro h
        refine g_iload_n hC 3 dL_law_148 rfl ?_
        exact hRet _ _ _ _ _ _ dL_law_149 h)
      refine g_icmp_ge hC 148 dL_law_77 (by decide) (fun c50 => ?_) (fun c50 => ?_)
      · replace h := h.1 c50
        exact h
      · replace h := h.2 c50
        refine g_iload_n hC 3 dL_law_80 rfl ?_
        refine g_if_eq hC 148 dL_law_81 (by decide) (fun c49 => ?_) (fun c49 => ?_)
        · replace h := h.1 c49
          exact h
        · replace h := h.2 c49
          refine g_pc (pc' := 84) rfl ?_
          refine g_aload_n (r := (some q1)) hC 1 dL_law_84 rfl ?_
          refine g_aload_n (r := (some q7)) hC 2 dL_law_85 rfl ?_
          refine g_aload_n (r := (some b0)) hC 0 dL_law_86 rfl ?_
          refine g_iconst (v := 3) hC dL_law_87 (by decide) ?_
          refine g_iload hC 5 dL_law_88 rfl ?_
          refine g_imul hC dL_law_90 ?_
          refine g_callD hC hX (As := [.ref b0, .int (3 * x19)]) (fun l D dA ht => s_L_draw l D dA ht _ _ _ _ _ _ h) wm_2_28 wm_2_26 wm_2_27 wm_1_0 (by decide +kernel : plainY yL_draw 2) dL_law_91 (by decide) (Nat.le_of_ble_eq_true rfl) ?_
          intro M9 v9 h
          obtain ⟨x25, rfl, h⟩ := h
          obtain ⟨hM9, h⟩ := h
          rw [hM9]
          show G X 6 M20 k21 n22 94 [(0, .ref b0), (1, .ref q1), (2, .ref q7), (3, .int x18), (4, .int x16), (5, .int x19)] [.int x25, .ref q7, .ref q1]
          refine g_aload_n (r := (some b0)) hC 0 dL_law_94 rfl ?_
          refine g_pc (pc' := 95) rfl ?_
          refine g_iconst (v := 3) hC dL_law_95 (by decide) ?_
          refine g_iload hC 5 dL_law_96 rfl ?_
          refine g_imul hC dL_law_98 ?_
          refine g_iconst (v := 1) hC dL_law_99 (by decide) ?_
          refine g_iadd hC dL_law_100 ?_
          refine g_callD hC hX (As := [.ref b0, .int ((3 * x19) + 1)]) (fun l D dA ht => s_L_draw l D dA ht _ _ _ _ _ _ h) wm_2_28 wm_2_26 wm_2_27 wm_1_0 (by decide +kernel : plainY yL_draw 2) dL_law_101 (by decide) (Nat.le_of_ble_eq_true rfl) ?_
          intro M9 v9 h
          obtain ⟨x26, rfl, h⟩ := h
          obtain ⟨hM9, h⟩ := h
          rw [hM9]
          show G X 6 M20 k21 n22 104 [(0, .ref b0), (1, .ref q1), (2, .ref q7), (3, .int x18), (4, .int x16), (5, .int x19)] [.int x26, .int x25, .ref q7, .ref q1]
          refine g_aload_n (r := (some b0)) hC 0 dL_law_104 rfl ?_
          refine g_iconst (v := 3) hC dL_law_105 (by decide) ?_
          refine g_pc (pc' := 106) rfl ?_
          refine g_iload hC 5 dL_law_106 rfl ?_
          refine g_imul hC dL_law_108 ?_
          refine g_iconst (v := 2) hC dL_law_109 (by decide) ?_
          refine g_iadd hC dL_law_110 ?_
          refine g_callD hC hX (As := [.ref b0, .int ((3 * x19) + 2)]) (fun l D dA ht => s_L_draw l D dA ht _ _ _ _ _ _ h) wm_2_28 wm_2_26 wm_2_27 wm_1_0 (by decide +kernel : plainY yL_draw 2) dL_law_111 (by decide) (Nat.le_of_ble_eq_true rfl) ?_
          intro M9 v9 h
          obtain ⟨x27, rfl, h⟩ := h
          obtain ⟨hM9, h⟩ := h
          rw [hM9]
          show G X 6 M20 k21 n22 114 [(0, .ref b0), (1, .ref q1), (2, .ref q7), (3, .int x18), (4, .int x16), (5, .int x19)] [.int x27, .int x26, .int x25, .ref q7, .ref q1]
          obtain ⟨c28, s29, hc28, h⟩ := h
          refine g_callS hC (As := [.ref q1, .ref q7, .int x25, .int x26, .int x27]) (fun l D dA ht => s_L_step l D dA ht _ _ _ _ _ _ _ _ _ h) wm_2_34 wm_2_32 wm_2_33 wm_1_0 (by decide +kernel : plainY yL_step 5) dL_law_114 (by decide) (Nat.le_of_ble_eq_true rfl) (Or.inr hc28) ?_
          intro M9 v9 h
          obtain ⟨x31, rfl, h⟩ := h
          generalize M9 = M30 at h ⊢
          show G X 6 M30 (k21 + c28) (n22 + s29) 117 [(0, .ref b0), (1, .ref q1), (2, .ref q7), (3, .int x18), (4, .int x16), (5, .int x19)] [.int x31]
          replace h := h (fun (x32 : Int32) (k33 : Nat) (n34 : Nat) => G X 6 M30 k33 n34 141 [(0, .ref b0), (1, .ref q1), (2, .ref q7), (3, .int x18), (4, .int x16), (5, .int x19)] [.int x32]) (by
            intro x32 k33 n34 h
            show G X 6 M30 k33 n34 141 [(0, .ref b0), (1, .ref q1), (2, .ref q7), (3, .int x18), (4, .int x16), (5, .int x19)] [.int x32]
            refine g_istore_n (lv' := [(3, .int x32), (0, .ref b0), (1, .ref q1), (2, .ref q7), (4, .int x16), (5, .int x19)]) hC dL_law_141 (by decide) rfl ?_
            obtain ⟨x36, ex36⟩ : ∃ w, w = x19 + 1 := ⟨_, rfl⟩
            replace h := h x36 ex36
            refine g_iinc (v := x36) (lv' := [(5, .int x36), (3, .int x32), (0, .ref b0), (1, .ref q1), (2, .ref q7), (4, .int x16)]) hC 5 dL_law_142 rfl (by rw [ex36]; rfl) (by decide) rfl ?_
            refine g_pc (pc' := 145) rfl ?_
            refine g_goto hC 73 dL_law_145 (by decide) ?_
            refine g_sub [2, 3, 4, 1, 5, 0] (lv' := [(0, .ref b0), (1, .ref q1), (2, .ref q7), (3, .int x32), (4, .int x16), (5, .int x36)]) rfl ?_
            exact hK_K23 _ h)
          replace h := h (fun (k37 : Nat) (n38 : Nat) => G X 6 M30 k37 n38 140 [(0, .ref b0), (1, .ref q1), (2, .ref q7), (3, .int x18), (4, .int x16), (5, .int x19)] []) (by
            intro k37 n38 h
            show G X 6 M30 k37 n38 140 [(0, .ref b0), (1, .ref q1), (2, .ref q7), (3, .int x18), (4, .int x16), (5, .int x19)] []
            refine g_iconst (v := 0) hC dL_law_140 (by decide) ?_
            exact h)
          refine g_if_eq hC 140 dL_law_117 (by decide) (fun c48 => ?_) (fun c48 => ?_)
          · replace h := h.1 c48
            exact h
          · replace h := h.2 c48
            refine g_iload hC 5 dL_law_120 rfl ?_
            refine g_pc (pc' := 122) rfl ?_
            refine g_iconst (v := 3) hC dL_law_122 (by decide) ?_
            refine g_irem hC dL_law_123 (by decide) ?_
            refine g_iconst (v := 2) hC dL_law_124 (by decide) ?_
            replace h := h (fun (k40 : Nat) (n41 : Nat) => G X 6 M30 k40 n41 136 [(0, .ref b0), (1, .ref q1), (2, .ref q7), (3, .int x18), (4, .int x16), (5, .int x19)] []) (by
              intro k40 n41 h
              show G X 6 M30 k40 n41 136 [(0, .ref b0), (1, .ref q1), (2, .ref q7), (3, .int x18), (4, .int x16), (5, .int x19)] []
              refine g_iconst (v := 1) hC dL_law_136 (by decide) ?_
              refine g_goto hC 141 dL_law_137 (by decide) ?_
              exact h)
            refine g_icmp_lt hC 136 dL_law_125 (by decide) (fun c47 => ?_) (fun c47 => ?_)
            · replace h := h.1 c47
              exact h
            · replace h := h.2 c47
              refine g_aload_n (r := (some q1)) hC 1 dL_law_128 rfl ?_
              refine g_aload_n (r := (some q7)) hC 2 dL_law_129 rfl ?_
              obtain ⟨c43, s44, hc43, h⟩ := h
              refine g_callS hC (As := [.ref q1, .ref q7]) (fun l D dA ht => s_L_areViews l D dA ht _ _ _ _ _ _ h) wm_3_121 wm_3_119 wm_3_120 wm_1_0 (by decide +kernel : plainY yL_areViews 2) dL_law_130 (by decide) (Nat.le_of_ble_eq_true rfl) (Or.inr hc43) ?_
              intro M9 v9 h
              obtain ⟨x45, rfl, h⟩ := h
              obtain ⟨hM9, h⟩ := h
              rw [hM9]
              show G X 6 M30 (k21 + c28 + c43) (n22 + s29 + s44) 133 [(0, .ref b0), (1, .ref q1), (2, .ref q7), (3, .int x18), (4, .int x16), (5, .int x19)] [.int x45]
              refine g_if_eq hC 140 dL_law_133 (by decide) (fun c46 => ?_) (fun c46 => ?_)
              · replace h := h.1 c46
                exact h
              · replace h := h.2 c46
                exact h)
    refine g_pc (pc' := 56) rfl ?_
    refine g_icmp_le hC 64 dL_law_56 (by decide) (fun c52 => ?_) (fun c52 => ?_)
    · replace h := h.1 c52
      refine g_aload_n (r := (some b0)) hC 1 dL_law_64 rfl ?_
      refine g_slen hC hX dL_law_65 ?_
      refine g_iconst (v := 3) hC dL_law_66 (by decide) ?_
      refine g_idiv hC dL_law_67 (by decide) ?_
      refine g_sub [1, 2, 3, 0] (lv' := [(0, .ref b0), (1, .ref q1), (2, .ref q7), (3, .int x12)]) rfl ?_
      exact h
    · replace h := h.2 c52
      refine g_bipush (v := 90) hC dL_law_59 (by decide) ?_
      refine g_goto hC 68 dL_law_61 (by decide) ?_
      refine g_sub [1, 2, 3, 0] (lv' := [(0, .ref b0), (1, .ref q1), (2, .ref q7), (3, .int x12)]) rfl ?_
      exact h)
  replace h := h (fun (k53 : Nat) (n54 : Nat) => G X 6 M8 k53 n54 48 [(0, .ref b0), (1, .ref q1), (2, .ref q7)] []) (by
    intro k53 n54 h
    show G X 6 M8 k53 n54 48 [(0, .ref b0), (1, .ref q1), (2, .ref q7)] []
    refine g_iconst (v := 0) hC dL_law_48 (by decide) ?_
    exact h)
  refine g_if_ne hC 48 dL_law_17 (by decide) (fun c67 => ?_) (fun c67 => ?_)
  · replace h := h.2 c67
    refine g_sub [2, 1, 0] (lv' := [(0, .ref b0), (1, .ref q1), (2, .ref q7)]) rfl ?_
    exact h
  · replace h := h.1 c67
    refine g_aload_n (r := (some q1)) hC 1 dL_law_20 rfl ?_
    obtain ⟨hc56, h⟩ := h
    refine g_callV hC (As := []) (fun l D dA ht => s_X5_users l D dA ht _ _ _ h) wm_2_21 wm_2_18 wm_2_19 wm_2_20 wm_1_1 (by decide +kernel : plainY yX5_users 0) kc5.1 kc5.2.1 dL_law_21 (by decide) (Nat.le_of_ble_eq_true rfl) hc56 (Or.inl ⟨rfl, rfl⟩) ?_
    intro M9 v9 h
    obtain ⟨x57, rfl, h⟩ := h
    obtain ⟨hM9, h⟩ := h
    rw [hM9]
    show G X 6 M8 (0 + 1 + c4 + 1) (0 + 8 + s5 + 48) 24 [(2, .ref q7), (1, .ref q1), (0, .ref b0)] [.int x57]
    refine g_if_ne hC 48 dL_law_24 (by decide) (fun c66 => ?_) (fun c66 => ?_)
    · replace h := h.2 c66
      refine g_sub [2, 1, 0] (lv' := [(0, .ref b0), (1, .ref q1), (2, .ref q7)]) rfl ?_
      exact h
    · replace h := h.1 c66
      refine g_aload_n (r := (some q1)) hC 1 dL_law_27 rfl ?_
      obtain ⟨hc58, h⟩ := h
      refine g_callV hC (As := []) (fun l D dA ht => s_X5_lines l D dA ht _ _ _ h) wm_1_175 wm_1_172 wm_1_173 wm_1_174 wm_1_1 (by decide +kernel : plainY yX5_lines 0) kc5.1 kc5.2.1 dL_law_28 (by decide) (Nat.le_of_ble_eq_true rfl) hc58 (Or.inl ⟨rfl, rfl⟩) ?_
      intro M9 v9 h
      obtain ⟨x59, rfl, h⟩ := h
      obtain ⟨hM9, h⟩ := h
      rw [hM9]
      show G X 6 M8 (0 + 1 + c4 + 1) (0 + 8 + s5 + 48) 31 [(2, .ref q7), (1, .ref q1), (0, .ref b0)] [.int x59]
      refine g_pc (pc' := 31) rfl ?_
      refine g_if_ne hC 48 dL_law_31 (by decide) (fun c65 => ?_) (fun c65 => ?_)
      · replace h := h.2 c65
        refine g_sub [2, 1, 0] (lv' := [(0, .ref b0), (1, .ref q1), (2, .ref q7)]) rfl ?_
        exact h
      · replace h := h.1 c65
        refine g_aload_n (r := (some q1)) hC 1 dL_law_34 rfl ?_
        refine g_iconst (v := 3) hC dL_law_35 (by decide) ?_
        obtain ⟨hc60, h⟩ := h
        obtain ⟨c61, s62, hc61, h⟩ := h
        refine gx_callV hC (As := [.int 3]) (fun l D dA ht => s_X5_tree l D dA ht _ _ _ _ _ _ _ h) wm_1_179 wm_1_176 wm_1_177 wm_1_178 wm_1_1 (by decide +kernel : plainY yX5_tree 1) kc5.1 kc5.2.1 dL_law_36 (by decide) (Nat.le_of_ble_eq_true rfl) hc60 (Or.inr hc61) ?_ ?_
        · exact fun M E h => h.elim
        · intro M9 v9 h
          obtain ⟨x63, rfl, h⟩ := h
          obtain ⟨hM9, h⟩ := h
          rw [hM9]
          show G X 6 M8 (0 + 1 + c4 + 1 + c61) (0 + 8 + s5 + 48 + s62) 39 [(2, .ref q7), (1, .ref q1), (0, .ref b0)] [.int x63]
          refine g_bipush (v := 8) hC dL_law_39 (by decide) ?_
          refine g_icmp_ne hC 48 dL_law_41 (by decide) (fun c64 => ?_) (fun c64 => ?_)
          · replace h := h.2 c64
            refine g_sub [2, 1, 0] (lv' := [(0, .ref b0), (1, .ref q1), (2, .ref q7)]) rfl ?_
            exact h
          · replace h := h.1 c64
            refine g_iconst (v := 1) hC dL_law_44 (by decide) ?_
            refine g_goto hC 49 dL_law_45 (by decide) ?_
            refine g_sub [2, 1, 0] (lv' := [(0, .ref b0), (1, .ref q1), (2, .ref q7)]) rfl ?_
            exact h
