/-! THE LAW, CALL BY CALL -/
section LV
variable {A B : Nat → Nat} {o : Nat} {M17 : Mem} {σ : Sg} {t : Int32} {c k18 n19 L : Nat} {x16 : Int32} {xs : Nat → Int32} {J25 : Mem → Nat → Nat → Prop}
theorem st_link (hB : Both A B o M17 σ t) (hI : Inv σ c) (hc : c ≤ 511) (hk : k18 ≤ 101 + sgN σ 2 + c) (hn : n19 ≤ 115300 + 8 * sgN σ 2 + 6 * c) (hJ : ∀ M22 k23 n24 σ' t', Both A B o M22 σ' t' → Inv σ' (c + 1) → k23 ≤ 101 + sgN σ' 2 + (c + 1) → n24 ≤ 115300 + 8 * sgN σ' 2 + 6 * (c + 1) → J25 M22 k23 n24) (v1 : vp_in (x16 + 1) L) (v2 : vp_in (x16 + 2) L) : vp_in (x16 + 1) L ∧ vp_in (x16 + 2) L ∧ ∃ c30 s31, (k18 + c30 ≤ 601024 ∧ n19 + s31 ≤ 7293034) ∧ w_L_link c30 s31 M17 (A 0) (xs (Int32.toNatClampNeg (x16 + 1))) (xs (Int32.toNatClampNeg (x16 + 2))) o (fun M32 x33 => vp_in (x16 + 1) L ∧ vp_in (x16 + 2) L ∧ gT M32 (B 0) = some (6, 0) ∧ w_X6_link M32 (B 0) (xs (Int32.toNatClampNeg (x16 + 1))) (xs (Int32.toNatClampNeg (x16 + 2))) (fun M37 x38 => gT M37 (B 0) = some (6, 0) ∧ w_X6_thrown M37 (B 0) (fun x40 => (x40 = x33 → ∀ J41 : Prop, ((J25 M37 (k18 + c30) (n19 + s31)) → J41) → ((x33 = 0 → inA M37 o 11 0 ∧ (lg_cmp (gL M37 o (Int32.toNatClampNeg 0)) x38.toInt64 = 0 → J41) ∧ (¬ (lg_cmp (gL M37 o (Int32.toNatClampNeg 0)) x38.toInt64 = 0) → (0 : Int32) = 1)) ∧ (¬ (x33 = 0) → J41))) ∧ (¬ (x40 = x33) → (0 : Int32) = 1)))) := by
  have hk2 : c ≤ 512 := by omega
  have hne : ∀ j, vm j → B j ≠ o := fun j hj => o_ne hB hj
  obtain ⟨r, hr⟩ := ex2 6 6 (by omega) (by omega) (xs (Int32.toNatClampNeg (x16 + 1))) (xs (Int32.toNatClampNeg (x16 + 2))) (1, 0, σ) (f_link σ)
  obtain ⟨g1, g2⟩ := o_link hI hk2 hr
  have hm := g1.2.2.2
  exact ⟨v1, v2, sgN r.2.2 2 - sgN σ 2 + 1, 8 * (sgN r.2.2 2 - sgN σ 2) + 6, ⟨by omega, by omega⟩, c_link hB hI hk2 hr (fun M32 hO ho => ⟨v1, v2, rm_0 (oc_M hB hO), x_link (oc_M hB hO) hI hk2 hr (fun M37 x38 h37 hx => law_tail hO hne h37 (fun e => by rw [ho e, hx e]) (fun hB' => hJ _ _ _ r.2.2 r.1 hB' g1 (by omega) (by omega)))⟩)⟩
theorem st_split (hB : Both A B o M17 σ t) (hI : Inv σ c) (hc : c ≤ 511) (hk : k18 ≤ 101 + sgN σ 2 + c) (hn : n19 ≤ 115300 + 8 * sgN σ 2 + 6 * c) (hJ : ∀ M22 k23 n24 σ' t', Both A B o M22 σ' t' → Inv σ' (c + 1) → k23 ≤ 101 + sgN σ' 2 + (c + 1) → n24 ≤ 115300 + 8 * sgN σ' 2 + 6 * (c + 1) → J25 M22 k23 n24) (v1 : vp_in (x16 + 1) L) (v2 : vp_in (x16 + 2) L) : vp_in (x16 + 1) L ∧ vp_in (x16 + 2) L ∧ ∃ c48 s49, (k18 + c48 ≤ 601024 ∧ n19 + s49 ≤ 7293034) ∧ w_L_split c48 s49 M17 (A 0) (xs (Int32.toNatClampNeg (x16 + 1))) (xs (Int32.toNatClampNeg (x16 + 2))) o (fun M50 x51 => vp_in (x16 + 1) L ∧ vp_in (x16 + 2) L ∧ gT M50 (B 0) = some (6, 0) ∧ w_X6_split M50 (B 0) (xs (Int32.toNatClampNeg (x16 + 1))) (xs (Int32.toNatClampNeg (x16 + 2))) (fun M55 x56 => gT M55 (B 0) = some (6, 0) ∧ w_X6_thrown M55 (B 0) (fun x58 => (x58 = x51 → ∀ J59 : Prop, ((J25 M55 (k18 + c48) (n19 + s49)) → J59) → ((x51 = 0 → inA M55 o 11 0 ∧ (lg_cmp (gL M55 o (Int32.toNatClampNeg 0)) x56.toInt64 = 0 → J59) ∧ (¬ (lg_cmp (gL M55 o (Int32.toNatClampNeg 0)) x56.toInt64 = 0) → (0 : Int32) = 1)) ∧ (¬ (x51 = 0) → J59))) ∧ (¬ (x58 = x51) → (0 : Int32) = 1)))) := by
  have hk2 : c ≤ 512 := by omega
  have hne : ∀ j, vm j → B j ≠ o := fun j hj => o_ne hB hj
  obtain ⟨r, hr⟩ := ex2 6 6 (by omega) (by omega) (xs (Int32.toNatClampNeg (x16 + 1))) (xs (Int32.toNatClampNeg (x16 + 2))) (1, 0, σ) (f_split σ)
  obtain ⟨g1, g2⟩ := o_split hI hr
  have hm := g1.2.2.2
  exact ⟨v1, v2, sgN r.2.2 2 - sgN σ 2 + 1, 8 * (sgN r.2.2 2 - sgN σ 2) + 6, ⟨by omega, by omega⟩, c_split hB hI hk2 hr (fun M32 hO ho => ⟨v1, v2, rm_0 (oc_M hB hO), x_split (oc_M hB hO) hI hr (fun M37 x38 h37 hx => law_tail hO hne h37 (fun e => by rw [ho e, hx e]) (fun hB' => hJ _ _ _ r.2.2 r.1 hB' g1 (by omega) (by omega)))⟩)⟩
theorem st_deliver (hB : Both A B o M17 σ t) (hI : Inv σ c) (hc : c ≤ 511) (hk : k18 ≤ 101 + sgN σ 2 + c) (hn : n19 ≤ 115300 + 8 * sgN σ 2 + 6 * c) (hJ : ∀ M22 k23 n24 σ' t', Both A B o M22 σ' t' → Inv σ' (c + 1) → k23 ≤ 101 + sgN σ' 2 + (c + 1) → n24 ≤ 115300 + 8 * sgN σ' 2 + 6 * (c + 1) → J25 M22 k23 n24) (v1 : vp_in (x16 + 1) L) (v2 : vp_in (x16 + 2) L) : vp_in (x16 + 1) L ∧ vp_in (x16 + 2) L ∧ ∃ c66 s67, (k18 + c66 ≤ 601024 ∧ n19 + s67 ≤ 7293034) ∧ w_L_deliver c66 s67 M17 (A 0) (xs (Int32.toNatClampNeg (x16 + 1))) (xs (Int32.toNatClampNeg (x16 + 2))) o (fun M68 x69 => vp_in (x16 + 1) L ∧ vp_in (x16 + 2) L ∧ gT M68 (B 0) = some (6, 0) ∧ w_X6_deliver M68 (B 0) (xs (Int32.toNatClampNeg (x16 + 1))) (xs (Int32.toNatClampNeg (x16 + 2))) (fun M73 x74 => gT M73 (B 0) = some (6, 0) ∧ w_X6_thrown M73 (B 0) (fun x76 => (x76 = x69 → ∀ J77 : Prop, ((J25 M73 (k18 + c66) (n19 + s67)) → J77) → ((x69 = 0 → inA M73 o 11 0 ∧ (lg_cmp (gL M73 o (Int32.toNatClampNeg 0)) x74.toInt64 = 0 → J77) ∧ (¬ (lg_cmp (gL M73 o (Int32.toNatClampNeg 0)) x74.toInt64 = 0) → (0 : Int32) = 1)) ∧ (¬ (x69 = 0) → J77))) ∧ (¬ (x76 = x69) → (0 : Int32) = 1)))) := by
  have hk2 : c ≤ 512 := by omega
  have hne : ∀ j, vm j → B j ≠ o := fun j hj => o_ne hB hj
  obtain ⟨r, hr⟩ := ex2 6 6 (by omega) (by omega) (xs (Int32.toNatClampNeg (x16 + 1))) (xs (Int32.toNatClampNeg (x16 + 2))) (1, 0, σ) (f_deliver σ)
  obtain ⟨g1, g2⟩ := o_deliver hI hk2 hr
  have hm := g1.2.2.2
  exact ⟨v1, v2, sgN r.2.2 2 - sgN σ 2 + 1, 8 * (sgN r.2.2 2 - sgN σ 2) + 6, ⟨by omega, by omega⟩, c_deliver hB hI hk2 hr (fun M32 hO ho => ⟨v1, v2, rm_0 (oc_M hB hO), x_deliver (oc_M hB hO) hI hk2 hr (fun M37 x38 h37 hx => law_tail hO hne h37 (fun e => by rw [ho e, hx e]) (fun hB' => hJ _ _ _ r.2.2 r.1 hB' g1 (by omega) (by omega)))⟩)⟩
theorem st_deliverAll (hB : Both A B o M17 σ t) (hI : Inv σ c) (hc : c ≤ 511) (hk : k18 ≤ 101 + sgN σ 2 + c) (hn : n19 ≤ 115300 + 8 * sgN σ 2 + 6 * c) (hJ : ∀ M22 k23 n24 σ' t', Both A B o M22 σ' t' → Inv σ' (c + 1) → k23 ≤ 101 + sgN σ' 2 + (c + 1) → n24 ≤ 115300 + 8 * sgN σ' 2 + 6 * (c + 1) → J25 M22 k23 n24)  : gT M17 (A 0) = some (5, 0) ∧ ∃ c83 s84, (k18 + c83 ≤ 601024 ∧ n19 + s84 ≤ 7293034) ∧ w_X5_deliverAll c83 s84 M17 (A 0) (fun M85 x86 => gT M85 (B 0) = some (6, 0) ∧ w_X6_deliverAll M85 (B 0) (fun M88 x89 => (x86 = x89 → J25 M88 (k18 + c83) (n19 + s84)) ∧ (¬ (x86 = x89) → (0 : Int32) = 1))) := by
  have hk2 : c ≤ 512 := by omega
  have hne : ∀ j, vm j → B j ≠ o := fun j hj => o_ne hB hj
  obtain ⟨R, hR1, hR2, hR3⟩ := da_R (pd_OK c) (pd_falls c) (inv_PD hI hk2)
  have hph := inv_Ph hI
  have g1 := inv_all hI hk2 hR2
  have g2 : sgN σ 2 ≤ sgN (tickL (daN σ R).1) 2 := by
    have := da_2 σ 0 R
    rw [Nat.zero_add] at this
    exact this
  have hm := g1.2.2.2
  have hA : ∀ post : Mem → Int32 → Prop, (∀ M', OutC A B o M17 M' (tickL (daN σ R).1) → post M' (nI (daN σ R).2)) → _ := fun post => c_deliverAll (post := post) hB hI hk2 (show R ≤ 1000000 by omega) hR2 hR3
  refine ⟨(hA (fun _ _ => True) (fun _ _ => trivial)).1, sgN (tickL (daN σ R).1) 2 - sgN σ 2 + 1, 8 * (sgN (tickL (daN σ R).1) 2 - sgN σ 2) + 6, ⟨by omega, by omega⟩, (hA _ (fun M85 hO => ⟨rm_0 (oc_M hB hO), r_deliverAll (P := PD c) (oc_M hB hO) (fun τ h => pd_PM h) (fun τ h x y hx hy => pd_dlv h hx hy) (inv_PD hI hk2) hR2 hR3 (by omega) (fun M88 h88 => ⟨fun _ => hJ _ _ _ (tickL (daN σ R).1) 0 (both_M hO hne h88).1 g1 (by omega) (by omega), fun z => absurd rfl z⟩)⟩)).2⟩
theorem st_lines (hB : Both A B o M17 σ t) (hI : Inv σ c) (hc : c ≤ 511) (hk : k18 ≤ 101 + sgN σ 2 + c) (hn : n19 ≤ 115300 + 8 * sgN σ 2 + 6 * c) (hJ : ∀ M22 k23 n24 σ' t', Both A B o M22 σ' t' → Inv σ' (c + 1) → k23 ≤ 101 + sgN σ' 2 + (c + 1) → n24 ≤ 115300 + 8 * sgN σ' 2 + 6 * (c + 1) → J25 M22 k23 n24)  : gT M17 (A 0) = some (5, 0) ∧ w_X5_lines M17 (A 0) (fun x92 => gT M17 (B 0) = some (6, 0) ∧ w_X6_lines M17 (B 0) (fun M94 x95 => (x92 = x95 → J25 M94 k18 n19) ∧ (¬ (x92 = x95) → (0 : Int32) = 1))) := by
  have hk2 : c ≤ 512 := by omega
  have hne : ∀ j, vm j → B j ≠ o := fun j hj => o_ne hB hj
  obtain ⟨hl, hC⟩ := hB.1
  exact ⟨rp_0 hC, p_lines hC ⟨rm_0 hB.2.1, r_lines hB.2.1 (fun M94 h94 => ⟨fun _ => hJ _ _ _ σ 0 (both_M (oc_rf hB) hne h94).1 (inv_up hI (by omega)) (by omega) (by omega), fun z => absurd rfl z⟩)⟩⟩
theorem st_tree (hB : Both A B o M17 σ t) (hI : Inv σ c) (hc : c ≤ 511) (hk : k18 ≤ 101 + sgN σ 2 + c) (hn : n19 ≤ 115300 + 8 * sgN σ 2 + 6 * c) (hJ : ∀ M22 k23 n24 σ' t', Both A B o M22 σ' t' → Inv σ' (c + 1) → k23 ≤ 101 + sgN σ' 2 + (c + 1) → n24 ≤ 115300 + 8 * sgN σ' 2 + 6 * (c + 1) → J25 M22 k23 n24) (v1 : vp_in (x16 + 1) L) : vp_in (x16 + 1) L ∧ ∃ c98 s99, (k18 + c98 ≤ 601024 ∧ n19 + s99 ≤ 7293034) ∧ w_L_tree c98 s99 M17 (A 0) (xs (Int32.toNatClampNeg (x16 + 1))) o (fun M100 x101 => vp_in (x16 + 1) L ∧ gT M100 (B 0) = some (6, 0) ∧ w_X6_tree M100 (B 0) (xs (Int32.toNatClampNeg (x16 + 1))) (fun M104 x105 => gT M104 (B 0) = some (6, 0) ∧ w_X6_thrown M104 (B 0) (fun x107 => (x107 = x101 → ∀ J108 : Prop, ((J25 M104 (k18 + c98) (n19 + s99)) → J108) → ((x101 = 0 → inA M104 o 11 0 ∧ (lg_cmp (gL M104 o (Int32.toNatClampNeg 0)) x105.toInt64 = 0 → J108) ∧ (¬ (lg_cmp (gL M104 o (Int32.toNatClampNeg 0)) x105.toInt64 = 0) → (0 : Int32) = 1)) ∧ (¬ (x101 = 0) → J108))) ∧ (¬ (x107 = x101) → (0 : Int32) = 1)))) := by
  have hk2 : c ≤ 512 := by omega
  have hne : ∀ j, vm j → B j ≠ o := fun j hj => o_ne hB hj
  obtain ⟨r, hr⟩ := ex1 6 (by omega) (xs (Int32.toNatClampNeg (x16 + 1))) (1, 0, σ) (f_tree σ)
  obtain ⟨g1, g2⟩ := o_tree hI hr
  have hm := g1.2.2.2
  exact ⟨v1, sgN r.2.2 2 - sgN σ 2 + 1, 8 * (sgN r.2.2 2 - sgN σ 2) + 6, ⟨by omega, by omega⟩, c_tree hB hr (fun M32 hO ho => ⟨v1, rm_0 (oc_M hB hO), x_tree (oc_M hB hO) hI hr (fun M37 x38 h37 hx => law_tail hO hne h37 (fun e => by rw [ho e, hx e]) (fun hB' => hJ _ _ _ r.2.2 r.1 hB' g1 (by omega) (by omega)))⟩)⟩
theorem st_signOn (hB : Both A B o M17 σ t) (hI : Inv σ c) (hc : c ≤ 511) (hk : k18 ≤ 101 + sgN σ 2 + c) (hn : n19 ≤ 115300 + 8 * sgN σ 2 + 6 * c) (hJ : ∀ M22 k23 n24 σ' t', Both A B o M22 σ' t' → Inv σ' (c + 1) → k23 ≤ 101 + sgN σ' 2 + (c + 1) → n24 ≤ 115300 + 8 * sgN σ' 2 + 6 * (c + 1) → J25 M22 k23 n24) (v1 : vp_in (x16 + 1) L) (v2 : vp_in (x16 + 2) L) : vp_in (x16 + 1) L ∧ vp_in (x16 + 2) L ∧ ∃ c115 s116, (k18 + c115 ≤ 601024 ∧ n19 + s116 ≤ 7293034) ∧ w_L_signOn c115 s116 M17 (A 0) (xs (Int32.toNatClampNeg (x16 + 1))) (((xs (Int32.toNatClampNeg (x16 + 2))).toUInt32 % 65536).toInt32) o (fun M117 x118 => vp_in (x16 + 1) L ∧ vp_in (x16 + 2) L ∧ gT M117 (B 0) = some (6, 0) ∧ w_X6_signOn M117 (B 0) (xs (Int32.toNatClampNeg (x16 + 1))) (((xs (Int32.toNatClampNeg (x16 + 2))).toUInt32 % 65536).toInt32) (fun M122 x123 => gT M122 (B 0) = some (6, 0) ∧ w_X6_thrown M122 (B 0) (fun x125 => (x125 = x118 → ∀ J126 : Prop, ((J25 M122 (k18 + c115) (n19 + s116)) → J126) → ((x118 = 0 → inA M122 o 11 0 ∧ (lg_cmp (gL M122 o (Int32.toNatClampNeg 0)) x123.toInt64 = 0 → J126) ∧ (¬ (lg_cmp (gL M122 o (Int32.toNatClampNeg 0)) x123.toInt64 = 0) → (0 : Int32) = 1)) ∧ (¬ (x118 = 0) → J126))) ∧ (¬ (x125 = x118) → (0 : Int32) = 1)))) := by
  have hk2 : c ≤ 512 := by omega
  have hne : ∀ j, vm j → B j ≠ o := fun j hj => o_ne hB hj
  obtain ⟨r, hr⟩ := ex1 6 (by omega) (xs (Int32.toNatClampNeg (x16 + 1))) (1, 0, σ) (f_signOn σ (((xs (Int32.toNatClampNeg (x16 + 2))).toUInt32 % 65536).toInt32))
  obtain ⟨g1, g2⟩ := o_signOn hI hk2 hr
  have hm := g1.2.2.2
  exact ⟨v1, v2, sgN r.2.2 2 - sgN σ 2 + 1, 8 * (sgN r.2.2 2 - sgN σ 2) + 6, ⟨by omega, by omega⟩, c_signOn hB hI hk2 hr (fun M32 hO ho => ⟨v1, v2, rm_0 (oc_M hB hO), x_signOn (oc_M hB hO) hI hk2 hr (fun M37 x38 h37 hx => law_tail hO hne h37 (fun e => by rw [ho e, hx e]) (fun hB' => hJ _ _ _ r.2.2 r.1 hB' g1 (by omega) (by omega)))⟩)⟩
theorem st_quit (hB : Both A B o M17 σ t) (hI : Inv σ c) (hc : c ≤ 511) (hk : k18 ≤ 101 + sgN σ 2 + c) (hn : n19 ≤ 115300 + 8 * sgN σ 2 + 6 * c) (hJ : ∀ M22 k23 n24 σ' t', Both A B o M22 σ' t' → Inv σ' (c + 1) → k23 ≤ 101 + sgN σ' 2 + (c + 1) → n24 ≤ 115300 + 8 * sgN σ' 2 + 6 * (c + 1) → J25 M22 k23 n24) (v1 : vp_in (x16 + 1) L) : vp_in (x16 + 1) L ∧ ∃ c132 s133, (k18 + c132 ≤ 601024 ∧ n19 + s133 ≤ 7293034) ∧ w_L_quit c132 s133 M17 (A 0) (xs (Int32.toNatClampNeg (x16 + 1))) (fun M134 x135 => vp_in (x16 + 1) L ∧ gT M134 (B 0) = some (6, 0) ∧ w_X6_quit M134 (B 0) (xs (Int32.toNatClampNeg (x16 + 1))) (fun M138 => gT M138 (B 0) = some (6, 0) ∧ w_X6_thrown M138 (B 0) (fun x140 => (x140 = x135 → J25 M138 (k18 + c132) (n19 + s133)) ∧ (¬ (x140 = x135) → (0 : Int32) = 1)))) := by
  have hk2 : c ≤ 512 := by omega
  have hne : ∀ j, vm j → B j ≠ o := fun j hj => o_ne hB hj
  obtain ⟨r, hr⟩ := ex1 (sgN σ 0) (u_31 hI) (xs (Int32.toNatClampNeg (x16 + 1))) (1, 0, σ) (f_quit σ)
  obtain ⟨g1, g2⟩ := o_quit hI hk2 hr
  have hm := g1.2.2.2
  exact ⟨v1, sgN r.2.2 2 - sgN σ 2 + 1, 8 * (sgN r.2.2 2 - sgN σ 2) + 6, ⟨by omega, by omega⟩, c_quit hB hI hk2 hr (fun M32 hO => ⟨v1, rm_0 (oc_M hB hO), x_quit (oc_M hB hO) hI hk2 hr (fun M37 h37 => law_tail0 hO hne h37 (fun hB' => hJ _ _ _ r.2.2 r.1 hB' g1 (by omega) (by omega)))⟩)⟩
theorem st_join (hB : Both A B o M17 σ t) (hI : Inv σ c) (hc : c ≤ 511) (hk : k18 ≤ 101 + sgN σ 2 + c) (hn : n19 ≤ 115300 + 8 * sgN σ 2 + 6 * c) (hJ : ∀ M22 k23 n24 σ' t', Both A B o M22 σ' t' → Inv σ' (c + 1) → k23 ≤ 101 + sgN σ' 2 + (c + 1) → n24 ≤ 115300 + 8 * sgN σ' 2 + 6 * (c + 1) → J25 M22 k23 n24) (v1 : vp_in (x16 + 1) L) (v2 : vp_in (x16 + 2) L) : vp_in (x16 + 1) L ∧ vp_in (x16 + 2) L ∧ ∃ c144 s145, (k18 + c144 ≤ 601024 ∧ n19 + s145 ≤ 7293034) ∧ w_L_join c144 s145 M17 (A 0) (xs (Int32.toNatClampNeg (x16 + 1))) (xs (Int32.toNatClampNeg (x16 + 2))) o (fun M146 x147 => vp_in (x16 + 1) L ∧ vp_in (x16 + 2) L ∧ gT M146 (B 0) = some (6, 0) ∧ w_X6_join M146 (B 0) (xs (Int32.toNatClampNeg (x16 + 1))) (xs (Int32.toNatClampNeg (x16 + 2))) (fun M151 x152 => gT M151 (B 0) = some (6, 0) ∧ w_X6_thrown M151 (B 0) (fun x154 => (x154 = x147 → ∀ J155 : Prop, ((J25 M151 (k18 + c144) (n19 + s145)) → J155) → ((x147 = 0 → inA M151 o 11 0 ∧ (lg_cmp (gL M151 o (Int32.toNatClampNeg 0)) x152.toInt64 = 0 → J155) ∧ (¬ (lg_cmp (gL M151 o (Int32.toNatClampNeg 0)) x152.toInt64 = 0) → (0 : Int32) = 1)) ∧ (¬ (x147 = 0) → J155))) ∧ (¬ (x154 = x147) → (0 : Int32) = 1)))) := by
  have hk2 : c ≤ 512 := by omega
  have hne : ∀ j, vm j → B j ≠ o := fun j hj => o_ne hB hj
  obtain ⟨r, hr⟩ := ex2 (sgN σ 0) 4 (u_31 hI) (by omega) (xs (Int32.toNatClampNeg (x16 + 1))) (xs (Int32.toNatClampNeg (x16 + 2))) (1, 0, σ) (f_join σ)
  obtain ⟨g1, g2⟩ := o_join hI hk2 hr
  have hm := g1.2.2.2
  exact ⟨v1, v2, sgN r.2.2 2 - sgN σ 2 + 1, 8 * (sgN r.2.2 2 - sgN σ 2) + 6, ⟨by omega, by omega⟩, c_join hB hI hk2 hr (fun M32 hO ho => ⟨v1, v2, rm_0 (oc_M hB hO), x_join (oc_M hB hO) hI hk2 hr (fun M37 x38 h37 hx => law_tail hO hne h37 (fun e => by rw [ho e, hx e]) (fun hB' => hJ _ _ _ r.2.2 r.1 hB' g1 (by omega) (by omega)))⟩)⟩
theorem st_leave (hB : Both A B o M17 σ t) (hI : Inv σ c) (hc : c ≤ 511) (hk : k18 ≤ 101 + sgN σ 2 + c) (hn : n19 ≤ 115300 + 8 * sgN σ 2 + 6 * c) (hJ : ∀ M22 k23 n24 σ' t', Both A B o M22 σ' t' → Inv σ' (c + 1) → k23 ≤ 101 + sgN σ' 2 + (c + 1) → n24 ≤ 115300 + 8 * sgN σ' 2 + 6 * (c + 1) → J25 M22 k23 n24) (v1 : vp_in (x16 + 1) L) (v2 : vp_in (x16 + 2) L) : vp_in (x16 + 1) L ∧ vp_in (x16 + 2) L ∧ ∃ c162 s163, (k18 + c162 ≤ 601024 ∧ n19 + s163 ≤ 7293034) ∧ w_L_leave c162 s163 M17 (A 0) (xs (Int32.toNatClampNeg (x16 + 1))) (xs (Int32.toNatClampNeg (x16 + 2))) (fun M164 x165 => vp_in (x16 + 1) L ∧ vp_in (x16 + 2) L ∧ gT M164 (B 0) = some (6, 0) ∧ w_X6_leave M164 (B 0) (xs (Int32.toNatClampNeg (x16 + 1))) (xs (Int32.toNatClampNeg (x16 + 2))) (fun M169 => gT M169 (B 0) = some (6, 0) ∧ w_X6_thrown M169 (B 0) (fun x171 => (x171 = x165 → J25 M169 (k18 + c162) (n19 + s163)) ∧ (¬ (x171 = x165) → (0 : Int32) = 1)))) := by
  have hk2 : c ≤ 512 := by omega
  have hne : ∀ j, vm j → B j ≠ o := fun j hj => o_ne hB hj
  obtain ⟨r, hr⟩ := ex2 (sgN σ 0) 4 (u_31 hI) (by omega) (xs (Int32.toNatClampNeg (x16 + 1))) (xs (Int32.toNatClampNeg (x16 + 2))) (1, 0, σ) (f_leave σ)
  obtain ⟨g1, g2⟩ := o_leave hI hk2 hr
  have hm := g1.2.2.2
  exact ⟨v1, v2, sgN r.2.2 2 - sgN σ 2 + 1, 8 * (sgN r.2.2 2 - sgN σ 2) + 6, ⟨by omega, by omega⟩, c_leave hB hI hk2 hr (fun M32 hO => ⟨v1, v2, rm_0 (oc_M hB hO), x_leave (oc_M hB hO) hI hk2 hr (fun M37 h37 => law_tail0 hO hne h37 (fun hB' => hJ _ _ _ r.2.2 r.1 hB' g1 (by omega) (by omega)))⟩)⟩
theorem st_setModes (hB : Both A B o M17 σ t) (hI : Inv σ c) (hc : c ≤ 511) (hk : k18 ≤ 101 + sgN σ 2 + c) (hn : n19 ≤ 115300 + 8 * sgN σ 2 + 6 * c) (hJ : ∀ M22 k23 n24 σ' t', Both A B o M22 σ' t' → Inv σ' (c + 1) → k23 ≤ 101 + sgN σ' 2 + (c + 1) → n24 ≤ 115300 + 8 * sgN σ' 2 + 6 * (c + 1) → J25 M22 k23 n24) (v1 : vp_in (x16 + 1) L) (v2 : vp_in (x16 + 2) L) (v3 : vp_in (x16 + 3) L) (v4 : vp_in (x16 + 4) L) : vp_in (x16 + 1) L ∧ vp_in (x16 + 2) L ∧ vp_in (x16 + 3) L ∧ vp_in (x16 + 4) L ∧ ∃ c177 s178, (k18 + c177 ≤ 601024 ∧ n19 + s178 ≤ 7293034) ∧ w_L_setModes c177 s178 M17 (A 0) (xs (Int32.toNatClampNeg (x16 + 1))) (xs (Int32.toNatClampNeg (x16 + 2))) (xs (Int32.toNatClampNeg (x16 + 3))) (xs (Int32.toNatClampNeg (x16 + 4))) o (fun M179 x180 => vp_in (x16 + 1) L ∧ vp_in (x16 + 2) L ∧ vp_in (x16 + 3) L ∧ vp_in (x16 + 4) L ∧ gT M179 (B 0) = some (6, 0) ∧ w_X6_setModes M179 (B 0) (xs (Int32.toNatClampNeg (x16 + 1))) (xs (Int32.toNatClampNeg (x16 + 2))) (xs (Int32.toNatClampNeg (x16 + 3))) (xs (Int32.toNatClampNeg (x16 + 4))) (fun M186 x187 => gT M186 (B 0) = some (6, 0) ∧ w_X6_thrown M186 (B 0) (fun x189 => (x189 = x180 → ∀ J190 : Prop, ((J25 M186 (k18 + c177) (n19 + s178)) → J190) → ((x180 = 0 → inA M186 o 11 0 ∧ (lg_cmp (gL M186 o (Int32.toNatClampNeg 0)) x187.toInt64 = 0 → J190) ∧ (¬ (lg_cmp (gL M186 o (Int32.toNatClampNeg 0)) x187.toInt64 = 0) → (0 : Int32) = 1)) ∧ (¬ (x180 = 0) → J190))) ∧ (¬ (x189 = x180) → (0 : Int32) = 1)))) := by
  have hk2 : c ≤ 512 := by omega
  have hne : ∀ j, vm j → B j ≠ o := fun j hj => o_ne hB hj
  obtain ⟨r, hr⟩ := ex2 (sgN σ 0) 4 (u_31 hI) (by omega) (xs (Int32.toNatClampNeg (x16 + 1))) (xs (Int32.toNatClampNeg (x16 + 2))) (1, 0, σ) (f_setModes σ (xs (Int32.toNatClampNeg (x16 + 3))) (xs (Int32.toNatClampNeg (x16 + 4))))
  obtain ⟨g1, g2⟩ := o_setModes hI hk2 hr
  have hm := g1.2.2.2
  exact ⟨v1, v2, v3, v4, sgN r.2.2 2 - sgN σ 2 + 1, 8 * (sgN r.2.2 2 - sgN σ 2) + 6, ⟨by omega, by omega⟩, c_setModes hB hI hk2 hr (fun M32 hO ho => ⟨v1, v2, v3, v4, rm_0 (oc_M hB hO), x_setModes (oc_M hB hO) hI hk2 hr (fun M37 x38 h37 hx => law_tail hO hne h37 (fun e => by rw [ho e, hx e]) (fun hB' => hJ _ _ _ r.2.2 r.1 hB' g1 (by omega) (by omega)))⟩)⟩
theorem st_say (hB : Both A B o M17 σ t) (hI : Inv σ c) (hc : c ≤ 511) (hk : k18 ≤ 101 + sgN σ 2 + c) (hn : n19 ≤ 115300 + 8 * sgN σ 2 + 6 * c) (hJ : ∀ M22 k23 n24 σ' t', Both A B o M22 σ' t' → Inv σ' (c + 1) → k23 ≤ 101 + sgN σ' 2 + (c + 1) → n24 ≤ 115300 + 8 * sgN σ' 2 + 6 * (c + 1) → J25 M22 k23 n24) (v1 : vp_in (x16 + 1) L) (v2 : vp_in (x16 + 2) L) : vp_in (x16 + 1) L ∧ vp_in (x16 + 2) L ∧ ∃ c197 s198, (k18 + c197 ≤ 601024 ∧ n19 + s198 ≤ 7293034) ∧ w_L_say c197 s198 M17 (A 0) (xs (Int32.toNatClampNeg (x16 + 1))) (xs (Int32.toNatClampNeg (x16 + 2))) o (fun M199 x200 => vp_in (x16 + 1) L ∧ vp_in (x16 + 2) L ∧ gT M199 (B 0) = some (6, 0) ∧ w_X6_say M199 (B 0) (xs (Int32.toNatClampNeg (x16 + 1))) (xs (Int32.toNatClampNeg (x16 + 2))) (fun M204 x205 => gT M204 (B 0) = some (6, 0) ∧ w_X6_thrown M204 (B 0) (fun x207 => (x207 = x200 → ∀ J208 : Prop, ((J25 M204 (k18 + c197) (n19 + s198)) → J208) → ((x200 = 0 → inA M204 o 11 0 ∧ (lg_cmp (gL M204 o (Int32.toNatClampNeg 0)) x205.toInt64 = 0 → J208) ∧ (¬ (lg_cmp (gL M204 o (Int32.toNatClampNeg 0)) x205.toInt64 = 0) → (0 : Int32) = 1)) ∧ (¬ (x200 = 0) → J208))) ∧ (¬ (x207 = x200) → (0 : Int32) = 1)))) := by
  have hk2 : c ≤ 512 := by omega
  have hne : ∀ j, vm j → B j ≠ o := fun j hj => o_ne hB hj
  obtain ⟨r, hr⟩ := ex2 (sgN σ 0) 4 (u_31 hI) (by omega) (xs (Int32.toNatClampNeg (x16 + 1))) (xs (Int32.toNatClampNeg (x16 + 2))) (1, 0, σ) (f_say σ)
  obtain ⟨g1, g2⟩ := o_say hI hr
  have hm := g1.2.2.2
  exact ⟨v1, v2, sgN r.2.2 2 - sgN σ 2 + 1, 8 * (sgN r.2.2 2 - sgN σ 2) + 6, ⟨by omega, by omega⟩, c_say hB hI hr (fun M32 hO ho => ⟨v1, v2, rm_0 (oc_M hB hO), x_say (oc_M hB hO) hI hr (fun M37 x38 h37 hx => law_tail hO hne h37 (fun e => by rw [ho e, hx e]) (fun hB' => hJ _ _ _ r.2.2 r.1 hB' g1 (by omega) (by omega)))⟩)⟩
theorem st_users (hB : Both A B o M17 σ t) (hI : Inv σ c) (hc : c ≤ 511) (hk : k18 ≤ 101 + sgN σ 2 + c) (hn : n19 ≤ 115300 + 8 * sgN σ 2 + 6 * c) (hJ : ∀ M22 k23 n24 σ' t', Both A B o M22 σ' t' → Inv σ' (c + 1) → k23 ≤ 101 + sgN σ' 2 + (c + 1) → n24 ≤ 115300 + 8 * sgN σ' 2 + 6 * (c + 1) → J25 M22 k23 n24)  : gT M17 (A 0) = some (5, 0) ∧ w_X5_users M17 (A 0) (fun x214 => gT M17 (B 0) = some (6, 0) ∧ w_X6_users M17 (B 0) (fun M216 x217 => (x214 = x217 → J25 M216 k18 n19) ∧ (¬ (x214 = x217) → (0 : Int32) = 1))) := by
  have hk2 : c ≤ 512 := by omega
  have hne : ∀ j, vm j → B j ≠ o := fun j hj => o_ne hB hj
  obtain ⟨hl, hC⟩ := hB.1
  exact ⟨rp_0 hC, p_users hC ⟨rm_0 hB.2.1, r_users hB.2.1 (fun M94 h94 => ⟨fun _ => hJ _ _ _ σ 0 (both_M (oc_rf hB) hne h94).1 (inv_up hI (by omega)) (by omega) (by omega), fun z => absurd rfl z⟩)⟩⟩
theorem st_clock (hB : Both A B o M17 σ t) (hI : Inv σ c) (hc : c ≤ 511) (hk : k18 ≤ 101 + sgN σ 2 + c) (hn : n19 ≤ 115300 + 8 * sgN σ 2 + 6 * c) (hJ : ∀ M22 k23 n24 σ' t', Both A B o M22 σ' t' → Inv σ' (c + 1) → k23 ≤ 101 + sgN σ' 2 + (c + 1) → n24 ≤ 115300 + 8 * sgN σ' 2 + 6 * (c + 1) → J25 M22 k23 n24)  : gT M17 (A 0) = some (5, 0) ∧ w_X5_clock M17 (A 0) (fun x220 => gT M17 (B 0) = some (6, 0) ∧ w_X6_clock M17 (B 0) (fun M222 x223 => (x220 = x223 → J25 M222 k18 n19) ∧ (¬ (x220 = x223) → (0 : Int32) = 1))) := by
  have hk2 : c ≤ 512 := by omega
  have hne : ∀ j, vm j → B j ≠ o := fun j hj => o_ne hB hj
  obtain ⟨hl, hC⟩ := hB.1
  exact ⟨rp_0 hC, p_clock hC ⟨rm_0 hB.2.1, r_clock hB.2.1 (fun M94 h94 => ⟨fun _ => hJ _ _ _ σ 0 (both_M (oc_rf hB) hne h94).1 (inv_up hI (by omega)) (by omega) (by omega), fun z => absurd rfl z⟩)⟩⟩
theorem st_known (hB : Both A B o M17 σ t) (hI : Inv σ c) (hc : c ≤ 511) (hk : k18 ≤ 101 + sgN σ 2 + c) (hn : n19 ≤ 115300 + 8 * sgN σ 2 + 6 * c) (hJ : ∀ M22 k23 n24 σ' t', Both A B o M22 σ' t' → Inv σ' (c + 1) → k23 ≤ 101 + sgN σ' 2 + (c + 1) → n24 ≤ 115300 + 8 * sgN σ' 2 + 6 * (c + 1) → J25 M22 k23 n24) (v1 : vp_in (x16 + 1) L) : vp_in (x16 + 1) L ∧ ∃ c226 s227, (k18 + c226 ≤ 601024 ∧ n19 + s227 ≤ 7293034) ∧ w_L_known c226 s227 M17 (A 0) (xs (Int32.toNatClampNeg (x16 + 1))) o (fun M228 x229 => vp_in (x16 + 1) L ∧ gT M228 (B 0) = some (6, 0) ∧ w_X6_known M228 (B 0) (xs (Int32.toNatClampNeg (x16 + 1))) (fun M232 x233 => gT M232 (B 0) = some (6, 0) ∧ w_X6_thrown M232 (B 0) (fun x235 => (x235 = x229 → ∀ J236 : Prop, ((J25 M232 (k18 + c226) (n19 + s227)) → J236) → ((x229 = 0 → inA M232 o 11 0 ∧ (lg_cmp (gL M232 o (Int32.toNatClampNeg 0)) x233.toInt64 = 0 → J236) ∧ (¬ (lg_cmp (gL M232 o (Int32.toNatClampNeg 0)) x233.toInt64 = 0) → (0 : Int32) = 1)) ∧ (¬ (x229 = 0) → J236))) ∧ (¬ (x235 = x229) → (0 : Int32) = 1)))) := by
  have hk2 : c ≤ 512 := by omega
  have hne : ∀ j, vm j → B j ≠ o := fun j hj => o_ne hB hj
  obtain ⟨r, hr⟩ := ex1 6 (by omega) (xs (Int32.toNatClampNeg (x16 + 1))) (1, 0, σ) (f_known σ)
  obtain ⟨g1, g2⟩ := o_known hI hr
  have hm := g1.2.2.2
  exact ⟨v1, sgN r.2.2 2 - sgN σ 2 + 1, 8 * (sgN r.2.2 2 - sgN σ 2) + 6, ⟨by omega, by omega⟩, c_known hB hr (fun M32 hO ho => ⟨v1, rm_0 (oc_M hB hO), x_known (oc_M hB hO) hI hr (fun M37 x38 h37 hx => law_tail hO hne h37 (fun e => by rw [ho e, hx e]) (fun hB' => hJ _ _ _ r.2.2 r.1 hB' g1 (by omega) (by omega)))⟩)⟩
theorem st_members (hB : Both A B o M17 σ t) (hI : Inv σ c) (hc : c ≤ 511) (hk : k18 ≤ 101 + sgN σ 2 + c) (hn : n19 ≤ 115300 + 8 * sgN σ 2 + 6 * c) (hJ : ∀ M22 k23 n24 σ' t', Both A B o M22 σ' t' → Inv σ' (c + 1) → k23 ≤ 101 + sgN σ' 2 + (c + 1) → n24 ≤ 115300 + 8 * sgN σ' 2 + 6 * (c + 1) → J25 M22 k23 n24) (v1 : vp_in (x16 + 1) L) (v2 : vp_in (x16 + 2) L) : vp_in (x16 + 1) L ∧ vp_in (x16 + 2) L ∧ ∃ c243 s244, (k18 + c243 ≤ 601024 ∧ n19 + s244 ≤ 7293034) ∧ w_L_members c243 s244 M17 (A 0) (xs (Int32.toNatClampNeg (x16 + 1))) (xs (Int32.toNatClampNeg (x16 + 2))) o (fun M245 x246 => vp_in (x16 + 1) L ∧ vp_in (x16 + 2) L ∧ gT M245 (B 0) = some (6, 0) ∧ w_X6_members M245 (B 0) (xs (Int32.toNatClampNeg (x16 + 1))) (xs (Int32.toNatClampNeg (x16 + 2))) (fun M250 x251 => gT M250 (B 0) = some (6, 0) ∧ w_X6_thrown M250 (B 0) (fun x253 => (x253 = x246 → ∀ J254 : Prop, ((J25 M250 (k18 + c243) (n19 + s244)) → J254) → ((x246 = 0 → inA M250 o 11 0 ∧ (lg_cmp (gL M250 o (Int32.toNatClampNeg 0)) x251.toInt64 = 0 → J254) ∧ (¬ (lg_cmp (gL M250 o (Int32.toNatClampNeg 0)) x251.toInt64 = 0) → (0 : Int32) = 1)) ∧ (¬ (x246 = 0) → J254))) ∧ (¬ (x253 = x246) → (0 : Int32) = 1)))) := by
  have hk2 : c ≤ 512 := by omega
  have hne : ∀ j, vm j → B j ≠ o := fun j hj => o_ne hB hj
  obtain ⟨r, hr⟩ := ex2 6 4 (by omega) (by omega) (xs (Int32.toNatClampNeg (x16 + 1))) (xs (Int32.toNatClampNeg (x16 + 2))) (1, 0, σ) (f_members σ)
  obtain ⟨g1, g2⟩ := o_members hI hr
  have hm := g1.2.2.2
  exact ⟨v1, v2, sgN r.2.2 2 - sgN σ 2 + 1, 8 * (sgN r.2.2 2 - sgN σ 2) + 6, ⟨by omega, by omega⟩, c_members hB hr (fun M32 hO ho => ⟨v1, v2, rm_0 (oc_M hB hO), x_members (oc_M hB hO) hI hr (fun M37 x38 h37 hx => law_tail hO hne h37 (fun e => by rw [ho e, hx e]) (fun hB' => hJ _ _ _ r.2.2 r.1 hB' g1 (by omega) (by omega)))⟩)⟩
theorem st_age (hB : Both A B o M17 σ t) (hI : Inv σ c) (hc : c ≤ 511) (hk : k18 ≤ 101 + sgN σ 2 + c) (hn : n19 ≤ 115300 + 8 * sgN σ 2 + 6 * c) (hJ : ∀ M22 k23 n24 σ' t', Both A B o M22 σ' t' → Inv σ' (c + 1) → k23 ≤ 101 + sgN σ' 2 + (c + 1) → n24 ≤ 115300 + 8 * sgN σ' 2 + 6 * (c + 1) → J25 M22 k23 n24) (v1 : vp_in (x16 + 1) L) (v2 : vp_in (x16 + 2) L) : vp_in (x16 + 1) L ∧ vp_in (x16 + 2) L ∧ ∃ c261 s262, (k18 + c261 ≤ 601024 ∧ n19 + s262 ≤ 7293034) ∧ w_L_age c261 s262 M17 (A 0) (xs (Int32.toNatClampNeg (x16 + 1))) (xs (Int32.toNatClampNeg (x16 + 2))) o (fun M263 x264 => vp_in (x16 + 1) L ∧ vp_in (x16 + 2) L ∧ gT M263 (B 0) = some (6, 0) ∧ w_X6_age M263 (B 0) (xs (Int32.toNatClampNeg (x16 + 1))) (xs (Int32.toNatClampNeg (x16 + 2))) (fun M268 x269 => gT M268 (B 0) = some (6, 0) ∧ w_X6_thrown M268 (B 0) (fun x271 => (x271 = x264 → ∀ J272 : Prop, ((J25 M268 (k18 + c261) (n19 + s262)) → J272) → ((x264 = 0 → inA M268 o 11 0 ∧ (lg_cmp (gL M268 o (Int32.toNatClampNeg 0)) x269.toInt64 = 0 → J272) ∧ (¬ (lg_cmp (gL M268 o (Int32.toNatClampNeg 0)) x269.toInt64 = 0) → (0 : Int32) = 1)) ∧ (¬ (x264 = 0) → J272))) ∧ (¬ (x271 = x264) → (0 : Int32) = 1)))) := by
  have hk2 : c ≤ 512 := by omega
  have hne : ∀ j, vm j → B j ≠ o := fun j hj => o_ne hB hj
  obtain ⟨r, hr⟩ := ex2 6 4 (by omega) (by omega) (xs (Int32.toNatClampNeg (x16 + 1))) (xs (Int32.toNatClampNeg (x16 + 2))) (1, 0, σ) (f_age σ)
  obtain ⟨g1, g2⟩ := o_age hI hr
  have hm := g1.2.2.2
  exact ⟨v1, v2, sgN r.2.2 2 - sgN σ 2 + 1, 8 * (sgN r.2.2 2 - sgN σ 2) + 6, ⟨by omega, by omega⟩, c_age hB hr (fun M32 hO ho => ⟨v1, v2, rm_0 (oc_M hB hO), x_age (oc_M hB hO) hI hr (fun M37 x38 h37 hx => law_tail hO hne h37 (fun e => by rw [ho e, hx e]) (fun hB' => hJ _ _ _ r.2.2 r.1 hB' g1 (by omega) (by omega)))⟩)⟩
theorem st_modes (hB : Both A B o M17 σ t) (hI : Inv σ c) (hc : c ≤ 511) (hk : k18 ≤ 101 + sgN σ 2 + c) (hn : n19 ≤ 115300 + 8 * sgN σ 2 + 6 * c) (hJ : ∀ M22 k23 n24 σ' t', Both A B o M22 σ' t' → Inv σ' (c + 1) → k23 ≤ 101 + sgN σ' 2 + (c + 1) → n24 ≤ 115300 + 8 * sgN σ' 2 + 6 * (c + 1) → J25 M22 k23 n24) (v1 : vp_in (x16 + 1) L) (v2 : vp_in (x16 + 2) L) : vp_in (x16 + 1) L ∧ vp_in (x16 + 2) L ∧ ∃ c279 s280, (k18 + c279 ≤ 601024 ∧ n19 + s280 ≤ 7293034) ∧ w_L_modes c279 s280 M17 (A 0) (xs (Int32.toNatClampNeg (x16 + 1))) (xs (Int32.toNatClampNeg (x16 + 2))) o (fun M281 x282 => vp_in (x16 + 1) L ∧ vp_in (x16 + 2) L ∧ gT M281 (B 0) = some (6, 0) ∧ w_X6_modes M281 (B 0) (xs (Int32.toNatClampNeg (x16 + 1))) (xs (Int32.toNatClampNeg (x16 + 2))) (fun M286 x287 => gT M286 (B 0) = some (6, 0) ∧ w_X6_thrown M286 (B 0) (fun x289 => (x289 = x282 → ∀ J290 : Prop, ((J25 M286 (k18 + c279) (n19 + s280)) → J290) → ((x282 = 0 → inA M286 o 11 0 ∧ (lg_cmp (gL M286 o (Int32.toNatClampNeg 0)) x287.toInt64 = 0 → J290) ∧ (¬ (lg_cmp (gL M286 o (Int32.toNatClampNeg 0)) x287.toInt64 = 0) → (0 : Int32) = 1)) ∧ (¬ (x282 = 0) → J290))) ∧ (¬ (x289 = x282) → (0 : Int32) = 1)))) := by
  have hk2 : c ≤ 512 := by omega
  have hne : ∀ j, vm j → B j ≠ o := fun j hj => o_ne hB hj
  obtain ⟨r, hr⟩ := ex2 6 4 (by omega) (by omega) (xs (Int32.toNatClampNeg (x16 + 1))) (xs (Int32.toNatClampNeg (x16 + 2))) (1, 0, σ) (f_modes σ)
  obtain ⟨g1, g2⟩ := o_modes hI hr
  have hm := g1.2.2.2
  exact ⟨v1, v2, sgN r.2.2 2 - sgN σ 2 + 1, 8 * (sgN r.2.2 2 - sgN σ 2) + 6, ⟨by omega, by omega⟩, c_modes hB hr (fun M32 hO ho => ⟨v1, v2, rm_0 (oc_M hB hO), x_modes (oc_M hB hO) hI hr (fun M37 x38 h37 hx => law_tail hO hne h37 (fun e => by rw [ho e, hx e]) (fun hB' => hJ _ _ _ r.2.2 r.1 hB' g1 (by omega) (by omega)))⟩)⟩
theorem st_bans (hB : Both A B o M17 σ t) (hI : Inv σ c) (hc : c ≤ 511) (hk : k18 ≤ 101 + sgN σ 2 + c) (hn : n19 ≤ 115300 + 8 * sgN σ 2 + 6 * c) (hJ : ∀ M22 k23 n24 σ' t', Both A B o M22 σ' t' → Inv σ' (c + 1) → k23 ≤ 101 + sgN σ' 2 + (c + 1) → n24 ≤ 115300 + 8 * sgN σ' 2 + 6 * (c + 1) → J25 M22 k23 n24) (v1 : vp_in (x16 + 1) L) (v2 : vp_in (x16 + 2) L) : vp_in (x16 + 1) L ∧ vp_in (x16 + 2) L ∧ ∃ c297 s298, (k18 + c297 ≤ 601024 ∧ n19 + s298 ≤ 7293034) ∧ w_L_bans c297 s298 M17 (A 0) (xs (Int32.toNatClampNeg (x16 + 1))) (xs (Int32.toNatClampNeg (x16 + 2))) o (fun M299 x300 => vp_in (x16 + 1) L ∧ vp_in (x16 + 2) L ∧ gT M299 (B 0) = some (6, 0) ∧ w_X6_bans M299 (B 0) (xs (Int32.toNatClampNeg (x16 + 1))) (xs (Int32.toNatClampNeg (x16 + 2))) (fun M304 x305 => gT M304 (B 0) = some (6, 0) ∧ w_X6_thrown M304 (B 0) (fun x307 => (x307 = x300 → ∀ J308 : Prop, ((J25 M304 (k18 + c297) (n19 + s298)) → J308) → ((x300 = 0 → inA M304 o 11 0 ∧ (lg_cmp (gL M304 o (Int32.toNatClampNeg 0)) x305.toInt64 = 0 → J308) ∧ (¬ (lg_cmp (gL M304 o (Int32.toNatClampNeg 0)) x305.toInt64 = 0) → (0 : Int32) = 1)) ∧ (¬ (x300 = 0) → J308))) ∧ (¬ (x307 = x300) → (0 : Int32) = 1)))) := by
  have hk2 : c ≤ 512 := by omega
  have hne : ∀ j, vm j → B j ≠ o := fun j hj => o_ne hB hj
  obtain ⟨r, hr⟩ := ex2 6 4 (by omega) (by omega) (xs (Int32.toNatClampNeg (x16 + 1))) (xs (Int32.toNatClampNeg (x16 + 2))) (1, 0, σ) (f_bans σ)
  obtain ⟨g1, g2⟩ := o_bans hI hr
  have hm := g1.2.2.2
  exact ⟨v1, v2, sgN r.2.2 2 - sgN σ 2 + 1, 8 * (sgN r.2.2 2 - sgN σ 2) + 6, ⟨by omega, by omega⟩, c_bans hB hr (fun M32 hO ho => ⟨v1, v2, rm_0 (oc_M hB hO), x_bans (oc_M hB hO) hI hr (fun M37 x38 h37 hx => law_tail hO hne h37 (fun e => by rw [ho e, hx e]) (fun hB' => hJ _ _ _ r.2.2 r.1 hB' g1 (by omega) (by omega)))⟩)⟩
theorem st_areSame (hB : Both A B o M17 σ t) (hI : Inv σ c) (hc : c ≤ 511) (hk : k18 ≤ 101 + sgN σ 2 + c) (hn : n19 ≤ 115300 + 8 * sgN σ 2 + 6 * c) (hJ : ∀ M22 k23 n24 σ' t', Both A B o M22 σ' t' → Inv σ' (c + 1) → k23 ≤ 101 + sgN σ' 2 + (c + 1) → n24 ≤ 115300 + 8 * sgN σ' 2 + 6 * (c + 1) → J25 M22 k23 n24) (v1 : vp_in (x16 + 1) L) (v2 : vp_in (x16 + 2) L) : vp_in (x16 + 1) L ∧ vp_in (x16 + 2) L ∧ ∃ c315 s316, (k18 + c315 ≤ 601024 ∧ n19 + s316 ≤ 7293034) ∧ w_L_areSame c315 s316 M17 (A 0) (xs (Int32.toNatClampNeg (x16 + 1))) (xs (Int32.toNatClampNeg (x16 + 2))) o (fun M317 x318 => vp_in (x16 + 1) L ∧ vp_in (x16 + 2) L ∧ gT M317 (B 0) = some (6, 0) ∧ w_X6_areSame M317 (B 0) (xs (Int32.toNatClampNeg (x16 + 1))) (xs (Int32.toNatClampNeg (x16 + 2))) (fun M322 x323 => gT M322 (B 0) = some (6, 0) ∧ w_X6_thrown M322 (B 0) (fun x325 => (x325 = x318 → ∀ J326 : Prop, ((J25 M322 (k18 + c315) (n19 + s316)) → J326) → ((x318 = 0 → inA M322 o 11 0 ∧ ∀ J329 : Int64 → Prop, (∀ (y328 : Int64), ((lg_cmp (gL M322 o (Int32.toNatClampNeg 0)) y328 = 0 → J326) ∧ (¬ (lg_cmp (gL M322 o (Int32.toNatClampNeg 0)) y328 = 0) → (0 : Int32) = 1)) → J329 y328) → ((x323 = 0 → J329 0) ∧ (¬ (x323 = 0) → J329 1))) ∧ (¬ (x318 = 0) → J326))) ∧ (¬ (x325 = x318) → (0 : Int32) = 1)))) := by
  have hk2 : c ≤ 512 := by omega
  have hne : ∀ j, vm j → B j ≠ o := fun j hj => o_ne hB hj
  obtain ⟨r, hr⟩ := sm_ex σ (xs (Int32.toNatClampNeg (x16 + 1))) (xs (Int32.toNatClampNeg (x16 + 2)))
  have hm := hI.2.2.2
  exact ⟨v1, v2, 1, 6, ⟨by omega, by omega⟩, c_areSame hB hr (fun M32 hO ho => ⟨v1, v2, rm_0 (oc_M hB hO), x_areSame (oc_M hB hO) hI hr (fun M37 x38 h37 hx => law_tailB hO hne h37 (fun e => by rw [hx e]; exact sm_01 hr e) (fun e => by rw [ho e, hx e]) (fun hB' => hJ _ _ _ σ r.1 hB' (inv_up hI (by omega)) (by omega) (by omega)))⟩)⟩
theorem st_joinedModes (hB : Both A B o M17 σ t) (hI : Inv σ c) (hc : c ≤ 511) (hk : k18 ≤ 101 + sgN σ 2 + c) (hn : n19 ≤ 115300 + 8 * sgN σ 2 + 6 * c) (hJ : ∀ M22 k23 n24 σ' t', Both A B o M22 σ' t' → Inv σ' (c + 1) → k23 ≤ 101 + sgN σ' 2 + (c + 1) → n24 ≤ 115300 + 8 * sgN σ' 2 + 6 * (c + 1) → J25 M22 k23 n24) (v1 : vp_in (x16 + 1) L) (v2 : vp_in (x16 + 2) L) (v3 : vp_in (x16 + 3) L) : vp_in (x16 + 1) L ∧ vp_in (x16 + 2) L ∧ vp_in (x16 + 3) L ∧ ∃ c337 s338, (k18 + c337 ≤ 601024 ∧ n19 + s338 ≤ 7293034) ∧ w_L_joinedModes c337 s338 M17 (A 0) (xs (Int32.toNatClampNeg (x16 + 1))) (xs (Int32.toNatClampNeg (x16 + 2))) (xs (Int32.toNatClampNeg (x16 + 3))) o (fun M339 x340 => vp_in (x16 + 1) L ∧ vp_in (x16 + 2) L ∧ vp_in (x16 + 3) L ∧ gT M339 (B 0) = some (6, 0) ∧ w_X6_joinedModes M339 (B 0) (xs (Int32.toNatClampNeg (x16 + 1))) (xs (Int32.toNatClampNeg (x16 + 2))) (xs (Int32.toNatClampNeg (x16 + 3))) (fun M345 x346 => gT M345 (B 0) = some (6, 0) ∧ w_X6_thrown M345 (B 0) (fun x348 => (x348 = x340 → ∀ J349 : Prop, ((J25 M345 (k18 + c337) (n19 + s338)) → J349) → ((x340 = 0 → inA M345 o 11 0 ∧ (lg_cmp (gL M345 o (Int32.toNatClampNeg 0)) x346.toInt64 = 0 → J349) ∧ (¬ (lg_cmp (gL M345 o (Int32.toNatClampNeg 0)) x346.toInt64 = 0) → (0 : Int32) = 1)) ∧ (¬ (x340 = 0) → J349))) ∧ (¬ (x348 = x340) → (0 : Int32) = 1)))) := by
  have hk2 : c ≤ 512 := by omega
  have hne : ∀ j, vm j → B j ≠ o := fun j hj => o_ne hB hj
  obtain ⟨r, hr⟩ := ex3 6 6 4 (by omega) (by omega) (by omega) (xs (Int32.toNatClampNeg (x16 + 1))) (xs (Int32.toNatClampNeg (x16 + 2))) (xs (Int32.toNatClampNeg (x16 + 3))) (1, 0, σ) (f_joinedModes σ)
  obtain ⟨g1, g2⟩ := o_joinedModes hI hr
  have hm := g1.2.2.2
  exact ⟨v1, v2, v3, sgN r.2.2 2 - sgN σ 2 + 1, 8 * (sgN r.2.2 2 - sgN σ 2) + 6, ⟨by omega, by omega⟩, c_joinedModes hB hr (fun M32 hO ho => ⟨v1, v2, v3, rm_0 (oc_M hB hO), x_joinedModes (oc_M hB hO) hI hr (fun M37 x38 h37 hx => law_tail hO hne h37 (fun e => by rw [ho e, hx e]) (fun hB' => hJ _ _ _ r.2.2 r.1 hB' g1 (by omega) (by omega)))⟩)⟩
end LV
theorem rp_newFo {A : Nat → Nat} {Fo : Nat → Prop} {M0 M M' : Mem} {σ : Sg} {hl : Nat → Option Ln} (h : RepC A (fun _ => False) M0 M σ hl) (hg : ∀ b, gT M b ≠ none → agr M M' b) (hF : ∀ b, Fo b → gT M b = none ∧ gT M' b ≠ none) : RepC A Fo M' M' σ hl := by
  have own : ∀ i, vid i → agr M M' (A i) := fun i hi => hg _ (sm (h.1.1 i hi))
  have v0 : vid 0 := by unfold vid; omega
  have v1 : vid 1 := by unfold vid; omega
  have v2 : vid 2 := by unfold vid; omega
  have v8 : vid 8 := by unfold vid; omega
  have nF : ∀ a t, gT M a = some t → ¬ Fo a := fun a t ha hb => by
    have := (hF a hb).1
    rw [ha] at this
    cases this
  have lin : ∀ a, okA (fun _ => False) M a → agr M M' a ∧ okA Fo M' a := fun a ha => by
    have g := hg a (sm ha.1)
    exact ⟨g, g.1.trans ha.1, nF a _ ha.1⟩
  obtain ⟨⟨s1, s2, ⟨⟨r0, r1, r2, r3, r4, r5⟩, r6, ⟨r7, r8⟩, r9, r10, r11⟩, s4, s5⟩, ⟨w1, w2, w3⟩, ⟨La, Sp, ow, q1, ⟨q2, q2b, q2c, q2d⟩, q3, ⟨q4, q5, q6⟩⟩, h6⟩ := h
  have g0 := own 0 v0
  have g2 := own 2 v2
  refine ⟨⟨fun i hi => (own i hi).1.trans (s1 i hi), s2, ⟨⟨(g0.2.2.1 0).trans r0, (g0.2.2.1 1).trans r1, (g0.2.2.1 2).trans r2, (g0.2.2.1 3).trans r3, (g0.2.2.1 4).trans r4, (g0.2.2.1 5).trans r5⟩, fun s hs => ((own 1 v1).2.2.1 s).trans (r6 s hs), ⟨(g2.2.2.1 0).trans r7, (g2.2.2.1 1).trans r8⟩, fun s hs => ((own (10 + s) (by unfold vid; omega)).2.2.1 1).trans (r9 s hs), fun s c hs hc => ((own (20 + s) (by unfold vid; omega)).2.2.1 c).trans (r10 s c hs hc), fun w hw => ((own 8 v8).2.2.1 w).trans (r11 w hw)⟩, fun i hi => nF _ _ (s1 i hi), fun b hb => ⟨(hF b hb).2, agr_rf⟩⟩, ⟨fun f i hd => ((own _ (dmn_vid hd).1).2.1 _).trans (w1 f i hd), (g0.2.1 6).trans w2, (g0.2.1 7).trans w3⟩, ⟨La, Sp, ow, fun w hw => ?_, ⟨(g2.2.2.1 3).trans q2, chn_agr Sp (fun a ha => (lin a (q2d a ha).2).1) q2b, q2c, fun a ha => ⟨(q2d a ha).1, (lin a (q2d a ha).2).2⟩⟩, fun a ln ha => ?_, ⟨(g2.2.1 2).trans q4, (g2.2.1 4).trans q5, q6⟩⟩, h6⟩
  · obtain ⟨b1, b2, b3, b4, b5, b6⟩ := q1 w hw
    have gw := own (60 + w) (by unfold vid; omega)
    exact ⟨(gw.2.2.1 0).trans b1, (gw.2.2.1 1).trans b2, chn_agr _ (fun a ha => (lin a (b6 a ha).2).1) b3, b4, FA2_mono _ _ (fun a ha x hx => ln_agr hx (lin a (b6 a ha).2).1) b5, fun a ha => ⟨(b6 a ha).1, (lin a (b6 a ha).2).2⟩⟩
  · obtain ⟨c1, c2, c3⟩ := q3 a ln ha
    exact ⟨c1, (lin a c2).2, ln_agr c3 (lin a c2).1⟩
theorem lt_5 : ∀ L, L < 5 → nI L - 5 < 0 := by decide
theorem head_c {L c : Nat} (hL : L ≤ 2560) (hc : c ≤ 512) (h : ¬ (nI L - 5 < nI (5 * c))) : 5 * c + 5 ≤ L := by
  by_cases h5 : L < 5
  · exfalso
    refine h (Int32.lt_iff_toInt_lt.mpr ?_)
    have h1 := Int32.lt_iff_toInt_lt.mp (lt_5 L h5)
    have h2 := nI_toInt (n := 5 * c) (by omega)
    have h3 : (0 : Int32).toInt = 0 := by decide
    omega
  · have e : nI L - 5 = nI (L - 5) := nI_sub (a := L) (b := 5) (by omega)
    rw [e] at h
    have h7 : ¬ L - 5 < 5 * c := fun z => h ((nI_ltI (a := L - 5) (b := 5 * c) (by omega) (by omega)).mpr z)
    omega
theorem law_holds (b L : Nat) (xs : Nat → Int32) (hL : L ≤ 2560) : w_L_law 601024 7293034 (fun _ => none, fun _ _ => 0, fun _ _ => none, fun _ _ => 0) b L xs := by
  refine ⟨⟨by omega, by omega⟩, fun q1 hq1 M2 e2 => ⟨80, 325, ⟨by omega, by omega⟩, p_x5init (Fo := fun _ => False) (by rw [e2, gT_sN, if_pos rfl]) (fun b hb => hb.elim) ⟨Nat.le_refl _, Nat.le_refl _⟩ (fun M6 A hl hA0 hC => ⟨⟨by omega, by omega⟩, fun q7 hq7 M8 e8 => ⟨18, 114928, ⟨by omega, by omega⟩, r_x6init (by rw [e8, gT_sN, if_pos rfl]) (fun j => by rw [e8, gI_sN, if_pos rfl]) ⟨Nat.le_refl _, Nat.le_refl _⟩ (fun M12 B hB0 hag hnew hR => ⟨⟨by omega, by omega⟩, fun q13 hq13 M14 e14 => ?_⟩)⟩⟩)⟩⟩
  have hTB : ∀ k, vm k → gT M12 (B k) = some (tyM k) := fun k hk => by
    obtain ⟨V, hV, -⟩ := hR
    exact rv_ty hV hk
  have hBo : ∀ k, vm k → B k ≠ q13 := fun k hk e => by
    have := hTB k hk
    rw [e, hq13] at this
    cases this
  have a86 : ∀ b, gT M6 b ≠ none → agr M6 M8 b := fun b hb => by
    rw [e8]
    exact agr_sN agr_rf (fun e => hb (e ▸ hq7))
  have a126 : ∀ b, gT M6 b ≠ none → agr M6 M12 b := fun b hb => by
    have g := a86 b hb
    exact agr_tr g (hag b (fun e => hb (e ▸ hq7)) (by rw [g.1]; exact hb))
  have a146 : ∀ b, gT M6 b ≠ none → agr M6 M14 b := fun b hb => by
    have g := a126 b hb
    refine agr_tr g ?_
    rw [e14]
    refine agr_sN agr_rf (fun e => ?_)
    have := g.1
    rw [e, hq13] at this
    exact hb (e ▸ this.symm)
  have n8 : ∀ b, gT M8 b = none → gT M6 b = none := fun b hb => by
    cases e : gT M6 b with
    | none => rfl
    | some t =>
      have := (a86 b (by rw [e]; exact fun z => by cases z)).1
      rw [hb, e] at this
      cases this
  have n12 : gT M6 q13 = none := by
    cases e : gT M6 q13 with
    | none => rfl
    | some t =>
      have := (a126 q13 (by rw [e]; exact fun z => by cases z)).1
      rw [hq13, e] at this
      cases this
  have hC14 : RepC A (FoB B q13) M14 M14 σ0 hl := by
    refine rp_newFo hC a146 (fun b hb => ?_)
    rcases hb with ⟨k, hk, e⟩ | e
    · rw [e]
      refine ⟨?_, ?_⟩
      · by_cases h0 : k = 0
        · rw [h0, hB0]; exact hq7
        · exact n8 _ (hnew k hk h0)
      · rw [e14, gT_sN, if_neg (hBo k hk), hTB k hk]
        exact fun z => by cases z
    · rw [e]
      refine ⟨n12, ?_⟩
      rw [e14, gT_sN, if_pos rfl]
      exact fun z => by cases z
  have hR14 : RepM B M14 M14 σ0 none 0 := rm_frame hR (fun k hk => by
    rw [e14]
    exact agr_sN agr_rf (hBo k hk))
  have hB14 : Both A B q13 M14 σ0 0 := ⟨⟨hl, hC14⟩, hR14, by rw [e14, gT_sN, if_pos rfl]⟩
  rw [← hA0, ← hB0]
  refine Lp_for 512 (fun i z => z.1 = nI (5 * i) ∧ ∃ σ t, Both A B q13 z.2.1 σ t ∧ Inv σ i ∧ z.2.2.1 ≤ 101 + sgN σ 2 + i ∧ z.2.2.2 ≤ 115300 + 8 * sgN σ 2 + 6 * i) (fun z => z.1.toNatClampNeg / 5) (fun c z hc hz => by rw [hz.1, clN (by omega)]; omega) ⟨rfl, σ0, 0, hB14, inv_0, by show 0 + 1 + 80 + 1 + 18 + 1 ≤ 101 + sgN σ0 2 + 0; omega, by show 0 + 8 + 325 + 29 + 114928 + 1 ≤ 115300 + 8 * sgN σ0 2 + 6 * 0; omega⟩ ?_
  intro c z K20 hc9 hz hK20 x16 M17 k18 n19 ez
  subst ez
  obtain ⟨hz1, σ, t, hB, hI, hk, hn⟩ := hz
  have hz1 : x16 = nI (5 * c) := hz1
  have hB : Both A B q13 M17 σ t := hB
  have hk : k18 ≤ 101 + sgN σ 2 + c := hk
  have hn : n19 ≤ 115300 + 8 * sgN σ 2 + 6 * c := hn
  refine ⟨fun _ => rfl, fun hnl => ?_⟩
  rw [hz1] at hnl
  have h5 := head_c hL hc9 hnl
  have hc : c ≤ 511 := by omega
  have hv : ∀ j, j < 5 → vp_in (x16 + nI j) L := fun j hj => by
    rw [hz1, nI_add]
    exact vp_in_nI (by omega) (by omega)
  have v0 : vp_in x16 L := by
    rw [hz1]
    exact vp_in_nI (by omega) (by omega)
  have v1 : vp_in (x16 + 1) L := hv 1 (by omega)
  have v2 : vp_in (x16 + 2) L := hv 2 (by omega)
  have v3 : vp_in (x16 + 3) L := hv 3 (by omega)
  have v4 : vp_in (x16 + 4) L := hv 4 (by omega)
  refine ⟨v0, fun J25 hJ25 => ?_⟩
  have hJ : ∀ M22 k23 n24 σ' t', Both A B q13 M22 σ' t' → Inv σ' (c + 1) → k23 ≤ 101 + sgN σ' 2 + (c + 1) → n24 ≤ 115300 + 8 * sgN σ' 2 + 6 * (c + 1) → J25 M22 k23 n24 := fun M22 k23 n24 σ' t' b1 b2 b3 b4 => hJ25 _ _ _ (fun x26 e26 => hK20 _ (by omega) ⟨by
    show x26 = nI (5 * (c + 1))
    rw [e26, hz1]
    exact nI_add (5 * c) 5, σ', t', b1, b2, b3, b4⟩)
  exact ⟨(fun _ => st_link hB hI hc hk hn hJ v1 v2), (fun _ => st_split hB hI hc hk hn hJ v1 v2), (fun _ => st_deliver hB hI hc hk hn hJ v1 v2), (fun _ => st_deliverAll hB hI hc hk hn hJ ), (fun _ => st_lines hB hI hc hk hn hJ ), (fun _ => st_tree hB hI hc hk hn hJ v1), (fun _ => st_signOn hB hI hc hk hn hJ v1 v2), (fun _ => st_quit hB hI hc hk hn hJ v1), (fun _ => st_join hB hI hc hk hn hJ v1 v2), (fun _ => st_leave hB hI hc hk hn hJ v1 v2), (fun _ => st_setModes hB hI hc hk hn hJ v1 v2 v3 v4), (fun _ => st_say hB hI hc hk hn hJ v1 v2), (fun _ => st_users hB hI hc hk hn hJ ), (fun _ => st_clock hB hI hc hk hn hJ ), (fun _ => st_known hB hI hc hk hn hJ v1), (fun _ => st_members hB hI hc hk hn hJ v1 v2), (fun _ => st_age hB hI hc hk hn hJ v1 v2), (fun _ => st_modes hB hI hc hk hn hJ v1 v2), (fun _ => st_bans hB hI hc hk hn hJ v1 v2), (fun _ => st_areSame hB hI hc hk hn hJ v1 v2), (fun _ => st_joinedModes hB hI hc hk hn hJ v1 v2 v3), fun _ => hJ M17 k18 n19 σ t hB (inv_up hI (by omega)) (by omega) (by omega)⟩
