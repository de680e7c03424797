/-! THE REFERENCE'S METHODS: lines -/
section RF2
variable {B : Nat → Nat} {M0 M : Mem} {σ : Sg} {c : Option Ln} {t : Int32}
theorem hd_k {e : Int32} {fr : List Nat} {n : Nat} (hn : fr.length + n = 16384) (hl : n < 16384) : ∃ k fr', fr = k :: fr' := by
  cases fr with
  | nil => exact absurd hn (by show ¬ 0 + n = 16384; omega)
  | cons k fr' => exact ⟨k, fr', rfl⟩
theorem r_puts {ln : Ln} (h : RepM B M0 M σ (some ln) t) {s d : Nat} (hs : s < 6) (hd : d < 6) (ht : tot σ < 16384) {post : Mem → Prop} (hp : ∀ M', RepM B M0 M' (putL σ (s * 6 + d) ln) (some ln) t → post M') : w_X6_puts M (B 0) (nI s) (nI d) post := by
  obtain ⟨V, hV, s1, s2, ⟨La, fr, ow, hQ⟩, s4⟩ := h
  obtain ⟨k, fr', rfl⟩ := hd_k (e := 0) hQ.2.2.1 ht
  have hQ2 := hQ
  obtain ⟨q1, ⟨f1, f2, f3, f4⟩, n1, n2⟩ := hQ2
  have hk : k < 16384 := (f4 k List.mem_cons_self).2
  have f1 : V 0 15 = nI k := f1
  have hw : s * 6 + d < 36 := by omega
  obtain ⟨c1, c2, c3, c4⟩ := s4 ln rfl
  generalize hwe : s * 6 + d = w at hw hp
  refine ⟨rv_0 hV, fun x2 e2 x3 e3 => ?_⟩
  rw [rv_rd hV vm0, f1] at e2
  rw [w6, hwe] at e3
  subst e2
  subst e3
  refine ⟨rv_0 hV, _, rv_rf hV vm16 (by decide), rv_in hV vm16 (by decide) hk, rv_0 hV, fun M8 e8 => ?_⟩
  rw [rv_rn hV vm16 (by omega)] at e8
  have h8 := rv_set hV vm0 15 (V 16 k)
  rw [← e8] at h8
  refine ⟨rv_0 h8, _, rv_rf h8 vm16 (by decide), rv_in h8 vm16 (by decide) hk, fun M11 e11 => ?_⟩
  have h11 := rv_sn h8 vm16 (show k < 2 ^ 31 by omega) (-1)
  rw [← e11] at h11
  refine ⟨rv_0 h11, _, rv_rf h11 vm17 (by decide), rv_0 h11, rv_in h11 vm17 (by decide) hk, fun M16 e16 => ?_⟩
  rw [rv_rd h11 vm0 23, up_k _ _ _ _ (by decide), up_j _ _ _ _ (by decide), c1] at e16
  have h16 := rv_sn h11 vm17 (show k < 2 ^ 31 by omega) ln.1
  rw [← e16] at h16
  refine ⟨rv_0 h16, _, rv_rf h16 vm18 (by decide), rv_0 h16, rv_in h16 vm18 (by decide) hk, fun M21 e21 => ?_⟩
  rw [rv_rd h16 vm0 24, up_k _ _ _ _ (by decide), up_k _ _ _ _ (by decide), up_j _ _ _ _ (by decide), c2] at e21
  have h21 := rv_sn h16 vm18 (show k < 2 ^ 31 by omega) ln.2.1
  rw [← e21] at h21
  refine ⟨rv_0 h21, _, rv_rf h21 vm19 (by decide), rv_0 h21, rv_in h21 vm19 (by decide) hk, fun M26 e26 => ?_⟩
  rw [rv_rd h21 vm0 25, up_k _ _ _ _ (by decide), up_k _ _ _ _ (by decide), up_k _ _ _ _ (by decide), up_j _ _ _ _ (by decide), c3] at e26
  have h26 := rv_sn h21 vm19 (show k < 2 ^ 31 by omega) ln.2.2.1
  rw [← e26] at h26
  refine ⟨rv_0 h26, _, rv_rf h26 vm20 (by decide), rv_0 h26, rv_in h26 vm20 (by decide) hk, fun M31 e31 => ?_⟩
  rw [rv_rd h26 vm0 26, up_k _ _ _ _ (by decide), up_k _ _ _ _ (by decide), up_k _ _ _ _ (by decide), up_k _ _ _ _ (by decide), up_j _ _ _ _ (by decide)] at e31
  have h31 := rv_sn h26 vm20 (show k < 2 ^ 31 by omega) (V 0 26)
  rw [← e31] at h31
  refine ⟨rv_0 h31, _, rv_rf h31 vm21 (by decide), rv_0 h31, rv_in h31 vm21 (by decide) hk, fun M36 e36 => ?_⟩
  rw [rv_rd h31 vm0 27, up_k _ _ _ _ (by decide), up_k _ _ _ _ (by decide), up_k _ _ _ _ (by decide), up_k _ _ _ _ (by decide), up_k _ _ _ _ (by decide), up_j _ _ _ _ (by decide)] at e36
  have h36 := rv_sn h31 vm21 (show k < 2 ^ 31 by omega) (V 0 27)
  rw [← e36] at h36
  refine ⟨rv_0 h36, _, rv_rf h36 vm22 (by decide), rv_0 h36, rv_in h36 vm22 (by decide) hk, fun M41 e41 => ?_⟩
  rw [rv_rd h36 vm0 28, up_k _ _ _ _ (by decide), up_k _ _ _ _ (by decide), up_k _ _ _ _ (by decide), up_k _ _ _ _ (by decide), up_k _ _ _ _ (by decide), up_k _ _ _ _ (by decide), up_j _ _ _ _ (by decide)] at e41
  have h41 := rv_sn h36 vm22 (show k < 2 ^ 31 by omega) (V 0 28)
  rw [← e41] at h41
  -- what stands in the cells now
  generalize hV41 : up (up (up (up (up (up (up (up V 0 15 (V 16 k)) 16 k (-1)) 17 k ln.1) 18 k ln.2.1) 19 k ln.2.2.1) 20 k (V 0 26)) 21 k (V 0 27)) 22 k (V 0 28) = V41 at h41
  have g0 : ∀ j, j ≠ 15 → V41 0 j = V 0 j := fun j hj => by rw [← hV41]; simp [up_rd, hj]
  have g15 : V41 0 15 = V 16 k := by rw [← hV41]; simp [up_rd]
  have gk : ∀ f j, f ≠ 0 → f ≤ 15 → V41 f j = V f j := fun f j h1 h2 => by
    rw [← hV41]
    rw [up_k _ _ _ _ (by omega), up_k _ _ _ _ (by omega), up_k _ _ _ _ (by omega), up_k _ _ _ _ (by omega), up_k _ _ _ _ (by omega), up_k _ _ _ _ (by omega), up_k _ _ _ _ (by omega), up_k _ _ _ _ (by omega)]
  have gj : ∀ f j, f ≠ 0 → j ≠ k → V41 f j = V f j := fun f j h1 h2 => by
    rw [← hV41]
    rw [up_j _ _ _ _ h2, up_j _ _ _ _ h2, up_j _ _ _ _ h2, up_j _ _ _ _ h2, up_j _ _ _ _ h2, up_j _ _ _ _ h2, up_j _ _ _ _ h2, up_k _ _ _ _ h1]
  have g16 : V41 16 k = -1 := by rw [← hV41]; simp [up_rd]
  have gl : lnM V41 k ln := by
    rw [← hV41]
    exact ⟨by simp [up_rd], by simp [up_rd], by simp [up_rd], fun hz => by
      obtain ⟨z1, z2, z3⟩ := c4 hz
      refine ⟨?_, ?_, ?_⟩
      · rw [← z1]; simp [up_rd]
      · rw [← z2]; simp [up_rd]
      · rw [← z3]; simp [up_rd]⟩
  obtain ⟨b1, b2, b3, b4, b5, b6⟩ := q1 w hw
  have v12 : gI M41 (B 12) (Int32.toNatClampNeg (nI w)) = hdM (-1) (La w) := by rw [rv_rn h41 vm12 (by omega), gk 12 w (by decide) (by decide), b1]
  refine ⟨rv_0 h41, _, rv_rf h41 vm12 (by decide), rv_in h41 vm12 (by decide) hw, fun J hJ => ?_⟩
  -- behind the two ways
  have fin : ∀ M46 V46, RpV B M0 M46 V46 → (∀ j, V46 0 j = V41 0 j) → (∀ v, v ≠ w → V46 12 v = V41 12 v) → V46 12 w = hdM (nI k) (La w) → (∀ f j, f ≠ 12 → f ≠ 16 → V46 f j = V41 f j) → (∀ a, (La w).getLast? ≠ some a → V46 16 a = V41 16 a) → (∀ a, (La w).getLast? = some a → V46 16 a = nI k) → J M46 := by
    intro M46 V46 h46 z0 z12 z12w zf z16 z16l
    refine hJ M46 ⟨rv_0 h46, _, rv_rf h46 vm13 (by decide), rv_in h46 vm13 (by decide) hw, fun M50 e50 => ?_⟩
    have h50 := rv_sn h46 vm13 (show w < 2 ^ 31 by omega) (nI k)
    rw [← e50] at h50
    refine ⟨rv_0 h50, rv_0 h50, fun M54 e54 => hp M54 ?_⟩
    rw [rv_rd h50 vm0 14, up_k _ _ _ _ (by decide), z0, g0 14 (by decide)] at e54
    have h54 := rv_set h50 vm0 14 (V 0 14 + 1)
    rw [← e54] at h54
    have hlk : ∀ a, (La w).getLast? = some a → a ≠ k := fun a ha e => by
      have h9 := (b6 a (List.mem_of_getLast? ha)).1
      have h8 := (f4 k List.mem_cons_self).1
      rw [e] at h9
      omega
    refine ⟨_, h54, fun g j hg hc => ?_, ⟨?_, ?_, ?_⟩, ⟨fset La w (La w ++ [k]), fr', fset ow k w, ?_⟩, fun ln2 e => ?_⟩
    · have hkk := kid_k g j hg
      rw [up_k _ _ _ _ hkk.1, up_k _ _ _ _ (by omega), zf _ _ (by omega) (by omega), gk _ _ hkk.1 (by omega)]
      exact s1 g j hg hc
    · rw [up_j _ _ _ _ (by decide), up_k _ _ _ _ (by decide), z0, g0 _ (by decide)]; exact s2.1
    · rw [up_j _ _ _ _ (by decide), up_k _ _ _ _ (by decide), z0, g0 _ (by decide)]; exact s2.2.1
    · rw [up_j _ _ _ _ (by decide), up_k _ _ _ _ (by decide), z0, g0 _ (by decide)]; exact s2.2.2
    · refine qx_put hw hQ (fun v hv => ?_) (fun v hv => ?_) ?_ ?_ ?_ (fun a ha hl => ?_) (fun a ha => ?_) ?_ (fun f a hf ha => ?_) ?_ ?_
      · rw [up_k _ _ _ _ (by decide), up_k _ _ _ _ (by decide), z12 v hv, gk _ _ (by decide) (by decide)]
      · rw [up_k _ _ _ _ (by decide), up_j _ _ _ _ hv, zf _ _ (by decide) (by decide), gk _ _ (by decide) (by decide)]
      · rw [up_k _ _ _ _ (by decide), up_k _ _ _ _ (by decide), z12w]
      · rw [up_k _ _ _ _ (by decide), up_s]
      · rw [up_k _ _ _ _ (by decide), up_k _ _ _ _ (by decide), z16 k (fun e => hlk k e rfl), g16]
      · rw [up_k _ _ _ _ (by decide), up_k _ _ _ _ (by decide), z16 a hl, gj _ _ (by decide) ha]
      · rw [up_k _ _ _ _ (by decide), up_k _ _ _ _ (by decide), z16l a ha]
      · refine lnM_keep gl (fun f hf => ?_)
        rw [up_k _ _ _ _ (by omega), up_k _ _ _ _ (by omega), zf _ _ (by omega) (by omega)]
      · rw [up_k _ _ _ _ (by omega), up_k _ _ _ _ (by omega), zf _ _ (by omega) (by omega), gj _ _ (by omega) ha]
      · rw [up_s]
      · rw [up_j _ _ _ _ (by decide), up_k _ _ _ _ (by decide), z0, g15]
    · cases e
      refine cuM_keep (s4 ln rfl) (fun j hj => ?_)
      rw [up_j _ _ _ _ (by omega), up_k _ _ _ _ (by decide), z0, g0 _ (by omega)]
  cases hL : La w with
  | nil =>
    rw [hL] at v12
    refine ⟨fun e => ⟨rv_0 h41, _, rv_rf h41 vm12 (by decide), rv_in h41 vm12 (by decide) hw, fun M64 e64 => ?_⟩, fun e => absurd v12 e⟩
    have h64 := rv_sn h41 vm12 (show w < 2 ^ 31 by omega) (nI k)
    rw [← e64] at h64
    refine fin M64 _ h64 (fun j => up_k _ _ _ _ (by decide)) (fun v hv => up_j _ _ _ _ hv) ?_ (fun f j h1 h2 => up_k _ _ _ _ h1) (fun a _ => up_k _ _ _ _ (by decide)) (fun a ha => ?_)
    · rw [up_s, hL]; rfl
    · rw [hL] at ha; cases ha
  | cons a0 l =>
    rw [hL] at v12
    have ha0 : a0 < 16384 := (b6 a0 (by rw [hL]; exact List.mem_cons_self)).2
    obtain ⟨z, hz⟩ : ∃ z, (La w).getLast? = some z := by
      cases e : (La w).getLast? with
      | none => rw [List.getLast?_eq_none_iff] at e; rw [hL] at e; cases e
      | some z => exact ⟨z, rfl⟩
    have hzl : z < 16384 := (b6 z (List.mem_of_getLast? hz)).2
    have v13 : gI M41 (B 13) (Int32.toNatClampNeg (nI w)) = nI z := by rw [rv_rn h41 vm13 (by omega), gk 13 w (by decide) (by decide), b2 z hz]
    refine ⟨fun e => ?_, fun e => ⟨rv_0 h41, _, rv_rf h41 vm16 (by decide), rv_0 h41, _, rv_rf h41 vm13 (by decide), rv_in h41 vm13 (by decide) hw, ?_⟩⟩
    · rw [v12] at e
      exact absurd e (nI_m1 (by omega))
    · rw [v13]
      refine ⟨rv_in h41 vm16 (by decide) hzl, fun M60 e60 => ?_⟩
      have h60 := rv_sn h41 vm16 (show z < 2 ^ 31 by omega) (nI k)
      rw [← e60] at h60
      refine fin M60 _ h60 (fun j => up_k _ _ _ _ (by decide)) (fun v hv => up_k _ _ _ _ (by decide)) ?_ (fun f j h1 h2 => up_k _ _ _ _ h2) (fun a ha => up_j _ _ _ _ (fun e9 => ha (by rw [e9]; exact hz))) (fun a ha => ?_)
      · rw [up_k _ _ _ _ (by decide), gk _ _ (by decide) (by decide), b1, hL]; rfl
      · rw [hz] at ha
        cases ha
        exact up_s _ _ _ _
theorem r_sends {ln : Ln} (h : RepM B M0 M σ (some ln) t) {s : Nat} (hs : s < 6) (but : Int32) (ht : tot σ + 6 ≤ 16384) {post : Mem → Prop} (hp : ∀ M', RepM B M0 M' (spreadL σ s but ln) (some ln) t → post M') : w_X6_sends M (B 0) (nI s) but post := by
  refine Lp_for 6 (fun o z => z.1 = nI o ∧ RepM B M0 z.2 (spreadN σ s but ln o) (some ln) t) (fun z => z.1.toNatClampNeg) (fun c z hc hz => by rw [hz.1]; exact clN (by omega)) ⟨rfl, h⟩ ?_
  intro o z K ho hz hK x1 M2 ez
  subst ez
  obtain ⟨hz1, hz2⟩ := hz
  have hz1 : x1 = nI o := hz1
  have hz2 : RepM B M0 M2 (spreadN σ s but ln o) (some ln) t := hz2
  subst hz1
  refine ⟨fun e => ?_, fun e => ?_⟩
  · have : 6 ≤ o := (le_nI (a := 6) (by omega) (by omega)).mp e
    have e6 : o = 6 := by omega
    subst e6
    exact hp M2 hz2
  · have hlt : o < 6 := Nat.not_le.mp (fun h9 => e ((le_nI (a := 6) (by omega) (by omega)).mpr h9))
    refine ⟨rm_0 hz2, _, rm_rf hz2 vm6 (by decide), rm_in hz2 vm6 (by decide) hs, ?_⟩
    rw [rm_lk hz2 hs, spreadN_I]
    refine r_has M2 _ (by omega) (fun J hJ => ?_)
    have key : ∀ M8, RepM B M0 M8 (spreadN σ s but ln (o + 1)) (some ln) t → J M8 := fun M8 h8 => hJ M8 (fun x10 e10 => hK _ hlt ⟨by show x10 = nI (o + 1); rw [e10, nI_1], h8⟩)
    refine sp (fun hb => key _ ?_) (fun hb => ⟨fun e2 => key _ ?_, fun e2 => ⟨rm_0 hz2, r_puts hz2 hs hlt ?_ (fun M12 h12 => key _ ?_)⟩⟩)
    · show RepM B M0 M2 (if ¬ nI o = but ∧ bt (sgI σ 0 s) o = true then _ else spreadN σ s but ln o) _ _
      rw [if_neg (fun z => by rw [hb] at z; exact absurd z.2 (by decide))]
      exact hz2
    · show RepM B M0 M2 (if ¬ nI o = but ∧ bt (sgI σ 0 s) o = true then _ else spreadN σ s but ln o) _ _
      rw [if_neg (fun z => z.1 e2)]
      exact hz2
    · have := (spreadN_tot σ hs but ln o ho).1
      omega
    · show RepM B M0 M12 (if ¬ nI o = but ∧ bt (sgI σ 0 s) o = true then putL (spreadN σ s but ln o) (s * 6 + o) ln else _) _ _
      rw [if_pos ⟨e2, hb⟩]
      exact h12
theorem r_takes (h : RepM B M0 M σ c t) {w : Nat} (hw : w < 36) {ln : Ln} {rest : List Ln} (hq : sgQ σ w = ln :: rest) {post : Mem → Prop} (hp : ∀ M', RepM B M0 M' (uQ σ w rest) (some ln) t → post M') : w_X6_takes M (B 0) (nI w) post := by
  obtain ⟨V, hV, s1, s2, ⟨La, fr, ow, hQ⟩, s4⟩ := h
  have hQ2 := hQ
  obtain ⟨q1, ⟨f1, f2, f3, f4⟩, n1, n2⟩ := hQ2
  obtain ⟨b1, b2, b3, b4, b5, b6⟩ := q1 w hw
  cases hL : La w with
  | nil => rw [hL, hq] at b5; exact b5.elim
  | cons k l =>
    rw [hL] at b1 b5
    rw [hq] at b5
    have hk : k < 16384 := (b6 k (by rw [hL]; exact List.mem_cons_self)).2
    have hl := b5.1
    obtain ⟨c1, c2, c3, c4⟩ := hl
    have b1 : V 12 w = nI k := b1
    refine ⟨rv_0 hV, _, rv_rf hV vm12 (by decide), rv_in hV vm12 (by decide) hw, fun x4 e4 => ?_⟩
    rw [rv_rn hV vm12 (by omega), b1] at e4
    subst e4
    refine ⟨rv_0 hV, _, rv_rf hV vm12 (by decide), rv_0 hV, _, rv_rf hV vm16 (by decide), rv_in hV vm16 (by decide) hk, rv_in hV vm12 (by decide) hw, fun M10 e10 => ?_⟩
    rw [rv_rn hV vm16 (by omega)] at e10
    have h10 := rv_sn hV vm12 (show w < 2 ^ 31 by omega) (V 16 k)
    rw [← e10] at h10
    refine ⟨rv_0 h10, _, rv_rf h10 vm17 (by decide), rv_in h10 vm17 (by decide) hk, rv_0 h10, fun M16 e16 => ?_⟩
    rw [rv_rn h10 vm17 (by omega), up_k _ _ _ _ (by decide)] at e16
    have h16 := rv_set h10 vm0 23 (V 17 k)
    rw [← e16] at h16
    refine ⟨rv_0 h16, _, rv_rf h16 vm18 (by decide), rv_in h16 vm18 (by decide) hk, rv_0 h16, fun M21 e21 => ?_⟩
    rw [rv_rn h16 vm18 (by omega), up_k _ _ _ _ (by decide), up_k _ _ _ _ (by decide)] at e21
    have h21 := rv_set h16 vm0 24 (V 18 k)
    rw [← e21] at h21
    refine ⟨rv_0 h21, _, rv_rf h21 vm19 (by decide), rv_in h21 vm19 (by decide) hk, rv_0 h21, fun M26 e26 => ?_⟩
    rw [rv_rn h21 vm19 (by omega), up_k _ _ _ _ (by decide), up_k _ _ _ _ (by decide), up_k _ _ _ _ (by decide)] at e26
    have h26 := rv_set h21 vm0 25 (V 19 k)
    rw [← e26] at h26
    refine ⟨rv_0 h26, _, rv_rf h26 vm20 (by decide), rv_in h26 vm20 (by decide) hk, rv_0 h26, fun M31 e31 => ?_⟩
    rw [rv_rn h26 vm20 (by omega), up_k _ _ _ _ (by decide), up_k _ _ _ _ (by decide), up_k _ _ _ _ (by decide), up_k _ _ _ _ (by decide)] at e31
    have h31 := rv_set h26 vm0 26 (V 20 k)
    rw [← e31] at h31
    refine ⟨rv_0 h31, _, rv_rf h31 vm21 (by decide), rv_in h31 vm21 (by decide) hk, rv_0 h31, fun M36 e36 => ?_⟩
    rw [rv_rn h31 vm21 (by omega), up_k _ _ _ _ (by decide), up_k _ _ _ _ (by decide), up_k _ _ _ _ (by decide), up_k _ _ _ _ (by decide), up_k _ _ _ _ (by decide)] at e36
    have h36 := rv_set h31 vm0 27 (V 21 k)
    rw [← e36] at h36
    refine ⟨rv_0 h36, _, rv_rf h36 vm22 (by decide), rv_in h36 vm22 (by decide) hk, rv_0 h36, fun M41 e41 => ?_⟩
    rw [rv_rn h36 vm22 (by omega), up_k _ _ _ _ (by decide), up_k _ _ _ _ (by decide), up_k _ _ _ _ (by decide), up_k _ _ _ _ (by decide), up_k _ _ _ _ (by decide), up_k _ _ _ _ (by decide)] at e41
    have h41 := rv_set h36 vm0 28 (V 22 k)
    rw [← e41] at h41
    refine ⟨rv_0 h41, _, rv_rf h41 vm16 (by decide), rv_0 h41, rv_in h41 vm16 (by decide) hk, fun M45 e45 => ?_⟩
    rw [rv_rd h41 vm0 15, up_j _ _ _ _ (by decide), up_j _ _ _ _ (by decide), up_j _ _ _ _ (by decide), up_j _ _ _ _ (by decide), up_j _ _ _ _ (by decide), up_j _ _ _ _ (by decide), up_k _ _ _ _ (by decide)] at e45
    have h45 := rv_sn h41 vm16 (show k < 2 ^ 31 by omega) (V 0 15)
    rw [← e45] at h45
    refine ⟨rv_0 h45, fun M48 e48 => ?_⟩
    have h48 := rv_set h45 vm0 15 (nI k)
    rw [← e48] at h48
    refine ⟨rv_0 h48, rv_0 h48, fun M51 e51 => hp M51 ?_⟩
    rw [rv_rd h48 vm0 14, up_j _ _ _ _ (by decide), up_k _ _ _ _ (by decide), up_j _ _ _ _ (by decide), up_j _ _ _ _ (by decide), up_j _ _ _ _ (by decide), up_j _ _ _ _ (by decide), up_j _ _ _ _ (by decide), up_j _ _ _ _ (by decide), up_k _ _ _ _ (by decide)] at e51
    have h51 := rv_set h48 vm0 14 (V 0 14 - 1)
    rw [← e51] at h51
    generalize hV51 : up (up (up (up (up (up (up (up (up (up V 12 w (V 16 k)) 0 23 (V 17 k)) 0 24 (V 18 k)) 0 25 (V 19 k)) 0 26 (V 20 k)) 0 27 (V 21 k)) 0 28 (V 22 k)) 16 k (V 0 15)) 0 15 (nI k)) 0 14 (V 0 14 - 1) = V51 at h51
    have gf : ∀ f j, f ≠ 0 → f ≠ 12 → f ≠ 16 → V51 f j = V f j := fun f j h0 h1 h2 => by
      rw [← hV51]
      rw [up_k _ _ _ _ h0, up_k _ _ _ _ h0, up_k _ _ _ _ h2, up_k _ _ _ _ h0, up_k _ _ _ _ h0, up_k _ _ _ _ h0, up_k _ _ _ _ h0, up_k _ _ _ _ h0, up_k _ _ _ _ h0, up_k _ _ _ _ h1]
    refine ⟨_, h51, fun g j hg hc => ?_, ⟨?_, ?_, ?_⟩, ⟨fset La w l, k :: fr, fset ow k 36, ?_⟩, fun ln2 e => ?_⟩
    · have hkk := kid_k g j hg
      rw [gf _ _ hkk.1 (by omega) (by omega)]
      exact s1 g j hg hc
    · rw [← hV51]; simp [up_rd]; exact s2.1
    · rw [← hV51]; simp [up_rd]; exact s2.2.1
    · rw [← hV51]; simp [up_rd]; exact s2.2.2
    · refine qx_take hw hQ hL hq ?_ (fun v hv => ?_) (fun v => gf 13 v (by decide) (by decide) (by decide)) ?_ (fun a ha => ?_) (fun f a hf => gf f a (by omega) (by omega) (by omega)) ?_ ?_
      · rw [← hV51]; simp [up_rd]
      · rw [← hV51]; simp [up_rd, hv]
      · rw [← hV51]; simp [up_rd]
      · rw [← hV51]; simp [up_rd, ha]
      · rw [← hV51]; simp [up_rd]
      · rw [← hV51]; simp [up_rd]
    · cases e
      refine ⟨?_, ?_, ?_, fun hz => ?_⟩
      · rw [← hV51, ← c1]; simp [up_rd]
      · rw [← hV51, ← c2]; simp [up_rd]
      · rw [← hV51, ← c3]; simp [up_rd]
      · obtain ⟨z1, z2, z3⟩ := c4 hz
        refine ⟨?_, ?_, ?_⟩
        · rw [← hV51, ← z1]; simp [up_rd]
        · rw [← hV51, ← z2]; simp [up_rd]
        · rw [← hV51, ← z3]; simp [up_rd]
end RF2
