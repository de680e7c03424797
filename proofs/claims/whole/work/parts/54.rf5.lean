/-! THE REFERENCE'S METHODS: bursts, links, deliveries -/
theorem z10 : ¬ (1 : Int32) = 0 := by decide
theorem z20 : ¬ (2 : Int32) = 0 := by decide
theorem z30 : ¬ (3 : Int32) = 0 := by decide
def allC (σ : Sg) : Prop := ∀ i, i < 24 → cI σ i
/-- what the reference's deliveries stand on -/
def PM (σ : Sg) : Prop := L6 σ ∧ WFu σ ∧ (∀ s, s < 6 → dst σ s) ∧ wfq σ ∧ (∀ w ln, w < 36 → ln ∈ sgQ σ w → lnX ln) ∧ allC σ ∧ tot σ + 11 ≤ 16384 ∧ ∀ x y, x < 6 → y < 6 → ¬ bt (sgI σ 0 x) y = true → sgQ σ (x * 6 + y) = []
section RF5
variable {B : Nat → Nat} {M0 M : Mem} {σ : Sg} {c : Option Ln} {t : Int32}
theorem rm_cap (h : RepM B M0 M σ c t) : tot σ ≤ 16384 := by
  obtain ⟨V, hV, -, -, ⟨La, fr, ow, -, -, n1, -⟩, -⟩ := h
  omega
theorem rm_hd (h : RepM B M0 M σ c t) {w : Nat} (hw : w < 36) : gI M (B 12) (Int32.toNatClampNeg (nI w)) = -1 ↔ sgQ σ w = [] := by
  obtain ⟨V, hV, -, -, ⟨La, fr, ow, q1, -⟩, -⟩ := h
  obtain ⟨b1, -, -, -, b5, b6⟩ := q1 w hw
  rw [rv_rn hV vm12 (by omega), b1]
  cases hL : La w with
  | nil =>
    rw [hL] at b5
    cases hq : sgQ σ w with
    | nil => exact ⟨fun _ => rfl, fun _ => rfl⟩
    | cons a l => rw [hq] at b5; exact b5.elim
  | cons k l =>
    rw [hL] at b5
    have hk := (b6 k (by rw [hL]; exact List.mem_cons_self)).2
    cases hq : sgQ σ w with
    | nil => rw [hq] at b5; exact b5.elim
    | cons a l2 => exact ⟨fun e => absurd e (nI_m1 (by omega)), fun e => by cases e⟩
theorem r_bursts (h : RepM B M0 M σ c t) (hu20 : sgN σ 0 ≤ 20) {s d : Nat} (hs : s < 6) (hd : d < 6) (hc : allC σ) (htt : tot σ + 24 ≤ 16384) {post : Mem → Prop} (hp : ∀ M', RepM B M0 M' (burstL σ s d) none t → post M') : w_X6_bursts M (B 0) (nI s) (nI d) post := by
  have hw : s * 6 + d < 36 := by omega
  refine Lp_for (sgN σ 0) (fun u z => z.1 = nI u ∧ RepM B M0 z.2 (bu1 σ s d u) none t) (fun z => z.1.toNatClampNeg) (fun c z hc hz => by rw [hz.1]; exact clN (by omega)) ⟨rfl, rm_none h⟩ ?_
  intro u z K hu hz hK x1 M2 ez
  subst ez
  obtain ⟨hz1, hz2⟩ := hz
  have hz1 : x1 = nI u := hz1
  have h2 : RepM B M0 M2 (bu1 σ s d u) none t := hz2
  subst hz1
  have u1 := bu1_up σ hw u
  refine ⟨rm_0 h2, ?_⟩
  rw [rm_us h2, u1.2.1 0 (by decide)]
  refine ⟨fun e => ?_, fun e => ?_⟩
  · have := (le_nI (by omega) (by omega)).mp e
    have e6 : u = sgN σ 0 := by omega
    subst e6
    refine Lp_for 4 (fun o z => z.1 = nI o ∧ RepM B M0 z.2 (bu2 σ s d o) none t) (fun z => z.1.toNatClampNeg) (fun c z hc hz => by rw [hz.1]; exact clN (by omega)) ⟨rfl, h2⟩ ?_
    intro o z K7 ho hz hK7 x5 M6 ez
    subst ez
    obtain ⟨hz1, hz2⟩ := hz
    have hz1 : x5 = nI o := hz1
    have h6 : RepM B M0 M6 (bu2 σ s d o) none t := hz2
    subst hz1
    have u2 := bu2_up σ hw o
    refine ⟨fun e => ?_, fun e => ?_⟩
    · have : 4 ≤ o := (le_nI (a := 4) (by omega) (by omega)).mp e
      have e6 : o = 4 := by omega
      subst e6
      exact hp M6 h6
    · have hlt : o < 4 := Nat.not_le.mp (fun h9 => e ((le_nI (a := 4) (by omega) (by omega)).mpr h9))
      have hi : s * 4 + o < 24 := by omega
      have hci := hc _ hi
      refine ⟨rm_0 h6, _, rm_rf h6 vm8 (by decide), r_at s o ⟨rm_in h6 vm8 (by decide) hi, fun J hJ => ?_⟩⟩
      have key : ∀ M8, RepM B M0 M8 (bu2 σ s d (o + 1)) none t → J M8 := fun M8 h8 => hJ M8 (fun x10 e10 => hK7 _ hlt ⟨by show x10 = nI (o + 1); rw [e10, nI_1], h8⟩)
      rw [rm_ag h6 hi, u2.1]
      refine ⟨fun e => key _ ?_, fun e => ⟨rm_0 h6, _, rm_rf h6 vm11 (by decide), r_at s o ⟨rm_in h6 vm11 (by decide) hi, rm_0 h6, ?_⟩⟩⟩
      · show RepM B M0 M6 (if ¬ sgI σ 5 (s * 4 + o) = 0 then _ else bu2 σ s d o) _ _
        rw [if_neg (fun z => z (hci.mpr e))]
        exact h6
      · rw [rm_mb h6 hi, u2.1]
        refine r_tells h6 2 hs hlt (by rw [u2.1]; exact e) _ (fun M20 h20 => ⟨rm_0 h20, r_puts h20 hs hd (by have := u2.2.2.1.2; omega) (fun M22 h22 => key _ ?_)⟩)
        rw [u2.1, u2.1, u2.1] at h22
        show RepM B M0 M22 (if ¬ sgI σ 5 (s * 4 + o) = 0 then putL (bu2 σ s d o) (s * 6 + d) (chLn σ s o) else _) _ _
        rw [if_pos (fun z => e (hci.mp z))]
        exact rm_none h22
  · have hlt : u < sgN σ 0 := Nat.not_le.mp (fun h9 => e ((le_nI (by omega) (by omega)).mpr h9))
    refine ⟨rm_0 h2, _, rm_rf h2 vm7 (by decide), rm_in h2 vm7 (by decide) hs, ?_⟩
    rw [rm_kn h2 hs, u1.1]
    refine r_has M2 _ (by omega) (fun J hJ => ?_)
    have key : ∀ M8, RepM B M0 M8 (bu1 σ s d (u + 1)) none t → J M8 := fun M8 h8 => hJ M8 (fun x10 e10 => hK _ hlt ⟨by show x10 = nI (u + 1); rw [e10, nI_1], h8⟩)
    refine sp (fun hb => key _ ?_) (fun hb => ⟨rm_0 h2, r_makes h2 (by decide) _ _ (fun M34 h34 => ⟨rm_0 h34, r_puts h34 hs hd ?_ (fun M36 h36 => key _ ?_)⟩)⟩)
    · show RepM B M0 M2 (if bt (sgI σ 1 s) u = true then _ else bu1 σ s d u) _ _
      rw [hb]
      exact h2
    · have := u1.2.2.1.2
      omega
    · show RepM B M0 M36 (if bt (sgI σ 1 s) u = true then putL (bu1 σ s d u) (s * 6 + d) (qln 0 u) else _) _ _
      rw [if_pos hb]
      exact rm_none h36
theorem connect_ne (σ : Sg) (s d : Nat) (f i : Nat) (hf : f ≠ 0) : sgI (connectL σ s d) f i = sgI σ f i := by
  show sgI (uI (uI σ 0 s _) 0 d _) f i = _
  rw [sgI_uI, if_neg (by omega), sgI_uI, if_neg (by omega)]
theorem allC_congr {σ τ : Sg} (h : allC σ) (h2 : ∀ i, sgI τ 2 i = sgI σ 2 i) (h5 : ∀ i, sgI τ 5 i = sgI σ 5 i) : allC τ := fun i hi => by
  unfold cI
  rw [h2, h5]
  exact h i hi
theorem r_link (h : RepM B M0 M σ c t) (hL : L6 σ) (hu20 : sgN σ 0 ≤ 20) (hc : allC σ) (htt : tot σ + 48 ≤ 16384) {p q : Int32} {post : Mem → Int32 → Prop}
    (h1 : ¬ (0 ≤ p ∧ p < 6) ∨ ¬ (0 ≤ q ∧ q < 6) → ∀ M', RepM B M0 M' σ none 1 → post M' 0)
    (h2 : ∀ s d, s < 6 → d < 6 → p = nI s → q = nI d → bt (treeL σ s) d = true → ∀ M', RepM B M0 M' σ none 2 → post M' 0)
    (hp : ∀ s d, s < 6 → d < 6 → p = nI s → q = nI d → ¬ bt (treeL σ s) d = true → ∀ M', RepM B M0 M' (linkL σ s d) none 0 → post M' (nI (tot (linkL σ s d)) - nI (tot σ))) : w_X6_link M (B 0) p q post := by
  have bad : ∀ Q : Prop, ((¬ (0 ≤ p ∧ p < 6) ∨ ¬ (0 ≤ q ∧ q < 6)) → (∀ M', RepM B M0 M' σ none 1 → post M' 0) → Q) → (¬ (0 ≤ p ∧ p < 6) ∨ ¬ (0 ≤ q ∧ q < 6)) → Q := fun Q hQ hn => hQ hn (h1 hn)
  refine r_srv (fun s hs es => ?_) (fun hn => ?_)
  · intro J3 hJ3 J35 hJ35
    refine ⟨fun z => absurd z z10, fun _ => r_srv (fun d hd ed => ⟨fun z => absurd z z10, fun _ => hJ3 1 (fun J5 hJ5 => ⟨fun z => absurd z z10, fun _ => ⟨rm_0 h, ?_⟩⟩)⟩) (fun hn => ⟨fun _ => hJ35 (hJ3 0 (fun J5 hJ5 => ⟨fun _ => hJ5 1 ⟨rm_0 h, r_holds h (fun e => absurd e z10) (fun _ M' h' => ⟨fun _ => h1 (Or.inr hn) M' (rm_none h'), fun z => absurd rfl z⟩)⟩, fun z => absurd rfl z⟩)), fun z => absurd rfl z⟩)⟩
    subst es
    subst ed
    refine r_treeOf h hL hs (r_has M _ (by omega) (sp (fun hb => hJ5 0 ⟨rm_0 h, r_holds h (fun _ M7 h7 => ⟨fun z => absurd z z10, fun _ => ⟨rm_0 h7, fun x10 e10 => ?_⟩⟩) (fun z => absurd rfl z)⟩) (fun hb => hJ5 2 ⟨rm_0 h, r_holds h (fun e => absurd e z20) (fun _ M' h' => ⟨fun _ => h2 s d hs hd rfl rfl hb M' (rm_none h'), fun z => absurd rfl z⟩)⟩)))
    rw [rm_tt h7] at e10
    refine ⟨rm_0 h7, _, rm_rf h7 vm6 (by decide), rm_in h7 vm6 (by decide) hs, rm_in h7 vm6 (by decide) hs, fun M14 e14 => ?_⟩
    rw [rm_lk h7 hs] at e14
    have h14 := rm_own h7 (f := 0) (i := s) hs (sb (sgI σ 0 s) (nI d)) (by omega) (k := 6) rfl (by omega)
    have h14 : RepM B M0 M14 (uI σ 0 s (sb (sgI σ 0 s) (nI d))) c 0 := by rw [e14]; exact h14
    refine ⟨rm_0 h14, _, rm_rf h14 vm6 (by decide), rm_in h14 vm6 (by decide) hd, rm_in h14 vm6 (by decide) hd, fun M19 e19 => ?_⟩
    rw [rm_lk h14 hd] at e19
    have h19 := rm_own h14 (f := 0) (i := d) hd (sb (sgI (uI σ 0 s (sb (sgI σ 0 s) (nI d))) 0 d) (nI s)) (by omega) (k := 6) rfl (by omega)
    have h19 : RepM B M0 M19 (connectL σ s d) c 0 := by rw [e19]; exact h19
    have hc1 : allC (connectL σ s d) := allC_congr hc (fun i => connect_ne σ s d 2 i (by decide)) (fun i => connect_ne σ s d 5 i (by decide))
    have ht1 : tot (connectL σ s d) = tot σ := rfl
    have u1 := burst_up (connectL σ s d) hs hd
    have n0 : sgN (connectL σ s d) 0 = sgN σ 0 := rfl
    refine ⟨rm_0 h19, r_bursts h19 hu20 hs hd hc1 (by omega) (fun M22 h22 => ⟨rm_0 h22, r_bursts h22 (by rw [u1.2.1 0 (by decide)]; exact hu20) hd hs (allC_congr hc1 (u1.1 2) (u1.1 5)) (by have := u1.2.2.1.2; omega) (fun M24 h24 => ⟨rm_0 h24, rm_0 h24, fun M27 e27 => ?_⟩)⟩)⟩
    have h27 := rm_tick h24 e27
    refine ⟨rm_0 h27, ?_⟩
    rw [rm_tt h27, e10]
    exact hp s d hs hd rfl rfl (by rw [hb]; decide) M27 h27
  · intro J3 hJ3 J35 hJ35
    exact ⟨fun _ => hJ35 (hJ3 0 (fun J5 hJ5 => ⟨fun _ => hJ5 1 ⟨rm_0 h, r_holds h (fun e => absurd e z10) (fun _ M' h' => ⟨fun _ => h1 (Or.inl hn) M' (rm_none h'), fun z => absurd rfl z⟩)⟩, fun z => absurd rfl z⟩)), fun z => absurd rfl z⟩
theorem r_forgets (h : RepM B M0 M σ c t) (hL : L6 σ) (hW : WFu σ) {post : Mem → Prop} (hp : ∀ M', RepM B M0 M' (fsN σ 6) c t → post M') : w_X6_forgets M (B 0) post := by
  refine Lp_for 6 (fun o z => z.1 = nI o ∧ RepM B M0 z.2 (fsN σ o) c t) (fun z => z.1.toNatClampNeg) (fun c z hc hz => by rw [hz.1]; exact clN (by omega)) ⟨rfl, h⟩ ?_
  intro o z K ho hz hK x1 M2 ez
  subst ez
  obtain ⟨hz1, hz2⟩ := hz
  have hz1 : x1 = nI o := hz1
  have h2 : RepM B M0 M2 (fsN σ o) c t := hz2
  subst hz1
  refine ⟨fun e => ?_, fun e => ?_⟩
  · have : 6 ≤ o := (le_nI (a := 6) (by omega) (by omega)).mp e
    have e6 : o = 6 := by omega
    subst e6
    exact hp M2 h2
  have hlt : o < 6 := Nat.not_le.mp (fun h9 => e ((le_nI (a := 6) (by omega) (by omega)).mpr h9))
  have hL2 : L6 (fsN σ o) := fun k hk i hi => by rw [fs_I σ 0 k (Or.inl rfl) o]; exact hL k hk i hi
  refine ⟨rm_0 h2, r_treeOf h2 hL2 hlt ?_⟩
  have hu20 := hW.1
  have hN : sgN (fsN σ o) 0 = sgN σ 0 := fs_N σ 0 o
  refine Lp_for (sgN σ 0) (fun u z => z.1 = nI u ∧ RepM B M0 z.2 (fuN (fsN σ o) o u) c t) (fun z => z.1.toNatClampNeg) (fun c z hc hz => by rw [hz.1]; exact clN (by omega)) ⟨rfl, h2⟩ ?_
  intro u z K8 hu hz hK8 x6 M7 ez
  subst ez
  obtain ⟨hz1, hz2⟩ := hz
  have hz1 : x6 = nI u := hz1
  have h7 : RepM B M0 M7 (fuN (fsN σ o) o u) c t := hz2
  subst hz1
  refine ⟨rm_0 h7, ?_⟩
  rw [rm_us h7, fu_N, hN]
  refine ⟨fun e => ?_, fun e => ?_⟩
  · have := (le_nI (by omega) (by omega)).mp e
    have e6 : u = sgN σ 0 := by omega
    intro x10 e10
    refine hK _ hlt ⟨by show x10 = nI (o + 1); rw [e10, nI_1], ?_⟩
    show RepM B M0 M7 (fuN (fsN σ o) o (sgN (fsN σ o) 0)) c t
    rw [hN, ← e6]
    exact h7
  · have hlu : u < sgN σ 0 := Nat.not_le.mp (fun h9 => e ((le_nI (by omega) (by omega)).mpr h9))
    obtain ⟨hm, hh, he⟩ := hW.2 u hlu
    have e7 : sgI (fuN (fsN σ o) o u) 7 u = nI hm := by rw [fu_I _ _ 7 u (Or.inr (by decide)), fs_I σ 7 u (Or.inr (by decide))]; exact he
    have e7' : (sgI (fsN σ o) 7 u).toNatClampNeg = hm := by rw [fs_I σ 7 u (Or.inr (by decide)), he, clN (by omega)]
    refine ⟨rm_0 h7, _, rm_rf h7 vm7 (by decide), rm_in h7 vm7 (by decide) hlt, ?_⟩
    rw [rm_kn h7 hlt]
    refine r_has M7 _ (by omega) (fun J hJ => ?_)
    have key : ∀ M8, RepM B M0 M8 (fuN (fsN σ o) o (u + 1)) c t → J M8 := fun M8 h8 => hJ M8 (fun x10 e10 => hK8 _ hlu ⟨by show x10 = nI (u + 1); rw [e10, nI_1], h8⟩)
    refine sp (fun hb => key _ ?_) (fun hb => ⟨rm_0 h7, _, rm_rf h7 vm4 (by decide), rm_in h7 vm4 (by decide) (show u < 20 by omega), ?_⟩)
    · show RepM B M0 M7 (if bt (sgI (fuN (fsN σ o) o u) 1 o) u = true ∧ _ then _ else _) _ _
      rw [if_neg (fun z => by rw [hb] at z; exact absurd z.1 (by decide))]
      exact h7
    · rw [rm_hm h7 (by omega), e7]
      refine r_has M7 _ (by omega) (sp (fun hb2 => ⟨rm_0 h7, r_quits h7 hlt (nI u) (fun M23 h23 => key _ ?_)⟩) (fun hb2 => key _ ?_))
      · show RepM B M0 M23 (if bt (sgI (fuN (fsN σ o) o u) 1 o) u = true ∧ ¬ bt (treeL (fsN σ o) o) (sgI (fsN σ o) 7 u).toNatClampNeg = true then _ else _) _ _
        rw [if_pos ⟨hb, by rw [e7', hb2]; decide⟩]
        exact h23
      · show RepM B M0 M7 (if bt (sgI (fuN (fsN σ o) o u) 1 o) u = true ∧ ¬ bt (treeL (fsN σ o) o) (sgI (fsN σ o) 7 u).toNatClampNeg = true then _ else _) _ _
        rw [if_neg (fun z => z.2 (by rw [e7']; exact hb2))]
        exact h7
/-- a queue's lines are lost -/
theorem r_lose (h : RepM B M0 M σ c t) {w : Nat} (hw : w < 36) {x : Int32} (hx : x = nI w) {Nx : Mem → Prop} (hp : ∀ M', RepM B M0 M' (uQ σ w []) none t → Nx M') : Lp (fun (K12 : Mem → Prop) (z : Mem) => ∀ (M11 : Mem), z = M11 → (gT M11 (B 0) = some (6, 0) ∧ ∃ b14, gR M11 (B 0) 12 = some b14 ∧ inA M11 b14 10 x ∧ (gI M11 b14 (Int32.toNatClampNeg x) = (-1) → Nx M11) ∧ (¬ (gI M11 b14 (Int32.toNatClampNeg x) = (-1)) → gT M11 (B 0) = some (6, 0) ∧ w_X6_takes M11 (B 0) x (fun M42 => K12 M42)))) M := by
  subst hx
  refine ⟨fun M11 => ∃ l, RepM B M0 M11 (uQ σ w l) none t, fun M11 => (gI M11 (B 0) 14).toNatClampNeg, ⟨sgQ σ w, rm_congr (rm_none h) (fun _ _ => rfl) rfl rfl (fun v => ?_)⟩, ?_⟩
  · rw [sgQ_uQ]
    split
    · rename_i e; rw [e]
    · rfl
  · rintro M11 ⟨l, h11⟩ M11' e11
    subst e11
    refine ⟨rm_0 h11, _, rm_rf h11 vm12 (by decide), rm_in h11 vm12 (by decide) hw, fun e => ?_, fun e => ?_⟩
    · have := (rm_hd h11 hw).mp e
      rw [sgQ_uQ, if_pos rfl] at this
      subst this
      exact hp _ h11
    · have hne : l ≠ [] := fun z => e ((rm_hd h11 hw).mpr (by rw [sgQ_uQ, if_pos rfl]; exact z))
      cases l with
      | nil => exact absurd rfl hne
      | cons ln rest =>
        refine ⟨rm_0 h11, r_takes h11 hw (ln := ln) (rest := rest) (by rw [sgQ_uQ, if_pos rfl]) (fun M42 h42 => ?_)⟩
        have h42 : RepM B M0 M42 (uQ σ w rest) none t := by
          rw [uQ_uQ] at h42
          exact rm_none h42
        refine ⟨⟨rest, h42⟩, ?_⟩
        have c1 := rm_cap h11
        have c2 := rm_cap h42
        show (gI M42 (B 0) 14).toNatClampNeg < (gI M11 (B 0) 14).toNatClampNeg
        rw [rm_tt h42, rm_tt h11, clN (by omega), clN (by omega)]
        have t1 := tot_uQ σ hw (ln :: rest)
        have t2 := tot_uQ σ hw rest
        rw [List.length_cons] at t1
        omega
theorem r_split (h : RepM B M0 M σ c t) (hL : L6 σ) (hW : WFu σ) {p q : Int32} {post : Mem → Int32 → Prop}
    (h1 : ¬ (0 ≤ p ∧ p < 6) ∨ ¬ (0 ≤ q ∧ q < 6) → ∀ M', RepM B M0 M' σ none 1 → post M' 0)
    (h2 : ∀ s d, s < 6 → d < 6 → p = nI s → q = nI d → ¬ bt (sgI σ 0 s) d = true → ∀ M', RepM B M0 M' σ none 2 → post M' 0)
    (hp : ∀ s d, s < 6 → d < 6 → p = nI s → q = nI d → bt (sgI σ 0 s) d = true → ∀ M', RepM B M0 M' (splitL σ s d) none 0 → post M' (nI (tot σ) - nI (tot (splitL σ s d)))) : w_X6_split M (B 0) p q post := by
  refine r_srv (fun s hs es => ?_) (fun hn => ?_)
  · intro J3 hJ3 J35 hJ35
    refine ⟨fun z => absurd z z10, fun _ => r_srv (fun d hd ed => ⟨fun z => absurd z z10, fun _ => hJ3 1 (fun J5 hJ5 => ⟨fun z => absurd z z10, fun _ => ⟨rm_0 h, ?_⟩⟩)⟩) (fun hn => ⟨fun _ => hJ35 (hJ3 0 (fun J5 hJ5 => ⟨fun _ => hJ5 1 ⟨rm_0 h, r_holds h (fun e => absurd e z10) (fun _ M' h' => ⟨fun _ => h1 (Or.inr hn) M' (rm_none h'), fun z => absurd rfl z⟩)⟩, fun z => absurd rfl z⟩)), fun z => absurd rfl z⟩)⟩
    subst es
    subst ed
    have hw1 : s * 6 + d < 36 := by omega
    have hw2 : d * 6 + s < 36 := by omega
    refine ⟨_, rm_rf h vm6 (by decide), rm_in h vm6 (by decide) hs, ?_⟩
    rw [rm_lk h hs]
    refine r_has M _ (by omega) (sp (fun hb => hJ5 2 ⟨rm_0 h, r_holds h (fun e => absurd e z20) (fun _ M' h' => ⟨fun _ => h2 s d hs hd rfl rfl (by rw [hb]; decide) M' (rm_none h'), fun z => absurd rfl z⟩)⟩) (fun hb => hJ5 0 ⟨rm_0 h, r_holds h (fun _ M7 h7 => ⟨fun z => absurd z z10, fun _ => ⟨rm_0 h7, fun x10 e10 => ?_⟩⟩) (fun z => absurd rfl z)⟩))
    rw [rm_tt h7] at e10
    refine r_lose h7 hw1 (w6 s d) (fun M11 h11 => r_lose h11 hw2 (w6 d s) (fun M16 h16 => ?_))
    refine ⟨rm_0 h16, _, rm_rf h16 vm6 (by decide), rm_in h16 vm6 (by decide) hs, rm_in h16 vm6 (by decide) hs, fun M24 e24 => ?_⟩
    rw [rm_lk h16 hs] at e24
    have h24 := rm_own h16 (f := 0) (i := s) hs (cb (sgI σ 0 s) (nI d)) (by omega) (k := 6) rfl (by omega)
    have h24 : RepM B M0 M24 (uI (uQ (uQ σ (s * 6 + d) []) (d * 6 + s) []) 0 s (cb (sgI σ 0 s) (nI d))) none 0 := by rw [e24]; exact h24
    refine ⟨rm_0 h24, _, rm_rf h24 vm6 (by decide), rm_in h24 vm6 (by decide) hd, rm_in h24 vm6 (by decide) hd, fun M29 e29 => ?_⟩
    rw [rm_lk h24 hd] at e29
    have h29 := rm_own h24 (f := 0) (i := d) hd (cb (sgI (uI (uQ (uQ σ (s * 6 + d) []) (d * 6 + s) []) 0 s (cb (sgI σ 0 s) (nI d))) 0 d) (nI s)) (by omega) (k := 6) rfl (by omega)
    have h29 : RepM B M0 M29 (cutL σ s d) none 0 := by rw [e29]; exact rm_congr h29 (fun _ _ => rfl) rfl rfl (fun _ => rfl)
    have hL2 : L6 (cutL σ s d) := fun k hk i hi => by
      show bt (sgI (uI (uI σ 0 s (cb (sgI σ 0 s) (nI d))) 0 d (cb (sgI (uI σ 0 s (cb (sgI σ 0 s) (nI d))) 0 d) (nI s))) 0 k) i = false
      have g : ∀ (m : Int32) (x : Nat), x < 6 → bt m i = false → bt (cb m (nI x)) i = false := fun m x hx hm => bt_false (fun e => by
        rw [(cb_bt m hx e).1] at hm; cases hm)
      rw [sgI_uI]
      split
      · refine g _ _ hs ?_
        rw [sgI_uI]
        split
        · exact g _ _ hd (hL s hs i hi)
        · exact hL d hd i hi
      · rw [sgI_uI]
        split
        · exact g _ _ hd (hL s hs i hi)
        · exact hL k hk i hi
    have hW2 : WFu (cutL σ s d) := WFu_congr hW rfl (fun u => cut_7 σ s d u 7 (by decide))
    refine ⟨rm_0 h29, r_forgets h29 hL2 hW2 (fun M32 h32 => ⟨rm_0 h32, rm_0 h32, fun M35 e35 => ?_⟩)⟩
    have h35 := rm_tick h32 e35
    refine ⟨rm_0 h35, ?_⟩
    rw [rm_tt h35, e10]
    exact hp s d hs hd rfl rfl hb M35 h35
  · intro J3 hJ3 J35 hJ35
    exact ⟨fun _ => hJ35 (hJ3 0 (fun J5 hJ5 => ⟨fun _ => hJ5 1 ⟨rm_0 h, r_holds h (fun e => absurd e z10) (fun _ M' h' => ⟨fun _ => h1 (Or.inl hn) M' (rm_none h'), fun z => absurd rfl z⟩)⟩, fun z => absurd rfl z⟩)), fun z => absurd rfl z⟩
theorem r_isLine (h : RepM B M0 M σ c t) {x y : Nat} (hx : x < 6) (hy : y < 6) {post : Int32 → Prop} (h0 : (¬ bt (sgI σ 0 x) y = true ∨ sgQ σ (x * 6 + y) = []) → post 0) (h1 : bt (sgI σ 0 x) y = true → sgQ σ (x * 6 + y) ≠ [] → post 1) : w_X6_isLine M (B 0) (nI x) (nI y) post := by
  have hw : x * 6 + y < 36 := by omega
  refine ⟨rm_0 h, _, rm_rf h vm6 (by decide), rm_in h vm6 (by decide) hx, ?_⟩
  rw [rm_lk h hx]
  refine r_has M _ (by omega) (fun J hJ J7 hJ7 => ?_)
  have no : (¬ bt (sgI σ 0 x) y = true ∨ sgQ σ (x * 6 + y) = []) → J7 := fun z => hJ7 (hJ 0 ⟨Or.inl rfl, h0 z⟩)
  refine sp (fun hb => no (Or.inl (by rw [hb]; decide))) (fun hb => ⟨rm_0 h, _, rm_rf h vm12 (by decide), ?_⟩)
  rw [w6]
  exact ⟨rm_in h vm12 (by decide) hw, fun e => no (Or.inr ((rm_hd h hw).mp e)), fun e => hJ 1 ⟨Or.inr rfl, h1 hb (fun z => e ((rm_hd h hw).mpr z))⟩⟩
theorem r_delivers (h : RepM B M0 M σ c t) (hP : PM σ) {x y : Nat} (hx : x < 6) (hy : y < 6) (hq : sgQ σ (x * 6 + y) ≠ []) {post : Mem → Prop} (hp : ∀ M', RepM B M0 M' (dlvL σ x y) none t → post M') : w_X6_delivers M (B 0) (nI x) (nI y) post := by
  obtain ⟨p1, p2, p3, p4, p5, p6, p7, p8⟩ := hP
  have hw : x * 6 + y < 36 := by omega
  cases hq2 : sgQ σ (x * 6 + y) with
  | nil => exact absurd hq2 hq
  | cons ln rest =>
    refine ⟨rm_0 h, ?_⟩
    rw [w6]
    refine r_takes h hw hq2 (fun M2 h2 => ?_)
    have h2' : RepM B M0 M2 (uN (uQ σ (x * 6 + y) rest) 3 (sgN σ 3 + 1)) (some ln) t := rm_congr h2 (fun _ _ => rfl) rfl rfl (fun _ => rfl)
    have t1 := tot_uQ σ hw rest
    rw [hq2, List.length_cons] at t1
    have t2 : tot (uN (uQ σ (x * 6 + y) rest) 3 (sgN σ 3 + 1)) = tot (uQ σ (x * 6 + y) rest) := rfl
    have hmem : ln ∈ sgQ σ (x * 6 + y) := by rw [hq2]; exact List.mem_cons_self
    refine ⟨rm_0 h2, r_gets h2' (fun k hk => p1 k hk) p2 hy hx (p3 y hy) (wf_congr (p4 _ ln hmem) rfl) (p5 _ ln hw hmem) (fun i hi => p6 i hi) (by omega) (fun M4 h4 => hp M4 ?_)⟩
    unfold dlvL
    rw [hq2]
    exact rm_congr h4 (fun _ _ => rfl) rfl rfl (fun _ => rfl)
theorem r_deliver (h : RepM B M0 M σ c t) (hP : PM σ) {p q : Int32} {post : Mem → Int32 → Prop}
    (h1 : ¬ (0 ≤ p ∧ p < 6) ∨ ¬ (0 ≤ q ∧ q < 6) → ∀ M', RepM B M0 M' σ none 1 → post M' 0)
    (h2 : ∀ s d, s < 6 → d < 6 → p = nI s → q = nI d → (¬ bt (sgI σ 0 s) d = true ∨ sgQ σ (s * 6 + d) = []) → ∀ M', RepM B M0 M' σ none 2 → post M' 0)
    (hp : ∀ s d, s < 6 → d < 6 → p = nI s → q = nI d → bt (sgI σ 0 s) d = true → sgQ σ (s * 6 + d) ≠ [] → ∀ M', RepM B M0 M' (tickL (dlvL σ s d)) none 0 → post M' (nI (tot (dlvL σ s d)))) : w_X6_deliver M (B 0) p q post := by
  refine r_srv (fun s hs es => ?_) (fun hn => ?_)
  · intro J3 hJ3 J35 hJ35
    refine ⟨fun z => absurd z z10, fun _ => r_srv (fun d hd ed => ⟨fun z => absurd z z10, fun _ => hJ3 1 (fun J5 hJ5 => ⟨fun z => absurd z z10, fun _ => ⟨rm_0 h, ?_⟩⟩)⟩) (fun hn => ⟨fun _ => hJ35 (hJ3 0 (fun J5 hJ5 => ⟨fun _ => hJ5 1 ⟨rm_0 h, r_holds h (fun e => absurd e z10) (fun _ M' h' => ⟨fun _ => h1 (Or.inr hn) M' (rm_none h'), fun z => absurd rfl z⟩)⟩, fun z => absurd rfl z⟩)), fun z => absurd rfl z⟩)⟩
    subst es
    subst ed
    refine r_isLine h hs hd (fun e => ⟨fun _ => hJ5 2 ⟨rm_0 h, r_holds h (fun e => absurd e z20) (fun _ M' h' => ⟨fun _ => h2 s d hs hd rfl rfl e M' (rm_none h'), fun z => absurd rfl z⟩)⟩, fun z => absurd rfl z⟩) (fun e1 e2 => ⟨fun z => absurd z z10, fun _ => hJ5 0 ⟨rm_0 h, r_holds h (fun _ M7 h7 => ⟨fun z => absurd z z10, fun _ => ⟨rm_0 h7, r_delivers h7 hP hs hd e2 (fun M10 h10 => ⟨rm_0 h10, rm_0 h10, fun M13 e13 => ?_⟩)⟩⟩) (fun z => absurd rfl z)⟩⟩)
    have h13 := rm_tick h10 e13
    refine ⟨rm_0 h13, ?_⟩
    rw [rm_tt h13]
    exact hp s d hs hd rfl rfl e1 e2 M13 h13
  · intro J3 hJ3 J35 hJ35
    exact ⟨fun _ => hJ35 (hJ3 0 (fun J5 hJ5 => ⟨fun _ => hJ5 1 ⟨rm_0 h, r_holds h (fun e => absurd e z10) (fun _ M' h' => ⟨fun _ => h1 (Or.inl hn) M' (rm_none h'), fun z => absurd rfl z⟩)⟩, fun z => absurd rfl z⟩)), fun z => absurd rfl z⟩
end RF5
/-! a round way by way -/
def dwN (τ : Sg) : Nat → Sg × Nat
  | 0 => (τ, 0)
  | w + 1 => (dlvL (dwN τ w).1 (w / 6) (w % 6), (dwN τ w).2 + (if sgQ (dwN τ w).1 (w / 6 * 6 + w % 6) = [] then 0 else 1))
theorem dw_I (τ : Sg) (x : Nat) (h : dwN τ (x * 6) = drO τ x) : ∀ y, y ≤ 6 → dwN τ (x * 6 + y) = drI (drO τ x) x y := by
  intro y
  induction y with
  | zero => intro _; exact h
  | succ y ih =>
    intro hy
    have e1 : (x * 6 + y) / 6 = x := by omega
    have e2 : (x * 6 + y) % 6 = y := by omega
    show (dlvL (dwN τ (x * 6 + y)).1 ((x * 6 + y) / 6) ((x * 6 + y) % 6), (dwN τ (x * 6 + y)).2 + (if sgQ (dwN τ (x * 6 + y)).1 ((x * 6 + y) / 6 * 6 + (x * 6 + y) % 6) = [] then 0 else 1)) = _
    rw [e1, e2, ih (by omega)]
    rfl
theorem dw_O (τ : Sg) : ∀ x, dwN τ (x * 6) = drO τ x := by
  intro x
  induction x with
  | zero => rfl
  | succ x ih =>
    rw [show (x + 1) * 6 = x * 6 + 6 by omega]
    exact dw_I τ x ih 6 (Nat.le_refl _)
theorem dw_L (τ : Sg) : dwN τ 36 = drL τ := dw_O τ 6
theorem dw_P {P : Sg → Prop} (hc : ∀ τ, P τ → ∀ x y, x < 6 → y < 6 → P (dlvL τ x y)) {τ : Sg} (h : P τ) : ∀ w, w ≤ 36 → P (dwN τ w).1 := by
  intro w
  induction w with
  | zero => intro _; exact h
  | succ w ih => intro hw; exact hc _ (ih (by omega)) _ _ (by omega) (by omega)
theorem way_d : ∀ w, w < 36 → nI w / 6 = nI (w / 6) ∧ nI w - nI w / 6 * 6 = nI (w % 6) := by decide +kernel
/-- a loop whose steps are counted, though the count doesn't stand in its state -/
theorem mx_ex {Q : Nat → Prop} : ∀ n, (∃ c, c ≤ n ∧ Q c) → ∃ c, c ≤ n ∧ Q c ∧ ∀ d, d ≤ n → Q d → d ≤ c := by
  intro n
  induction n with
  | zero =>
    rintro ⟨c, hc, hq⟩
    exact ⟨c, hc, hq, fun d hd _ => by omega⟩
  | succ n ih =>
    rintro ⟨c, hc, hq⟩
    by_cases h : Q (n + 1)
    · exact ⟨n + 1, Nat.le_refl _, h, fun d hd _ => hd⟩
    · have hc2 : c ≤ n := by
        by_cases e : c = n + 1
        · rw [e] at hq; exact absurd hq h
        · omega
      obtain ⟨m, m1, m2, m3⟩ := ih ⟨c, hc2, hq⟩
      refine ⟨m, by omega, m2, fun d hd hqd => ?_⟩
      by_cases e : d = n + 1
      · rw [e] at hqd; exact absurd hqd h
      · exact m3 d (by omega) hqd
theorem Lp_ix {σ : Type} {F : (σ → Prop) → σ → Prop} {x0 : σ} (N : Nat) (Q : Nat → σ → Prop) (h0 : Q 0 x0) (hs : ∀ (c : Nat) (x : σ) (K : σ → Prop), c ≤ N → Q c x → (∀ y, c < N → Q (c + 1) y → K y) → F K x) : Lp F x0 := by
  refine ⟨fun x => ∃ c, c ≤ N ∧ Q c x, fun x => N - Classical.epsilon (fun c => c ≤ N ∧ Q c x ∧ ∀ d, d ≤ N → Q d x → d ≤ c), ⟨0, Nat.zero_le _, h0⟩, ?_⟩
  intro x hx
  have sx := Classical.epsilon_spec (mx_ex N hx)
  refine hs _ x _ sx.1 sx.2.1 (fun y hc hy => ?_)
  have hy2 : ∃ c, c ≤ N ∧ Q c y := ⟨_, hc, hy⟩
  have sy := Classical.epsilon_spec (mx_ex N hy2)
  refine ⟨hy2, ?_⟩
  have h1 := sy.2.2 _ hc hy
  have h2 := sy.1
  show N - Classical.epsilon (fun c => c ≤ N ∧ Q c y ∧ ∀ d, d ≤ N → Q d y → d ≤ c) < N - Classical.epsilon (fun c => c ≤ N ∧ Q c x ∧ ∀ d, d ≤ N → Q d x → d ≤ c)
  omega
section RF6
variable {B : Nat → Nat} {M0 M : Mem} {σ : Sg} {c : Option Ln} {t : Int32}
theorem r_deliverAll (h : RepM B M0 M σ c t) {P : Sg → Prop} (hPM : ∀ τ, P τ → PM τ) (hcl : ∀ τ, P τ → ∀ x y, x < 6 → y < 6 → P (dlvL τ x y)) (hP : P σ) {R : Nat} (hlast : tot (daN σ R).1 = 0) (hmin : ∀ r, r < R → tot (daN σ r).1 ≠ 0) (hR : R < 1000000) {post : Mem → Int32 → Prop} (hp : ∀ M', RepM B M0 M' (tickL (daN σ R).1) none 0 → post M' (nI (daN σ R).2)) : w_X6_deliverAll M (B 0) post := by
  refine ⟨rm_0 h, fun M2 e2 => ?_⟩
  have h2 : RepM B M0 M2 σ c 0 := by rw [e2]; exact rm_thr h 0
  have daP : ∀ r, P (daN σ r).1 := by
    intro r
    induction r with
    | zero => exact hP
    | succ r ih =>
      show P (drL (daN σ r).1).1
      rw [← dw_L]
      exact dw_P hcl ih 36 (Nat.le_refl _)
  refine Lp_ix R (fun r z => z.1 = nI (daN σ r).2 ∧ RepM B M0 z.2 (daN σ r).1 none 0) ⟨rfl, rm_none h2⟩ ?_
  intro r z K hr hz hK x3 M4 ez
  subst ez
  obtain ⟨hz1, hz2⟩ := hz
  have hz1 : x3 = nI (daN σ r).2 := hz1
  have h4 : RepM B M0 M4 (daN σ r).1 none 0 := hz2
  have hP4 := daP r
  have cap := rm_cap h4
  generalize hτ : (daN σ r).1 = τ at h4 hP4 cap
  refine ⟨rm_0 h4, ?_⟩
  rw [rm_tt h4]
  refine ⟨fun e => ⟨rm_0 h4, rm_0 h4, fun M9 e9 => ?_⟩, fun e => ?_⟩
  · have t0 : tot τ ≤ 0 := (le_nI (b := 0) (by omega) (by omega)).mp e
    have : r = R := by
      by_cases h9 : r < R
      · exact absurd (by rw [hτ]; omega) (hmin r h9)
      · omega
    subst this
    rw [hz1]
    refine hp M9 ?_
    rw [hτ]
    exact rm_tick h4 e9
  · have hne : tot τ ≠ 0 := fun z => e (by rw [z]; decide)
    have hlt : r < R := by
      by_cases h9 : r < R
      · exact h9
      · have : r = R := by omega
        subst this
        rw [hτ] at hlast
        exact absurd hlast hne
    refine Lp_for 36 (fun w z => z.1 = nI ((daN σ r).2 + (dwN τ w).2) ∧ z.2.1 = nI w ∧ RepM B M0 z.2.2 (dwN τ w).1 none 0) (fun z => z.2.1.toNatClampNeg) (fun c z hc hz => by rw [hz.2.1]; exact clN (by omega)) ⟨hz1, rfl, h4⟩ ?_
    intro w z K13 hw hz hK13 x10 x11 M12 ez
    subst ez
    obtain ⟨g1, g2, g3⟩ := hz
    have g1 : x10 = nI ((daN σ r).2 + (dwN τ w).2) := g1
    have g2 : x11 = nI w := g2
    have g3 : RepM B M0 M12 (dwN τ w).1 none 0 := g3
    subst g2
    refine ⟨fun e6 => ?_, fun e6 => ?_⟩
    · have : 36 ≤ w := (le_nI (a := 36) (by omega) (by omega)).mp e6
      have e36 : w = 36 := by omega
      subst e36
      rw [dw_L] at g1 g3
      refine hK _ hlt ⟨?_, ?_⟩
      · show x10 = nI ((daN σ r).2 + (drL (daN σ r).1).2)
        rw [hτ]
        exact g1
      · show RepM B M0 M12 (drL (daN σ r).1).1 none 0
        rw [hτ]
        exact g3
    · have hw36 : w < 36 := Nat.not_le.mp (fun h9 => e6 ((le_nI (a := 36) (by omega) (by omega)).mpr h9))
      have hPw := dw_P hcl hP4 w hw
      rw [(way_d w hw36).2, (way_d w hw36).1]
      have hx : w / 6 < 6 := by omega
      have hy : w % 6 < 6 := by omega
      have ewy : w / 6 * 6 + w % 6 = w := by omega
      refine ⟨rm_0 g3, r_isLine g3 hx hy (fun hno => ?_) (fun e1 e2 => ?_)⟩
      · intro J hJ
        have hnil : sgQ (dwN τ w).1 (w / 6 * 6 + w % 6) = [] := by
          rcases hno with hno | hno
          · exact (hPM _ hPw).2.2.2.2.2.2.2 _ _ hx hy hno
          · exact hno
        refine ⟨fun _ => hJ _ _ (fun x19 e19 => hK13 _ hw36 ⟨?_, by show x19 = nI (w + 1); rw [e19, nI_1], ?_⟩), fun z => absurd rfl z⟩
        · show x10 = nI ((daN σ r).2 + ((dwN τ w).2 + (if sgQ (dwN τ w).1 (w / 6 * 6 + w % 6) = [] then 0 else 1)))
          rw [if_pos hnil]
          exact g1
        · show RepM B M0 M12 (dlvL (dwN τ w).1 (w / 6) (w % 6)) none 0
          rw [dlv_e hnil]
          exact g3
      · intro J hJ
        refine ⟨fun z => absurd z z10, fun _ => ⟨rm_0 g3, r_delivers g3 (hPM _ hPw) hx hy e2 (fun M21 h21 x22 e22 => hJ _ _ (fun x19 e19 => hK13 _ hw36 ⟨?_, by show x19 = nI (w + 1); rw [e19, nI_1], h21⟩))⟩⟩
        show x22 = nI ((daN σ r).2 + ((dwN τ w).2 + (if sgQ (dwN τ w).1 (w / 6 * 6 + w % 6) = [] then 0 else 1)))
        have g9 : x10 = nI ((daN σ r).2 + (dwN τ w).2) := g1
        rw [if_neg e2, e22, g9, nI_1]
        rfl
end RF6
