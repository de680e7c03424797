/-! THE REFERENCE'S METHODS: questions -/
theorem z01 : ¬ (0 : Int32) = 1 := by decide
section RF9
variable {B : Nat → Nat} {M0 M : Mem} {σ : Sg} {c : Option Ln} {t : Int32}
theorem r_lines (h : RepM B M0 M σ c t) {post : Mem → Int32 → Prop} (hp : ∀ M', RepM B M0 M' σ c 0 → post M' (nI (tot σ))) : w_X6_lines M (B 0) post := by
  refine ⟨rm_0 h, fun M2 e2 => ?_⟩
  have h2 : RepM B M0 M2 σ c 0 := by rw [e2]; exact rm_thr h 0
  refine ⟨rm_0 h2, ?_⟩
  rw [rm_tt h2]
  exact hp M2 h2
theorem r_users (h : RepM B M0 M σ c t) {post : Mem → Int32 → Prop} (hp : ∀ M', RepM B M0 M' σ c 0 → post M' (nI (sgN σ 0))) : w_X6_users M (B 0) post := by
  refine ⟨rm_0 h, fun M2 e2 => ?_⟩
  have h2 : RepM B M0 M2 σ c 0 := by rw [e2]; exact rm_thr h 0
  refine ⟨rm_0 h2, ?_⟩
  rw [rm_us h2]
  exact hp M2 h2
theorem r_clock (h : RepM B M0 M σ c t) {post : Mem → Int32 → Prop} (hp : ∀ M', RepM B M0 M' σ c 0 → post M' (nI (sgN σ 1))) : w_X6_clock M (B 0) post := by
  refine ⟨rm_0 h, fun M2 e2 => ?_⟩
  have h2 : RepM B M0 M2 σ c 0 := by rw [e2]; exact rm_thr h 0
  refine ⟨rm_0 h2, ?_⟩
  rw [rm_ck h2]
  exact hp M2 h2
theorem r_thrown (h : RepM B M0 M σ c t) {post : Int32 → Prop} (hp : post t) : w_X6_thrown M (B 0) post := by
  refine ⟨rm_0 h, ?_⟩
  rw [rm_th h]
  exact hp
theorem r_tree (h : RepM B M0 M σ c t) (hL : L6 σ) {p : Int32} {post : Mem → Int32 → Prop} (h1 : ¬ (0 ≤ p ∧ p < 6) → ∀ M', RepM B M0 M' σ c 1 → post M' 0) (hp : ∀ s, s < 6 → p = nI s → ∀ M', RepM B M0 M' σ c 0 → post M' (treeL σ s)) : w_X6_tree M (B 0) p post := by
  refine r_srv (fun s hs es J3 hJ3 => ⟨fun z => absurd z z10, fun _ => hJ3 0 ⟨rm_0 h, r_holds h (fun _ M5 h5 J8 hJ8 => ⟨fun z => absurd z z10, fun _ => ⟨rm_0 h5, ?_⟩⟩) (fun z => absurd rfl z)⟩⟩) (fun hn J3 hJ3 => ⟨fun _ => hJ3 1 ⟨rm_0 h, r_holds h (fun e => absurd e z10) (fun _ M5 h5 J8 hJ8 => ⟨fun _ => hJ8 _ (h1 hn M5 h5), fun z => absurd rfl z⟩)⟩, fun z => absurd rfl z⟩)
  subst es
  exact r_treeOf h5 hL hs (hJ8 _ (hp s hs rfl M5 h5))
theorem r_known (h : RepM B M0 M σ c t) {p : Int32} {post : Mem → Int32 → Prop} (h1 : ¬ (0 ≤ p ∧ p < 6) → ∀ M', RepM B M0 M' σ c 1 → post M' 0) (hp : ∀ s, s < 6 → p = nI s → ∀ M', RepM B M0 M' σ c 0 → post M' (sgI σ 1 s)) : w_X6_known M (B 0) p post := by
  refine r_srv (fun s hs es J3 hJ3 => ⟨fun z => absurd z z10, fun _ => hJ3 0 ⟨rm_0 h, r_holds h (fun _ M5 h5 J8 hJ8 => ⟨fun z => absurd z z10, fun _ => ⟨rm_0 h5, ?_⟩⟩) (fun z => absurd rfl z)⟩⟩) (fun hn J3 hJ3 => ⟨fun _ => hJ3 1 ⟨rm_0 h, r_holds h (fun e => absurd e z10) (fun _ M5 h5 J8 hJ8 => ⟨fun _ => hJ8 _ (h1 hn M5 h5), fun z => absurd rfl z⟩)⟩, fun z => absurd rfl z⟩)
  subst es
  refine ⟨_, rm_rf h5 vm7 (by decide), rm_in h5 vm7 (by decide) hs, ?_⟩
  rw [rm_kn h5 hs]
  exact hJ8 _ (hp s hs rfl M5 h5)
theorem r_isView (h : RepM B M0 M σ c t) {p q : Int32} {post : Mem → Int32 → Prop} (h0 : ¬ (0 ≤ p ∧ p < 6) ∨ ¬ (0 ≤ q ∧ q < 4) → ∀ M', RepM B M0 M' σ c 1 → post M' 0) (h1 : ∀ s d, s < 6 → d < 4 → p = nI s → q = nI d → ∀ M', RepM B M0 M' σ c 0 → post M' 1) : w_X6_isView M (B 0) p q post := by
  refine r_srv (fun s hs es J3 hJ3 J7 hJ7 => ⟨fun z => absurd z z10, fun _ => r_chn (fun d hd ed => ⟨fun z => absurd z z10, fun _ => hJ3 0 ⟨rm_0 h, r_holds h (fun _ M5 h5 => ⟨Or.inr rfl, h1 s d hs hd es ed M5 h5⟩) (fun z => absurd rfl z)⟩⟩) (fun hn => ⟨fun _ => hJ7 (hJ3 1 ⟨rm_0 h, r_holds h (fun e => absurd e z10) (fun _ M5 h5 => ⟨Or.inl rfl, h0 (Or.inr hn) M5 h5⟩)⟩), fun z => absurd rfl z⟩)⟩) (fun hn J3 hJ3 J7 hJ7 => ⟨fun _ => hJ7 (hJ3 1 ⟨rm_0 h, r_holds h (fun e => absurd e z10) (fun _ M5 h5 => ⟨Or.inl rfl, h0 (Or.inl hn) M5 h5⟩)⟩), fun z => absurd rfl z⟩)
theorem r_members (h : RepM B M0 M σ c t) (hc : allC σ) {p q : Int32} {post : Mem → Int32 → Prop} (h1 : ¬ (0 ≤ p ∧ p < 6) ∨ ¬ (0 ≤ q ∧ q < 4) → ∀ M', RepM B M0 M' σ c 1 → post M' 0) (hp : ∀ s d, s < 6 → d < 4 → p = nI s → q = nI d → ∀ M', RepM B M0 M' σ c 0 → post M' (sgI σ 5 (s * 4 + d))) : w_X6_members M (B 0) p q post := by
  refine ⟨rm_0 h, r_isView h (fun hn M2 h2 J5 hJ5 J6 hJ6 => ⟨fun _ => hJ6 (hJ5 _ (h1 hn M2 h2)), fun z => absurd rfl z⟩) (fun s d hs hd es ed M2 h2 J5 hJ5 J6 hJ6 => ⟨fun z => absurd z z10, fun _ => ⟨rm_0 h2, _, rm_rf h2 vm8 (by decide), ?_⟩⟩)⟩
  subst es
  subst ed
  have hi : s * 4 + d < 24 := by omega
  have hpp := hp s d hs hd rfl rfl M2 h2
  refine r_at s d ⟨rm_in h2 vm8 (by decide) hi, ?_⟩
  rw [rm_ag h2 hi]
  refine ⟨fun e => hJ6 (hJ5 _ ?_), fun e => ⟨rm_0 h2, _, rm_rf h2 vm11 (by decide), r_at s d ⟨rm_in h2 vm11 (by decide) hi, ?_⟩⟩⟩
  · rw [(hc _ hi).mpr e] at hpp
    exact hpp
  · rw [rm_mb h2 hi]
    exact hJ5 _ hpp
theorem r_age (h : RepM B M0 M σ c t) {p q : Int32} {post : Mem → Int32 → Prop} (h1 : ¬ (0 ≤ p ∧ p < 6) ∨ ¬ (0 ≤ q ∧ q < 4) → ∀ M', RepM B M0 M' σ c 1 → post M' 0) (hp : ∀ s d, s < 6 → d < 4 → p = nI s → q = nI d → ∀ M', RepM B M0 M' σ c 0 → post M' (sgI σ 2 (s * 4 + d))) : w_X6_age M (B 0) p q post := by
  refine ⟨rm_0 h, r_isView h (fun hn M2 h2 J5 hJ5 => ⟨fun _ => hJ5 _ (h1 hn M2 h2), fun z => absurd rfl z⟩) (fun s d hs hd es ed M2 h2 J5 hJ5 => ⟨fun z => absurd z z10, fun _ => ⟨rm_0 h2, _, rm_rf h2 vm8 (by decide), ?_⟩⟩)⟩
  subst es
  subst ed
  have hi : s * 4 + d < 24 := by omega
  refine r_at s d ⟨rm_in h2 vm8 (by decide) hi, ?_⟩
  rw [rm_ag h2 hi]
  exact hJ5 _ (hp s d hs hd rfl rfl M2 h2)
theorem r_modes (h : RepM B M0 M σ c t) {p q : Int32} {post : Mem → Int32 → Prop} (h1 : ¬ (0 ≤ p ∧ p < 6) ∨ ¬ (0 ≤ q ∧ q < 4) → ∀ M', RepM B M0 M' σ c 1 → post M' 0) (hp : ∀ s d, s < 6 → d < 4 → p = nI s → q = nI d → ∀ M', RepM B M0 M' σ c 0 → post M' (if sgI σ 2 (s * 4 + d) = -1 then -1 else sgI σ 3 (s * 4 + d))) : w_X6_modes M (B 0) p q post := by
  refine ⟨rm_0 h, r_isView h (fun hn M2 h2 => ⟨fun _ => h1 hn M2 h2, fun z => absurd rfl z⟩) (fun s d hs hd es ed M2 h2 => ⟨fun z => absurd z z10, fun _ => ⟨rm_0 h2, _, rm_rf h2 vm8 (by decide), ?_⟩⟩)⟩
  subst es
  subst ed
  have hi : s * 4 + d < 24 := by omega
  have hpp := hp s d hs hd rfl rfl M2 h2
  refine r_at s d ⟨rm_in h2 vm8 (by decide) hi, fun J9 hJ9 => ?_⟩
  rw [rm_ag h2 hi]
  refine ⟨fun e => hJ9 _ ?_, fun e => ⟨rm_0 h2, _, rm_rf h2 vm9 (by decide), r_at s d ⟨rm_in h2 vm9 (by decide) hi, ?_⟩⟩⟩
  · rw [if_pos e] at hpp
    exact hpp
  · rw [rm_md h2 hi e]
    rw [if_neg e] at hpp
    exact hJ9 _ hpp
theorem r_bans (h : RepM B M0 M σ c t) {p q : Int32} {post : Mem → Int32 → Prop} (h1 : ¬ (0 ≤ p ∧ p < 6) ∨ ¬ (0 ≤ q ∧ q < 4) → ∀ M', RepM B M0 M' σ c 1 → post M' 0) (hp : ∀ s d, s < 6 → d < 4 → p = nI s → q = nI d → ∀ M', RepM B M0 M' σ c 0 → post M' (if sgI σ 2 (s * 4 + d) = -1 then -1 else sgI σ 4 (s * 4 + d))) : w_X6_bans M (B 0) p q post := by
  refine ⟨rm_0 h, r_isView h (fun hn M2 h2 => ⟨fun _ => h1 hn M2 h2, fun z => absurd rfl z⟩) (fun s d hs hd es ed M2 h2 => ⟨fun z => absurd z z10, fun _ => ⟨rm_0 h2, _, rm_rf h2 vm8 (by decide), ?_⟩⟩)⟩
  subst es
  subst ed
  have hi : s * 4 + d < 24 := by omega
  have hpp := hp s d hs hd rfl rfl M2 h2
  refine r_at s d ⟨rm_in h2 vm8 (by decide) hi, fun J9 hJ9 => ?_⟩
  rw [rm_ag h2 hi]
  refine ⟨fun e => hJ9 _ ?_, fun e => ⟨rm_0 h2, _, rm_rf h2 vm10 (by decide), r_at s d ⟨rm_in h2 vm10 (by decide) hi, ?_⟩⟩⟩
  · rw [if_pos e] at hpp
    exact hpp
  · rw [rm_bn h2 hi e]
    rw [if_neg e] at hpp
    exact hJ9 _ hpp
/-- how the reference sees that two channels are like each other -/
def smR (σ : Sg) (i j : Nat) : Prop := sgI σ 2 i = sgI σ 2 j ∧ (sgI σ 2 i = -1 ∨ (sgI σ 3 i = sgI σ 3 j ∧ sgI σ 4 i = sgI σ 4 j ∧ sgI σ 5 i = sgI σ 5 j))
theorem r_areSame (h : RepM B M0 M σ c t) {p q : Int32} {post : Mem → Int32 → Prop} (h1 : ¬ (0 ≤ p ∧ p < 6) ∨ ¬ (0 ≤ q ∧ q < 6) → ∀ M', RepM B M0 M' σ c 1 → post M' 0) (hp : ∀ s d, s < 6 → d < 6 → p = nI s → q = nI d → ∀ M', RepM B M0 M' σ c 0 → ((sgI σ 1 s = sgI σ 1 d ∧ ∀ e, e < 4 → smR σ (s * 4 + e) (d * 4 + e)) → post M' 1) ∧ (¬ (sgI σ 1 s = sgI σ 1 d ∧ ∀ e, e < 4 → smR σ (s * 4 + e) (d * 4 + e)) → post M' 0)) : w_X6_areSame M (B 0) p q post := by
  have bad : (¬ (0 ≤ p ∧ p < 6) ∨ ¬ (0 ≤ q ∧ q < 6)) → gT M (B 0) = some (6, 0) ∧ w_X6_holds M (B 0) 1 (fun M5 x6 => (x6 = 0 → ((0 : Int32) = 0 ∨ (0 : Int32) = 1) ∧ post M5 0) ∧ (¬ (x6 = 0) → False)) := fun hn => ⟨rm_0 h, r_holds h (fun e => absurd e z10) (fun _ M5 h5 => ⟨fun _ => ⟨Or.inl rfl, h1 hn M5 h5⟩, fun z => absurd rfl z⟩)⟩
  clear bad
  refine r_srv (fun s hs es J3 hJ3 J66 hJ66 => ⟨fun z => absurd z z10, fun _ => r_srv (fun d hd ed => ⟨fun z => absurd z z10, fun _ => hJ3 0 ⟨rm_0 h, r_holds h (fun _ M5 h5 => ⟨fun z => absurd z z10, fun _ => ?_⟩) (fun z => absurd rfl z)⟩⟩) (fun hn => ⟨fun _ => hJ66 (hJ3 1 ⟨rm_0 h, r_holds h (fun e => absurd e z10) (fun _ M5 h5 => ⟨fun _ => ⟨Or.inl rfl, h1 (Or.inr hn) M5 h5⟩, fun z => absurd rfl z⟩)⟩), fun z => absurd rfl z⟩)⟩) (fun hn J3 hJ3 J66 hJ66 => ⟨fun _ => hJ66 (hJ3 1 ⟨rm_0 h, r_holds h (fun e => absurd e z10) (fun _ M5 h5 => ⟨fun _ => ⟨Or.inl rfl, h1 (Or.inl hn) M5 h5⟩, fun z => absurd rfl z⟩)⟩), fun z => absurd rfl z⟩)
  subst es
  subst ed
  obtain ⟨hp1, hp0⟩ := hp s d hs hd rfl rfl M5 h5
  refine ⟨rm_0 h5, _, rm_rf h5 vm7 (by decide), rm_in h5 vm7 (by decide) hs, rm_0 h5, _, rm_rf h5 vm7 (by decide), rm_in h5 vm7 (by decide) hd, ?_⟩
  rw [rm_kn h5 hs, rm_kn h5 hd]
  -- the loop over the channels, from either answer so far
  have loop : ∀ x13 : Int32, ((x13 = 1 ∧ sgI σ 1 s = sgI σ 1 d) ∨ (x13 = 0 ∧ ¬ sgI σ 1 s = sgI σ 1 d)) → Lp (fun (K17 : Int32 × Int32 → Prop) (z : Int32 × Int32) => ∀ (x15 : Int32) (x16 : Int32), z = (x15, x16) → ((4 ≤ x16 → ((x15 : Int32) = 0 ∨ (x15 : Int32) = 1) ∧ post M5 x15) ∧ (¬ (4 ≤ x16) → w_X6_at M5 (nI s) x16 (fun x18 => w_X6_at M5 (nI d) x16 (fun x19 => gT M5 (B 0) = some (6, 0) ∧ ∃ b21, gR M5 (B 0) 9 = some b21 ∧ inA M5 b21 10 x18 ∧ gT M5 (B 0) = some (6, 0) ∧ ∃ b24, gR M5 (B 0) 9 = some b24 ∧ inA M5 b24 10 x19 ∧ ∀ J27 : Int32 → Prop, (∀ (x26 : Int32), (∀ J29 : Int32 → Prop, (∀ (x28 : Int32), (∀ x30, x30 = x16 + 1 → K17 (x28, x30)) → J29 x28) → (∀ J31 : Prop, ((J29 0) → J31) → ((x15 = 0 → J31) ∧ (¬ (x15 = 0) → gT M5 (B 0) = some (6, 0) ∧ ∃ b33, gR M5 (B 0) 8 = some b33 ∧ inA M5 b33 10 x18 ∧ gT M5 (B 0) = some (6, 0) ∧ ∃ b36, gR M5 (B 0) 8 = some b36 ∧ inA M5 b36 10 x19 ∧ (gI M5 b33 (Int32.toNatClampNeg x18) = gI M5 b36 (Int32.toNatClampNeg x19) → gT M5 (B 0) = some (6, 0) ∧ ∃ b39, gR M5 (B 0) 8 = some b39 ∧ inA M5 b39 10 x18 ∧ ∀ J41 : Prop, ((J29 1) → J41) → ((gI M5 b39 (Int32.toNatClampNeg x18) = (-1) → J41) ∧ (¬ (gI M5 b39 (Int32.toNatClampNeg x18) = (-1)) → (x26 = 0 → J31) ∧ (¬ (x26 = 0) → J41)))) ∧ (¬ (gI M5 b33 (Int32.toNatClampNeg x18) = gI M5 b36 (Int32.toNatClampNeg x19)) → J31))))) → J27 x26) → (∀ J46 : Prop, ((J27 0) → J46) → ((gI M5 b21 (Int32.toNatClampNeg x18) = gI M5 b24 (Int32.toNatClampNeg x19) → gT M5 (B 0) = some (6, 0) ∧ ∃ b48, gR M5 (B 0) 10 = some b48 ∧ inA M5 b48 10 x18 ∧ gT M5 (B 0) = some (6, 0) ∧ ∃ b51, gR M5 (B 0) 10 = some b51 ∧ inA M5 b51 10 x19 ∧ (gI M5 b48 (Int32.toNatClampNeg x18) = gI M5 b51 (Int32.toNatClampNeg x19) → gT M5 (B 0) = some (6, 0) ∧ ∃ b54, gR M5 (B 0) 11 = some b54 ∧ inA M5 b54 10 x18 ∧ gT M5 (B 0) = some (6, 0) ∧ ∃ b57, gR M5 (B 0) 11 = some b57 ∧ inA M5 b57 10 x19 ∧ (gI M5 b54 (Int32.toNatClampNeg x18) = gI M5 b57 (Int32.toNatClampNeg x19) → J27 1) ∧ (¬ (gI M5 b54 (Int32.toNatClampNeg x18) = gI M5 b57 (Int32.toNatClampNeg x19)) → J46)) ∧ (¬ (gI M5 b48 (Int32.toNatClampNeg x18) = gI M5 b51 (Int32.toNatClampNeg x19)) → J46)) ∧ (¬ (gI M5 b21 (Int32.toNatClampNeg x18) = gI M5 b24 (Int32.toNatClampNeg x19)) → J46)))))))) (x13, 0) := by
    intro x13 h13
    refine Lp_for 4 (fun o z => z.2 = nI o ∧ ((z.1 = 1 ∧ (sgI σ 1 s = sgI σ 1 d ∧ ∀ e, e < o → smR σ (s * 4 + e) (d * 4 + e))) ∨ (z.1 = 0 ∧ ¬ (sgI σ 1 s = sgI σ 1 d ∧ ∀ e, e < o → smR σ (s * 4 + e) (d * 4 + e))))) (fun z => z.2.toNatClampNeg) (fun c z hc hz => by rw [hz.1]; exact clN (by omega)) ⟨rfl, ?_⟩ ?_
    · rcases h13 with ⟨e1, e2⟩ | ⟨e1, e2⟩
      · exact Or.inl ⟨e1, e2, fun e he => by omega⟩
      · exact Or.inr ⟨e1, fun z => e2 z.1⟩
    intro o z K17 ho hz hK17 x15 x16 ez
    subst ez
    obtain ⟨hz1, hz2⟩ := hz
    have hz1 : x16 = nI o := hz1
    have hy2 : (x15 = 1 ∧ (sgI σ 1 s = sgI σ 1 d ∧ ∀ e, e < o → smR σ (s * 4 + e) (d * 4 + e))) ∨ (x15 = 0 ∧ ¬ (sgI σ 1 s = sgI σ 1 d ∧ ∀ e, e < o → smR σ (s * 4 + e) (d * 4 + e))) := hz2
    clear hz2
    subst hz1
    refine ⟨fun e => ?_, fun e => ?_⟩
    · have : 4 ≤ o := (le_nI (a := 4) (by omega) (by omega)).mp e
      have e6 : o = 4 := by omega
      rw [e6] at hy2
      rcases hy2 with ⟨e1, e2⟩ | ⟨e1, e2⟩
      · rw [e1]; exact ⟨Or.inr rfl, hp1 e2⟩
      · rw [e1]; exact ⟨Or.inl rfl, hp0 e2⟩
    have hlt : o < 4 := Nat.not_le.mp (fun h9 => e ((le_nI (a := 4) (by omega) (by omega)).mpr h9))
    have hi : s * 4 + o < 24 := by omega
    have hj : d * 4 + o < 24 := by omega
    refine r_at s o (r_at d o ⟨rm_0 h5, _, rm_rf h5 vm9 (by decide), rm_in h5 vm9 (by decide) hi, rm_0 h5, _, rm_rf h5 vm9 (by decide), rm_in h5 vm9 (by decide) hj, fun J27 hJ27 => ?_⟩)
    -- what follows, for either word on likeness
    have aft : ∀ x26 : Int32, (sgI σ 2 (s * 4 + o) ≠ -1 → sgI σ 2 (s * 4 + o) = sgI σ 2 (d * 4 + o) → (x26 = 0 ↔ ¬ (sgI σ 3 (s * 4 + o) = sgI σ 3 (d * 4 + o) ∧ sgI σ 4 (s * 4 + o) = sgI σ 4 (d * 4 + o) ∧ sgI σ 5 (s * 4 + o) = sgI σ 5 (d * 4 + o)))) → J27 x26 := by
      intro x26 h26
      refine hJ27 x26 (fun J29 hJ29 J31 hJ31 => ?_)
      have k0 : ¬ (sgI σ 1 s = sgI σ 1 d ∧ ∀ e, e < o + 1 → smR σ (s * 4 + e) (d * 4 + e)) → J31 := fun hn => hJ31 (hJ29 0 (fun x30 e30 => hK17 _ hlt ⟨by show x30 = nI (o + 1); rw [e30, nI_1], Or.inr ⟨rfl, hn⟩⟩))
      rcases hy2 with ⟨e1, e2⟩ | ⟨e1, e2⟩
      · subst e1
        refine ⟨fun z => absurd z z10, fun _ => ⟨rm_0 h5, _, rm_rf h5 vm8 (by decide), rm_in h5 vm8 (by decide) hi, rm_0 h5, _, rm_rf h5 vm8 (by decide), rm_in h5 vm8 (by decide) hj, ?_⟩⟩
        rw [rm_ag h5 hi, rm_ag h5 hj]
        refine ⟨fun e3 => ⟨rm_0 h5, _, rm_rf h5 vm8 (by decide), rm_in h5 vm8 (by decide) hi, fun J41 hJ41 => ?_⟩, fun e3 => k0 (fun z => e3 (z.2 o (by omega)).1)⟩
        rw [rm_ag h5 hi]
        have k1 : smR σ (s * 4 + o) (d * 4 + o) → J41 := fun hy => hJ41 (hJ29 1 (fun x30 e30 => hK17 _ hlt ⟨by show x30 = nI (o + 1); rw [e30, nI_1], Or.inl ⟨rfl, e2.1, fun f hf => by
          by_cases ef : f = o
          · rw [ef]; exact hy
          · exact e2.2 f (by omega)⟩⟩))
        refine ⟨fun e4 => k1 ⟨e3, Or.inl e4⟩, fun e4 => ⟨fun e5 => k0 (fun z => ?_), fun e5 => k1 ⟨e3, Or.inr ?_⟩⟩⟩
        · rcases (z.2 o (by omega)).2 with z2 | z2
          · exact e4 z2
          · exact (h26 e4 e3).mp e5 z2
        · exact Classical.byContradiction (fun hn => e5 ((h26 e4 e3).mpr hn))
      · subst e1
        exact ⟨fun _ => k0 (fun z => e2 ⟨z.1, fun f hf => z.2 f (by omega)⟩), fun z => absurd rfl z⟩
    intro J46 hJ46
    have no : (sgI σ 2 (s * 4 + o) ≠ -1 → sgI σ 2 (s * 4 + o) = sgI σ 2 (d * 4 + o) → ¬ (sgI σ 3 (s * 4 + o) = sgI σ 3 (d * 4 + o) ∧ sgI σ 4 (s * 4 + o) = sgI σ 4 (d * 4 + o) ∧ sgI σ 5 (s * 4 + o) = sgI σ 5 (d * 4 + o))) → J46 := fun hn => hJ46 (aft 0 (fun a b => ⟨fun _ => hn a b, fun _ => rfl⟩))
    refine ⟨fun e9 => ⟨rm_0 h5, _, rm_rf h5 vm10 (by decide), rm_in h5 vm10 (by decide) hi, rm_0 h5, _, rm_rf h5 vm10 (by decide), rm_in h5 vm10 (by decide) hj, fun e10 => ⟨rm_0 h5, _, rm_rf h5 vm11 (by decide), rm_in h5 vm11 (by decide) hi, rm_0 h5, _, rm_rf h5 vm11 (by decide), rm_in h5 vm11 (by decide) hj, fun e11 => aft 1 (fun a b => ⟨fun z => absurd z z10, fun z => ?_⟩), fun e11 => no (fun a b z => e11 ?_)⟩, fun e10 => no (fun a b z => e10 ?_)⟩, fun e9 => no (fun a b z => e9 ?_)⟩
    · exfalso
      refine z ⟨?_, ?_, ?_⟩
      · rw [← rm_md h5 hi a, ← rm_md h5 hj (by rw [← b]; exact a)]; exact e9
      · rw [← rm_bn h5 hi a, ← rm_bn h5 hj (by rw [← b]; exact a)]; exact e10
      · rw [← rm_mb h5 hi, ← rm_mb h5 hj]; exact e11
    · rw [rm_mb h5 hi, rm_mb h5 hj]; exact z.2.2
    · rw [rm_bn h5 hi a, rm_bn h5 hj (by rw [← b]; exact a)]; exact z.2.1
    · rw [rm_md h5 hi a, rm_md h5 hj (by rw [← b]; exact a)]; exact z.1
  intro J14 hJ14
  exact ⟨fun e => hJ14 1 (loop 1 (Or.inl ⟨rfl, e⟩)), fun e => hJ14 0 (loop 0 (Or.inr ⟨rfl, e⟩))⟩
theorem r_joinedModes (h : RepM B M0 M σ c t) {p q r : Int32} {post : Mem → Int32 → Prop} (h1 : ¬ (0 ≤ p ∧ p < 6) ∨ ¬ (0 ≤ q ∧ q < 6) ∨ ¬ (0 ≤ r ∧ r < 4) → ∀ M', RepM B M0 M' σ c 1 → post M' 0) (hp : ∀ s d e, s < 6 → d < 6 → e < 4 → p = nI s → q = nI d → r = nI e → ∀ M', RepM B M0 M' σ c 0 → post M' (if sgI σ 2 (s * 4 + e) = -1 then (if sgI σ 2 (d * 4 + e) = -1 then -1 else sgI σ 3 (d * 4 + e)) else settle (sgI σ 2 (s * 4 + e)) (sgI σ 3 (s * 4 + e)) (sgI σ 2 (d * 4 + e)) (sgI σ 3 (d * 4 + e)))) : w_X6_joinedModes M (B 0) p q r post := by
  refine r_srv (fun s hs es J3 hJ3 J63 hJ63 => ?_) (fun hn J3 hJ3 J63 hJ63 => ⟨fun _ => hJ63 (hJ3 1 ⟨rm_0 h, r_holds h (fun e => absurd e z10) (fun _ M5 h5 => ⟨fun _ => h1 (Or.inl hn) M5 h5, fun z => absurd rfl z⟩)⟩), fun z => absurd rfl z⟩)
  refine ⟨fun z => absurd z z10, fun _ => r_srv (fun d hd ed => ⟨fun z => absurd z z10, fun _ => r_chn (fun e he ee => ⟨fun z => absurd z z10, fun _ => hJ3 0 ⟨rm_0 h, r_holds h (fun _ M5 h5 => ⟨fun z => absurd z z10, fun _ => ?_⟩) (fun z => absurd rfl z)⟩⟩) (fun hn => ⟨fun _ => hJ63 (hJ3 1 ⟨rm_0 h, r_holds h (fun e => absurd e z10) (fun _ M5 h5 => ⟨fun _ => h1 (Or.inr (Or.inr hn)) M5 h5, fun z => absurd rfl z⟩)⟩), fun z => absurd rfl z⟩)⟩) (fun hn => ⟨fun _ => hJ63 (hJ3 1 ⟨rm_0 h, r_holds h (fun e => absurd e z10) (fun _ M5 h5 => ⟨fun _ => h1 (Or.inr (Or.inl hn)) M5 h5, fun z => absurd rfl z⟩)⟩), fun z => absurd rfl z⟩)⟩
  subst es
  subst ed
  subst ee
  have hpp := hp s d e hs hd he rfl rfl rfl M5 h5
  have hi : s * 4 + e < 24 := by omega
  have hj : d * 4 + e < 24 := by omega
  refine r_at s e (r_at d e ⟨rm_0 h5, _, rm_rf h5 vm8 (by decide), rm_in h5 vm8 (by decide) hi, fun J12 hJ12 => ?_⟩)
  generalize s * 4 + e = i at hpp hi hJ12 ⊢
  generalize d * 4 + e = j at hpp hj hJ12 ⊢
  rw [rm_ag h5 hi]
  -- one of them is no channel
  have one : (sgI σ 2 i = -1 ∨ sgI σ 2 j = -1) → J12 := by
    intro hor
    refine hJ12 ⟨rm_0 h5, _, rm_rf h5 vm8 (by decide), rm_in h5 vm8 (by decide) hi, fun J17 hJ17 => ?_⟩
    have hk := hJ17 _ hpp
    rw [rm_ag h5 hi]
    refine ⟨fun e1 => ⟨rm_0 h5, _, rm_rf h5 vm8 (by decide), rm_in h5 vm8 (by decide) hj, ?_⟩, fun e1 => ⟨rm_0 h5, _, rm_rf h5 vm9 (by decide), rm_in h5 vm9 (by decide) hi, ?_⟩⟩
    · rw [rm_ag h5 hj]
      rw [if_pos e1] at hk
      refine ⟨fun e2 => ?_, fun e2 => ⟨rm_0 h5, _, rm_rf h5 vm9 (by decide), rm_in h5 vm9 (by decide) hj, ?_⟩⟩
      · rw [if_pos e2] at hk
        exact hk
      · rw [if_neg e2] at hk
        rw [rm_md h5 hj e2]
        exact hk
    · rw [rm_md h5 hi e1]
      rw [if_neg e1] at hk
      have e2 := hor.resolve_left e1
      unfold settle at hk
      rw [if_neg e1, if_pos e2] at hk
      exact hk
  refine ⟨fun e1 => one (Or.inl e1), fun e1 => ⟨rm_0 h5, _, rm_rf h5 vm8 (by decide), rm_in h5 vm8 (by decide) hj, ?_⟩⟩
  rw [rm_ag h5 hj]
  refine ⟨fun e2 => one (Or.inr e2), fun e2 => ⟨rm_0 h5, _, rm_rf h5 vm8 (by decide), rm_in h5 vm8 (by decide) hi, rm_0 h5, _, rm_rf h5 vm8 (by decide), rm_in h5 vm8 (by decide) hj, fun J39 hJ39 => ?_⟩⟩
  have hk := hJ39 _ hpp
  rw [if_neg e1] at hk
  unfold settle at hk
  rw [if_neg e1, if_neg e2] at hk
  rw [rm_ag h5 hi, rm_ag h5 hj]
  refine ⟨fun e3 => ⟨rm_0 h5, _, rm_rf h5 vm8 (by decide), rm_in h5 vm8 (by decide) hj, rm_0 h5, _, rm_rf h5 vm8 (by decide), rm_in h5 vm8 (by decide) hi, ?_⟩, fun e3 => ⟨rm_0 h5, _, rm_rf h5 vm9 (by decide), rm_in h5 vm9 (by decide) hi, ?_⟩⟩
  · rw [rm_ag h5 hi, rm_ag h5 hj]
    refine ⟨fun e4 => ⟨rm_0 h5, _, rm_rf h5 vm9 (by decide), rm_in h5 vm9 (by decide) hi, rm_0 h5, _, rm_rf h5 vm9 (by decide), rm_in h5 vm9 (by decide) hj, ?_⟩, fun e4 => ⟨rm_0 h5, _, rm_rf h5 vm9 (by decide), rm_in h5 vm9 (by decide) hj, ?_⟩⟩
    · rw [rm_md h5 hi e1, rm_md h5 hj e2]
      rw [if_pos (Int32.le_antisymm e4 e3)] at hk
      exact hk
    · rw [rm_md h5 hj e2]
      rw [if_neg (fun z => e4 (by rw [z]; exact Int32.le_refl _)), if_pos e3] at hk
      exact hk
  · rw [rm_md h5 hi e1]
    rw [if_neg (fun z => e3 (by rw [z]; exact Int32.le_refl _)), if_neg e3] at hk
    exact hk
end RF9
