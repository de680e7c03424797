/-! THE TWO SIDE BY SIDE: questions -/
def f_tree (σ : Sg) (s : Nat) : Rs := (0, treeL σ s, σ)
def f_known (σ : Sg) (s : Nat) : Rs := (0, sgI σ 1 s, σ)
def f_members (σ : Sg) (s d : Nat) : Rs := (0, sgI σ 5 (s * 4 + d), σ)
def f_age (σ : Sg) (s d : Nat) : Rs := (0, sgI σ 2 (s * 4 + d), σ)
def f_modes (σ : Sg) (s d : Nat) : Rs := (0, sgI σ 3 (s * 4 + d), σ)
def f_bans (σ : Sg) (s d : Nat) : Rs := (0, sgI σ 4 (s * 4 + d), σ)
def f_joinedModes (σ : Sg) (s d e : Nat) : Rs := (0, settle (sgI σ 2 (s * 4 + e)) (sgI σ 3 (s * 4 + e)) (sgI σ 2 (d * 4 + e)) (sgI σ 3 (d * 4 + e)), σ)
def f_say (σ : Sg) (u d : Nat) : Rs := (0, sayL σ u (hmU σ u) d, σ)
section LZ
variable {A B : Nat → Nat} {o : Nat} {M : Mem} {σ : Sg} {t : Int32} {k : Nat}
theorem c_tree (h : Both A B o M σ t) {p : Int32} {r : Rs} (hr : (¬ (0 ≤ p ∧ p < 6) → r = (1, 0, σ)) ∧ ∀ s, s < 6 → p = nI s → r = f_tree σ s) {post : Mem → Int32 → Prop} (H : CO A B o M r post) : w_L_tree (sgN r.2.2 2 - sgN σ 2 + 1) (8 * (sgN r.2.2 2 - sgN σ 2) + 6) M (A 0) p o post := by
  obtain ⟨hl, hC⟩ := h.1
  refine ⟨rp_0 hC, _, _, ⟨Nat.le_of_eq (Nat.zero_add _), Nat.le_of_eq (Nat.zero_add _)⟩, p_treeQ hC ⟨by omega, by omega⟩ (fun hn => ⟨rfl, ?_⟩) (fun s hs e1 => ?_)⟩
  · have e := hr.1 hn
    subst e
    exact co_b h z10 H
  · have e := hr.2 s hs e1
    unfold f_tree at e
    subst e
    exact co_v h H (oc_rf h)
theorem x_tree (hR : RepM B M M σ none t) (hI : Inv σ k) {p : Int32} {r : Rs} (hr : (¬ (0 ≤ p ∧ p < 6) → r = (1, 0, σ)) ∧ ∀ s, s < 6 → p = nI s → r = f_tree σ s) {post : Mem → Int32 → Prop} (H : RO B M r post) : w_X6_tree M (B 0) p post := by
  refine r_tree hR hI.1.2.2.2.1.1 (fun hn M' h' => ?_) (fun s hs e1 M' h' => ?_)
  · have e := hr.1 hn
    subst e
    exact H M' 0 h' (fun z => absurd z z10)
  · have e := hr.2 s hs e1
    unfold f_tree at e
    subst e
    exact H M' _ h' (fun _ => rfl)
theorem o_tree (hI : Inv σ k) {p : Int32} {r : Rs} (hr : (¬ (0 ≤ p ∧ p < 6) → r = (1, 0, σ)) ∧ ∀ s, s < 6 → p = nI s → r = f_tree σ s) : okR σ k r := ok1 (n := 6) (by omega) hr (ok_b hI _ _) (fun s hs => ok_b hI _ _)
theorem c_known (h : Both A B o M σ t) {p : Int32} {r : Rs} (hr : (¬ (0 ≤ p ∧ p < 6) → r = (1, 0, σ)) ∧ ∀ s, s < 6 → p = nI s → r = f_known σ s) {post : Mem → Int32 → Prop} (H : CO A B o M r post) : w_L_known (sgN r.2.2 2 - sgN σ 2 + 1) (8 * (sgN r.2.2 2 - sgN σ 2) + 6) M (A 0) p o post := by
  obtain ⟨hl, hC⟩ := h.1
  refine ⟨rp_0 hC, _, _, ⟨Nat.le_of_eq (Nat.zero_add _), Nat.le_of_eq (Nat.zero_add _)⟩, p_knownQ hC ⟨by omega, by omega⟩ (fun hn => ⟨rfl, ?_⟩) (fun s hs e1 => ?_)⟩
  · have e := hr.1 hn
    subst e
    exact co_b h z10 H
  · have e := hr.2 s hs e1
    unfold f_known at e
    subst e
    exact co_v h H (oc_rf h)
theorem x_known (hR : RepM B M M σ none t) (hI : Inv σ k) {p : Int32} {r : Rs} (hr : (¬ (0 ≤ p ∧ p < 6) → r = (1, 0, σ)) ∧ ∀ s, s < 6 → p = nI s → r = f_known σ s) {post : Mem → Int32 → Prop} (H : RO B M r post) : w_X6_known M (B 0) p post := by
  refine r_known hR (fun hn M' h' => ?_) (fun s hs e1 M' h' => ?_)
  · have e := hr.1 hn
    subst e
    exact H M' 0 h' (fun z => absurd z z10)
  · have e := hr.2 s hs e1
    unfold f_known at e
    subst e
    exact H M' _ h' (fun _ => rfl)
theorem o_known (hI : Inv σ k) {p : Int32} {r : Rs} (hr : (¬ (0 ≤ p ∧ p < 6) → r = (1, 0, σ)) ∧ ∀ s, s < 6 → p = nI s → r = f_known σ s) : okR σ k r := ok1 (n := 6) (by omega) hr (ok_b hI _ _) (fun s hs => ok_b hI _ _)
theorem c_members (h : Both A B o M σ t) {p q : Int32} {r : Rs} (hr : (¬ (0 ≤ p ∧ p < 6) ∨ ¬ (0 ≤ q ∧ q < 4) → r = (1, 0, σ)) ∧ ∀ s d, s < 6 → d < 4 → p = nI s → q = nI d → r = f_members σ s d) {post : Mem → Int32 → Prop} (H : CO A B o M r post) : w_L_members (sgN r.2.2 2 - sgN σ 2 + 1) (8 * (sgN r.2.2 2 - sgN σ 2) + 6) M (A 0) p q o post := by
  obtain ⟨hl, hC⟩ := h.1
  refine ⟨rp_0 hC, _, _, ⟨Nat.le_of_eq (Nat.zero_add _), Nat.le_of_eq (Nat.zero_add _)⟩, p_membersQ hC ⟨by omega, by omega⟩ (fun hn => ⟨rfl, ?_⟩) (fun s d hs hd e1 e2 => ?_)⟩
  · have e := hr.1 hn
    subst e
    exact co_b h z10 H
  · have e := hr.2 s d hs hd e1 e2
    unfold f_members at e
    subst e
    exact co_v h H (oc_rf h)
theorem x_members (hR : RepM B M M σ none t) (hI : Inv σ k) {p q : Int32} {r : Rs} (hr : (¬ (0 ≤ p ∧ p < 6) ∨ ¬ (0 ≤ q ∧ q < 4) → r = (1, 0, σ)) ∧ ∀ s d, s < 6 → d < 4 → p = nI s → q = nI d → r = f_members σ s d) {post : Mem → Int32 → Prop} (H : RO B M r post) : w_X6_members M (B 0) p q post := by
  refine r_members hR (fun i hi => (hI.1.2.2.2.2.2.1.1 i hi).1) (fun hn M' h' => ?_) (fun s d hs hd e1 e2 M' h' => ?_)
  · have e := hr.1 hn
    subst e
    exact H M' 0 h' (fun z => absurd z z10)
  · have e := hr.2 s d hs hd e1 e2
    unfold f_members at e
    subst e
    exact H M' _ h' (fun _ => rfl)
theorem o_members (hI : Inv σ k) {p q : Int32} {r : Rs} (hr : (¬ (0 ≤ p ∧ p < 6) ∨ ¬ (0 ≤ q ∧ q < 4) → r = (1, 0, σ)) ∧ ∀ s d, s < 6 → d < 4 → p = nI s → q = nI d → r = f_members σ s d) : okR σ k r := ok2 (n := 6) (m := 4) (by omega) (by omega) hr (ok_b hI _ _) (fun s d hs hd => ok_b hI _ _)
theorem c_age (h : Both A B o M σ t) {p q : Int32} {r : Rs} (hr : (¬ (0 ≤ p ∧ p < 6) ∨ ¬ (0 ≤ q ∧ q < 4) → r = (1, 0, σ)) ∧ ∀ s d, s < 6 → d < 4 → p = nI s → q = nI d → r = f_age σ s d) {post : Mem → Int32 → Prop} (H : CO A B o M r post) : w_L_age (sgN r.2.2 2 - sgN σ 2 + 1) (8 * (sgN r.2.2 2 - sgN σ 2) + 6) M (A 0) p q o post := by
  obtain ⟨hl, hC⟩ := h.1
  refine ⟨rp_0 hC, _, _, ⟨Nat.le_of_eq (Nat.zero_add _), Nat.le_of_eq (Nat.zero_add _)⟩, p_ageQ hC ⟨by omega, by omega⟩ (fun hn => ⟨rfl, ?_⟩) (fun s d hs hd e1 e2 => ?_)⟩
  · have e := hr.1 hn
    subst e
    exact co_b h z10 H
  · have e := hr.2 s d hs hd e1 e2
    unfold f_age at e
    subst e
    exact co_v h H (oc_rf h)
theorem x_age (hR : RepM B M M σ none t) (hI : Inv σ k) {p q : Int32} {r : Rs} (hr : (¬ (0 ≤ p ∧ p < 6) ∨ ¬ (0 ≤ q ∧ q < 4) → r = (1, 0, σ)) ∧ ∀ s d, s < 6 → d < 4 → p = nI s → q = nI d → r = f_age σ s d) {post : Mem → Int32 → Prop} (H : RO B M r post) : w_X6_age M (B 0) p q post := by
  refine r_age hR (fun hn M' h' => ?_) (fun s d hs hd e1 e2 M' h' => ?_)
  · have e := hr.1 hn
    subst e
    exact H M' 0 h' (fun z => absurd z z10)
  · have e := hr.2 s d hs hd e1 e2
    unfold f_age at e
    subst e
    exact H M' _ h' (fun _ => rfl)
theorem o_age (hI : Inv σ k) {p q : Int32} {r : Rs} (hr : (¬ (0 ≤ p ∧ p < 6) ∨ ¬ (0 ≤ q ∧ q < 4) → r = (1, 0, σ)) ∧ ∀ s d, s < 6 → d < 4 → p = nI s → q = nI d → r = f_age σ s d) : okR σ k r := ok2 (n := 6) (m := 4) (by omega) (by omega) hr (ok_b hI _ _) (fun s d hs hd => ok_b hI _ _)
theorem c_modes (h : Both A B o M σ t) {p q : Int32} {r : Rs} (hr : (¬ (0 ≤ p ∧ p < 6) ∨ ¬ (0 ≤ q ∧ q < 4) → r = (1, 0, σ)) ∧ ∀ s d, s < 6 → d < 4 → p = nI s → q = nI d → r = f_modes σ s d) {post : Mem → Int32 → Prop} (H : CO A B o M r post) : w_L_modes (sgN r.2.2 2 - sgN σ 2 + 1) (8 * (sgN r.2.2 2 - sgN σ 2) + 6) M (A 0) p q o post := by
  obtain ⟨hl, hC⟩ := h.1
  refine ⟨rp_0 hC, _, _, ⟨Nat.le_of_eq (Nat.zero_add _), Nat.le_of_eq (Nat.zero_add _)⟩, p_modesQ hC ⟨by omega, by omega⟩ (fun hn => ⟨rfl, ?_⟩) (fun s d hs hd e1 e2 => ?_)⟩
  · have e := hr.1 hn
    subst e
    exact co_b h z10 H
  · have e := hr.2 s d hs hd e1 e2
    unfold f_modes at e
    subst e
    exact co_v h H (oc_rf h)
theorem x_modes (hR : RepM B M M σ none t) (hI : Inv σ k) {p q : Int32} {r : Rs} (hr : (¬ (0 ≤ p ∧ p < 6) ∨ ¬ (0 ≤ q ∧ q < 4) → r = (1, 0, σ)) ∧ ∀ s d, s < 6 → d < 4 → p = nI s → q = nI d → r = f_modes σ s d) {post : Mem → Int32 → Prop} (H : RO B M r post) : w_X6_modes M (B 0) p q post := by
  refine r_modes hR (fun hn M' h' => ?_) (fun s d hs hd e1 e2 M' h' => ?_)
  · have e := hr.1 hn
    subst e
    exact H M' 0 h' (fun z => absurd z z10)
  · have e := hr.2 s d hs hd e1 e2
    unfold f_modes at e
    subst e
    refine H M' _ h' (fun _ => ?_)
    show (if sgI σ 2 (s * 4 + d) = -1 then -1 else sgI σ 3 (s * 4 + d)) = sgI σ 3 (s * 4 + d)
    split
    · rename_i ea
      exact ((hI.1.2.2.2.2.2.1.1 (s * 4 + d) (by omega)).2 ea).1.symm
    · rfl
theorem o_modes (hI : Inv σ k) {p q : Int32} {r : Rs} (hr : (¬ (0 ≤ p ∧ p < 6) ∨ ¬ (0 ≤ q ∧ q < 4) → r = (1, 0, σ)) ∧ ∀ s d, s < 6 → d < 4 → p = nI s → q = nI d → r = f_modes σ s d) : okR σ k r := ok2 (n := 6) (m := 4) (by omega) (by omega) hr (ok_b hI _ _) (fun s d hs hd => ok_b hI _ _)
theorem c_bans (h : Both A B o M σ t) {p q : Int32} {r : Rs} (hr : (¬ (0 ≤ p ∧ p < 6) ∨ ¬ (0 ≤ q ∧ q < 4) → r = (1, 0, σ)) ∧ ∀ s d, s < 6 → d < 4 → p = nI s → q = nI d → r = f_bans σ s d) {post : Mem → Int32 → Prop} (H : CO A B o M r post) : w_L_bans (sgN r.2.2 2 - sgN σ 2 + 1) (8 * (sgN r.2.2 2 - sgN σ 2) + 6) M (A 0) p q o post := by
  obtain ⟨hl, hC⟩ := h.1
  refine ⟨rp_0 hC, _, _, ⟨Nat.le_of_eq (Nat.zero_add _), Nat.le_of_eq (Nat.zero_add _)⟩, p_bansQ hC ⟨by omega, by omega⟩ (fun hn => ⟨rfl, ?_⟩) (fun s d hs hd e1 e2 => ?_)⟩
  · have e := hr.1 hn
    subst e
    exact co_b h z10 H
  · have e := hr.2 s d hs hd e1 e2
    unfold f_bans at e
    subst e
    exact co_v h H (oc_rf h)
theorem x_bans (hR : RepM B M M σ none t) (hI : Inv σ k) {p q : Int32} {r : Rs} (hr : (¬ (0 ≤ p ∧ p < 6) ∨ ¬ (0 ≤ q ∧ q < 4) → r = (1, 0, σ)) ∧ ∀ s d, s < 6 → d < 4 → p = nI s → q = nI d → r = f_bans σ s d) {post : Mem → Int32 → Prop} (H : RO B M r post) : w_X6_bans M (B 0) p q post := by
  refine r_bans hR (fun hn M' h' => ?_) (fun s d hs hd e1 e2 M' h' => ?_)
  · have e := hr.1 hn
    subst e
    exact H M' 0 h' (fun z => absurd z z10)
  · have e := hr.2 s d hs hd e1 e2
    unfold f_bans at e
    subst e
    refine H M' _ h' (fun _ => ?_)
    show (if sgI σ 2 (s * 4 + d) = -1 then -1 else sgI σ 4 (s * 4 + d)) = sgI σ 4 (s * 4 + d)
    split
    · rename_i ea
      exact ((hI.1.2.2.2.2.2.1.1 (s * 4 + d) (by omega)).2 ea).2.symm
    · rfl
theorem o_bans (hI : Inv σ k) {p q : Int32} {r : Rs} (hr : (¬ (0 ≤ p ∧ p < 6) ∨ ¬ (0 ≤ q ∧ q < 4) → r = (1, 0, σ)) ∧ ∀ s d, s < 6 → d < 4 → p = nI s → q = nI d → r = f_bans σ s d) : okR σ k r := ok2 (n := 6) (m := 4) (by omega) (by omega) hr (ok_b hI _ _) (fun s d hs hd => ok_b hI _ _)
theorem c_joinedModes (h : Both A B o M σ t) {p q w : Int32} {r : Rs} (hr : (¬ (0 ≤ p ∧ p < 6) ∨ ¬ (0 ≤ q ∧ q < 6) ∨ ¬ (0 ≤ w ∧ w < 4) → r = (1, 0, σ)) ∧ ∀ s d e, s < 6 → d < 6 → e < 4 → p = nI s → q = nI d → w = nI e → r = f_joinedModes σ s d e) {post : Mem → Int32 → Prop} (H : CO A B o M r post) : w_L_joinedModes (sgN r.2.2 2 - sgN σ 2 + 1) (8 * (sgN r.2.2 2 - sgN σ 2) + 6) M (A 0) p q w o post := by
  obtain ⟨hl, hC⟩ := h.1
  refine ⟨rp_0 hC, _, _, ⟨Nat.le_of_eq (Nat.zero_add _), Nat.le_of_eq (Nat.zero_add _)⟩, p_joinedQ hC ⟨by omega, by omega⟩ (fun hn => ⟨rfl, ?_⟩) (fun s d c hs hd hc e1 e2 e3 => ?_)⟩
  · have e := hr.1 hn
    subst e
    exact co_b h z10 H
  · have e := hr.2 s d c hs hd hc e1 e2 e3
    unfold f_joinedModes at e
    subst e
    exact co_v h H (oc_rf h)
theorem x_joinedModes (hR : RepM B M M σ none t) (hI : Inv σ k) {p q w : Int32} {r : Rs} (hr : (¬ (0 ≤ p ∧ p < 6) ∨ ¬ (0 ≤ q ∧ q < 6) ∨ ¬ (0 ≤ w ∧ w < 4) → r = (1, 0, σ)) ∧ ∀ s d e, s < 6 → d < 6 → e < 4 → p = nI s → q = nI d → w = nI e → r = f_joinedModes σ s d e) {post : Mem → Int32 → Prop} (H : RO B M r post) : w_X6_joinedModes M (B 0) p q w post := by
  refine r_joinedModes hR (fun hn M' h' => ?_) (fun s d c hs hd hc e1 e2 e3 M' h' => ?_)
  · have e := hr.1 hn
    subst e
    exact H M' 0 h' (fun z => absurd z z10)
  · have e := hr.2 s d c hs hd hc e1 e2 e3
    unfold f_joinedModes at e
    subst e
    refine H M' _ h' (fun _ => ?_)
    show (if sgI σ 2 (s * 4 + c) = -1 then (if sgI σ 2 (d * 4 + c) = -1 then -1 else sgI σ 3 (d * 4 + c)) else settle (sgI σ 2 (s * 4 + c)) (sgI σ 3 (s * 4 + c)) (sgI σ 2 (d * 4 + c)) (sgI σ 3 (d * 4 + c))) = settle (sgI σ 2 (s * 4 + c)) (sgI σ 3 (s * 4 + c)) (sgI σ 2 (d * 4 + c)) (sgI σ 3 (d * 4 + c))
    split
    · rename_i ea
      unfold settle
      rw [if_pos ea]
      split
      · rename_i eb
        exact ((hI.1.2.2.2.2.2.1.1 (d * 4 + c) (by omega)).2 eb).1.symm
      · rfl
    · rfl
theorem o_joinedModes (hI : Inv σ k) {p q w : Int32} {r : Rs} (hr : (¬ (0 ≤ p ∧ p < 6) ∨ ¬ (0 ≤ q ∧ q < 6) ∨ ¬ (0 ≤ w ∧ w < 4) → r = (1, 0, σ)) ∧ ∀ s d e, s < 6 → d < 6 → e < 4 → p = nI s → q = nI d → w = nI e → r = f_joinedModes σ s d e) : okR σ k r := by
  by_cases h : (¬ (0 ≤ p ∧ p < 6) ∨ ¬ (0 ≤ q ∧ q < 6) ∨ ¬ (0 ≤ w ∧ w < 4))
  · rw [hr.1 h]; exact ok_b hI _ _
  · obtain ⟨s, hs, e1⟩ := rng6 (Classical.byContradiction (fun z => h (Or.inl z)))
    obtain ⟨d, hd, e2⟩ := rng6 (Classical.byContradiction (fun z => h (Or.inr (Or.inl z))))
    obtain ⟨c, hc, e3⟩ := rng4 (Classical.byContradiction (fun z => h (Or.inr (Or.inr z))))
    rw [hr.2 s d c hs hd hc e1 e2 e3]
    exact ok_b hI _ _
theorem c_say (h : Both A B o M σ t) (hI : Inv σ k) {p q : Int32} {r : Rs} (hr : (¬ (0 ≤ p ∧ p < nI (sgN σ 0)) ∨ ¬ (0 ≤ q ∧ q < 4) → r = (1, 0, σ)) ∧ ∀ s d, s < sgN σ 0 → d < 4 → p = nI s → q = nI d → r = f_say σ s d) {post : Mem → Int32 → Prop} (H : CO A B o M r post) : w_L_say (sgN r.2.2 2 - sgN σ 2 + 1) (8 * (sgN r.2.2 2 - sgN σ 2) + 6) M (A 0) p q o post := by
  obtain ⟨hl, hC⟩ := h.1
  refine ⟨rp_0 hC, _, _, ⟨Nat.le_of_eq (Nat.zero_add _), Nat.le_of_eq (Nat.zero_add _)⟩, p_say hC hI.1.1 hI.1.2.1 ⟨by omega, by omega⟩ (fun hn => ⟨rfl, ?_⟩) (fun u hm d hu hh hd e1 e2 he => ?_)⟩
  · have e := hr.1 hn
    subst e
    exact co_b h z10 H
  · have e := hr.2 u d hu hd e1 e2
    unfold f_say at e
    rw [hm_c hh he] at e
    subst e
    exact co_v h H (oc_rf h)
theorem x_say (hR : RepM B M M σ none t) (hI : Inv σ k) {p q : Int32} {r : Rs} (hr : (¬ (0 ≤ p ∧ p < nI (sgN σ 0)) ∨ ¬ (0 ≤ q ∧ q < 4) → r = (1, 0, σ)) ∧ ∀ s d, s < sgN σ 0 → d < 4 → p = nI s → q = nI d → r = f_say σ s d) {post : Mem → Int32 → Prop} (H : RO B M r post) : w_X6_say M (B 0) p q post := by
  refine r_say hR hI.1.2.2.2.1.1 hI.1.1 hI.1.2.1 (fun i hi => (hI.1.2.2.2.2.2.1.1 i hi).1) (fun i u _ hu hb => el_iff hI.1.1.1 hu hb) (fun hn M' h' => ?_) (fun u hm d hu hh hd e1 e2 he M' h' => ?_)
  · have e := hr.1 hn
    subst e
    exact H M' 0 h' (fun z => absurd z z10)
  · have e := hr.2 u d hu hd e1 e2
    unfold f_say at e
    rw [hm_c hh he] at e
    subst e
    rw [say_RL hI.1.2.2.2.1 u hh d]
    exact H M' _ h' (fun _ => rfl)
theorem o_say (hI : Inv σ k) {p q : Int32} {r : Rs} (hr : (¬ (0 ≤ p ∧ p < nI (sgN σ 0)) ∨ ¬ (0 ≤ q ∧ q < 4) → r = (1, 0, σ)) ∧ ∀ s d, s < sgN σ 0 → d < 4 → p = nI s → q = nI d → r = f_say σ s d) : okR σ k r := ok2 (m := 4) (u_31 hI) (by omega) hr (ok_b hI _ _) (fun u d hu hd => ok_b hI _ _)
/-! areSame -/
def same (σ : Sg) (s d : Nat) : Prop := sgI σ 1 s = sgI σ 1 d ∧ ∀ c, c < 4 → chEq σ (s * 4 + c) (d * 4 + c)
theorem same_R (hI : Inv σ k) {s d : Nat} (hs : s < 6) (hd : d < 6) : (sgI σ 1 s = sgI σ 1 d ∧ ∀ e, e < 4 → smR σ (s * 4 + e) (d * 4 + e)) ↔ same σ s d := by
  have ab := hI.1.2.2.2.2.2.1.1
  constructor
  · rintro ⟨h1, h2⟩
    refine ⟨h1, fun c hc => ?_⟩
    obtain ⟨g1, g2⟩ := h2 c hc
    rcases g2 with g2 | ⟨g2, g3, g4⟩
    · have a1 := ab (s * 4 + c) (by omega)
      have a2 := ab (d * 4 + c) (by omega)
      have b1 := a1.2 g2
      have b2 := a2.2 (g1.symm.trans g2)
      exact ⟨g1, b1.1.trans b2.1.symm, b1.2.trans b2.2.symm, (a1.1.mpr g2).trans (a2.1.mpr (g1.symm.trans g2)).symm⟩
    · exact ⟨g1, g2, g3, g4⟩
  · rintro ⟨h1, h2⟩
    refine ⟨h1, fun c hc => ?_⟩
    obtain ⟨g1, g2, g3, g4⟩ := h2 c hc
    exact ⟨g1, Or.inr ⟨g2, g3, g4⟩⟩
/-- the answer, 1 or 0, or the exception -/
def smF (σ : Sg) (p q : Int32) (r : Int32 × Int32) : Prop := ((¬ (0 ≤ p ∧ p < 6) ∨ ¬ (0 ≤ q ∧ q < 6)) → r = (1, 0)) ∧ ∀ s d, s < 6 → d < 6 → p = nI s → q = nI d → (same σ s d → r = (0, 1)) ∧ (¬ same σ s d → r = (0, 0))
theorem sm_ex (σ : Sg) (p q : Int32) : ∃ r, smF σ p q r := by
  by_cases h : (0 ≤ p ∧ p < 6) ∧ (0 ≤ q ∧ q < 6)
  · obtain ⟨s, hs, e1⟩ := rng6 h.1
    obtain ⟨d, hd, e2⟩ := rng6 h.2
    have u : ∀ s' d', s' < 6 → d' < 6 → p = nI s' → q = nI d' → s' = s ∧ d' = d := fun s' d' hs' hd' e1' e2' => ⟨(nI_eq (by omega) (by omega)).mp (e1'.symm.trans e1), (nI_eq (by omega) (by omega)).mp (e2'.symm.trans e2)⟩
    by_cases g : same σ s d
    · refine ⟨(0, 1), fun z => z.elim (fun z => absurd h.1 z) (fun z => absurd h.2 z), fun s' d' hs' hd' e1' e2' => ⟨fun _ => rfl, fun z => absurd ?_ z⟩⟩
      obtain ⟨a, b⟩ := u s' d' hs' hd' e1' e2'
      rw [a, b]; exact g
    · refine ⟨(0, 0), fun z => z.elim (fun z => absurd h.1 z) (fun z => absurd h.2 z), fun s' d' hs' hd' e1' e2' => ⟨fun z => absurd ?_ g, fun _ => rfl⟩⟩
      obtain ⟨a, b⟩ := u s' d' hs' hd' e1' e2'
      rw [← a, ← b]; exact z
  · refine ⟨(1, 0), fun _ => rfl, fun s' d' hs' hd' e1' e2' => absurd ⟨?_, ?_⟩ h⟩
    · rw [e1']; exact ⟨nI_pos' (by omega), nI_lt (b := 6) hs' (by omega)⟩
    · rw [e2']; exact ⟨nI_pos' (by omega), nI_lt (b := 6) hd' (by omega)⟩
theorem c_areSame (h : Both A B o M σ t) {p q : Int32} {r : Int32 × Int32} (hr : smF σ p q r) {post : Mem → Int32 → Prop} (H : ∀ M', OutC A B o M M' σ → (r.1 = 0 → gL M' o (Int32.toNatClampNeg 0) = r.2.toInt64) → post M' r.1) : w_L_areSame 1 6 M (A 0) p q o post := by
  obtain ⟨hl, hC⟩ := h.1
  have o1 : (1 : Int32).toInt64 = 1 := by decide
  have o0 : (0 : Int32).toInt64 = 0 := by decide
  refine ⟨rp_0 hC, _, _, ⟨Nat.le_of_eq (Nat.zero_add _), Nat.le_of_eq (Nat.zero_add _)⟩, p_sameQ hC ⟨by omega, by omega⟩ (fun hn => ⟨rfl, ?_⟩) (fun s d hs hd e1 e2 => ⟨fun hs2 => ?_, fun hs2 => ?_⟩)⟩
  · have e := hr.1 hn
    subst e
    exact H M (oc_rf h) (fun z => absurd z z10)
  · have e := (hr.2 s d hs hd e1 e2).1 hs2
    subst e
    refine fun J8 hJ8 => ⟨fun z => absurd z z10, fun _ => hJ8 1 ⟨in_o h.2.2, fun M9 e9 => H M9 (oc_out h (oc_rf h) e9).1 (fun _ => ?_)⟩⟩
    rw [(oc_out h (oc_rf h) e9).2]
    exact o1.symm
  · have e := (hr.2 s d hs hd e1 e2).2 hs2
    subst e
    refine fun J8 hJ8 => ⟨fun _ => hJ8 0 ⟨in_o h.2.2, fun M9 e9 => H M9 (oc_out h (oc_rf h) e9).1 (fun _ => ?_)⟩, fun z => absurd rfl z⟩
    rw [(oc_out h (oc_rf h) e9).2]
    exact o0.symm
theorem x_areSame (hR : RepM B M M σ none t) (hI : Inv σ k) {p q : Int32} {r : Int32 × Int32} (hr : smF σ p q r) {post : Mem → Int32 → Prop} (H : ∀ M' x, RepM B M M' σ none r.1 → (r.1 = 0 → x = r.2) → post M' x) : w_X6_areSame M (B 0) p q post := by
  refine r_areSame hR (fun hn M' h' => ?_) (fun s d hs hd e1 e2 M' h' => ⟨fun hs2 => ?_, fun hs2 => ?_⟩)
  · have e := hr.1 hn
    subst e
    exact H M' 0 h' (fun z => absurd z z10)
  · have e := (hr.2 s d hs hd e1 e2).1 ((same_R hI hs hd).mp hs2)
    subst e
    exact H M' _ h' (fun _ => rfl)
  · have e := (hr.2 s d hs hd e1 e2).2 (fun z => hs2 ((same_R hI hs hd).mpr z))
    subst e
    exact H M' _ h' (fun _ => rfl)
theorem sm_01 {p q : Int32} {r : Int32 × Int32} (hr : smF σ p q r) : r.1 = 0 → r.2 = 0 ∨ r.2 = 1 := by
  intro h0
  by_cases h : (0 ≤ p ∧ p < 6) ∧ (0 ≤ q ∧ q < 6)
  · obtain ⟨s, hs, e1⟩ := rng6 h.1
    obtain ⟨d, hd, e2⟩ := rng6 h.2
    by_cases g : same σ s d
    · rw [(hr.2 s d hs hd e1 e2).1 g]; exact Or.inr rfl
    · rw [(hr.2 s d hs hd e1 e2).2 g]; exact Or.inl rfl
  · have : r = (1, 0) := hr.1 (Classical.byContradiction (fun z => h ⟨Classical.byContradiction (fun y => z (Or.inl y)), Classical.byContradiction (fun y => z (Or.inr y))⟩))
    rw [this]; exact Or.inl rfl
/-- the tail of the law where the answer is a truth value -/
theorem law_tailB {M' M37 : Mem} {k x38 : Int32} {J : Prop} (h' : OutC A B o M M' σ) (hne : ∀ j, vm j → B j ≠ o) (hM : RepM B M' M37 σ none k) (h01 : k = 0 → x38 = 0 ∨ x38 = 1) (hx : k = 0 → gL M' o (Int32.toNatClampNeg 0) = x38.toInt64) (hJ : Both A B o M37 σ k → J) : gT M37 (B 0) = some (6, 0) ∧ w_X6_thrown M37 (B 0) (fun x40 => (x40 = k → ∀ J326 : Prop, (J → J326) → ((k = 0 → inA M37 o 11 0 ∧ ∀ J329 : Int64 → Prop, (∀ (y328 : Int64), ((lg_cmp (gL M37 o (Int32.toNatClampNeg 0)) y328 = 0 → J326) ∧ (¬ (lg_cmp (gL M37 o (Int32.toNatClampNeg 0)) y328 = 0) → (0 : Int32) = 1)) → J329 y328) → ((x38 = 0 → J329 0) ∧ (¬ (x38 = 0) → J329 1))) ∧ (¬ (k = 0) → J326))) ∧ (¬ (x40 = k) → (0 : Int32) = 1)) := by
  obtain ⟨hb, hg⟩ := both_M h' hne hM
  have o1 : (1 : Int32).toInt64 = 1 := by decide
  have o0 : (0 : Int32).toInt64 = 0 := by decide
  refine ⟨rm_0 hM, r_thrown hM ⟨fun _ J326 hJ326 => ⟨fun e => ⟨in_o hb.2.2, fun J329 hJ329 => ⟨fun e2 => hJ329 0 ⟨fun _ => hJ326 (hJ hb), fun z => absurd ?_ z⟩, fun e2 => hJ329 1 ⟨fun _ => hJ326 (hJ hb), fun z => absurd ?_ z⟩⟩⟩, fun _ => hJ326 (hJ hb)⟩, fun z => absurd rfl z⟩⟩
  · rw [lg_cmp_eq, hg, hx e, e2]
    exact o0
  · rw [lg_cmp_eq, hg, hx e, (h01 e).resolve_left e2]
    exact o1
/-! deliverAll -/
theorem c_deliverAll (h : Both A B o M σ t) (hI : Inv σ k) (hk : k ≤ 512) {R : Nat} (hR : R ≤ 1000000) (h0 : tot (daN σ R).1 = 0) (hm : ∀ r, r < R → tot (daN σ r).1 ≠ 0) {post : Mem → Int32 → Prop} (H : ∀ M', OutC A B o M M' (tickL (daN σ R).1) → post M' (nI (daN σ R).2)) : gT M (A 0) = some (5, 0) ∧ w_X5_deliverAll (sgN (tickL (daN σ R).1) 2 - sgN σ 2 + 1) (8 * (sgN (tickL (daN σ R).1) 2 - sgN σ 2) + 6) M (A 0) post := by
  obtain ⟨hl, hC⟩ := h.1
  exact ⟨rp_0 hC, p_deliverAll hC (pd_OK k) (inv_PD hI hk) hR (Or.inr h0) hm (bud_r σ (tickL (daN σ R).1)) (fun M' hl' h' => H M' (oc_of h h'))⟩
end LZ
