/-! THE TWO SIDE BY SIDE: what users do -/
def hmU (σ : Sg) (u : Nat) : Nat := (sgI σ 7 u).toNatClampNeg
theorem hm_c {σ : Sg} {u hm : Nat} (hh : hm < 6) (he : sgI σ 7 u = nI hm) : hmU σ u = hm := by unfold hmU; rw [he, clN (by omega)]
def f_signOn (σ : Sg) (q : Int32) (s : Nat) : Rs := if letL q = -1 then (2, 0, σ) else if sgN σ 0 = 20 ∨ nsL σ s (letL q) (-1) ≠ -1 then (3, 0, σ) else (0, nI (sgN σ 0), signL σ s (letL q))
def f_quit (σ : Sg) (u : Nat) : Rs := if goneL σ u (hmU σ u) = true then (2, 0, σ) else (0, 0, quitL σ u (hmU σ u))
def f_leave (σ : Sg) (u d : Nat) : Rs := if goneL σ u (hmU σ u) = true ∨ ¬ bt (sgI σ 5 (hmU σ u * 4 + d)) u = true then (2, 0, σ) else (0, 0, leaveL σ u (hmU σ u) d)
def f_join (σ : Sg) (u d : Nat) : Rs := if goneL σ u (hmU σ u) = true ∨ (bt (sgI σ 5 (hmU σ u * 4 + d)) u = true ∨ (¬ sgI σ 5 (hmU σ u * 4 + d) = 0 ∧ bt (sgI σ 4 (hmU σ u * 4 + d)) (sgI σ 6 u).toNatClampNeg = true)) then (2, 0, σ) else (0, nI (cN (sgI (joinL σ u (hmU σ u) d) 5 (hmU σ u * 4 + d)) 20), joinL σ u (hmU σ u) d)
def f_setModes (σ : Sg) (w v : Int32) (u d : Nat) : Rs := if ¬ (0 ≤ w ∧ w ≤ 15 ∧ 0 ≤ v ∧ v ≤ 67108863) then (2, 0, σ) else if goneL σ u (hmU σ u) = true ∨ ¬ bt (sgI σ 5 (hmU σ u * 4 + d)) u = true then (3, 0, σ) else (0, sgI σ 3 (hmU σ u * 4 + d), modL σ (hmU σ u) d w v)
section LY
variable {A B : Nat → Nat} {o : Nat} {M : Mem} {σ : Sg} {t : Int32} {k : Nat}
theorem c_signOn (h : Both A B o M σ t) (hI : Inv σ k) (hk : k ≤ 512) {p q : Int32} {r : Rs} (hr : (¬ (0 ≤ p ∧ p < 6) → r = (1, 0, σ)) ∧ ∀ s, s < 6 → p = nI s → r = f_signOn σ q s) {post : Mem → Int32 → Prop} (H : CO A B o M r post) : w_L_signOn (sgN r.2.2 2 - sgN σ 2 + 1) (8 * (sgN r.2.2 2 - sgN σ 2) + 6) M (A 0) p q o post := by
  obtain ⟨hl, hC⟩ := h.1
  refine ⟨rp_0 hC, _, _, ⟨Nat.le_of_eq (Nat.zero_add _), Nat.le_of_eq (Nat.zero_add _)⟩, p_signOn hC hI.1.1 (inv_lim hI hk (by omega)) ⟨by omega, by omega⟩ (fun hn => Or.inl ⟨rfl, ?_⟩) (fun s hs e1 hE => Or.inr (Or.inl ⟨rfl, ?_⟩)) (fun s hs e1 hE hE2 => Or.inr (Or.inr ⟨rfl, ?_⟩)) (fun s hs e1 hE hE2 hE3 => ?_)⟩
  · have e := hr.1 hn
    subst e
    exact co_b h z10 H
  · have e := hr.2 s hs e1
    unfold f_signOn at e
    rw [if_pos hE] at e
    subst e
    exact co_b h z20 H
  · have e := hr.2 s hs e1
    unfold f_signOn at e
    rw [if_neg hE, if_pos hE2] at e
    subst e
    exact co_b h z30 H
  · have e := hr.2 s hs e1
    unfold f_signOn at e
    rw [if_neg hE, if_neg (fun z => z.elim (fun z => by omega) (fun z => z hE3))] at e
    subst e
    exact ⟨bud_r σ _, fun M' hl' h' => co_v h H (oc_of h h')⟩
theorem x_signOn (hR : RepM B M M σ none t) (hI : Inv σ k) (hk : k ≤ 512) {p q : Int32} {r : Rs} (hr : (¬ (0 ≤ p ∧ p < 6) → r = (1, 0, σ)) ∧ ∀ s, s < 6 → p = nI s → r = f_signOn σ q s) {post : Mem → Int32 → Prop} (H : RO B M r post) : w_X6_signOn M (B 0) p q post := by
  have ht := inv_tot hI
  refine r_signOn hR hI.1.1.1 hI.1.2.2.2.2.2.1.2.1 (by omega) (fun hn M' h' => ?_) (fun s hs e1 hE M' h' => ?_) (fun s hs e1 hE hE2 M' h' => ?_) (fun s hs e1 hE hE2 hE3 M' h' => ?_)
  · have e := hr.1 hn
    subst e
    exact H M' 0 h' (fun z => absurd z z10)
  · have e := hr.2 s hs e1
    unfold f_signOn at e
    rw [if_pos hE] at e
    subst e
    exact H M' 0 h' (fun z => absurd z z20)
  · have e := hr.2 s hs e1
    unfold f_signOn at e
    rw [if_neg hE, if_pos hE2] at e
    subst e
    exact H M' 0 h' (fun z => absurd z z30)
  · have e := hr.2 s hs e1
    unfold f_signOn at e
    rw [if_neg hE, if_neg (fun z => z.elim (fun z => by omega) (fun z => z hE3))] at e
    subst e
    exact H M' _ h' (fun _ => rfl)
theorem o_signOn (hI : Inv σ k) (hk : k ≤ 512) {p q : Int32} {r : Rs} (hr : (¬ (0 ≤ p ∧ p < 6) → r = (1, 0, σ)) ∧ ∀ s, s < 6 → p = nI s → r = f_signOn σ q s) : okR σ k r := ok1 (n := 6) (by omega) hr (ok_b hI _ _) (fun s hs => by
  unfold f_signOn
  split
  · exact ok_b hI _ _
  · rename_i hE
    split
    · exact ok_b hI _ _
    · rename_i hE2
      have h20 := hI.1.1.1
      have hu : sgN σ 0 < 20 := by
        have : sgN σ 0 ≠ 20 := fun z => hE2 (Or.inl z)
        omega
      have hn : nsL σ s (letL q) (-1) = -1 := Classical.byContradiction (fun z => hE2 (Or.inr z))
      exact ⟨inv_sign hI hk hs (letL_ok hE) hu hn, spread_2 (learnL (bookL σ s (letL q)) s (sgN σ 0)) hs (-1) (qln 0 (sgN σ 0))⟩)
theorem c_quit (h : Both A B o M σ t) (hI : Inv σ k) (hk : k ≤ 512) {p : Int32} {r : Rs} (hr : (¬ (0 ≤ p ∧ p < nI (sgN σ 0)) → r = (1, 0, σ)) ∧ ∀ s, s < sgN σ 0 → p = nI s → r = f_quit σ s) {post : Mem → Int32 → Prop} (H : ∀ M', OutC A B o M M' r.2.2 → post M' r.1) : w_L_quit (sgN r.2.2 2 - sgN σ 2 + 1) (8 * (sgN r.2.2 2 - sgN σ 2) + 6) M (A 0) p post := by
  obtain ⟨hl, hC⟩ := h.1
  refine ⟨rp_0 hC, _, _, ⟨Nat.le_of_eq (Nat.zero_add _), Nat.le_of_eq (Nat.zero_add _)⟩, p_quit hC hI.1.1 (inv_lim hI hk (by omega)) ⟨by omega, by omega⟩ (fun hn => Or.inl ⟨rfl, ?_⟩) (fun u hm hu hh e1 he hE => Or.inr ⟨rfl, ?_⟩) (fun u hm hu hh e1 he hE => ?_)⟩
  · have e := hr.1 hn
    subst e
    exact H M (oc_rf h)
  · have e := hr.2 u hu e1
    unfold f_quit at e
    rw [hm_c hh he, if_pos hE] at e
    subst e
    exact H M (oc_rf h)
  · have e := hr.2 u hu e1
    unfold f_quit at e
    rw [hm_c hh he, if_neg (by rw [hE]; decide)] at e
    subst e
    exact ⟨bud_r σ _, fun M' hl' h' => H M' (oc_of h h')⟩
theorem x_quit (hR : RepM B M M σ none t) (hI : Inv σ k) (hk : k ≤ 512) {p : Int32} {r : Rs} (hr : (¬ (0 ≤ p ∧ p < nI (sgN σ 0)) → r = (1, 0, σ)) ∧ ∀ s, s < sgN σ 0 → p = nI s → r = f_quit σ s) {post : Mem → Prop} (H : ∀ M', RepM B M M' r.2.2 none r.1 → post M') : w_X6_quit M (B 0) p post := by
  have ht := inv_tot hI
  refine r_quit hR hI.1.1 (by omega) (fun hn M' h' => ?_) (fun u hm hu hh e1 he hE M' h' => ?_) (fun u hm hu hh e1 he hE M' h' => ?_)
  · have e := hr.1 hn
    subst e
    exact H M' h'
  · have e := hr.2 u hu e1
    unfold f_quit at e
    rw [hm_c hh he, if_pos hE] at e
    subst e
    exact H M' h'
  · have e := hr.2 u hu e1
    unfold f_quit at e
    rw [hm_c hh he, if_neg (by rw [hE]; decide)] at e
    subst e
    exact H M' h'
theorem hm_6 (hI : Inv σ k) {u : Nat} (hu : u < sgN σ 0) : hmU σ u < 6 := by
  obtain ⟨hm, hh, he⟩ := hI.1.1.2 u hu
  rw [hm_c hh he]
  exact hh
theorem u_31 (hI : Inv σ k) : sgN σ 0 < 2 ^ 31 := by
  have := hI.1.1.1
  omega
theorem o_quit (hI : Inv σ k) (hk : k ≤ 512) {p : Int32} {r : Rs} (hr : (¬ (0 ≤ p ∧ p < nI (sgN σ 0)) → r = (1, 0, σ)) ∧ ∀ s, s < sgN σ 0 → p = nI s → r = f_quit σ s) : okR σ k r := ok1 (u_31 hI) hr (ok_b hI _ _) (fun u hu => by
  unfold f_quit
  split
  · exact ok_b hI _ _
  · refine ⟨inv_quit hI hk hu (hm_6 hI hu), ?_⟩
    have := spread_2 (forgetL σ (hmU σ u) (nI u)) (hm_6 hI hu) (-1) (qln 1 u)
    rw [forget_N] at this
    exact this)
theorem c_leave (h : Both A B o M σ t) (hI : Inv σ k) (hk : k ≤ 512) {p q : Int32} {r : Rs} (hr : (¬ (0 ≤ p ∧ p < nI (sgN σ 0)) ∨ ¬ (0 ≤ q ∧ q < 4) → r = (1, 0, σ)) ∧ ∀ s d, s < sgN σ 0 → d < 4 → p = nI s → q = nI d → r = f_leave σ s d) {post : Mem → Int32 → Prop} (H : ∀ M', OutC A B o M M' r.2.2 → post M' r.1) : w_L_leave (sgN r.2.2 2 - sgN σ 2 + 1) (8 * (sgN r.2.2 2 - sgN σ 2) + 6) M (A 0) p q post := by
  obtain ⟨hl, hC⟩ := h.1
  refine ⟨rp_0 hC, _, _, ⟨Nat.le_of_eq (Nat.zero_add _), Nat.le_of_eq (Nat.zero_add _)⟩, p_leave hC hI.1.1 (inv_lim hI hk (by omega)) ⟨by omega, by omega⟩ (fun hn => Or.inl ⟨rfl, ?_⟩) (fun u hm d hu hh hd e1 e2 he hE => Or.inr ⟨rfl, ?_⟩) (fun u hm d hu hh hd e1 e2 he hE hE2 => ?_)⟩
  · have e := hr.1 hn
    subst e
    exact H M (oc_rf h)
  · have e := hr.2 u d hu hd e1 e2
    unfold f_leave at e
    rw [hm_c hh he, if_pos hE] at e
    subst e
    exact H M (oc_rf h)
  · have e := hr.2 u d hu hd e1 e2
    unfold f_leave at e
    rw [hm_c hh he, if_neg (fun z => z.elim (fun z => by rw [hE] at z; cases z) (fun z => z hE2))] at e
    subst e
    exact ⟨bud_r σ _, fun M' hl' h' => H M' (oc_of h h')⟩
theorem x_leave (hR : RepM B M M σ none t) (hI : Inv σ k) (hk : k ≤ 512) {p q : Int32} {r : Rs} (hr : (¬ (0 ≤ p ∧ p < nI (sgN σ 0)) ∨ ¬ (0 ≤ q ∧ q < 4) → r = (1, 0, σ)) ∧ ∀ s d, s < sgN σ 0 → d < 4 → p = nI s → q = nI d → r = f_leave σ s d) {post : Mem → Prop} (H : ∀ M', RepM B M M' r.2.2 none r.1 → post M') : w_X6_leave M (B 0) p q post := by
  have ht := inv_tot hI
  refine r_leave hR hI.1.1 (fun i hi => (hI.1.2.2.2.2.2.1.1 i hi).1) (by omega) (fun hn M' h' => ?_) (fun u hm d hu hh hd e1 e2 he hE M' h' => ?_) (fun u hm d hu hh hd e1 e2 he hE hE2 M' h' => ?_)
  · have e := hr.1 hn
    subst e
    exact H M' h'
  · have e := hr.2 u d hu hd e1 e2
    unfold f_leave at e
    rw [hm_c hh he, if_pos hE] at e
    subst e
    exact H M' h'
  · have e := hr.2 u d hu hd e1 e2
    unfold f_leave at e
    rw [hm_c hh he, if_neg (fun z => z.elim (fun z => by rw [hE] at z; cases z) (fun z => z hE2))] at e
    subst e
    exact H M' h'
theorem o_leave (hI : Inv σ k) (hk : k ≤ 512) {p q : Int32} {r : Rs} (hr : (¬ (0 ≤ p ∧ p < nI (sgN σ 0)) ∨ ¬ (0 ≤ q ∧ q < 4) → r = (1, 0, σ)) ∧ ∀ s d, s < sgN σ 0 → d < 4 → p = nI s → q = nI d → r = f_leave σ s d) : okR σ k r := ok2 (m := 4) (u_31 hI) (by omega) hr (ok_b hI _ _) (fun u d hu hd => by
  unfold f_leave
  split
  · exact ok_b hI _ _
  · refine ⟨inv_leave hI hk hu (hm_6 hI hu) hd, ?_⟩
    have := spread_2 (dropL σ (hmU σ u * 4 + d) (nI u)) (hm_6 hI hu) (-1) (3, nI d, nI u, 0, 0, 0)
    rw [drop_N] at this
    exact this)
theorem join_20 (hI : Inv σ k) (hk : k ≤ 512) {u hm d : Nat} (hu : u < sgN σ 0) (hh : hm < 6) (hd : d < 4) (hg : goneL σ u hm = false) : bcL (sgI (joinL σ u hm d) 5 (hm * 4 + d)) = nI (cN (sgI (joinL σ u hm d) 5 (hm * 4 + d)) 20) := by
  have hJ := inv_join hI hk hu hh hd hg
  obtain ⟨-, -, v3, v4⟩ := hJ.1.2.2.2.2.2.1
  refine bc_20 (fun i hi => bt_false (fun e => ?_))
  have h1 := v3 hm i hh (v4 hm d i hh hd e)
  have h2 := hJ.1.1.1
  omega
theorem c_join (h : Both A B o M σ t) (hI : Inv σ k) (hk : k ≤ 512) {p q : Int32} {r : Rs} (hr : (¬ (0 ≤ p ∧ p < nI (sgN σ 0)) ∨ ¬ (0 ≤ q ∧ q < 4) → r = (1, 0, σ)) ∧ ∀ s d, s < sgN σ 0 → d < 4 → p = nI s → q = nI d → r = f_join σ s d) {post : Mem → Int32 → Prop} (H : CO A B o M r post) : w_L_join (sgN r.2.2 2 - sgN σ 2 + 1) (8 * (sgN r.2.2 2 - sgN σ 2) + 6) M (A 0) p q o post := by
  obtain ⟨hl, hC⟩ := h.1
  refine ⟨rp_0 hC, _, _, ⟨Nat.le_of_eq (Nat.zero_add _), Nat.le_of_eq (Nat.zero_add _)⟩, p_join hC hI.1.1 hI.1.2.1 (inv_lim hI hk (by omega)) ⟨by omega, by omega⟩ (fun hn => Or.inl ⟨rfl, ?_⟩) (fun u hm d hu hh hd e1 e2 he hE => Or.inr ⟨rfl, ?_⟩) (fun u hm d hu hh hd e1 e2 he hE hE2 => ?_)⟩
  · have e := hr.1 hn
    subst e
    exact co_b h z10 H
  · have e := hr.2 u d hu hd e1 e2
    unfold f_join at e
    unfold barL at hE
    rw [hm_c hh he, if_pos hE] at e
    subst e
    exact co_b h z20 H
  · have e := hr.2 u d hu hd e1 e2
    unfold f_join at e
    rw [hm_c hh he, if_neg (fun z => z.elim (fun z => by rw [hE] at z; cases z) hE2)] at e
    subst e
    rw [join_20 hI hk hu hh hd hE]
    exact ⟨bud_r σ _, fun M' hl' h' => co_v h H (oc_of h h')⟩
theorem x_join (hR : RepM B M M σ none t) (hI : Inv σ k) (hk : k ≤ 512) {p q : Int32} {r : Rs} (hr : (¬ (0 ≤ p ∧ p < nI (sgN σ 0)) ∨ ¬ (0 ≤ q ∧ q < 4) → r = (1, 0, σ)) ∧ ∀ s d, s < sgN σ 0 → d < 4 → p = nI s → q = nI d → r = f_join σ s d) {post : Mem → Int32 → Prop} (H : RO B M r post) : w_X6_join M (B 0) p q post := by
  have ht := inv_tot hI
  have hck := hI.2.2.1
  refine r_join hR hI.1.1 hI.1.2.1 (fun i hi => (hI.1.2.2.2.2.2.1.1 i hi).1) (by omega) (by omega) (fun hn M' h' => ?_) (fun u hm d hu hh hd e1 e2 he hE M' h' => ?_) (fun u hm d hu hh hd e1 e2 he hE hE2 M' h' => ?_)
  · have e := hr.1 hn
    subst e
    exact H M' 0 h' (fun z => absurd z z10)
  · have e := hr.2 u d hu hd e1 e2
    unfold f_join at e
    unfold barL at hE
    rw [hm_c hh he, if_pos hE] at e
    subst e
    exact H M' 0 h' (fun z => absurd z z20)
  · have e := hr.2 u d hu hd e1 e2
    unfold f_join at e
    rw [hm_c hh he, if_neg (fun z => z.elim (fun z => by rw [hE] at z; cases z) hE2)] at e
    subst e
    exact H M' _ h' (fun _ => rfl)
theorem o_join (hI : Inv σ k) (hk : k ≤ 512) {p q : Int32} {r : Rs} (hr : (¬ (0 ≤ p ∧ p < nI (sgN σ 0)) ∨ ¬ (0 ≤ q ∧ q < 4) → r = (1, 0, σ)) ∧ ∀ s d, s < sgN σ 0 → d < 4 → p = nI s → q = nI d → r = f_join σ s d) : okR σ k r := ok2 (m := 4) (u_31 hI) (by omega) hr (ok_b hI _ _) (fun u d hu hd => by
  unfold f_join
  split
  · exact ok_b hI _ _
  · rename_i hE
    refine ⟨inv_join hI hk hu (hm_6 hI hu) hd (Bool.eq_false_iff.mpr (fun z => hE (Or.inl z))), ?_⟩
    have := spread_2 (enL σ u (hmU σ u) d) (hm_6 hI hu) (-1) (2, nI d, 1 <<< (nI u &&& 31), sgI (enL σ u (hmU σ u) d) 2 (hmU σ u * 4 + d), sgI (enL σ u (hmU σ u) d) 3 (hmU σ u * 4 + d), sgI (enL σ u (hmU σ u) d) 4 (hmU σ u * 4 + d))
    rw [show sgN (enL σ u (hmU σ u) d) 2 = sgN σ 2 from enter_N σ _ _ _ 2] at this
    exact this)
theorem c_setModes (h : Both A B o M σ t) (hI : Inv σ k) (hk : k ≤ 512) {p q w v : Int32} {r : Rs} (hr : (¬ (0 ≤ p ∧ p < nI (sgN σ 0)) ∨ ¬ (0 ≤ q ∧ q < 4) → r = (1, 0, σ)) ∧ ∀ s d, s < sgN σ 0 → d < 4 → p = nI s → q = nI d → r = f_setModes σ w v s d) {post : Mem → Int32 → Prop} (H : CO A B o M r post) : w_L_setModes (sgN r.2.2 2 - sgN σ 2 + 1) (8 * (sgN r.2.2 2 - sgN σ 2) + 6) M (A 0) p q w v o post := by
  obtain ⟨hl, hC⟩ := h.1
  refine ⟨rp_0 hC, _, _, ⟨Nat.le_of_eq (Nat.zero_add _), Nat.le_of_eq (Nat.zero_add _)⟩, p_setModes hC hI.1.1 (inv_lim hI hk (by omega)) ⟨by omega, by omega⟩ (fun hn => Or.inl ⟨rfl, ?_⟩) (fun hp hq hE => Or.inr (Or.inl ⟨rfl, ?_⟩)) (fun u hm d hu hh hd e1 e2 he hok hE => Or.inr (Or.inr ⟨rfl, ?_⟩)) (fun u hm d hu hh hd e1 e2 he hok hE hE2 => ?_)⟩
  · have e := hr.1 hn
    subst e
    exact co_b h z10 H
  · obtain ⟨u, hu, e1⟩ := rngN (u_31 hI) hp
    obtain ⟨d, hd, e2⟩ := rng4 hq
    have e := hr.2 u d hu hd e1 e2
    unfold f_setModes at e
    rw [if_pos hE] at e
    subst e
    exact co_b h z20 H
  · have e := hr.2 u d hu hd e1 e2
    unfold f_setModes at e
    rw [hm_c hh he, if_neg (fun z => z hok), if_pos hE] at e
    subst e
    exact co_b h z30 H
  · have e := hr.2 u d hu hd e1 e2
    unfold f_setModes at e
    rw [hm_c hh he, if_neg (fun z => z hok), if_neg (fun z => z.elim (fun z => by rw [hE] at z; cases z) (fun z => z hE2))] at e
    subst e
    exact ⟨bud_r σ _, fun M' hl' h' => co_v h H (oc_of h h')⟩
theorem x_setModes (hR : RepM B M M σ none t) (hI : Inv σ k) (hk : k ≤ 512) {p q w v : Int32} {r : Rs} (hr : (¬ (0 ≤ p ∧ p < nI (sgN σ 0)) ∨ ¬ (0 ≤ q ∧ q < 4) → r = (1, 0, σ)) ∧ ∀ s d, s < sgN σ 0 → d < 4 → p = nI s → q = nI d → r = f_setModes σ w v s d) {post : Mem → Int32 → Prop} (H : RO B M r post) : w_X6_setModes M (B 0) p q w v post := by
  have ht := inv_tot hI
  refine r_setModes hR hI.1.1 (fun i hi => (hI.1.2.2.2.2.2.1.1 i hi).1) (by omega) (fun hn M' h' => ?_) (fun hp hq hE M' h' => ?_) (fun u hm d hu hh hd e1 e2 he hok hE M' h' => ?_) (fun u hm d hu hh hd e1 e2 he hok hE hE2 M' h' => ?_)
  · have e := hr.1 hn
    subst e
    exact H M' 0 h' (fun z => absurd z z10)
  · obtain ⟨u, hu, e1⟩ := rngN (u_31 hI) hp
    obtain ⟨d, hd, e2⟩ := rng4 hq
    have e := hr.2 u d hu hd e1 e2
    unfold f_setModes at e
    rw [if_pos hE] at e
    subst e
    exact H M' 0 h' (fun z => absurd z z20)
  · have e := hr.2 u d hu hd e1 e2
    unfold f_setModes at e
    rw [hm_c hh he, if_neg (fun z => z hok), if_pos hE] at e
    subst e
    exact H M' 0 h' (fun z => absurd z z30)
  · have e := hr.2 u d hu hd e1 e2
    unfold f_setModes at e
    rw [hm_c hh he, if_neg (fun z => z hok), if_neg (fun z => z.elim (fun z => by rw [hE] at z; cases z) (fun z => z hE2))] at e
    subst e
    exact H M' _ h' (fun _ => rfl)
theorem o_setModes (hI : Inv σ k) (hk : k ≤ 512) {p q w v : Int32} {r : Rs} (hr : (¬ (0 ≤ p ∧ p < nI (sgN σ 0)) ∨ ¬ (0 ≤ q ∧ q < 4) → r = (1, 0, σ)) ∧ ∀ s d, s < sgN σ 0 → d < 4 → p = nI s → q = nI d → r = f_setModes σ w v s d) : okR σ k r := ok2 (m := 4) (u_31 hI) (by omega) hr (ok_b hI _ _) (fun u d hu hd => by
  unfold f_setModes
  split
  · exact ok_b hI _ _
  · split
    · exact ok_b hI _ _
    · rename_i hE
      have hb : bt (sgI σ 5 (hmU σ u * 4 + d)) u = true := Classical.byContradiction (fun z => hE (Or.inr z))
      exact ⟨inv_mod hI hk (hm_6 hI hu) hd hb w v, spread_2 (mset σ (hmU σ u * 4 + d) w v) (hm_6 hI hu) (-1) (4, nI d, 0, sgI σ 2 (hmU σ u * 4 + d), w, v)⟩)
end LY
