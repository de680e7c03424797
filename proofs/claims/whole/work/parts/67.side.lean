/-! THE TWO SIDE BY SIDE -/
def FoB (B : Nat → Nat) (o : Nat) (b : Nat) : Prop := (∃ k, vm k ∧ b = B k) ∨ b = o
theorem rm_frame {B : Nat → Nat} {M0 M M' : Mem} {σ : Sg} {c : Option Ln} {t : Int32} (h : RepM B M0 M σ c t) (hg : ∀ k, vm k → agr M M' (B k)) : RepM B M' M' σ c t := by
  obtain ⟨V, ⟨⟨s1, s2, s3, s4, s5, s6, s7⟩, hv⟩, hS⟩ := h
  refine ⟨V, ⟨⟨fun k hk => ?_, fun k hk h0 => ?_, s3, fun _ => rfl, fun _ _ => rfl, fun _ _ => rfl, fun _ _ _ => rfl⟩, fun k hk j => ?_⟩, hS⟩
  · rw [(hg k hk).1, s4]; exact s1 k hk
  · rw [(hg 0 vm0).2.2.1, s5]; exact s2 k hk h0
  · rw [(hg k hk).2.1]; exact hv k hk j
def Both (A B : Nat → Nat) (o : Nat) (M : Mem) (σ : Sg) (t : Int32) : Prop := (∃ hl, RepC A (FoB B o) M M σ hl) ∧ RepM B M M σ none t ∧ gT M o = some (11, 1)
/-- behind the class's step: B's cells are as they were -/
def OutC (A B : Nat → Nat) (o : Nat) (M M' : Mem) (σ' : Sg) : Prop := (∃ hl, RepC A (FoB B o) M' M' σ' hl) ∧ (∀ k, vm k → agr M M' (B k)) ∧ gT M' o = some (11, 1)
section LW
variable {A B : Nat → Nat} {o : Nat} {M M' : Mem} {σ σ' : Sg} {t : Int32}
theorem oc_rf (h : Both A B o M σ t) : OutC A B o M M σ := ⟨h.1, fun _ _ => agr_rf, h.2.2⟩
theorem oc_of (h : Both A B o M σ t) {hl : Nat → Option Ln} (h' : RepC A (FoB B o) M M' σ' hl) : OutC A B o M M' σ' := ⟨⟨hl, rp_base h'⟩, fun k hk => (rp_for h' (Or.inl ⟨k, hk, rfl⟩)).2, ((rp_for h' (Or.inr rfl)).2.1).trans h.2.2⟩
theorem o_ne (h : Both A B o M σ t) {k : Nat} (hk : vm k) : B k ≠ o := fun e => by
  have h1 : gT M (B k) = some (tyM k) := by
    obtain ⟨V, hV, -⟩ := h.2.1
    exact rv_ty hV hk
  rw [e, h.2.2] at h1
  unfold tyM at h1
  split at h1 <;> cases h1
theorem oc_out (h : Both A B o M σ t) (h' : OutC A B o M M' σ') {M8 : Mem} {y : Int64} (e : M8 = sL M' o (Int32.toNatClampNeg 0) y) : OutC A B o M M8 σ' ∧ gL M8 o (Int32.toNatClampNeg 0) = y := by
  subst e
  obtain ⟨⟨hl, hC⟩, hB, ho⟩ := h'
  refine ⟨⟨⟨hl, rp_frame hC (fun b hb _ => ⟨rfl, fun _ => rfl, fun _ => rfl, fun j => ?_⟩) (fun b hb => (rp_for hC hb).1)⟩, fun k hk => ?_, ho⟩, ?_⟩
  · rw [gL_sL, if_neg (fun z => hb (Or.inr z.1))]
  · obtain ⟨g1, g2, g3, g4⟩ := hB k hk
    refine ⟨g1, g2, g3, fun j => ?_⟩
    rw [gL_sL, if_neg (fun z => o_ne h hk z.1)]
    exact g4 j
  · rw [gL_sL, if_pos ⟨rfl, rfl⟩]
theorem in_o (h : gT M o = some (11, 1)) : inA M o 11 0 := in_nI (i := 0) h (by omega) (by omega)
theorem oc_M (h : Both A B o M σ t) (h' : OutC A B o M M' σ') : RepM B M' M' σ none t := rm_frame h.2.1 h'.2.1
/-- behind the reference's step both stand again -/
theorem both_M {M'' : Mem} {k : Int32} (h' : OutC A B o M M' σ') (hne : ∀ j, vm j → B j ≠ o) (hM : RepM B M' M'' σ' none k) : Both A B o M'' σ' k ∧ gL M'' o (Int32.toNatClampNeg 0) = gL M' o (Int32.toNatClampNeg 0) := by
  obtain ⟨⟨hl, hC⟩, hB, ho⟩ := h'
  obtain ⟨V, hV, hS⟩ := id hM
  have ag : ∀ b, (∀ j, vm j → b ≠ B j) → agr M' M'' b := fun b hb => ⟨hV.1.2.2.2.1 b, fun j => hV.1.2.2.2.2.2.2 b hb j, fun j => hV.1.2.2.2.2.1 b j, fun j => hV.1.2.2.2.2.2.1 b j⟩
  refine ⟨⟨⟨hl, rp_frame hC (fun b hb _ => ag b (fun j hj e => hb (Or.inl ⟨j, hj, e⟩))) (fun b hb => ?_)⟩, rm_frame hM (fun _ _ => agr_rf), ?_⟩, ?_⟩
  · rw [hV.1.2.2.2.1]; exact (rp_for hC hb).1
  · rw [hV.1.2.2.2.1]; exact ho
  · exact hV.1.2.2.2.2.2.1 o _
theorem law_tail {M32 M37 : Mem} {k x38 : Int32} {J : Prop} (h' : OutC A B o M M32 σ') (hne : ∀ j, vm j → B j ≠ o) (hM : RepM B M32 M37 σ' none k) (hx : k = 0 → gL M32 o (Int32.toNatClampNeg 0) = x38.toInt64) (hJ : Both A B o M37 σ' k → J) : gT M37 (B 0) = some (6, 0) ∧ w_X6_thrown M37 (B 0) (fun x40 => (x40 = k → ∀ J41 : Prop, (J → J41) → ((k = 0 → inA M37 o 11 0 ∧ (lg_cmp (gL M37 o (Int32.toNatClampNeg 0)) x38.toInt64 = 0 → J41) ∧ (¬ (lg_cmp (gL M37 o (Int32.toNatClampNeg 0)) x38.toInt64 = 0) → (0 : Int32) = 1)) ∧ (¬ (k = 0) → J41))) ∧ (¬ (x40 = k) → (0 : Int32) = 1)) := by
  obtain ⟨hb, hg⟩ := both_M h' hne hM
  refine ⟨rm_0 hM, r_thrown hM ⟨fun _ J41 hJ41 => ⟨fun e => ⟨in_o hb.2.2, fun _ => hJ41 (hJ hb), fun z => absurd ?_ z⟩, fun _ => hJ41 (hJ hb)⟩, fun z => absurd rfl z⟩⟩
  rw [lg_cmp_eq, hg]
  exact hx e
theorem law_tail0 {M32 M37 : Mem} {k : Int32} {J : Prop} (h' : OutC A B o M M32 σ') (hne : ∀ j, vm j → B j ≠ o) (hM : RepM B M32 M37 σ' none k) (hJ : Both A B o M37 σ' k → J) : gT M37 (B 0) = some (6, 0) ∧ w_X6_thrown M37 (B 0) (fun x40 => (x40 = k → J) ∧ (¬ (x40 = k) → (0 : Int32) = 1)) := ⟨rm_0 hM, r_thrown hM ⟨fun _ => hJ (both_M h' hne hM).1, fun z => absurd rfl z⟩⟩
end LW
/-! what a call answers: its exception's place, its answer, the state behind it -/
abbrev Rs : Type := Int32 × Int32 × Sg
theorem ex1 (n : Nat) (hn : n < 2 ^ 31) (p : Int32) (b : Rs) (f : Nat → Rs) : ∃ r : Rs, (¬ (0 ≤ p ∧ p < nI n) → r = b) ∧ ∀ s, s < n → p = nI s → r = f s := by
  by_cases h : 0 ≤ p ∧ p < nI n
  · obtain ⟨s, hs, e⟩ := rngN hn h
    refine ⟨f s, fun z => absurd h z, fun s' hs' e' => ?_⟩
    have : s' = s := (nI_eq (by omega) (by omega)).mp (e'.symm.trans e)
    rw [this]
  · refine ⟨b, fun _ => rfl, fun s' hs' e' => absurd ?_ h⟩
    rw [e']
    exact ⟨nI_pos' (by omega), nI_lt hs' hn⟩
theorem ex2 (n m : Nat) (hn : n < 2 ^ 31) (hm : m < 2 ^ 31) (p q : Int32) (b : Rs) (f : Nat → Nat → Rs) : ∃ r : Rs, (¬ (0 ≤ p ∧ p < nI n) ∨ ¬ (0 ≤ q ∧ q < nI m) → r = b) ∧ ∀ s d, s < n → d < m → p = nI s → q = nI d → r = f s d := by
  by_cases h : 0 ≤ q ∧ q < nI m
  · obtain ⟨d, hd, e⟩ := rngN hm h
    obtain ⟨r, r1, r2⟩ := ex1 n hn p b (fun s => f s d)
    refine ⟨r, fun z => r1 (z.resolve_right (fun z2 => z2 h)), fun s d' hs hd' e1 e2 => ?_⟩
    have : d' = d := (nI_eq (by omega) (by omega)).mp (e2.symm.trans e)
    rw [this]
    exact r2 s hs e1
  · refine ⟨b, fun _ => rfl, fun s d' hs hd' e1 e2 => absurd ?_ h⟩
    rw [e2]
    exact ⟨nI_pos' (by omega), nI_lt hd' hm⟩
theorem ex3 (n m l : Nat) (hn : n < 2 ^ 31) (hm : m < 2 ^ 31) (hl : l < 2 ^ 31) (p q w : Int32) (b : Rs) (f : Nat → Nat → Nat → Rs) : ∃ r : Rs, (¬ (0 ≤ p ∧ p < nI n) ∨ ¬ (0 ≤ q ∧ q < nI m) ∨ ¬ (0 ≤ w ∧ w < nI l) → r = b) ∧ ∀ s d e, s < n → d < m → e < l → p = nI s → q = nI d → w = nI e → r = f s d e := by
  by_cases h : 0 ≤ w ∧ w < nI l
  · obtain ⟨d, hd, e⟩ := rngN hl h
    obtain ⟨r, r1, r2⟩ := ex2 n m hn hm p q b (fun s d' => f s d' d)
    refine ⟨r, fun z => r1 ?_, fun s d' c hs hd' hc e1 e2 e3 => ?_⟩
    · rcases z with z | z | z
      · exact Or.inl z
      · exact Or.inr z
      · exact absurd h z
    have : c = d := (nI_eq (by omega) (by omega)).mp (e3.symm.trans e)
    rw [this]
    exact r2 s d' hs hd' e1 e2
  · refine ⟨b, fun _ => rfl, fun s d' c hs hd' hc e1 e2 e3 => absurd ?_ h⟩
    rw [e3]
    exact ⟨nI_pos' (by omega), nI_lt hc hl⟩
/-- the invariant holds behind a call -/
def okR (σ : Sg) (k : Nat) (r : Rs) : Prop := Inv r.2.2 (k + 1) ∧ sgN σ 2 ≤ sgN r.2.2 2
theorem ok_b {σ : Sg} {k : Nat} (h : Inv σ k) (c a : Int32) : okR σ k (c, a, σ) := ⟨inv_up h (by omega), Nat.le_refl _⟩
theorem ok1 {σ : Sg} {k n : Nat} (hn : n < 2 ^ 31) {p : Int32} {b r : Rs} {f : Nat → Rs} (hr : (¬ (0 ≤ p ∧ p < nI n) → r = b) ∧ ∀ s, s < n → p = nI s → r = f s) (hb : okR σ k b) (hf : ∀ s, s < n → okR σ k (f s)) : okR σ k r := by
  by_cases h : 0 ≤ p ∧ p < nI n
  · obtain ⟨s, hs, e⟩ := rngN hn h
    rw [hr.2 s hs e]
    exact hf s hs
  · rw [hr.1 h]; exact hb
theorem ok2 {σ : Sg} {k n m : Nat} (hn : n < 2 ^ 31) (hm : m < 2 ^ 31) {p q : Int32} {b r : Rs} {f : Nat → Nat → Rs} (hr : (¬ (0 ≤ p ∧ p < nI n) ∨ ¬ (0 ≤ q ∧ q < nI m) → r = b) ∧ ∀ s d, s < n → d < m → p = nI s → q = nI d → r = f s d) (hb : okR σ k b) (hf : ∀ s d, s < n → d < m → okR σ k (f s d)) : okR σ k r := by
  by_cases h : 0 ≤ p ∧ p < nI n
  · by_cases h2 : 0 ≤ q ∧ q < nI m
    · obtain ⟨s, hs, e⟩ := rngN hn h
      obtain ⟨d, hd, e2⟩ := rngN hm h2
      rw [hr.2 s d hs hd e e2]
      exact hf s d hs hd
    · rw [hr.1 (Or.inr h2)]; exact hb
  · rw [hr.1 (Or.inl h)]; exact hb
theorem inv_lim {σ : Sg} {k n : Nat} (h : Inv σ k) (hk : k ≤ 512) (hn : 20000 ≤ n) : lim σ n := by
  have h1 := inv_tot h
  have h2 : sgN σ 3 = 0 := h.1.2.2.2.2.2.2.2
  have h3 := h.2.2.2
  exact ⟨by omega, by omega⟩
theorem bud_r (σ σ' : Sg) : bud σ σ' (sgN σ' 2 - sgN σ 2 + 1) (8 * (sgN σ' 2 - sgN σ 2) + 6) := ⟨by omega, by omega⟩
/-- what is asked of the class's step -/
def CO (A B : Nat → Nat) (o : Nat) (M : Mem) (r : Rs) (post : Mem → Int32 → Prop) : Prop := ∀ M', OutC A B o M M' r.2.2 → (r.1 = 0 → gL M' o (Int32.toNatClampNeg 0) = r.2.1.toInt64) → post M' r.1
/-- what is asked of the reference's step -/
def RO (B : Nat → Nat) (M : Mem) (r : Rs) (post : Mem → Int32 → Prop) : Prop := ∀ M' x, RepM B M M' r.2.2 none r.1 → (r.1 = 0 → x = r.2.1) → post M' x
def f_link (σ : Sg) (s d : Nat) : Rs := if bt (treeL σ s) d = true then (2, 0, σ) else (0, nI (tot (linkL σ s d)) - nI (tot σ), linkL σ s d)
def f_split (σ : Sg) (s d : Nat) : Rs := if ¬ bt (sgI σ 0 s) d = true then (2, 0, σ) else (0, nI (tot σ) - nI (tot (splitL σ s d)), splitL σ s d)
def f_deliver (σ : Sg) (s d : Nat) : Rs := if ¬ bt (sgI σ 0 s) d = true ∨ sgQ σ (s * 6 + d) = [] then (2, 0, σ) else (0, nI (tot (dlvL σ s d)), tickL (dlvL σ s d))
section LX
variable {A B : Nat → Nat} {o : Nat} {M : Mem} {σ : Sg} {t : Int32} {k : Nat}
theorem co_b (h : Both A B o M σ t) {post : Mem → Int32 → Prop} {c a : Int32} (hc : ¬ c = 0) (H : CO A B o M (c, a, σ) post) : post M c := H M (oc_rf h) (fun z => absurd z hc)
theorem co_v (h : Both A B o M σ t) {post : Mem → Int32 → Prop} {a : Int32} {σ' : Sg} (H : CO A B o M (0, a, σ') post) {M' : Mem} (h' : OutC A B o M M' σ') : inA M' o 11 0 ∧ ∀ M8, M8 = sL M' o (Int32.toNatClampNeg 0) a.toInt64 → post M8 0 := ⟨in_o h'.2.2, fun M8 e8 => H M8 (oc_out h h' e8).1 (fun _ => (oc_out h h' e8).2)⟩
theorem c_link (h : Both A B o M σ t) (hI : Inv σ k) (hk : k ≤ 512) {p q : Int32} {r : Rs} (hr : (¬ (0 ≤ p ∧ p < 6) ∨ ¬ (0 ≤ q ∧ q < 6) → r = (1, 0, σ)) ∧ ∀ s d, s < 6 → d < 6 → p = nI s → q = nI d → r = f_link σ s d) {post : Mem → Int32 → Prop} (H : CO A B o M r post) : w_L_link (sgN r.2.2 2 - sgN σ 2 + 1) (8 * (sgN r.2.2 2 - sgN σ 2) + 6) M (A 0) p q o post := by
  obtain ⟨hl, hC⟩ := h.1
  refine ⟨rp_0 hC, _, _, ⟨Nat.le_of_eq (Nat.zero_add _), Nat.le_of_eq (Nat.zero_add _)⟩, p_link hC hI.1.1 (inv_lim hI hk (by omega)) ⟨by omega, by omega⟩ (fun hn => Or.inl ⟨rfl, ?_⟩) (fun s d hs hd e1 e2 hE => Or.inr ⟨rfl, ?_⟩) (fun s d hs hd e1 e2 hE => ?_)⟩
  · have e := hr.1 hn
    subst e
    exact co_b h z10 H
  · have e := hr.2 s d hs hd e1 e2
    unfold f_link at e
    rw [if_pos hE] at e
    subst e
    exact co_b h z20 H
  · have e := hr.2 s d hs hd e1 e2
    unfold f_link at e
    rw [if_neg hE] at e
    subst e
    exact ⟨bud_r σ _, fun M' hl' h' => co_v h H (oc_of h h')⟩
theorem x_link (hR : RepM B M M σ none t) (hI : Inv σ k) (hk : k ≤ 512) {p q : Int32} {r : Rs} (hr : (¬ (0 ≤ p ∧ p < 6) ∨ ¬ (0 ≤ q ∧ q < 6) → r = (1, 0, σ)) ∧ ∀ s d, s < 6 → d < 6 → p = nI s → q = nI d → r = f_link σ s d) {post : Mem → Int32 → Prop} (H : RO B M r post) : w_X6_link M (B 0) p q post := by
  have ht := inv_tot hI
  refine r_link hR hI.1.2.2.2.1.1 hI.1.1.1 (fun i hi => (hI.1.2.2.2.2.2.1.1 i hi).1) (by omega) (fun hn M' h' => ?_) (fun s d hs hd e1 e2 hE M' h' => ?_) (fun s d hs hd e1 e2 hE M' h' => ?_)
  · have e := hr.1 hn
    subst e
    exact H M' 0 h' (fun z => absurd z z10)
  · have e := hr.2 s d hs hd e1 e2
    unfold f_link at e
    rw [if_pos hE] at e
    subst e
    exact H M' 0 h' (fun z => absurd z z20)
  · have e := hr.2 s d hs hd e1 e2
    unfold f_link at e
    rw [if_neg hE] at e
    subst e
    exact H M' _ h' (fun _ => rfl)
theorem o_link (hI : Inv σ k) (hk : k ≤ 512) {p q : Int32} {r : Rs} (hr : (¬ (0 ≤ p ∧ p < 6) ∨ ¬ (0 ≤ q ∧ q < 6) → r = (1, 0, σ)) ∧ ∀ s d, s < 6 → d < 6 → p = nI s → q = nI d → r = f_link σ s d) : okR σ k r := ok2 (n := 6) (m := 6) (by omega) (by omega) hr (ok_b hI _ _) (fun s d hs hd => by
  unfold f_link
  split
  · exact ok_b hI _ _
  · rename_i hE
    have u1 := burst_up (connectL σ s d) hs hd
    have u2 := burst_up (burstL (connectL σ s d) s d) hd hs
    exact ⟨inv_link hI hk hs hd hE, Nat.le_trans u1.2.2.2.1 u2.2.2.2.1⟩)
theorem c_split (h : Both A B o M σ t) (hI : Inv σ k) (hk : k ≤ 512) {p q : Int32} {r : Rs} (hr : (¬ (0 ≤ p ∧ p < 6) ∨ ¬ (0 ≤ q ∧ q < 6) → r = (1, 0, σ)) ∧ ∀ s d, s < 6 → d < 6 → p = nI s → q = nI d → r = f_split σ s d) {post : Mem → Int32 → Prop} (H : CO A B o M r post) : w_L_split (sgN r.2.2 2 - sgN σ 2 + 1) (8 * (sgN r.2.2 2 - sgN σ 2) + 6) M (A 0) p q o post := by
  obtain ⟨hl, hC⟩ := h.1
  have ht := inv_tot hI
  refine ⟨rp_0 hC, _, _, ⟨Nat.le_of_eq (Nat.zero_add _), Nat.le_of_eq (Nat.zero_add _)⟩, p_split hC hI.1.1 (by omega) ⟨by omega, by omega⟩ (fun hn => Or.inl ⟨rfl, ?_⟩) (fun s d hs hd e1 e2 hE => Or.inr ⟨rfl, ?_⟩) (fun s d hs hd e1 e2 hE M' h' => ?_)⟩
  · have e := hr.1 hn
    subst e
    exact co_b h z10 H
  · have e := hr.2 s d hs hd e1 e2
    unfold f_split at e
    rw [if_pos hE] at e
    subst e
    exact co_b h z20 H
  · have e := hr.2 s d hs hd e1 e2
    unfold f_split at e
    rw [if_neg (fun z => z hE)] at e
    subst e
    exact co_v h H (oc_of h h')
theorem x_split (hR : RepM B M M σ none t) (hI : Inv σ k) {p q : Int32} {r : Rs} (hr : (¬ (0 ≤ p ∧ p < 6) ∨ ¬ (0 ≤ q ∧ q < 6) → r = (1, 0, σ)) ∧ ∀ s d, s < 6 → d < 6 → p = nI s → q = nI d → r = f_split σ s d) {post : Mem → Int32 → Prop} (H : RO B M r post) : w_X6_split M (B 0) p q post := by
  refine r_split hR hI.1.2.2.2.1.1 hI.1.1 (fun hn M' h' => ?_) (fun s d hs hd e1 e2 hE M' h' => ?_) (fun s d hs hd e1 e2 hE M' h' => ?_)
  · have e := hr.1 hn
    subst e
    exact H M' 0 h' (fun z => absurd z z10)
  · have e := hr.2 s d hs hd e1 e2
    unfold f_split at e
    rw [if_pos hE] at e
    subst e
    exact H M' 0 h' (fun z => absurd z z20)
  · have e := hr.2 s d hs hd e1 e2
    unfold f_split at e
    rw [if_neg (fun z => z hE)] at e
    subst e
    exact H M' _ h' (fun _ => rfl)
theorem o_split (hI : Inv σ k) {p q : Int32} {r : Rs} (hr : (¬ (0 ≤ p ∧ p < 6) ∨ ¬ (0 ≤ q ∧ q < 6) → r = (1, 0, σ)) ∧ ∀ s d, s < 6 → d < 6 → p = nI s → q = nI d → r = f_split σ s d) : okR σ k r := ok2 (n := 6) (m := 6) (by omega) (by omega) hr (ok_b hI _ _) (fun s d hs hd => by
  unfold f_split
  split
  · exact ok_b hI _ _
  · rename_i hE
    refine ⟨inv_split hI hs hd (Classical.byContradiction hE), Nat.le_of_eq ?_⟩
    show sgN σ 2 = sgN (fsN (cutL σ s d) 6) 2
    rw [fs_N]
    rfl)
theorem c_deliver (h : Both A B o M σ t) (hI : Inv σ k) (hk : k ≤ 512) {p q : Int32} {r : Rs} (hr : (¬ (0 ≤ p ∧ p < 6) ∨ ¬ (0 ≤ q ∧ q < 6) → r = (1, 0, σ)) ∧ ∀ s d, s < 6 → d < 6 → p = nI s → q = nI d → r = f_deliver σ s d) {post : Mem → Int32 → Prop} (H : CO A B o M r post) : w_L_deliver (sgN r.2.2 2 - sgN σ 2 + 1) (8 * (sgN r.2.2 2 - sgN σ 2) + 6) M (A 0) p q o post := by
  obtain ⟨hl, hC⟩ := h.1
  refine ⟨rp_0 hC, _, _, ⟨Nat.le_of_eq (Nat.zero_add _), Nat.le_of_eq (Nat.zero_add _)⟩, p_deliver hC (pd_OK k) (inv_PD hI hk) ⟨by omega, by omega⟩ (fun hn => Or.inl ⟨rfl, ?_⟩) (fun s d hs hd e1 e2 hE M' hl' h' => Or.inr ⟨rfl, ?_⟩) (fun s d hs hd e1 e2 hE1 hE2 => ?_)⟩
  · have e := hr.1 hn
    subst e
    exact co_b h z10 H
  · have e := hr.2 s d hs hd e1 e2
    unfold f_deliver at e
    rw [if_pos hE] at e
    subst e
    exact H M' (oc_of h h') (fun z => absurd z z20)
  · have e := hr.2 s d hs hd e1 e2
    unfold f_deliver at e
    rw [if_neg (fun z => z.elim (fun z => z hE1) hE2)] at e
    subst e
    exact ⟨bud_r σ (tickL (dlvL σ s d)), fun M' hl' h' => co_v h H (oc_of h h')⟩
theorem x_deliver (hR : RepM B M M σ none t) (hI : Inv σ k) (hk : k ≤ 512) {p q : Int32} {r : Rs} (hr : (¬ (0 ≤ p ∧ p < 6) ∨ ¬ (0 ≤ q ∧ q < 6) → r = (1, 0, σ)) ∧ ∀ s d, s < 6 → d < 6 → p = nI s → q = nI d → r = f_deliver σ s d) {post : Mem → Int32 → Prop} (H : RO B M r post) : w_X6_deliver M (B 0) p q post := by
  refine r_deliver hR (pd_PM (inv_PD hI hk)) (fun hn M' h' => ?_) (fun s d hs hd e1 e2 hE M' h' => ?_) (fun s d hs hd e1 e2 hE1 hE2 M' h' => ?_)
  · have e := hr.1 hn
    subst e
    exact H M' 0 h' (fun z => absurd z z10)
  · have e := hr.2 s d hs hd e1 e2
    unfold f_deliver at e
    rw [if_pos hE] at e
    subst e
    exact H M' 0 h' (fun z => absurd z z20)
  · have e := hr.2 s d hs hd e1 e2
    unfold f_deliver at e
    rw [if_neg (fun z => z.elim (fun z => z hE1) hE2)] at e
    subst e
    exact H M' _ h' (fun _ => rfl)
theorem o_deliver (hI : Inv σ k) (hk : k ≤ 512) {p q : Int32} {r : Rs} (hr : (¬ (0 ≤ p ∧ p < 6) ∨ ¬ (0 ≤ q ∧ q < 6) → r = (1, 0, σ)) ∧ ∀ s d, s < 6 → d < 6 → p = nI s → q = nI d → r = f_deliver σ s d) : okR σ k r := ok2 (n := 6) (m := 6) (by omega) (by omega) hr (ok_b hI _ _) (fun s d hs hd => by
  unfold f_deliver
  split
  · exact ok_b hI _ _
  · exact ⟨inv_dlv hI hk hs hd, dlv_2 σ s hd⟩)
end LX
