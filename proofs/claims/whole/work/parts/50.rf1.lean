/-! THE REFERENCE'S METHODS: small ones -/
theorem sp {b : Bool} {Q0 Q1 : Prop} (h0 : b = false → Q0) (h1 : b = true → Q1) : (b2i b = 0 → Q0) ∧ (¬ b2i b = 0 → Q1) := ⟨fun e => h0 ((b2i_z b).mp e), fun e => h1 (b2i_nz e)⟩
theorem r_has (M : Mem) (m : Int32) {k : Nat} (hk : k < 32) {post : Int32 → Prop} (h : post (b2i (bt m k))) : w_X6_has M m (nI k) post := by
  intro J hJ
  refine ⟨fun e => hJ 1 ⟨Or.inr rfl, ?_⟩, fun e => hJ 0 ⟨Or.inl rfl, ?_⟩⟩
  · rw [(hs_one m hk).mp e] at h; exact h
  · cases hb : bt m k with
    | true => exact absurd ((hs_one m hk).mpr hb) e
    | false => rw [hb] at h; exact h
theorem r_srv {M : Mem} {p : Int32} {post : Int32 → Prop} (h1 : ∀ s, s < 6 → p = nI s → post 1) (h0 : ¬ (0 ≤ p ∧ p < 6) → post 0) : w_X6_isServer M p post := by
  intro J hJ J3 hJ3
  have bad : ¬ (0 ≤ p ∧ p < 6) → J3 := fun hn => hJ3 (hJ 0 ⟨Or.inl rfl, h0 hn⟩)
  refine ⟨fun e => bad (fun z => Int32.not_le.mpr e z.1), fun e => ⟨fun e1 => bad (fun z => Int32.not_le.mpr z.2 e1), fun e1 => ?_⟩⟩
  obtain ⟨s, hs, es⟩ := rng6 ⟨Int32.not_lt.mp e, Int32.not_le.mp e1⟩
  exact hJ 1 ⟨Or.inr rfl, h1 s hs es⟩
theorem r_chn {M : Mem} {p : Int32} {post : Int32 → Prop} (h1 : ∀ s, s < 4 → p = nI s → post 1) (h0 : ¬ (0 ≤ p ∧ p < 4) → post 0) : w_X6_isChannel M p post := by
  intro J hJ J3 hJ3
  have bad : ¬ (0 ≤ p ∧ p < 4) → J3 := fun hn => hJ3 (hJ 0 ⟨Or.inl rfl, h0 hn⟩)
  refine ⟨fun e => bad (fun z => Int32.not_le.mpr e z.1), fun e => ⟨fun e1 => bad (fun z => Int32.not_le.mpr z.2 e1), fun e1 => ?_⟩⟩
  obtain ⟨s, hs, es⟩ := rng4 ⟨Int32.not_lt.mp e, Int32.not_le.mp e1⟩
  exact hJ 1 ⟨Or.inr rfl, h1 s hs es⟩
theorem r_at {M : Mem} (s c : Nat) {post : Int32 → Prop} (h : post (nI (s * 4 + c))) : w_X6_at M (nI s) (nI c) post := by
  show post (4 * nI s + nI c)
  have e : 4 * nI s + nI c = nI (s * 4 + c) := by
    rw [← nI_add, Nat.mul_comm s 4, ← pk_mul]
    rfl
  rw [e]
  exact h
theorem w6 (s t : Nat) : 6 * nI s + nI t = nI (s * 6 + t) := by
  rw [← nI_add, Nat.mul_comm s 6, ← pk_mul]
  rfl
section RF1
variable {B : Nat → Nat} {M0 M : Mem} {σ : Sg} {c : Option Ln} {t : Int32}
theorem rm_0 (h : RepM B M0 M σ c t) : gT M (B 0) = some (6, 0) := by obtain ⟨V, hV, -⟩ := h; exact rv_0 hV
theorem rm_rf (h : RepM B M0 M σ c t) {k : Nat} (hk : vm k) (h0 : k ≠ 0) : gR M (B 0) k = some (B k) := by obtain ⟨V, hV, -⟩ := h; exact rv_rf hV hk h0
theorem rm_in (h : RepM B M0 M σ c t) {k j : Nat} (hk : vm k) (h0 : k ≠ 0) (hj : j < szM k) : inA M (B k) 10 (nI j) := by obtain ⟨V, hV, -⟩ := h; exact rv_in hV hk h0 hj
theorem rm_lk (h : RepM B M0 M σ c t) {s : Nat} (hs : s < 6) : gI M (B 6) (nI s).toNatClampNeg = sgI σ 0 s := by obtain ⟨V, hV, hs1, -⟩ := h; rw [rv_rn hV vm6 (by omega)]; exact hs1 0 s hs (by omega)
theorem rm_kn (h : RepM B M0 M σ c t) {s : Nat} (hs : s < 6) : gI M (B 7) (nI s).toNatClampNeg = sgI σ 1 s := by obtain ⟨V, hV, hs1, -⟩ := h; rw [rv_rn hV vm7 (by omega)]; exact hs1 1 s hs (by omega)
theorem rm_ag (h : RepM B M0 M σ c t) {i : Nat} (hi : i < 24) : gI M (B 8) (nI i).toNatClampNeg = sgI σ 2 i := by obtain ⟨V, hV, hs1, -⟩ := h; rw [rv_rn hV vm8 (by omega)]; exact hs1 2 i hi (by omega)
theorem rm_md (h : RepM B M0 M σ c t) {i : Nat} (hi : i < 24) (hn : sgI σ 2 i ≠ -1) : gI M (B 9) (nI i).toNatClampNeg = sgI σ 3 i := by obtain ⟨V, hV, hs1, -⟩ := h; rw [rv_rn hV vm9 (by omega)]; exact hs1 3 i hi (fun _ => hn)
theorem rm_bn (h : RepM B M0 M σ c t) {i : Nat} (hi : i < 24) (hn : sgI σ 2 i ≠ -1) : gI M (B 10) (nI i).toNatClampNeg = sgI σ 4 i := by obtain ⟨V, hV, hs1, -⟩ := h; rw [rv_rn hV vm10 (by omega)]; exact hs1 4 i hi (fun _ => hn)
theorem rm_mb (h : RepM B M0 M σ c t) {i : Nat} (hi : i < 24) : gI M (B 11) (nI i).toNatClampNeg = sgI σ 5 i := by obtain ⟨V, hV, hs1, -⟩ := h; rw [rv_rn hV vm11 (by omega)]; exact hs1 5 i hi (by omega)
theorem rm_nm (h : RepM B M0 M σ c t) {u : Nat} (hu : u < 20) : gI M (B 3) (nI u).toNatClampNeg = sgI σ 6 u := by obtain ⟨V, hV, hs1, -⟩ := h; rw [rv_rn hV vm3 (by omega)]; exact hs1 6 u hu (by omega)
theorem rm_hm (h : RepM B M0 M σ c t) {u : Nat} (hu : u < 20) : gI M (B 4) (nI u).toNatClampNeg = sgI σ 7 u := by obtain ⟨V, hV, hs1, -⟩ := h; rw [rv_rn hV vm4 (by omega)]; exact hs1 7 u hu (by omega)
theorem rm_bo (h : RepM B M0 M σ c t) {u : Nat} (hu : u < 20) : gI M (B 5) (nI u).toNatClampNeg = sgI σ 8 u := by obtain ⟨V, hV, hs1, -⟩ := h; rw [rv_rn hV vm5 (by omega)]; exact hs1 8 u hu (by omega)
theorem rm_th (h : RepM B M0 M σ c t) : gI M (B 0) 0 = t := by obtain ⟨V, hV, -, hs2, -⟩ := h; rw [rv_rd hV vm0]; exact hs2.1
theorem rm_ck (h : RepM B M0 M σ c t) : gI M (B 0) 1 = nI (sgN σ 1) := by obtain ⟨V, hV, -, hs2, -⟩ := h; rw [rv_rd hV vm0]; exact hs2.2.1
theorem rm_us (h : RepM B M0 M σ c t) : gI M (B 0) 2 = nI (sgN σ 0) := by obtain ⟨V, hV, -, hs2, -⟩ := h; rw [rv_rd hV vm0]; exact hs2.2.2
theorem rm_tt (h : RepM B M0 M σ c t) : gI M (B 0) 14 = nI (tot σ) := by
  obtain ⟨V, hV, -, -, ⟨La, fr, ow, -, -, -, h14⟩, -⟩ := h
  rw [rv_rd hV vm0]
  exact h14
theorem rm_cu {ln : Ln} (h : RepM B M0 M σ (some ln) t) : gI M (B 0) 23 = ln.1 ∧ gI M (B 0) 24 = ln.2.1 ∧ gI M (B 0) 25 = ln.2.2.1 ∧ ((ln.1 = 2 ∨ ln.1 = 4) → gI M (B 0) 26 = ln.2.2.2.1 ∧ gI M (B 0) 27 = ln.2.2.2.2.1 ∧ gI M (B 0) 28 = ln.2.2.2.2.2) := by
  obtain ⟨V, hV, -, -, -, h4⟩ := h
  rw [rv_rd hV vm0, rv_rd hV vm0, rv_rd hV vm0, rv_rd hV vm0, rv_rd hV vm0, rv_rd hV vm0]
  exact h4 ln rfl
theorem kid_k : ∀ f i, dmn f i → kid f ≠ 0 ∧ kid f ≤ 11 ∧ vm (kid f) := by
  intro f i hd
  have := dmn_c f i hd
  have h9 : f ≤ 8 := by omega
  unfold kid
  split
  · exact ⟨by omega, by omega, by unfold vm; omega⟩
  · exact ⟨by omega, by omega, by unfold vm; omega⟩
theorem kid_inj {f g : Nat} (hf : f ≤ 8) (hg : g ≤ 8) (h : kid f = kid g) : f = g := by
  unfold kid at h
  split at h <;> split at h <;> omega
theorem dmn_8 {f i : Nat} (hd : dmn f i) : f ≤ 8 := by
  have := dmn_c f i hd
  omega
/-- one of the books' fields is written -/
theorem sm_own {V : Vm} (h : SimM V σ c t) {f i : Nat} (hd : dmn f i) (x : Int32) (hx : f = 2 → x = -1 ∨ sgI σ 2 i ≠ -1) : SimM (up V (kid f) i x) (uI σ f i x) c t := by
  obtain ⟨s1, s2, s3, s4⟩ := h
  have hk := kid_k f i hd
  refine ⟨fun g j hg hc => ?_, ?_, qm_congr s3 (fun k hk2 j => up_k V i x j (by omega)) (up_k V i x 14 (by omega)) (up_k V i x 15 (by omega)) (fun _ => rfl), fun ln e => ?_⟩
  · rw [up_rd, sgI_uI]
    by_cases e : g = f ∧ j = i
    · rw [if_pos e, if_pos]
      exact ⟨by rw [e.1], e.2⟩
    · rw [if_neg e, if_neg (fun z => e ⟨kid_inj (dmn_8 hg) (dmn_8 hd) z.1, z.2⟩)]
      refine s1 g j hg (fun e2 => ?_)
      have h2 := hc e2
      rw [sgI_uI] at h2
      by_cases e3 : 2 = f ∧ j = i
      · rw [if_pos e3] at h2
        rcases hx e3.1.symm with h9 | h9
        · exact absurd h9 h2
        · rw [e3.2]; exact h9
      · rw [if_neg e3] at h2
        exact h2
  · rw [up_k V i x 0 (Ne.symm hk.1), up_k V i x 1 (Ne.symm hk.1), up_k V i x 2 (Ne.symm hk.1)]
    exact s2
  · have h4 := s4 ln e
    unfold cuM at h4 ⊢
    rw [up_k V i x 23 (Ne.symm hk.1), up_k V i x 24 (Ne.symm hk.1), up_k V i x 25 (Ne.symm hk.1), up_k V i x 26 (Ne.symm hk.1), up_k V i x 27 (Ne.symm hk.1), up_k V i x 28 (Ne.symm hk.1)]
    exact h4
theorem rm_own (h : RepM B M0 M σ c t) {f i : Nat} (hd : dmn f i) (x : Int32) (hx : f = 2 → x = -1 ∨ sgI σ 2 i ≠ -1) {k : Nat} (hk : k = kid f) (hi : i < 2 ^ 31) : RepM B M0 (sI M (B k) (Int32.toNatClampNeg (nI i)) x) (uI σ f i x) c t := by
  obtain ⟨V, hV, hS⟩ := h
  subst hk
  exact ⟨_, rv_sn hV (kid_k f i hd).2.2 hi x, sm_own hS hd x hx⟩
/-- scalars -/
theorem sm_scal {V V' : Vm} {τ : Sg} {c' : Option Ln} {t' : Int32} (h : SimM V σ c t) (hk : ∀ k j, k ≠ 0 → V' k j = V k j) (hI : ∀ f i, sgI τ f i = sgI σ f i) (hq : ∀ w, sgQ τ w = sgQ σ w) (h0 : V' 0 0 = t') (h1 : V' 0 1 = nI (sgN τ 1)) (h2 : V' 0 2 = nI (sgN τ 0)) (h14 : V' 0 14 = V 0 14) (h15 : V' 0 15 = V 0 15) (hc : ∀ ln, c' = some ln → cuM V' ln) : SimM V' τ c' t' := by
  obtain ⟨s1, s2, s3, s4⟩ := h
  refine ⟨fun g j hg hc => ?_, ⟨h0, h1, h2⟩, qm_congr s3 (fun k hk2 j => hk k j (by omega)) h14 h15 hq, hc⟩
  rw [hI, hk _ _ (kid_k g j hg).1]
  exact s1 g j hg (fun e => by rw [← hI]; exact hc e)
theorem cuM_keep {V V' : Vm} {ln : Ln} (h : cuM V ln) (hk : ∀ j, 23 ≤ j → V' 0 j = V 0 j) : cuM V' ln := by
  unfold cuM at h ⊢
  rw [hk 23 (by omega), hk 24 (by omega), hk 25 (by omega), hk 26 (by omega), hk 27 (by omega), hk 28 (by omega)]
  exact h
theorem rm_thr (h : RepM B M0 M σ c t) (x : Int32) : RepM B M0 (sI M (B 0) 0 x) σ c x := by
  obtain ⟨V, hV, hS⟩ := h
  have hS2 := hS
  obtain ⟨s1, s2, s3, s4⟩ := hS2
  exact ⟨_, rv_set hV vm0 0 x, sm_scal hS (fun k j hk => up_k V 0 x j hk) (fun _ _ => rfl) (fun _ => rfl) (up_s _ _ _ _) ((up_j V 0 x 0 (by omega)).trans s2.2.1) ((up_j V 0 x 0 (by omega)).trans s2.2.2) (up_j V 0 x 0 (by omega)) (up_j V 0 x 0 (by omega)) (fun ln e => cuM_keep (s4 ln e) (fun j hj => up_j V 0 x 0 (by omega)))⟩
theorem rm_tick (h : RepM B M0 M σ c t) {M' : Mem} (e : M' = sI M (B 0) 1 (gI M (B 0) 1 + 1)) : RepM B M0 M' (tickL σ) c t := by
  rw [e, rm_ck h, nI_1]
  obtain ⟨V, hV, hS⟩ := h
  have hS2 := hS
  obtain ⟨s1, s2, s3, s4⟩ := hS2
  exact ⟨_, rv_set hV vm0 1 _, sm_scal hS (fun k j hk => up_k V 1 _ j hk) (fun _ _ => rfl) (fun _ => rfl) ((up_j V 0 _ 0 (by omega)).trans s2.1) (up_s _ _ _ _) ((up_j V 0 _ 0 (by omega)).trans s2.2.2) (up_j V 0 _ 0 (by omega)) (up_j V 0 _ 0 (by omega)) (fun ln e => cuM_keep (s4 ln e) (fun j hj => up_j V 0 _ 0 (by omega)))⟩
theorem r_usr (h : RepM B M0 M σ c t) (hu : sgN σ 0 ≤ 20) {p : Int32} {post : Int32 → Prop} (h1 : ∀ u, u < sgN σ 0 → p = nI u → post 1) (h0 : ¬ (0 ≤ p ∧ p < nI (sgN σ 0)) → post 0) : w_X6_isUser M (B 0) p post := by
  intro J hJ J3 hJ3
  have bad : ¬ (0 ≤ p ∧ p < nI (sgN σ 0)) → J3 := fun hn => hJ3 (hJ 0 ⟨Or.inl rfl, h0 hn⟩)
  refine ⟨fun e => bad (fun z => Int32.not_le.mpr e z.1), fun e => ⟨rm_0 h, ?_⟩⟩
  rw [rm_us h]
  refine ⟨fun e1 => bad (fun z => Int32.not_le.mpr z.2 e1), fun e1 => ?_⟩
  obtain ⟨s, hs, es⟩ := rngN (by omega) ⟨Int32.not_lt.mp e, Int32.not_le.mp e1⟩
  exact hJ 1 ⟨Or.inr rfl, h1 s hs es⟩
theorem r_holds (h : RepM B M0 M σ c t) {p : Int32} {post : Mem → Int32 → Prop} (h1 : p = 0 → ∀ M', RepM B M0 M' σ c p → post M' 1) (h0 : ¬ p = 0 → ∀ M', RepM B M0 M' σ c p → post M' 0) : w_X6_holds M (B 0) p post := by
  refine ⟨rm_0 h, fun M2 e2 J hJ => ?_⟩
  have h2 : RepM B M0 M2 σ c p := by rw [e2]; exact rm_thr h p
  exact ⟨fun e => hJ 1 ⟨Or.inr rfl, h1 e M2 h2⟩, fun e => hJ 0 ⟨Or.inl rfl, h0 e M2 h2⟩⟩
theorem r_makesV {V : Vm} (h : RpV B M0 M V) (k a b : Int32) {post : Mem → Prop} (hp : ∀ M', RpV B M0 M' (up (up (up V 0 23 k) 0 24 a) 0 25 b) → post M') : w_X6_makes M (B 0) k a b post := by
  refine ⟨rv_0 h, fun M2 e2 => ?_⟩
  have h2 : RpV B M0 M2 (up V 0 23 k) := by rw [e2]; exact rv_set h vm0 23 k
  refine ⟨rv_0 h2, fun M4 e4 => ?_⟩
  have h4 : RpV B M0 M4 (up (up V 0 23 k) 0 24 a) := by rw [e4]; exact rv_set h2 vm0 24 a
  refine ⟨rv_0 h4, fun M6 e6 => hp M6 ?_⟩
  rw [e6]
  exact rv_set h4 vm0 25 b
/-- the cells of the line at hand alone have changed -/
theorem sm_cur {V V' : Vm} {c' : Option Ln} (h : SimM V σ c t) (hk : ∀ k j, k ≠ 0 → V' k j = V k j) (hj : ∀ j, j < 23 → V' 0 j = V 0 j) (hc : ∀ ln, c' = some ln → cuM V' ln) : SimM V' σ c' t := by
  obtain ⟨s1, s2, s3, s4⟩ := id h
  exact sm_scal h hk (fun _ _ => rfl) (fun _ => rfl) ((hj 0 (by omega)).trans s2.1) ((hj 1 (by omega)).trans s2.2.1) ((hj 2 (by omega)).trans s2.2.2) (hj 14 (by omega)) (hj 15 (by omega)) hc
theorem r_makes (h : RepM B M0 M σ c t) {k : Int32} (hk : ¬ (k = 2 ∨ k = 4)) (a b : Int32) {post : Mem → Prop} (hp : ∀ M', RepM B M0 M' σ (some (k, a, b, 0, 0, 0)) t → post M') : w_X6_makes M (B 0) k a b post := by
  obtain ⟨V, hV, hS⟩ := h
  refine r_makesV hV k a b (fun M' h' => hp M' ⟨_, h', sm_cur hS (fun k j hk => ?_) (fun j hj => ?_) (fun ln e => ?_)⟩)
  · rw [up_k _ _ _ _ hk, up_k _ _ _ _ hk, up_k _ _ _ _ hk]
  · rw [up_j _ _ _ _ (by omega), up_j _ _ _ _ (by omega), up_j _ _ _ _ (by omega)]
  · cases e
    exact ⟨rfl, rfl, rfl, fun z => absurd z hk⟩
theorem r_tells (h : RepM B M0 M σ c t) (k : Int32) {s d : Nat} (hs : s < 6) (hd : d < 4) (hn : sgI σ 2 (s * 4 + d) ≠ -1) (mb : Int32) {post : Mem → Prop} (hp : ∀ M', RepM B M0 M' σ (some (k, nI d, mb, sgI σ 2 (s * 4 + d), sgI σ 3 (s * 4 + d), sgI σ 4 (s * 4 + d))) t → post M') : w_X6_tells M (B 0) k (nI s) (nI d) mb post := by
  obtain ⟨V, hV, hS⟩ := h
  have hi : s * 4 + d < 24 := by omega
  have v2 : V 8 (s * 4 + d) = sgI σ 2 (s * 4 + d) := hS.1 2 _ hi (by omega)
  have v3 : V 9 (s * 4 + d) = sgI σ 3 (s * 4 + d) := hS.1 3 _ hi (fun _ => hn)
  have v4 : V 10 (s * 4 + d) = sgI σ 4 (s * 4 + d) := hS.1 4 _ hi (fun _ => hn)
  refine ⟨rv_0 hV, r_makesV hV k (nI d) mb (fun M2 h2 => ⟨rv_0 h2, _, rv_rf h2 vm8 (by decide), r_at s d ⟨rv_in h2 vm8 (by decide) hi, rv_0 h2, fun M8 e8 => ?_⟩⟩)⟩
  rw [rv_rn h2 vm8 (by omega), up_k _ _ _ _ (by decide), up_k _ _ _ _ (by decide), up_k _ _ _ _ (by decide), v2] at e8
  have h8 := rv_set h2 vm0 26 (sgI σ 2 (s * 4 + d))
  rw [← e8] at h8
  refine ⟨rv_0 h8, _, rv_rf h8 vm9 (by decide), r_at s d ⟨rv_in h8 vm9 (by decide) hi, rv_0 h8, fun M14 e14 => ?_⟩⟩
  rw [rv_rn h8 vm9 (by omega), up_k _ _ _ _ (by decide), up_k _ _ _ _ (by decide), up_k _ _ _ _ (by decide), up_k _ _ _ _ (by decide), v3] at e14
  have h14 := rv_set h8 vm0 27 (sgI σ 3 (s * 4 + d))
  rw [← e14] at h14
  refine ⟨rv_0 h14, _, rv_rf h14 vm10 (by decide), r_at s d ⟨rv_in h14 vm10 (by decide) hi, rv_0 h14, fun M20 e20 => ?_⟩⟩
  rw [rv_rn h14 vm10 (by omega), up_k _ _ _ _ (by decide), up_k _ _ _ _ (by decide), up_k _ _ _ _ (by decide), up_k _ _ _ _ (by decide), up_k _ _ _ _ (by decide), v4] at e20
  have h20 := rv_set h14 vm0 28 (sgI σ 4 (s * 4 + d))
  rw [← e20] at h20
  refine hp M20 ⟨_, h20, sm_cur hS (fun k j hk => ?_) (fun j hj => ?_) (fun ln e => ?_)⟩
  · rw [up_k _ _ _ _ hk, up_k _ _ _ _ hk, up_k _ _ _ _ hk, up_k _ _ _ _ hk, up_k _ _ _ _ hk, up_k _ _ _ _ hk]
  · rw [up_j _ _ _ _ (by omega), up_j _ _ _ _ (by omega), up_j _ _ _ _ (by omega), up_j _ _ _ _ (by omega), up_j _ _ _ _ (by omega), up_j _ _ _ _ (by omega)]
  · cases e
    exact ⟨rfl, rfl, rfl, fun _ => ⟨rfl, rfl, rfl⟩⟩
end RF1
