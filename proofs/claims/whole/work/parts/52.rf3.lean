/-! THE REFERENCE'S METHODS: trees, views -/
theorem or_00 (x : Int32) : x ||| 0 = x := b_ext (fun i _ => by rw [b_or, b_0, Bool.or_false])
theorem gt_eq_clo {lk : Nat → Int32} {s j : Nat} (hs : s < 6) (hl : ∀ k, k < 6 → b6 (lk k)) (h : gtN lk s (j + 1) = gtN lk s j) : gtN lk s j = clo lk s := by
  have h1 := gt_stay h (j + 5) (by omega)
  have h2 := gt_stay (gt_fix hs hl) (j + 5) (by omega)
  exact h1.symm.trans h2
theorem gt_n0 {lk : Nat → Int32} {s : Nat} (hs : s < 6) (p : Nat) : gtN lk s p ≠ 0 := fun e => by
  have h := gt_self (lk := lk) hs p
  rw [e, b_0] at h
  cases h
/-- a loop of passes until nothing comes in -/
theorem Lp_clo {lk : Nat → Int32} {s : Nat} (hs : s < 6) (hl : ∀ k, k < 6 → b6 (lk k)) {F : (Int32 × Int32 → Prop) → Int32 × Int32 → Prop} {post : Int32 → Prop} (hF : ∀ (K : Int32 × Int32 → Prop) (x2 x3 : Int32), (x2 = x3 → post x2) → (¬ x2 = x3 → K (gpN lk x2 6, x2)) → F K (x2, x3)) (hp : post (clo lk s)) : Lp F (gtN lk s 0, 0) := by
  refine ⟨fun z => ∃ j, z.1 = gtN lk s j ∧ (z.1 = z.2 → z.1 = clo lk s), fun z => 2 * (6 - cN z.1 6) + (if z.1 = z.2 then 0 else 1), ⟨0, rfl, fun e => absurd e (gt_n0 (lk := lk) hs 0)⟩, ?_⟩
  rintro ⟨x2, x3⟩ ⟨j, e1, e2⟩
  have e1 : x2 = gtN lk s j := e1
  have e2 : x2 = x3 → x2 = clo lk s := e2
  refine hF _ x2 x3 (fun e => by rw [e2 e]; exact hp) (fun hne => ⟨⟨j + 1, ?_, fun e => ?_⟩, ?_⟩)
  · show gpN lk x2 6 = gpN lk (gtN lk s j) 6
    rw [e1]
  · have e : gpN lk x2 6 = x2 := e
    show gpN lk x2 6 = clo lk s
    rw [e, e1]
    rw [e1] at e
    exact gt_eq_clo hs hl e
  · show 2 * (6 - cN (gpN lk x2 6) 6) + (if gpN lk x2 6 = x2 then 0 else 1) < 2 * (6 - cN x2 6) + (if x2 = x3 then 0 else 1)
    rw [if_neg hne]
    have hb : b6 x2 := by rw [e1]; exact gt_b6 hs hl j
    have hup : ∀ i, i < 6 → bt x2 i = true → bt (gpN lk x2 6) i = true := fun i _ hi => gp_le (k := 0) hi 6 (Nat.zero_le _)
    by_cases e : gpN lk x2 6 = x2
    · rw [if_pos e, e]; omega
    · rw [if_neg e]
      have hb2 : b6 (gpN lk x2 6) := gp_b6 hb hl 6 (Nat.le_refl _)
      have h2 : ∃ i, i < 6 ∧ bt (gpN lk x2 6) i = true ∧ bt x2 i = false := by
        refine Classical.byContradiction (fun hn => e (b6_ext hb2 hb (fun i hi => ?_)))
        cases h3 : bt x2 i with
        | true => exact hup i hi h3
        | false => exact bt_false (fun h4 => hn ⟨i, hi, h4, h3⟩)
      obtain ⟨i, hi, hi1, hi2⟩ := h2
      have h5 := cN_lt hi1 hi2 6 hi hup
      have h6 := cN_le (gpN lk x2 6) 6
      omega
/-- what b reaches without x -/
def lkx (σ : Sg) (x k : Nat) : Int32 := cb (sgI σ 0 k) (nI x)
def behL (σ : Sg) (b x : Nat) : Int32 := clo (lkx σ x) b
def L6 (σ : Sg) : Prop := ∀ k, k < 6 → b6 (sgI σ 0 k)
theorem cb_bt (m : Int32) {k i : Nat} (hk : k < 6) (h : bt (cb m (nI k)) i = true) : bt m i = true ∧ i ≠ k := by
  by_cases hi : i < 32
  · rw [hs_cb m (by omega) hi, Bool.and_eq_true, Bool.not_eq_true', decide_eq_false_iff_not] at h
    exact h
  · rw [b_big (by omega)] at h; cases h
theorem lkx_b6 {σ : Sg} (h : L6 σ) {x : Nat} (hx : x < 6) : ∀ k, k < 6 → b6 (lkx σ x k) := fun k hk i hi => bt_false (fun e => by
  have := (cb_bt _ hx e).1
  rw [h k hk i hi] at this
  cases this)
section RF3
variable {B : Nat → Nat} {M0 M : Mem} {σ : Sg} {c : Option Ln} {t : Int32}
theorem r_treeOf (h : RepM B M0 M σ c t) (hL : L6 σ) {s : Nat} (hs : s < 6) {post : Int32 → Prop} (hp : post (treeL σ s)) : w_X6_treeOf M (B 0) (nI s) post := by
  intro x1 e1
  subst e1
  rw [tree_clo] at hp
  refine Lp_clo (lk := sgI σ 0) (s := s) hs hL (post := post) (fun K x2 x3 hq hK x2' x3' ez => ?_) hp
  cases ez
  refine ⟨hq, fun hne => ?_⟩
  refine Lp_forX 6 (fun k => (gpN (sgI σ 0) x2 k, nI k)) (fun z => z.2.toNatClampNeg) (fun c hc => clN (by omega)) rfl ?_
  intro k K2 hk hK2 x5 x6 ez
  cases ez
  refine ⟨fun e => ?_, fun e => ?_⟩
  · have : 6 ≤ k := (le_nI (a := 6) (by omega) (by omega)).mp e
    have e5 : k = 6 := by omega
    subst e5
    exact hK hne
  · have hlt : k < 6 := Nat.not_le.mp (fun h9 => e ((le_nI (a := 6) (by omega) (by omega)).mpr h9))
    have hK2 := hK2 hlt
    refine r_has M _ (by omega) (fun J hJ => ?_)
    have key : ∀ x9, gpN (sgI σ 0) x2 k ||| x9 = gpN (sgI σ 0) x2 (k + 1) → J x9 := fun x9 e9 => hJ x9 (fun x11 e11 x12 e12 => by rw [e11, e12, nI_1, e9]; exact hK2)
    refine sp (fun hb => key _ ?_) (fun hb => ⟨rm_0 h, _, rm_rf h vm6 (by decide), rm_in h vm6 (by decide) hlt, key _ ?_⟩)
    · rw [or_00]
      show _ = if bt (gpN (sgI σ 0) x2 k) k = true then _ else _
      rw [hb]; rfl
    · rw [rm_lk h hlt]
      show _ = if bt (gpN (sgI σ 0) x2 k) k = true then _ else _
      rw [if_pos hb]
theorem r_behind (h : RepM B M0 M σ c t) (hL : L6 σ) {b x : Nat} (hb6 : b < 6) (hx : x < 6) {post : Int32 → Prop} (hp : post (behL σ b x)) : w_X6_behind M (B 0) (nI b) (nI x) post := by
  intro x1 e1
  subst e1
  refine Lp_clo (lk := lkx σ x) (s := b) hb6 (lkx_b6 hL hx) (post := post) (fun K x2 x3 hq hK x2' x3' ez => ?_) hp
  cases ez
  refine ⟨hq, fun hne => ?_⟩
  refine Lp_forX 6 (fun k => (gpN (lkx σ x) x2 k, nI k)) (fun z => z.2.toNatClampNeg) (fun c hc => clN (by omega)) rfl ?_
  intro k K2 hk hK2 x5 x6 ez
  cases ez
  refine ⟨fun e => ?_, fun e => ?_⟩
  · have : 6 ≤ k := (le_nI (a := 6) (by omega) (by omega)).mp e
    have e5 : k = 6 := by omega
    subst e5
    exact hK hne
  · have hlt : k < 6 := Nat.not_le.mp (fun h9 => e ((le_nI (a := 6) (by omega) (by omega)).mpr h9))
    have hK2 := hK2 hlt
    refine r_has M _ (by omega) (fun J hJ => ?_)
    have key : ∀ x9, gpN (lkx σ x) x2 k ||| x9 = gpN (lkx σ x) x2 (k + 1) → J x9 := fun x9 e9 => hJ x9 (fun x11 e11 x12 e12 => by rw [e11, e12, nI_1, e9]; exact hK2)
    refine sp (fun hb => key _ ?_) (fun hb => ⟨rm_0 h, _, rm_rf h vm6 (by decide), rm_in h vm6 (by decide) hlt, key _ ?_⟩)
    · rw [or_00]
      show _ = if bt (gpN (lkx σ x) x2 k) k = true then _ else _
      rw [hb]; rfl
    · rw [rm_lk h hlt]
      show _ = if bt (gpN (lkx σ x) x2 k) k = true then _ else _
      rw [if_pos hb]
      rfl
/-- where there is no channel, modes and bans may be what they like -/
theorem rm_stale (h : RepM B M0 M σ c t) {f i : Nat} (hf : f = 3 ∨ f = 4) (hn : sgI σ 2 i = -1) (x : Int32) : RepM B M0 M (uI σ f i x) c t := by
  obtain ⟨V, hV, s1, s2, s3, s4⟩ := h
  refine ⟨V, hV, fun g j hg hc => ?_, s2, qm_congr s3 (fun _ _ _ => rfl) rfl rfl (fun _ => rfl), s4⟩
  have hc2 : g = 3 ∨ g = 4 → sgI σ 2 j ≠ -1 := fun e => by
    have := hc e
    rw [sgI_uI, if_neg (by omega)] at this
    exact this
  rw [sgI_uI]
  by_cases e : g = f ∧ j = i
  · exfalso
    rw [e.1, e.2] at hc2
    exact hc2 hf hn
  · rw [if_neg e]
    exact s1 g j hg hc2
theorem uI_id (σ : Sg) (f i : Nat) {x : Int32} (hx : sgI σ f i = x) (g j : Nat) : sgI (uI σ f i x) g j = sgI σ g j := by
  rw [sgI_uI]
  split
  · rename_i e
    rw [e.1, e.2, hx]
  · rfl
theorem r_leaves (h : RepM B M0 M σ c t) {s d : Nat} (hs : s < 6) (hd : d < 4) (u : Int32) {post : Mem → Prop} (hp : ∀ M', RepM B M0 M' (dropL σ (s * 4 + d) u) c t → post M') : w_X6_leaves M (B 0) (nI s) (nI d) u post := by
  have hi : s * 4 + d < 24 := by omega
  refine r_at s d ?_
  generalize s * 4 + d = i at hi hp
  refine ⟨rm_0 h, _, rm_rf h vm11 (by decide), rm_in h vm11 (by decide) hi, rm_in h vm11 (by decide) hi, fun M5 e5 => ?_⟩
  rw [rm_mb h hi] at e5
  have h5 := rm_own h (f := 5) (i := i) hi (cb (sgI σ 5 i) u) (by omega) (k := 11) rfl (by omega)
  have h5 : RepM B M0 M5 (uI σ 5 i (cb (sgI σ 5 i) u)) c t := by rw [e5]; exact h5
  refine ⟨rm_0 h5, _, rm_rf h5 vm8 (by decide), rm_0 h5, _, rm_rf h5 vm11 (by decide), rm_in h5 vm11 (by decide) hi, fun J hJ => ?_⟩
  have m5 : gI M5 (B 11) (Int32.toNatClampNeg (nI i)) = cb (sgI σ 5 i) u := by rw [rm_mb h5 hi, sgI_uI, if_pos ⟨rfl, rfl⟩]
  rw [m5]
  refine ⟨fun e => hJ _ ⟨rm_in h5 vm8 (by decide) hi, fun M14 e14 => hp M14 ?_⟩, fun e => ⟨rm_0 h5, _, rm_rf h5 vm8 (by decide), rm_in h5 vm8 (by decide) hi, hJ _ ⟨rm_in h5 vm8 (by decide) hi, fun M14 e14 => hp M14 ?_⟩⟩⟩
  · have h14 := rm_own h5 (f := 2) (i := i) hi (-1) (fun _ => Or.inl rfl) (k := 8) rfl (by omega)
    rw [← e14] at h14
    unfold dropL
    dsimp only
    rw [if_pos e]
    refine rm_stale (rm_stale h14 (Or.inl rfl) ?_ _) (Or.inr rfl) ?_ _
    · rw [sgI_uI, if_pos ⟨rfl, rfl⟩]
    · rw [sgI_uI, if_neg (by omega), sgI_uI, if_pos ⟨rfl, rfl⟩]
  · rw [rm_ag h5 hi] at e14
    have h14 := rm_own h5 (f := 2) (i := i) hi (sgI (uI σ 5 i (cb (sgI σ 5 i) u)) 2 i) (fun _ => by
      by_cases z : sgI (uI σ 5 i (cb (sgI σ 5 i) u)) 2 i = -1
      · exact Or.inl z
      · exact Or.inr z) (k := 8) rfl (by omega)
    rw [← e14] at h14
    unfold dropL
    dsimp only
    rw [if_neg e]
    exact rm_congr h14 (fun g j => (uI_id _ 2 i rfl g j).symm) rfl rfl (fun _ => rfl)
theorem r_quits (h : RepM B M0 M σ c t) {s : Nat} (hs : s < 6) (u : Int32) {post : Mem → Prop} (hp : ∀ M', RepM B M0 M' (forgetL σ s u) c t → post M') : w_X6_quits M (B 0) (nI s) u post := by
  refine ⟨rm_0 h, _, rm_rf h vm7 (by decide), rm_in h vm7 (by decide) hs, rm_in h vm7 (by decide) hs, fun M4 e4 => ?_⟩
  rw [rm_kn h hs] at e4
  have h4 := rm_own h (f := 1) (i := s) hs (cb (sgI σ 1 s) u) (by omega) (k := 7) rfl (by omega)
  have h4 : RepM B M0 M4 (forgetN σ s u 0) c t := by rw [e4]; exact h4
  refine Lp_for 4 (fun o z => z.1 = nI o ∧ RepM B M0 z.2 (forgetN σ s u o) c t) (fun z => z.1.toNatClampNeg) (fun c z hc hz => by rw [hz.1]; exact clN (by omega)) ⟨rfl, h4⟩ ?_
  intro o z K ho hz hK x1 M2 ez
  subst ez
  obtain ⟨hz1, hz2⟩ := hz
  have hz1 : x1 = nI o := hz1
  have hz2 : RepM B M0 M2 (forgetN σ s u o) c t := hz2
  subst hz1
  refine ⟨fun e => ?_, fun e => ?_⟩
  · have : 4 ≤ o := (le_nI (a := 4) (by omega) (by omega)).mp e
    have e6 : o = 4 := by omega
    subst e6
    exact hp M2 hz2
  · have hlt : o < 4 := Nat.not_le.mp (fun h9 => e ((le_nI (a := 4) (by omega) (by omega)).mpr h9))
    exact ⟨rm_0 hz2, r_leaves hz2 hs hlt u (fun M10 h10 x11 e11 => hK _ hlt ⟨by show x11 = nI (o + 1); rw [e11, nI_1], h10⟩)⟩
end RF3
/-- the last user with that name -/
def nlN (σ : Sg) (s : Nat) (l : Int32) (be : Int32) : Nat → Int32
  | 0 => -1
  | n + 1 => if ¬ nI n = be ∧ sgI σ 6 n = l ∧ bt (sgI σ 1 s) n = true then nI n else nlN σ s l be n
theorem nlN_hit (σ : Sg) (s : Nat) (l be : Int32) {u : Nat} (h2 : mtc σ s l be u) : nlN σ s l be (u + 1) = nI u := if_pos h2
theorem nlN_miss (σ : Sg) (s : Nat) (l be : Int32) {u : Nat} (h2 : ¬ mtc σ s l be u) : nlN σ s l be (u + 1) = nlN σ s l be u := if_neg h2
theorem nlN_spec (σ : Sg) (s : Nat) (l be : Int32) : ∀ n, (nlN σ s l be n = -1 ∧ ∀ u, u < n → ¬ mtc σ s l be u) ∨ (∃ u, u < n ∧ nlN σ s l be n = nI u ∧ mtc σ s l be u) := by
  intro n
  induction n with
  | zero => exact Or.inl ⟨rfl, fun u hu => by omega⟩
  | succ n ih =>
    by_cases hm : mtc σ s l be n
    · exact Or.inr ⟨n, by omega, nlN_hit σ s l be hm, hm⟩
    · rw [nlN_miss σ s l be hm]
      rcases ih with ⟨h1, h2⟩ | ⟨u, h1, h2, h3⟩
      · refine Or.inl ⟨h1, fun u hu => ?_⟩
        by_cases e : u = n
        · rw [e]; exact hm
        · exact h2 u (by omega)
      · exact Or.inr ⟨u, by omega, h2, h3⟩
/-- the known users of s have names of their own -/
def dst (σ : Sg) (s : Nat) : Prop := ∀ u v, u < sgN σ 0 → v < sgN σ 0 → bt (sgI σ 1 s) u = true → bt (sgI σ 1 s) v = true → sgI σ 6 u = sgI σ 6 v → u = v
theorem nl_ns {σ : Sg} {s : Nat} (hu20 : sgN σ 0 ≤ 20) (hd : dst σ s) (l be : Int32) : nlN σ s l be (sgN σ 0) = nsL σ s l be := by
  rcases nlN_spec σ s l be (sgN σ 0) with ⟨h1, h2⟩ | ⟨u, h1, h2, h3⟩ <;> rcases nsN_spec σ s l be (sgN σ 0) (by omega) with ⟨g1, g2⟩ | ⟨v, g1, g2, g3⟩
  · rw [h1]; exact g1.symm
  · exact absurd g3 (h2 v g1)
  · exact absurd h3 (g2 u h1)
  · rw [h2]
    show nI u = nsN σ s l be (sgN σ 0)
    rw [g2, hd u v h1 g1 h3.2.2 g3.2.2 (h3.2.1.trans g3.2.1.symm)]
section RF3b
variable {B : Nat → Nat} {M0 M : Mem} {σ : Sg} {c : Option Ln} {t : Int32}
theorem r_namesake (h : RepM B M0 M σ c t) (hu20 : sgN σ 0 ≤ 20) {s : Nat} (hs : s < 6) (hd : dst σ s) (l be : Int32) {post : Int32 → Prop} (hp : post (nsL σ s l be)) : w_X6_namesake M (B 0) (nI s) l be post := by
  rw [← nl_ns hu20 hd] at hp
  refine Lp_forX (sgN σ 0) (fun u => (nlN σ s l be u, nI u)) (fun z => z.2.toNatClampNeg) (fun c hc => clN (by omega)) rfl ?_
  intro u K hu hK x1 x2 ez
  cases ez
  refine ⟨rm_0 h, ?_⟩
  rw [rm_us h]
  refine ⟨fun e => ?_, fun e => ?_⟩
  · have := (le_nI (by omega) (by omega)).mp e
    have e6 : u = sgN σ 0 := by omega
    subst e6
    exact hp
  · have hlt : u < sgN σ 0 := Nat.not_le.mp (fun h9 => e ((le_nI (by omega) (by omega)).mpr h9))
    have hK := hK hlt
    refine ⟨rm_0 h, _, rm_rf h vm7 (by decide), rm_in h vm7 (by decide) hs, ?_⟩
    rw [rm_kn h hs]
    refine r_has M _ (by omega) (fun J hJ J12 hJ12 => ?_)
    have key : ∀ x9, x9 = nlN σ s l be (u + 1) → J x9 := fun x9 e9 => hJ x9 (fun x11 e11 => by rw [e11, nI_1, e9]; exact hK)
    have miss : ¬ mtc σ s l be u → J12 := fun hm => hJ12 (key _ (nlN_miss σ s l be hm).symm)
    refine sp (fun hb => miss (fun hm => by rw [hm.2.2] at hb; cases hb)) (fun hb => ⟨rm_0 h, _, rm_rf h vm3 (by decide), rm_in h vm3 (by decide) (show u < 20 by omega), ?_⟩)
    rw [rm_nm h (by omega)]
    exact ⟨fun e1 => ⟨fun e2 => miss (fun hm => hm.1 e2), fun e2 => key _ (nlN_hit σ s l be ⟨e2, e1, hb⟩).symm⟩, fun e1 => miss (fun hm => e1 hm.2.1)⟩
end RF3b
