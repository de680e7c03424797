/-! THE REFERENCE'S METHODS: what users do -/
section RF7
variable {B : Nat → Nat} {M0 M : Mem} {σ : Sg} {c : Option Ln} {t : Int32}
theorem r_isGone (h : RepM B M0 M σ c t) {u hm : Nat} (hu : u < 20) (hh : hm < 6) (he : sgI σ 7 u = nI hm) {post : Int32 → Prop} (h1 : goneL σ u hm = true → post 1) (h0 : goneL σ u hm = false → post 0) : w_X6_isGone M (B 0) (nI u) post := by
  refine ⟨rm_0 h, _, rm_rf h vm7 (by decide), rm_0 h, _, rm_rf h vm4 (by decide), rm_in h vm4 (by decide) hu, ?_⟩
  rw [rm_hm h hu, he]
  refine ⟨rm_in h vm7 (by decide) hh, ?_⟩
  rw [rm_kn h hh]
  refine r_has M _ (by omega) (fun J hJ => sp (fun hb => hJ 1 ⟨Or.inr rfl, h1 ?_⟩) (fun hb => hJ 0 ⟨Or.inl rfl, h0 ?_⟩))
  · unfold goneL; rw [hb]; rfl
  · unfold goneL; rw [hb]; rfl
theorem r_isMember (h : RepM B M0 M σ c t) {u hm d : Nat} (hu : u < 20) (hh : hm < 6) (hd : d < 4) (he : sgI σ 7 u = nI hm) (hc : cI σ (hm * 4 + d)) {post : Int32 → Prop} (h1 : bt (sgI σ 5 (hm * 4 + d)) u = true → sgI σ 2 (hm * 4 + d) ≠ -1 → post 1) (h0 : bt (sgI σ 5 (hm * 4 + d)) u = false → post 0) : w_X6_isMember M (B 0) (nI u) (nI d) post := by
  have hi : hm * 4 + d < 24 := by omega
  refine ⟨rm_0 h, _, rm_rf h vm4 (by decide), rm_in h vm4 (by decide) hu, ?_⟩
  rw [rm_hm h hu, he]
  refine r_at hm d ⟨rm_0 h, _, rm_rf h vm8 (by decide), rm_in h vm8 (by decide) hi, fun J hJ J10 hJ10 => ?_⟩
  rw [rm_ag h hi]
  refine ⟨fun e => hJ10 (hJ 0 ⟨Or.inl rfl, h0 (by rw [hc.mpr e, b_0])⟩), fun e => ⟨rm_0 h, _, rm_rf h vm11 (by decide), rm_in h vm11 (by decide) hi, ?_⟩⟩
  rw [rm_mb h hi]
  exact r_has M _ (by omega) (sp (fun hb => hJ10 (hJ 0 ⟨Or.inl rfl, h0 hb⟩)) (fun hb => hJ 1 ⟨Or.inr rfl, h1 hb e⟩))
theorem r_isBanned (h : RepM B M0 M σ c t) {u hm d l : Nat} (hu : u < 20) (hh : hm < 6) (hd : d < 4) (he : sgI σ 7 u = nI hm) (hl : l < 26) (hle : sgI σ 6 u = nI l) (hc : cI σ (hm * 4 + d)) {post : Int32 → Prop} (h1 : ¬ sgI σ 5 (hm * 4 + d) = 0 → bt (sgI σ 4 (hm * 4 + d)) l = true → post 1) (h0 : (sgI σ 5 (hm * 4 + d) = 0 ∨ bt (sgI σ 4 (hm * 4 + d)) l = false) → post 0) : w_X6_isBanned M (B 0) (nI u) (nI d) post := by
  have hi : hm * 4 + d < 24 := by omega
  refine ⟨rm_0 h, _, rm_rf h vm4 (by decide), rm_in h vm4 (by decide) hu, ?_⟩
  rw [rm_hm h hu, he]
  refine r_at hm d ⟨rm_0 h, _, rm_rf h vm8 (by decide), rm_in h vm8 (by decide) hi, fun J hJ J10 hJ10 => ?_⟩
  rw [rm_ag h hi]
  refine ⟨fun e => hJ10 (hJ 0 ⟨Or.inl rfl, h0 (Or.inl (hc.mpr e))⟩), fun e => ⟨rm_0 h, _, rm_rf h vm10 (by decide), rm_in h vm10 (by decide) hi, rm_0 h, _, rm_rf h vm3 (by decide), rm_in h vm3 (by decide) hu, ?_⟩⟩
  rw [rm_bn h hi e, rm_nm h hu, hle]
  exact r_has M _ (by omega) (sp (fun hb => hJ10 (hJ 0 ⟨Or.inl rfl, h0 (Or.inr hb)⟩)) (fun hb => hJ 1 ⟨Or.inr rfl, h1 (fun z => e (hc.mp z)) hb⟩))
theorem r_letter (M : Mem) (p : Int32) {post : Int32 → Prop} (hp : post (letL p)) : w_X6_letter M p post := by
  intro J hJ J3 hJ3
  have key : J (letL p) := hJ _ hp
  have le1 : ∀ a b : Int32, ¬ a < b → b ≤ a := fun a b => Int32.not_lt.mp
  have big : ¬ (97 ≤ p ∧ p ≤ 122) → J3 := fun hn => hJ3 (fun J4 hJ4 => by
    have none : ¬ (65 ≤ p ∧ p ≤ 90) → J4 := fun hn2 => hJ4 (by
      have : letL p = -1 := by unfold letL; rw [if_neg hn, if_neg hn2]
      rw [this] at key; exact key)
    refine ⟨fun e => none (fun z => Int32.not_lt.mpr z.1 e), fun e => ⟨fun e2 => none (fun z => Int32.not_lt.mpr z.2 e2), fun e2 => ?_⟩⟩
    have : letL p = p - 65 := by unfold letL; rw [if_neg hn, if_pos ⟨le1 _ _ e, le1 _ _ e2⟩]
    rw [this] at key; exact key)
  refine ⟨fun e => big (fun z => Int32.not_lt.mpr z.1 e), fun e => ⟨fun e2 => big (fun z => Int32.not_lt.mpr z.2 e2), fun e2 => ?_⟩⟩
  have : letL p = p - 97 := by unfold letL; rw [if_pos ⟨le1 _ _ e, le1 _ _ e2⟩]
  rw [this] at key; exact key
/-- the clock's step at a call's end -/
theorem rm_setU (h : RepM B M0 M σ c t) (n : Nat) : RepM B M0 (sI M (B 0) 2 (nI n)) (uN σ 0 n) c t := by
  obtain ⟨V, hV, hS⟩ := h
  obtain ⟨s1, s2, s3, s4⟩ := id hS
  exact ⟨_, rv_set hV vm0 2 _, sm_scal hS (fun k j hk => up_k V 2 _ j hk) (fun _ _ => rfl) (fun _ => rfl) ((up_j V 0 _ 0 (by omega)).trans s2.1) ((up_j V 0 _ 0 (by omega)).trans s2.2.1) (up_s _ _ _ _) (up_j V 0 _ 0 (by omega)) (up_j V 0 _ 0 (by omega)) (fun ln e => cuM_keep (s4 ln e) (fun j hj => up_j V 0 _ 0 (by omega)))⟩
theorem r_signOn (h : RepM B M0 M σ c t) (hu20 : sgN σ 0 ≤ 20) (hd : ∀ s, s < 6 → dst σ s) (htt : tot σ + 6 ≤ 16384) {p q : Int32} {post : Mem → Int32 → Prop}
    (h1 : ¬ (0 ≤ p ∧ p < 6) → ∀ M', RepM B M0 M' σ none 1 → post M' 0)
    (h2 : ∀ s, s < 6 → p = nI s → letL q = -1 → ∀ M', RepM B M0 M' σ none 2 → post M' 0)
    (h3 : ∀ s, s < 6 → p = nI s → letL q ≠ -1 → sgN σ 0 = 20 ∨ nsL σ s (letL q) (-1) ≠ -1 → ∀ M', RepM B M0 M' σ none 3 → post M' 0)
    (hp : ∀ s, s < 6 → p = nI s → letL q ≠ -1 → sgN σ 0 < 20 → nsL σ s (letL q) (-1) = -1 → ∀ M', RepM B M0 M' (signL σ s (letL q)) none 0 → post M' (nI (sgN σ 0))) : w_X6_signOn M (B 0) p q post := by
  refine r_srv (fun s hs es => r_letter M q ?_) (fun hn => r_letter M q ?_)
  · generalize hlq : letL q = lq at h2 h3 hp ⊢
    intro J4 hJ4
    refine ⟨fun z => absurd z z10, fun _ => ⟨fun e => hJ4 2 ⟨rm_0 h, r_holds h (fun e => absurd e z20) (fun _ M' h' => ⟨fun _ => h2 s hs es e M' (rm_none h'), fun z => absurd rfl z⟩)⟩, fun e => ⟨rm_0 h, fun J40 hJ40 => ?_⟩⟩⟩
    have no : (sgN σ 0 = 20 ∨ nsL σ s lq (-1) ≠ -1) → J40 := fun z => hJ40 (hJ4 3 ⟨rm_0 h, r_holds h (fun e => absurd e z30) (fun _ M' h' => ⟨fun _ => h3 s hs es e z M' (rm_none h'), fun z => absurd rfl z⟩)⟩)
    rw [rm_us h]
    refine ⟨fun e2 => no (Or.inl ((nI_eq (b := 20) (by omega) (by omega)).mp e2)), fun e2 => ⟨rm_0 h, ?_⟩⟩
    have hlt : sgN σ 0 < 20 := by
      have : sgN σ 0 ≠ 20 := fun z => e2 (by rw [z]; rfl)
      omega
    subst es
    refine r_namesake h hu20 hs (hd s hs) lq (-1) ⟨fun e3 => hJ4 0 ⟨rm_0 h, r_holds h (fun _ M6 h6 => ⟨fun z => absurd z z10, fun _ => ⟨rm_0 h6, fun x9 e9 => ?_⟩⟩) (fun z => absurd rfl z)⟩, fun e3 => no (Or.inr e3)⟩
    rw [rm_us h6] at e9
    subst e9
    refine ⟨rm_0 h6, rm_0 h6, fun M12 e12 => ?_⟩
    rw [rm_us h6, nI_1] at e12
    have h12 := rm_setU h6 (sgN σ 0 + 1)
    rw [← e12] at h12
    refine ⟨rm_0 h12, _, rm_rf h12 vm3 (by decide), rm_in h12 vm3 (by decide) hlt, fun M15 e15 => ?_⟩
    have h15 := rm_own h12 (f := 6) (i := sgN σ 0) hlt lq (by omega) (k := 3) rfl (by omega)
    rw [← e15] at h15
    refine ⟨rm_0 h15, _, rm_rf h15 vm4 (by decide), rm_in h15 vm4 (by decide) hlt, fun M19 e19 => ?_⟩
    have h19 := rm_own h15 (f := 7) (i := sgN σ 0) hlt (nI s) (by omega) (k := 4) rfl (by omega)
    rw [← e19] at h19
    refine ⟨rm_0 h19, _, rm_rf h19 vm5 (by decide), rm_0 h19, rm_in h19 vm5 (by decide) hlt, fun M24 e24 => ?_⟩
    rw [rm_ck h19] at e24
    have h24 := rm_own h19 (f := 8) (i := sgN σ 0) hlt (nI (sgN σ 1)) (by omega) (k := 5) rfl (by omega)
    have h24 : RepM B M0 M24 (bookL σ s lq) c 0 := by
      have e24 : M24 = sI M19 (B 5) (Int32.toNatClampNeg (nI (sgN σ 0))) (nI (sgN σ 1)) := e24
      rw [e24]
      refine rm_congr h24 (fun f i => ?_) rfl rfl (fun _ => rfl)
      show sgI (uI (uI (uI σ 7 (sgN σ 0) (nI s)) 6 (sgN σ 0) lq) 8 (sgN σ 0) (nI (sgN σ 1))) f i = sgI (uI (uI (uI σ 6 (sgN σ 0) lq) 7 (sgN σ 0) (nI s)) 8 (sgN σ 0) (nI (sgN σ 1))) f i
      rw [sgI_uI, sgI_uI, sgI_uI, sgI_uI, sgI_uI, sgI_uI]
      split
      · rfl
      · split
        · rename_i z
          rw [if_neg (by omega)]
        · rfl
    refine ⟨rm_0 h24, _, rm_rf h24 vm7 (by decide), rm_in h24 vm7 (by decide) hs, rm_in h24 vm7 (by decide) hs, fun M29 e29 => ?_⟩
    rw [rm_kn h24 hs] at e29
    have h29 := rm_own h24 (f := 1) (i := s) hs (sb (sgI (bookL σ s lq) 1 s) (nI (sgN σ 0))) (by omega) (k := 7) rfl (by omega)
    have h29 : RepM B M0 M29 (learnL (bookL σ s lq) s (sgN σ 0)) c 0 := by rw [e29]; exact h29
    refine ⟨rm_0 h29, r_makes h29 (by decide) _ _ (fun M32 h32 => ⟨rm_0 h32, r_sends h32 hs (-1) htt (fun M34 h34 => ⟨rm_0 h34, rm_0 h34, fun M37 e37 => hp s hs rfl e hlt e3 M37 ?_⟩)⟩)⟩
    exact rm_none (rm_tick h34 e37)
  · intro J4 hJ4
    exact ⟨fun _ => hJ4 1 ⟨rm_0 h, r_holds h (fun e => absurd e z10) (fun _ M' h' => ⟨fun _ => h1 hn M' (rm_none h'), fun z => absurd rfl z⟩)⟩, fun z => absurd rfl z⟩
theorem r_quit (h : RepM B M0 M σ c t) (hW : WFu σ) (htt : tot σ + 6 ≤ 16384) {p : Int32} {post : Mem → Prop}
    (h1 : ¬ (0 ≤ p ∧ p < nI (sgN σ 0)) → ∀ M', RepM B M0 M' σ none 1 → post M')
    (h2 : ∀ u hm, u < sgN σ 0 → hm < 6 → p = nI u → sgI σ 7 u = nI hm → goneL σ u hm = true → ∀ M', RepM B M0 M' σ none 2 → post M')
    (hp : ∀ u hm, u < sgN σ 0 → hm < 6 → p = nI u → sgI σ 7 u = nI hm → goneL σ u hm = false → ∀ M', RepM B M0 M' (quitL σ u hm) none 0 → post M') : w_X6_quit M (B 0) p post := by
  refine ⟨rm_0 h, r_usr h hW.1 (fun u hu eu => ?_) (fun hn => ?_)⟩
  · obtain ⟨hm, hh, he⟩ := hW.2 u hu
    have hu' : u < 20 := by have := hW.1; omega
    subst eu
    intro J4 hJ4
    refine ⟨fun z => absurd z z10, fun _ => ⟨rm_0 h, r_isGone h hu' hh he (fun hb => ⟨fun z => absurd z z10, fun _ => hJ4 2 ⟨rm_0 h, r_holds h (fun e => absurd e z20) (fun _ M' h' J9 hJ9 => ⟨fun _ => hJ9 _ (h2 u hm hu hh rfl he hb M' (rm_none h')), fun z => absurd rfl z⟩)⟩⟩) (fun hb => ⟨fun _ => hJ4 0 ⟨rm_0 h, r_holds h (fun _ M6 h6 J9 hJ9 => ⟨fun z => absurd z z10, fun _ => ⟨rm_0 h6, _, rm_rf h6 vm4 (by decide), rm_in h6 vm4 (by decide) hu', rm_0 h6, ?_⟩⟩) (fun z => absurd rfl z)⟩, fun z => absurd rfl z⟩)⟩⟩
    rw [rm_hm h6 hu', he]
    refine r_quits h6 hh (nI u) (fun M14 h14 => ⟨rm_0 h14, r_makes h14 (by decide) _ _ (fun M16 h16 => ⟨rm_0 h16, _, rm_rf h16 vm4 (by decide), rm_in h16 vm4 (by decide) hu', rm_0 h16, ?_⟩)⟩)
    rw [rm_hm h16 hu', forget_I σ hm (nI u) 7 u (Or.inr (by decide)), he]
    exact r_sends h16 hh (-1) (by rw [forget_tot]; exact htt) (fun M21 h21 => ⟨rm_0 h21, rm_0 h21, fun M24 e24 => hJ9 _ (hp u hm hu hh rfl he hb M24 (rm_none (rm_tick h21 e24)))⟩)
  · intro J4 hJ4
    exact ⟨fun _ => hJ4 1 ⟨rm_0 h, r_holds h (fun e => absurd e z10) (fun _ M' h' J9 hJ9 => ⟨fun _ => hJ9 _ (h1 hn M' (rm_none h')), fun z => absurd rfl z⟩)⟩, fun z => absurd rfl z⟩
theorem r_leave (h : RepM B M0 M σ c t) (hW : WFu σ) (hc : allC σ) (htt : tot σ + 6 ≤ 16384) {p q : Int32} {post : Mem → Prop}
    (h1 : ¬ (0 ≤ p ∧ p < nI (sgN σ 0)) ∨ ¬ (0 ≤ q ∧ q < 4) → ∀ M', RepM B M0 M' σ none 1 → post M')
    (h2 : ∀ u hm d, u < sgN σ 0 → hm < 6 → d < 4 → p = nI u → q = nI d → sgI σ 7 u = nI hm → goneL σ u hm = true ∨ ¬ bt (sgI σ 5 (hm * 4 + d)) u = true → ∀ M', RepM B M0 M' σ none 2 → post M')
    (hp : ∀ u hm d, u < sgN σ 0 → hm < 6 → d < 4 → p = nI u → q = nI d → sgI σ 7 u = nI hm → goneL σ u hm = false → bt (sgI σ 5 (hm * 4 + d)) u = true → ∀ M', RepM B M0 M' (leaveL σ u hm d) none 0 → post M') : w_X6_leave M (B 0) p q post := by
  refine ⟨rm_0 h, r_usr h hW.1 (fun u hu eu => ?_) (fun hn => ?_)⟩
  · obtain ⟨hm, hh, he⟩ := hW.2 u hu
    have hu' : u < 20 := by have := hW.1; omega
    subst eu
    intro J4 hJ4 J36 hJ36
    refine ⟨fun z => absurd z z10, fun _ => r_chn (fun d hd ed => ⟨fun z => absurd z z10, fun _ => hJ4 1 (fun J6 hJ6 => ⟨fun z => absurd z z10, fun _ => ⟨rm_0 h, ?_⟩⟩)⟩) (fun hn => ⟨fun _ => hJ36 (hJ4 0 (fun J6 hJ6 => ⟨fun _ => hJ6 1 ⟨rm_0 h, r_holds h (fun e => absurd e z10) (fun _ M' h' J11 hJ11 => ⟨fun _ => hJ11 _ (h1 (Or.inr hn) M' (rm_none h')), fun z => absurd rfl z⟩)⟩, fun z => absurd rfl z⟩)), fun z => absurd rfl z⟩)⟩
    subst ed
    have hi : hm * 4 + d < 24 := by omega
    have no : (goneL σ u hm = true ∨ ¬ bt (sgI σ 5 (hm * 4 + d)) u = true) → J6 2 := fun z => hJ6 2 ⟨rm_0 h, r_holds h (fun e => absurd e z20) (fun _ M' h' J11 hJ11 => ⟨fun _ => hJ11 _ (h2 u hm d hu hh hd rfl rfl he z M' (rm_none h')), fun z => absurd rfl z⟩)⟩
    refine r_isGone h hu' hh he (fun hb J30 hJ30 => ⟨fun z => absurd z z10, fun _ => hJ30 (no (Or.inl hb))⟩) (fun hb J30 hJ30 => ⟨fun _ => ⟨rm_0 h, r_isMember h hu' hh hd he (hc _ hi) (fun hb2 _ => ⟨fun z => absurd z z10, fun _ => hJ6 0 ⟨rm_0 h, r_holds h (fun _ M6 h6 J11 hJ11 => ⟨fun z => absurd z z10, fun _ => ⟨rm_0 h6, _, rm_rf h6 vm4 (by decide), rm_in h6 vm4 (by decide) hu', rm_0 h6, ?_⟩⟩) (fun z => absurd rfl z)⟩⟩) (fun hb2 => ⟨fun _ => hJ30 (no (Or.inr (by rw [hb2]; decide))), fun z => absurd rfl z⟩)⟩, fun z => absurd rfl z⟩)
    rw [rm_hm h6 hu', he]
    refine r_leaves h6 hh hd (nI u) (fun M16 h16 => ⟨rm_0 h16, r_makes h16 (by decide) _ _ (fun M18 h18 => ⟨rm_0 h18, _, rm_rf h18 vm4 (by decide), rm_in h18 vm4 (by decide) hu', rm_0 h18, ?_⟩)⟩)
    rw [rm_hm h18 hu', drop_I σ _ (nI u) 7 u (Or.inr (by decide)), he]
    exact r_sends h18 hh (-1) (by rw [tot_congr (drop_Q σ _ _)]; exact htt) (fun M23 h23 => ⟨rm_0 h23, rm_0 h23, fun M26 e26 => hJ11 _ (hp u hm d hu hh hd rfl rfl he hb hb2 M26 (rm_none (rm_tick h23 e26)))⟩)
  · intro J4 hJ4 J36 hJ36
    exact ⟨fun _ => hJ36 (hJ4 0 (fun J6 hJ6 => ⟨fun _ => hJ6 1 ⟨rm_0 h, r_holds h (fun e => absurd e z10) (fun _ M' h' J11 hJ11 => ⟨fun _ => hJ11 _ (h1 (Or.inl hn) M' (rm_none h')), fun z => absurd rfl z⟩)⟩, fun z => absurd rfl z⟩)), fun z => absurd rfl z⟩
theorem r_setModes (h : RepM B M0 M σ c t) (hW : WFu σ) (hc : allC σ) (htt : tot σ + 6 ≤ 16384) {p q r v : Int32} {post : Mem → Int32 → Prop}
    (h1 : ¬ (0 ≤ p ∧ p < nI (sgN σ 0)) ∨ ¬ (0 ≤ q ∧ q < 4) → ∀ M', RepM B M0 M' σ none 1 → post M' 0)
    (h2 : (0 ≤ p ∧ p < nI (sgN σ 0)) → (0 ≤ q ∧ q < 4) → ¬ (0 ≤ r ∧ r ≤ 15 ∧ 0 ≤ v ∧ v ≤ 67108863) → ∀ M', RepM B M0 M' σ none 2 → post M' 0)
    (h3 : ∀ u hm d, u < sgN σ 0 → hm < 6 → d < 4 → p = nI u → q = nI d → sgI σ 7 u = nI hm → (0 ≤ r ∧ r ≤ 15 ∧ 0 ≤ v ∧ v ≤ 67108863) → goneL σ u hm = true ∨ ¬ bt (sgI σ 5 (hm * 4 + d)) u = true → ∀ M', RepM B M0 M' σ none 3 → post M' 0)
    (hp : ∀ u hm d, u < sgN σ 0 → hm < 6 → d < 4 → p = nI u → q = nI d → sgI σ 7 u = nI hm → (0 ≤ r ∧ r ≤ 15 ∧ 0 ≤ v ∧ v ≤ 67108863) → goneL σ u hm = false → bt (sgI σ 5 (hm * 4 + d)) u = true → ∀ M', RepM B M0 M' (modL σ hm d r v) none 0 → post M' (sgI σ 3 (hm * 4 + d))) : w_X6_setModes M (B 0) p q r v post := by
  -- the range of modes and bans
  have rng : ∀ (J6 : Int32 → Prop), ((¬ (0 ≤ r ∧ r ≤ 15 ∧ 0 ≤ v ∧ v ≤ 67108863)) → J6 0) → ((0 ≤ r ∧ r ≤ 15 ∧ 0 ≤ v ∧ v ≤ 67108863) → J6 1) → (∀ J51 : Prop, ((J6 0) → J51) → ((r < 0 → J51) ∧ (¬ (r < 0) → (15 < r → J51) ∧ (¬ (15 < r) → (v < 0 → J51) ∧ (¬ (v < 0) → (67108863 < v → J51) ∧ (¬ (67108863 < v) → J6 1)))))) := by
    intro J6 g0 g1 J51 hJ51
    refine ⟨fun e => hJ51 (g0 (fun z => Int32.not_lt.mpr z.1 e)), fun e1 => ⟨fun e => hJ51 (g0 (fun z => Int32.not_lt.mpr z.2.1 e)), fun e2 => ⟨fun e => hJ51 (g0 (fun z => Int32.not_lt.mpr z.2.2.1 e)), fun e3 => ⟨fun e => hJ51 (g0 (fun z => Int32.not_lt.mpr z.2.2.2 e)), fun e4 => g1 ⟨Int32.not_lt.mp e1, Int32.not_lt.mp e2, Int32.not_lt.mp e3, Int32.not_lt.mp e4⟩⟩⟩⟩⟩
  refine ⟨rm_0 h, r_usr h hW.1 (fun u hu eu => ?_) (fun hn => ?_)⟩
  · obtain ⟨hm, hh, he⟩ := hW.2 u hu
    have hu' : u < 20 := by have := hW.1; omega
    have hpr : 0 ≤ p ∧ p < nI (sgN σ 0) := by
      have := hW.1
      rw [eu]
      exact ⟨nI_pos' (by omega), nI_lt hu (by omega)⟩
    subst eu
    intro J4 hJ4 J56 hJ56
    refine ⟨fun z => absurd z z10, fun _ => r_chn (fun d hd ed => ⟨fun z => absurd z z10, fun _ => hJ4 1 ?_⟩) (fun hn => ⟨fun _ => hJ56 (hJ4 0 ?_), fun z => absurd rfl z⟩)⟩
    · have hqr : 0 ≤ q ∧ q < 4 := by rw [ed]; exact ⟨nI_pos' (by omega), nI_lt (b := 4) hd (by omega)⟩
      intro J6 hJ6
      refine rng J6 (fun hbad => hJ6 0 (fun J8 hJ8 => ⟨fun z => absurd z z10, fun _ => ⟨fun _ => hJ8 2 ⟨rm_0 h, r_holds h (fun e => absurd e z20) (fun _ M' h' => ⟨fun _ => h2 hpr hqr hbad M' (rm_none h'), fun z => absurd rfl z⟩)⟩, fun z => absurd rfl z⟩⟩)) (fun hok => hJ6 1 (fun J8 hJ8 => ⟨fun z => absurd z z10, fun _ => ⟨fun z => absurd z z10, fun _ => ⟨rm_0 h, ?_⟩⟩⟩))
      subst ed
      have hi : hm * 4 + d < 24 := by omega
      have no : (goneL σ u hm = true ∨ ¬ bt (sgI σ 5 (hm * 4 + d)) u = true) → J8 3 := fun z => hJ8 3 ⟨rm_0 h, r_holds h (fun e => absurd e z30) (fun _ M' h' => ⟨fun _ => h3 u hm d hu hh hd rfl rfl he hok z M' (rm_none h'), fun z => absurd rfl z⟩)⟩
      refine r_isGone h hu' hh he (fun hb J30 hJ30 => ⟨fun z => absurd z z10, fun _ => hJ30 (no (Or.inl hb))⟩) (fun hb J30 hJ30 => ⟨fun _ => ⟨rm_0 h, r_isMember h hu' hh hd he (hc _ hi) (fun hb2 hag => ⟨fun z => absurd z z10, fun _ => hJ8 0 ⟨rm_0 h, r_holds h (fun _ M10 h10 => ⟨fun z => absurd z z10, fun _ => ⟨rm_0 h10, _, rm_rf h10 vm4 (by decide), rm_in h10 vm4 (by decide) hu', ?_⟩⟩) (fun z => absurd rfl z)⟩⟩) (fun hb2 => ⟨fun _ => hJ30 (no (Or.inr (by rw [hb2]; decide))), fun z => absurd rfl z⟩)⟩, fun z => absurd rfl z⟩)
      rw [rm_hm h10 hu', he]
      refine r_at hm d ⟨rm_0 h10, _, rm_rf h10 vm9 (by decide), rm_in h10 vm9 (by decide) hi, fun x19 e19 => ?_⟩
      rw [rm_md h10 hi hag] at e19
      refine ⟨rm_0 h10, _, rm_rf h10 vm9 (by decide), rm_in h10 vm9 (by decide) hi, fun M22 e22 => ?_⟩
      have h22 := rm_own h10 (f := 3) (i := hm * 4 + d) hi r (by omega) (k := 9) rfl (by omega)
      rw [← e22] at h22
      refine ⟨rm_0 h22, _, rm_rf h22 vm10 (by decide), rm_in h22 vm10 (by decide) hi, fun M26 e26 => ?_⟩
      have h26 := rm_own h22 (f := 4) (i := hm * 4 + d) hi v (by omega) (k := 10) rfl (by omega)
      have h26 : RepM B M0 M26 (mset σ (hm * 4 + d) r v) c 0 := by rw [e26]; exact h26
      have i7 : sgI (mset σ (hm * 4 + d) r v) 7 u = nI hm := by
        show sgI (uI (uI σ 3 _ r) 4 _ v) 7 u = _
        rw [sgI_uI, if_neg (by omega), sgI_uI, if_neg (by omega)]
        exact he
      have i2 : sgI (mset σ (hm * 4 + d) r v) 2 (hm * 4 + d) = sgI σ 2 (hm * 4 + d) := by
        show sgI (uI (uI σ 3 _ r) 4 _ v) 2 _ = _
        rw [sgI_uI, if_neg (by omega), sgI_uI, if_neg (by omega)]
      have i3 : sgI (mset σ (hm * 4 + d) r v) 3 (hm * 4 + d) = r := by
        show sgI (uI (uI σ 3 _ r) 4 _ v) 3 _ = _
        rw [sgI_uI, if_neg (by omega), sgI_uI, if_pos ⟨rfl, rfl⟩]
      have i4 : sgI (mset σ (hm * 4 + d) r v) 4 (hm * 4 + d) = v := by
        show sgI (uI (uI σ 3 _ r) 4 _ v) 4 _ = _
        rw [sgI_uI, if_pos ⟨rfl, rfl⟩]
      refine ⟨rm_0 h26, _, rm_rf h26 vm4 (by decide), rm_in h26 vm4 (by decide) hu', rm_0 h26, ?_⟩
      rw [rm_hm h26 hu', i7]
      refine r_tells h26 4 hh hd (by rw [i2]; exact hag) 0 (fun M32 h32 => ⟨rm_0 h32, _, rm_rf h32 vm4 (by decide), rm_in h32 vm4 (by decide) hu', rm_0 h32, ?_⟩)
      rw [i2, i3, i4] at h32
      rw [rm_hm h32 hu', i7]
      refine r_sends h32 hh (-1) htt (fun M37 h37 => ⟨rm_0 h37, rm_0 h37, fun M40 e40 => ?_⟩)
      rw [e19]
      exact hp u hm d hu hh hd rfl rfl he hok hb hb2 M40 (rm_none (rm_tick h37 e40))
    · intro J6 hJ6
      have g : J6 0 ∧ J6 1 := by
        refine ⟨hJ6 0 (fun J8 hJ8 => ⟨fun _ => hJ8 1 ⟨rm_0 h, r_holds h (fun e => absurd e z10) (fun _ M' h' => ⟨fun _ => h1 (Or.inr hn) M' (rm_none h'), fun z => absurd rfl z⟩)⟩, fun z => absurd rfl z⟩), hJ6 1 (fun J8 hJ8 => ⟨fun _ => hJ8 1 ⟨rm_0 h, r_holds h (fun e => absurd e z10) (fun _ M' h' => ⟨fun _ => h1 (Or.inr hn) M' (rm_none h'), fun z => absurd rfl z⟩)⟩, fun z => absurd rfl z⟩)⟩
      exact rng J6 (fun _ => g.1) (fun _ => g.2)
  · intro J4 hJ4 J56 hJ56
    refine ⟨fun _ => hJ56 (hJ4 0 ?_), fun z => absurd rfl z⟩
    intro J6 hJ6
    have g : J6 0 ∧ J6 1 := by
      refine ⟨hJ6 0 (fun J8 hJ8 => ⟨fun _ => hJ8 1 ⟨rm_0 h, r_holds h (fun e => absurd e z10) (fun _ M' h' => ⟨fun _ => h1 (Or.inl hn) M' (rm_none h'), fun z => absurd rfl z⟩)⟩, fun z => absurd rfl z⟩), hJ6 1 (fun J8 hJ8 => ⟨fun _ => hJ8 1 ⟨rm_0 h, r_holds h (fun e => absurd e z10) (fun _ M' h' => ⟨fun _ => h1 (Or.inl hn) M' (rm_none h'), fun z => absurd rfl z⟩)⟩, fun z => absurd rfl z⟩)⟩
    exact rng J6 (fun _ => g.1) (fun _ => g.2)
end RF7
