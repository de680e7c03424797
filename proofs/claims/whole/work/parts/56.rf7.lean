/-! THE REFERENCE'S METHODS: join, say -/
def cntI (m : Int32) : Nat → Int32
  | 0 => 0
  | k + 1 => cntI m k + ((m >>> (nI k &&& 31)) &&& 1)
theorem r_count (M : Mem) (m : Int32) {post : Int32 → Prop} (hp : post (cntI m 20)) : w_X6_count M m post := by
  refine Lp_forX 20 (fun k => (cntI m k, nI k)) (fun z => z.2.toNatClampNeg) (fun c hc => clN (by omega)) rfl ?_
  intro k K hk hK x1 x2 ez
  cases ez
  refine ⟨fun e => ?_, fun e => ?_⟩
  · have : 20 ≤ k := (le_nI (a := 20) (by omega) (by omega)).mp e
    have e6 : k = 20 := by omega
    subst e6
    exact hp
  · have hlt : k < 20 := Nat.not_le.mp (fun h9 => e ((le_nI (a := 20) (by omega) (by omega)).mpr h9))
    intro x4 e4 x5 e5
    rw [e4, e5, nI_1]
    exact hK hlt
/-- counted: bits below n -/
theorem cntI_n (m : Int32) : ∀ n, n ≤ 32 → cntI m n = nI (cN m n) := by
  intro n
  induction n with
  | zero => intro _; rfl
  | succ n ih =>
    intro hn
    show cntI m n + _ = nI (cN m n + if bt m n = true then 1 else 0)
    rw [ih (by omega)]
    cases hb : bt m n with
    | true =>
      rw [(hs_one m (by omega)).mpr hb, if_pos rfl, nI_1]
    | false =>
      rw [(hs_ex m (by omega)).mpr hb, if_neg (by decide), ← nI_0, nI_add]
/-- nobody in m is older than u -/
def isEl (σ : Sg) (m : Int32) (u n : Nat) : Prop := ∀ v, v < n → bt m v = true → ¬ (sgI σ 8 v < sgI σ 8 u ∨ sgI σ 8 v = sgI σ 8 u ∧ v < u)
/-- the ways from hm that a message takes, as the reference counts them -/
def seB (σ : Sg) (hm : Nat) (T : Int32) (x y : Nat) : Prop := bt (sgI σ 0 x) y = true ∧ bt (behL σ y x) hm = false ∧ bt (treeL σ hm) x = true ∧ ¬ behL σ y x &&& T = 0
def ctI (σ : Sg) (hm : Nat) (T : Int32) (x : Nat) : Nat → Nat
  | 0 => 0
  | y + 1 => ctI σ hm T x y + if bt (sgI σ 0 x) y = true ∧ bt (behL σ y x) hm = false ∧ bt (treeL σ hm) x = true ∧ ¬ behL σ y x &&& T = 0 then 1 else 0
def ctO (σ : Sg) (hm : Nat) (T : Int32) : Nat → Nat
  | 0 => 0
  | x + 1 => ctO σ hm T x + ctI σ hm T x 6
theorem allC_enter {σ : Sg} {i : Nat} (hc : cI σ i) (u clk : Int32) (n : Nat) : sgN (enterL σ i u clk) n = sgN σ n := enter_N σ i u clk n
section RF8
variable {B : Nat → Nat} {M0 M : Mem} {σ : Sg} {c : Option Ln} {t : Int32}
theorem r_join (h : RepM B M0 M σ c t) (hW : WFu σ) (hWl : WFl σ) (hc : allC σ) (hck : sgN σ 1 < 1000000) (htt : tot σ + 6 ≤ 16384) {p q : Int32} {post : Mem → Int32 → Prop}
    (h1 : ¬ (0 ≤ p ∧ p < nI (sgN σ 0)) ∨ ¬ (0 ≤ q ∧ q < 4) → ∀ M', RepM B M0 M' σ none 1 → post M' 0)
    (h2 : ∀ u hm d, u < sgN σ 0 → hm < 6 → d < 4 → p = nI u → q = nI d → sgI σ 7 u = nI hm → goneL σ u hm = true ∨ barL σ u hm d → ∀ M', RepM B M0 M' σ none 2 → post M' 0)
    (hp : ∀ u hm d, u < sgN σ 0 → hm < 6 → d < 4 → p = nI u → q = nI d → sgI σ 7 u = nI hm → goneL σ u hm = false → ¬ barL σ u hm d → ∀ M', RepM B M0 M' (joinL σ u hm d) none 0 → post M' (nI (cN (sgI (joinL σ u hm d) 5 (hm * 4 + d)) 20))) : w_X6_join M (B 0) p q post := by
  refine ⟨rm_0 h, r_usr h hW.1 (fun u hu eu => ?_) (fun hn => ?_)⟩
  · obtain ⟨hm, hh, he⟩ := hW.2 u hu
    obtain ⟨l, hl, hle⟩ := hWl u hu
    have hu' : u < 20 := by have := hW.1; omega
    subst eu
    intro J4 hJ4 J71 hJ71
    refine ⟨fun z => absurd z z10, fun _ => r_chn (fun d hd ed => ⟨fun z => absurd z z10, fun _ => hJ4 1 (fun J6 hJ6 => ⟨fun z => absurd z z10, fun _ => ⟨rm_0 h, ?_⟩⟩)⟩) (fun hn => ⟨fun _ => hJ71 (hJ4 0 (fun J6 hJ6 => ⟨fun _ => hJ6 1 ⟨rm_0 h, r_holds h (fun e => absurd e z10) (fun _ M' h' => ⟨fun _ => h1 (Or.inr hn) M' (rm_none h'), fun z => absurd rfl z⟩)⟩, fun z => absurd rfl z⟩)), fun z => absurd rfl z⟩)⟩
    subst ed
    have hi : hm * 4 + d < 24 := by omega
    have hci := hc _ hi
    have no : (goneL σ u hm = true ∨ barL σ u hm d) → J6 2 := fun z => hJ6 2 ⟨rm_0 h, r_holds h (fun e => absurd e z20) (fun _ M' h' => ⟨fun _ => h2 u hm d hu hh hd rfl rfl he z M' (rm_none h'), fun z => absurd rfl z⟩)⟩
    have hlc : (sgI σ 6 u).toNatClampNeg = l := by rw [hle, clN (by omega)]
    refine r_isGone h hu' hh he (fun hb J62 hJ62 => ⟨fun z => absurd z z10, fun _ => hJ62 (no (Or.inl hb))⟩) (fun hb J62 hJ62 => ⟨fun _ => ⟨rm_0 h, r_isMember h hu' hh hd he hci (fun hb2 _ => ⟨fun z => absurd z z10, fun _ => hJ62 (no (Or.inr (Or.inl hb2)))⟩) (fun hb2 => ⟨fun _ => ⟨rm_0 h, r_isBanned h hu' hh hd he hl hle hci (fun g1 g2 => ⟨fun z => absurd z z10, fun _ => hJ62 (no (Or.inr (Or.inr ⟨g1, by rw [hlc]; exact g2⟩)))⟩) (fun g => ⟨fun _ => hJ6 0 ⟨rm_0 h, r_holds h (fun _ M8 h8 => ⟨fun z => absurd z z10, fun _ => ⟨rm_0 h8, _, rm_rf h8 vm4 (by decide), rm_in h8 vm4 (by decide) hu', ?_⟩⟩) (fun z => absurd rfl z)⟩, fun z => absurd rfl z⟩)⟩, fun z => absurd rfl z⟩)⟩, fun z => absurd rfl z⟩)
    have hnb : ¬ barL σ u hm d := by
      rintro (z | ⟨z1, z2⟩)
      · rw [hb2] at z; cases z
      · rw [hlc] at z2
        rcases g with g | g
        · exact z1 g
        · rw [g] at z2; cases z2
    rw [rm_hm h8 hu', he]
    refine r_at hm d ⟨rm_0 h8, _, rm_rf h8 vm8 (by decide), rm_in h8 vm8 (by decide) hi, fun J18 hJ18 => ?_⟩
    -- the member is put in, the line is sent
    have i7 : sgI (enL σ u hm d) 7 u = nI hm := by rw [show sgI (enL σ u hm d) 7 u = sgI σ 7 u from enter_I σ _ _ _ 7 u (Or.inr (by decide))]; exact he
    have fin : ∀ M22, RepM B M0 M22 (enL σ u hm d) c 0 → sgI (enL σ u hm d) 2 (hm * 4 + d) ≠ -1 → gT M22 (B 0) = some (6, 0) ∧ ∃ b25, gR M22 (B 0) 4 = some b25 ∧ inA M22 b25 10 (nI u) ∧ gT M22 (B 0) = some (6, 0) ∧ w_X6_tells M22 (B 0) 2 (gI M22 b25 (Int32.toNatClampNeg (nI u))) (nI d) (1 <<< (nI u &&& 31)) (fun M28 => gT M28 (B 0) = some (6, 0) ∧ ∃ b30, gR M28 (B 0) 4 = some b30 ∧ inA M28 b30 10 (nI u) ∧ gT M28 (B 0) = some (6, 0) ∧ w_X6_sends M28 (B 0) (gI M28 b30 (Int32.toNatClampNeg (nI u))) ((-1)) (fun M33 => gT M33 (B 0) = some (6, 0) ∧ gT M33 (B 0) = some (6, 0) ∧ ∀ M36, M36 = sI M33 (B 0) 1 ((gI M33 (B 0) 1) + 1) → gT M36 (B 0) = some (6, 0) ∧ ∃ b38, gR M36 (B 0) 11 = some b38 ∧ inA M36 b38 10 (nI (hm * 4 + d)) ∧ w_X6_count M36 (gI M36 b38 (Int32.toNatClampNeg (nI (hm * 4 + d)))) (fun x40 => post M36 x40))) := by
      intro M22 h22 hag
      refine ⟨rm_0 h22, _, rm_rf h22 vm4 (by decide), rm_in h22 vm4 (by decide) hu', rm_0 h22, ?_⟩
      rw [rm_hm h22 hu', i7]
      refine r_tells h22 2 hh hd hag _ (fun M28 h28 => ⟨rm_0 h28, _, rm_rf h28 vm4 (by decide), rm_in h28 vm4 (by decide) hu', rm_0 h28, ?_⟩)
      rw [rm_hm h28 hu', i7]
      refine r_sends h28 hh (-1) (by show tot (enterL σ (hm * 4 + d) (nI u) (nI (sgN σ 1))) + 6 ≤ 16384; rw [tot_congr (enter_Q σ (hm * 4 + d) (nI u) (nI (sgN σ 1)))]; exact htt) (fun M33 h33 => ⟨rm_0 h33, rm_0 h33, fun M36 e36 => ?_⟩)
      have h36 := rm_tick h33 e36
      refine ⟨rm_0 h36, _, rm_rf h36 vm11 (by decide), rm_in h36 vm11 (by decide) hi, ?_⟩
      rw [rm_mb h36 hi]
      refine r_count M36 _ ?_
      rw [cntI_n _ 20 (by omega)]
      exact hp u hm d hu hh hd rfl rfl he hb hnb M36 (rm_none h36)
    rw [rm_ag h8 hi]
    refine ⟨fun e => ?_, fun e => ?_⟩
    · -- the channel is new
      have h0 := hci.mpr e
      obtain ⟨V, hV, hS⟩ := h8
      have hi31 : hm * 4 + d < 2 ^ 31 := by omega
      refine ⟨rv_0 hV, _, rv_rf hV vm8 (by decide), rv_0 hV, rv_in hV vm8 (by decide) hi, fun M44 e44 => ?_⟩
      rw [rv_rd hV vm0, hS.2.1.2.1] at e44
      have h44 := rv_sn hV vm8 hi31 (nI (sgN σ 1))
      rw [← e44] at h44
      refine ⟨rv_0 h44, _, rv_rf h44 vm9 (by decide), rv_in h44 vm9 (by decide) hi, fun M48 e48 => ?_⟩
      have h48 := rv_sn h44 vm9 hi31 0
      rw [← e48] at h48
      refine ⟨rv_0 h48, _, rv_rf h48 vm10 (by decide), rv_in h48 vm10 (by decide) hi, fun M52 e52 => ?_⟩
      have h52 := rv_sn h48 vm10 hi31 0
      rw [← e52] at h52
      refine ⟨rv_0 h52, _, rv_rf h52 vm11 (by decide), rv_in h52 vm11 (by decide) hi, fun M56 e56 => hJ18 M56 ?_⟩
      have h56 := rv_sn h52 vm11 hi31 0
      rw [← e56] at h56
      refine ⟨rv_0 h56, _, rv_rf h56 vm11 (by decide), rv_in h56 vm11 (by decide) hi, rv_in h56 vm11 (by decide) hi, fun M22 e22 => ?_⟩
      rw [rv_rn h56 vm11 hi31, up_s] at e22
      have h22 := rv_sn h56 vm11 hi31 ((0 : Int32) ||| (1 <<< (nI u &&& 31)))
      rw [← e22] at h22
      have hen : enL σ u hm d = uI (uI (uI (uI σ 2 (hm * 4 + d) (nI (sgN σ 1))) 3 (hm * 4 + d) 0) 4 (hm * 4 + d) 0) 5 (hm * 4 + d) (sb 0 (nI u)) := by
        unfold enL enterL
        dsimp only
        rw [if_pos h0]
        have : sgI (uI (uI (uI σ 2 (hm * 4 + d) (nI (sgN σ 1))) 3 (hm * 4 + d) 0) 4 (hm * 4 + d) 0) 5 (hm * 4 + d) = 0 := by
          rw [sgI_uI, if_neg (by omega), sgI_uI, if_neg (by omega), sgI_uI, if_neg (by omega)]
          exact h0
        rw [this]
      have a2 : sgI (enL σ u hm d) 2 (hm * 4 + d) = nI (sgN σ 1) := by
        rw [hen, sgI_uI, if_neg (by omega), sgI_uI, if_neg (by omega), sgI_uI, if_neg (by omega), sgI_uI, if_pos ⟨rfl, rfl⟩]
      refine fin M22 ⟨_, h22, sm_chan hS (i := hm * 4 + d) (fun k j hkj => ?_) ?_ ?_ (fun _ => ⟨?_, ?_⟩) (fun f j hfj => ?_) (enter_N σ _ _ _ 0) (enter_N σ _ _ _ 1) (enter_Q σ _ _ _)⟩ (by rw [a2]; exact nI_m1 (by omega))
      · rw [up_rd, if_neg (by omega), up_rd, if_neg (by omega), up_rd, if_neg (by omega), up_rd, if_neg (by omega), up_rd, if_neg (by omega)]
      · rw [a2, up_k _ _ _ _ (by decide), up_k _ _ _ _ (by decide), up_k _ _ _ _ (by decide), up_k _ _ _ _ (by decide), up_s]
      · rw [up_s, hen, sgI_uI, if_pos ⟨rfl, rfl⟩]
        rfl
      · rw [up_k _ _ _ _ (by decide), up_k _ _ _ _ (by decide), up_k _ _ _ _ (by decide), up_s, hen, sgI_uI, if_neg (by omega), sgI_uI, if_neg (by omega), sgI_uI, if_pos ⟨rfl, rfl⟩]
      · rw [up_k _ _ _ _ (by decide), up_k _ _ _ _ (by decide), up_s, hen, sgI_uI, if_neg (by omega), sgI_uI, if_pos ⟨rfl, rfl⟩]
      · rw [hen, sgI_uI, if_neg (by omega), sgI_uI, if_neg (by omega), sgI_uI, if_neg (by omega), sgI_uI, if_neg (by omega)]
    · refine hJ18 M8 ⟨rm_0 h8, _, rm_rf h8 vm11 (by decide), rm_in h8 vm11 (by decide) hi, rm_in h8 vm11 (by decide) hi, fun M22 e22 => ?_⟩
      rw [rm_mb h8 hi] at e22
      have h22 := rm_own h8 (f := 5) (i := hm * 4 + d) hi (sb (sgI σ 5 (hm * 4 + d)) (nI u)) (by omega) (k := 11) rfl (by omega)
      have hen : enL σ u hm d = uI σ 5 (hm * 4 + d) (sb (sgI σ 5 (hm * 4 + d)) (nI u)) := by
        unfold enL enterL
        dsimp only
        rw [if_neg (fun z => e (hci.mp z))]
      refine fin M22 (by rw [hen, e22]; exact h22) ?_
      rw [hen, sgI_uI, if_neg (by omega)]
      exact e
  · intro J4 hJ4 J71 hJ71
    exact ⟨fun _ => hJ71 (hJ4 0 (fun J6 hJ6 => ⟨fun _ => hJ6 1 ⟨rm_0 h, r_holds h (fun e => absurd e z10) (fun _ M' h' => ⟨fun _ => h1 (Or.inl hn) M' (rm_none h'), fun z => absurd rfl z⟩)⟩, fun z => absurd rfl z⟩)), fun z => absurd rfl z⟩
theorem r_isEldest (h : RepM B M0 M σ c t) (hu20 : sgN σ 0 ≤ 20) {u : Nat} (hu : u < 20) (m : Int32) {post : Int32 → Prop} (h1 : isEl σ m u (sgN σ 0) → post 1) (h0 : ¬ isEl σ m u (sgN σ 0) → post 0) : w_X6_isEldest M (B 0) (nI u) m post := by
  refine Lp_for (sgN σ 0) (fun v z => z.2 = nI v ∧ ((z.1 = 1 ∧ isEl σ m u v) ∨ (z.1 = 0 ∧ ¬ isEl σ m u v))) (fun z => z.2.toNatClampNeg) (fun c z hc hz => by rw [hz.1]; exact clN (by omega)) ⟨rfl, Or.inl ⟨rfl, fun v hv => by omega⟩⟩ ?_
  intro v z K hv hz hK x1 x2 ez
  subst ez
  obtain ⟨hz1, hz2⟩ := hz
  have hz1 : x2 = nI v := hz1
  have hy2 : (x1 = 1 ∧ isEl σ m u v) ∨ (x1 = 0 ∧ ¬ isEl σ m u v) := hz2
  clear hz2
  subst hz1
  refine ⟨rm_0 h, ?_⟩
  rw [rm_us h]
  refine ⟨fun e => ?_, fun e J6 hJ6 J8 hJ8 => ?_⟩
  · have := (le_nI (by omega) (by omega)).mp e
    have e6 : v = sgN σ 0 := by omega
    rw [e6] at hy2
    rcases hy2 with ⟨e1, e2⟩ | ⟨e1, e2⟩
    · rw [e1]; exact ⟨Or.inr rfl, h1 e2⟩
    · rw [e1]; exact ⟨Or.inl rfl, h0 e2⟩
  have hlt : v < sgN σ 0 := Nat.not_le.mp (fun h9 => e ((le_nI (by omega) (by omega)).mpr h9))
  have k0 : ¬ isEl σ m u (v + 1) → J8 := fun hn => hJ8 (hJ6 0 (fun x7 e7 => hK _ hlt ⟨by show x7 = nI (v + 1); rw [e7, nI_1], Or.inr ⟨rfl, hn⟩⟩))
  rcases hy2 with ⟨e1, e2⟩ | ⟨e1, e2⟩
  · subst e1
    refine ⟨fun z => absurd z z10, fun _ => r_has M _ (by omega) (fun J10 hJ10 => ?_)⟩
    have k1 : (bt m v = true → ¬ (sgI σ 8 v < sgI σ 8 u ∨ sgI σ 8 v = sgI σ 8 u ∧ v < u)) → J10 := fun hy => hJ10 (hJ6 1 (fun x7 e7 => hK _ hlt ⟨by show x7 = nI (v + 1); rw [e7, nI_1], Or.inl ⟨rfl, fun w hw hb => by
      by_cases ew : w = v
      · rw [ew] at hb ⊢; exact hy hb
      · exact e2 w (by omega) hb⟩⟩))
    have n1 : bt m v = true → (sgI σ 8 v < sgI σ 8 u ∨ sgI σ 8 v = sgI σ 8 u ∧ v < u) → J8 := fun hb hy => k0 (fun hel => hel v (by omega) hb hy)
    refine sp (fun hb => k1 (fun z => by rw [hb] at z; cases z)) (fun hb => ⟨rm_0 h, _, rm_rf h vm5 (by decide), rm_in h vm5 (by decide) (show v < 20 by omega), rm_0 h, _, rm_rf h vm5 (by decide), rm_in h vm5 (by decide) hu, ?_⟩)
    rw [rm_bo h (by omega), rm_bo h hu]
    refine ⟨fun e4 => n1 hb (Or.inl e4), fun e4 => ⟨rm_0 h, _, rm_rf h vm5 (by decide), rm_in h vm5 (by decide) (show v < 20 by omega), rm_0 h, _, rm_rf h vm5 (by decide), rm_in h vm5 (by decide) hu, ?_⟩⟩
    rw [rm_bo h (by omega), rm_bo h hu]
    refine ⟨fun e5 => ⟨fun e6 => n1 hb (Or.inr ⟨e5, (nI_ltI (by omega) (by omega)).mp e6⟩), fun e6 => k1 (fun _ z => ?_)⟩, fun e5 => k1 (fun _ z => ?_)⟩
    · rcases z with z | ⟨_, z⟩
      · exact e4 z
      · exact e6 ((nI_ltI (by omega) (by omega)).mpr z)
    · rcases z with z | ⟨z, _⟩
      · exact e4 z
      · exact e5 z
  · subst e1
    exact ⟨fun _ => k0 (fun hel => e2 (fun w hw hb => hel w (by omega) hb)), fun z => absurd rfl z⟩
theorem r_homesOf (h : RepM B M0 M σ c t) (hu20 : sgN σ 0 ≤ 20) (m : Int32) {post : Int32 → Prop} (hp : post (hmN σ m (sgN σ 0))) : w_X6_homesOf M (B 0) m post := by
  refine Lp_forX (sgN σ 0) (fun u => (hmN σ m u, nI u)) (fun z => z.2.toNatClampNeg) (fun c hc => clN (by omega)) rfl ?_
  intro u K hu hK x1 x2 ez
  cases ez
  refine ⟨rm_0 h, ?_⟩
  rw [rm_us h]
  refine ⟨fun e => ?_, fun e => ?_⟩
  · have := (le_nI (by omega) (by omega)).mp e
    have e6 : u = sgN σ 0 := by omega
    subst e6
    exact hp
  · have hlt : u < sgN σ 0 := Nat.not_le.mp (fun h9 => e ((le_nI (by omega) (by omega)).mpr h9))
    have hK := hK hlt
    refine r_has M _ (by omega) (fun J hJ => ?_)
    have key : ∀ x9, hmN σ m u ||| x9 = hmN σ m (u + 1) → J x9 := fun x9 e9 => hJ x9 (fun x11 e11 x12 e12 => by rw [e11, e12, nI_1, e9]; exact hK)
    refine sp (fun hb => key _ ?_) (fun hb => ⟨rm_0 h, _, rm_rf h vm4 (by decide), rm_in h vm4 (by decide) (show u < 20 by omega), key _ ?_⟩)
    · rw [or_00]
      show _ = if bt m u = true then _ else _
      rw [hb]; rfl
    · rw [rm_hm h (by omega)]
      show _ = if bt m u = true then sb (hmN σ m u) (sgI σ 7 u) else _
      rw [if_pos hb]
      rfl
def sayR (σ : Sg) (u hm c : Nat) : Int32 :=
  if goneL σ u hm = true then -2
  else if ¬ bt (sgI σ 5 (hm * 4 + c)) u = true then -3
  else if bt (sgI σ 4 (hm * 4 + c)) (sgI σ 6 u).toNatClampNeg = true then -4
  else if bt (sgI σ 3 (hm * 4 + c)) 0 = true ∧ ¬ elN σ (sgI σ 5 (hm * 4 + c)) (sgN σ 0) = nI u then -5
  else nI (ctO σ hm (hmN σ (cb (sgI σ 5 (hm * 4 + c)) (nI u)) (sgN σ 0) &&& treeL σ hm) 6)
theorem r_say (h : RepM B M0 M σ c t) (hL : L6 σ) (hW : WFu σ) (hWl : WFl σ) (hc : allC σ) (hel : ∀ i u, i < 24 → u < sgN σ 0 → bt (sgI σ 5 i) u = true → (elN σ (sgI σ 5 i) (sgN σ 0) = nI u ↔ isEl σ (sgI σ 5 i) u (sgN σ 0))) {p q : Int32} {post : Mem → Int32 → Prop}
    (h1 : ¬ (0 ≤ p ∧ p < nI (sgN σ 0)) ∨ ¬ (0 ≤ q ∧ q < 4) → ∀ M', RepM B M0 M' σ none 1 → post M' 0)
    (hp : ∀ u hm d, u < sgN σ 0 → hm < 6 → d < 4 → p = nI u → q = nI d → sgI σ 7 u = nI hm → ∀ M', RepM B M0 M' σ none 0 → post M' (sayR σ u hm d)) : w_X6_say M (B 0) p q post := by
  refine ⟨rm_0 h, r_usr h hW.1 (fun u hu eu => ?_) (fun hn => ?_)⟩
  · obtain ⟨hm, hh, he⟩ := hW.2 u hu
    obtain ⟨l, hl, hle⟩ := hWl u hu
    have hu' : u < 20 := by have := hW.1; omega
    subst eu
    intro J4 hJ4 J84 hJ84
    refine ⟨fun z => absurd z z10, fun _ => r_chn (fun d hd ed => ⟨fun z => absurd z z10, fun _ => hJ4 0 ⟨rm_0 h, r_holds h (fun _ M6 h6 => ⟨fun z => absurd z z10, fun _ => ⟨rm_0 h6, ?_⟩⟩) (fun z => absurd rfl z)⟩⟩) (fun hn => ⟨fun _ => hJ84 (hJ4 1 ⟨rm_0 h, r_holds h (fun e => absurd e z10) (fun _ M' h' => ⟨fun _ => h1 (Or.inr hn) M' (rm_none h'), fun z => absurd rfl z⟩)⟩), fun z => absurd rfl z⟩)⟩
    subst ed
    have hi : hm * 4 + d < 24 := by omega
    have hci := hc _ hi
    have hlc : (sgI σ 6 u).toNatClampNeg = l := by rw [hle, clN (by omega)]
    have hpp : post M6 (sayR σ u hm d) := hp u hm d hu hh hd rfl rfl he M6 (rm_none h6)
    unfold sayR at hpp
    refine r_isGone h6 hu' hh he (fun hb => ⟨fun z => absurd z z10, fun _ => ?_⟩) (fun hb => ⟨fun _ => ⟨rm_0 h6, r_isMember h6 hu' hh hd he hci (fun hb2 hag => ⟨fun z => absurd z z10, fun _ => ?_⟩) (fun hb2 => ⟨fun _ => ?_, fun z => absurd rfl z⟩)⟩, fun z => absurd rfl z⟩)
    · rw [if_pos hb] at hpp
      exact hpp
    · rw [if_neg (by rw [hb]; decide), if_neg (by rw [hb2]; decide), hlc] at hpp
      refine ⟨rm_0 h6, _, rm_rf h6 vm4 (by decide), rm_in h6 vm4 (by decide) hu', fun x15 e15 => ?_⟩
      rw [rm_hm h6 hu', he] at e15
      subst e15
      refine r_at hm d ⟨rm_0 h6, _, rm_rf h6 vm10 (by decide), rm_in h6 vm10 (by decide) hi, rm_0 h6, _, rm_rf h6 vm3 (by decide), rm_in h6 vm3 (by decide) hu', ?_⟩
      rw [rm_bn h6 hi hag, rm_nm h6 hu', hle]
      refine r_has M6 _ (by omega) (sp (fun hb3 => ⟨rm_0 h6, _, rm_rf h6 vm9 (by decide), rm_in h6 vm9 (by decide) hi, ?_⟩) (fun hb3 => ?_))
      · rw [if_neg (by rw [hb3]; decide)] at hpp
        rw [rm_md h6 hi hag]
        refine r_has M6 _ (k := 0) (by omega) (fun J28 hJ28 => ?_)
        have hel2 := hel _ u hi hu hb2
        -- the count
        have cnt : ¬ (bt (sgI σ 3 (hm * 4 + d)) 0 = true ∧ ¬ elN σ (sgI σ 5 (hm * 4 + d)) (sgN σ 0) = nI u) → J28 := fun hno => by
          rw [if_neg hno] at hpp
          refine hJ28 ⟨rm_0 h6, _, rm_rf h6 vm11 (by decide), rm_in h6 vm11 (by decide) hi, rm_0 h6, ?_⟩
          rw [rm_mb h6 hi]
          refine r_homesOf h6 hW.1 (cb (sgI σ 5 (hm * 4 + d)) (nI u)) ⟨rm_0 h6, r_treeOf h6 hL hh (fun x36 e36 => ?_)⟩
          rw [← e36] at hpp
          refine Lp_forX 6 (fun x => (nI (ctO σ hm x36 x), nI x)) (fun z => z.2.toNatClampNeg) (fun c hc => clN (by omega)) rfl ?_
          intro x K39 hx hK39 x37 x38 ez
          cases ez
          refine ⟨fun e => ?_, fun e => ?_⟩
          · have : 6 ≤ x := (le_nI (a := 6) (by omega) (by omega)).mp e
            have e6 : x = 6 := by omega
            subst e6
            exact hpp
          · have hx6 : x < 6 := Nat.not_le.mp (fun h9 => e ((le_nI (a := 6) (by omega) (by omega)).mpr h9))
            have hK39 := hK39 hx6
            refine Lp_forX 6 (fun y => (nI (ctO σ hm x36 x + ctI σ hm x36 x y), nI y)) (fun z => z.2.toNatClampNeg) (fun c hc => clN (by omega)) rfl ?_
            intro y K42 hy hK42 x40 x41 ez
            cases ez
            refine ⟨fun e x43 e43 => ?_, fun e => ?_⟩
            · have : 6 ≤ y := (le_nI (a := 6) (by omega) (by omega)).mp e
              have e6 : y = 6 := by omega
              subst e6
              rw [e43, nI_1]
              exact hK39
            · have hy6 : y < 6 := Nat.not_le.mp (fun h9 => e ((le_nI (a := 6) (by omega) (by omega)).mpr h9))
              have hK42 := hK42 hy6
              refine ⟨rm_0 h6, _, rm_rf h6 vm6 (by decide), rm_in h6 vm6 (by decide) hx6, ?_⟩
              rw [rm_lk h6 hx6]
              refine r_has M6 _ (by omega) (fun J49 hJ49 J59 hJ59 => ?_)
              -- the two ends
              have cdef : ctI σ hm x36 x (y + 1) = ctI σ hm x36 x y + (if bt (sgI σ 0 x) y = true ∧ bt (behL σ y x) hm = false ∧ bt (treeL σ hm) x = true ∧ ¬ behL σ y x &&& x36 = 0 then 1 else 0) := rfl
              have c0 : ¬ seB σ hm x36 x y → ctI σ hm x36 x (y + 1) = ctI σ hm x36 x y := fun hn => cdef.trans (by rw [if_neg (show ¬ (bt (sgI σ 0 x) y = true ∧ bt (behL σ y x) hm = false ∧ bt (treeL σ hm) x = true ∧ ¬ behL σ y x &&& x36 = 0) from hn)]; rfl)
              have c1 : seB σ hm x36 x y → ctI σ hm x36 x (y + 1) = ctI σ hm x36 x y + 1 := fun hn => cdef.trans (by rw [if_pos (show (bt (sgI σ 0 x) y = true ∧ bt (behL σ y x) hm = false ∧ bt (treeL σ hm) x = true ∧ ¬ behL σ y x &&& x36 = 0) from hn)])
              have k0 : ∀ J51 : Int32 → Prop, (∀ x50, (∀ x52, x52 = nI (ctO σ hm x36 x + ctI σ hm x36 x y) + x50 → ∀ x53, x53 = nI y + 1 → K42 (x52, x53)) → J51 x50) → ¬ seB σ hm x36 x y → J51 0 := fun J51 hJ51 hn => hJ51 0 (fun x52 e52 x53 e53 => by
                rw [e52, e53, nI_1, ← nI_0, nI_add, Nat.add_zero]
                rw [c0 hn] at hK42
                exact hK42)
              have k1 : ∀ J51 : Int32 → Prop, (∀ x50, (∀ x52, x52 = nI (ctO σ hm x36 x + ctI σ hm x36 x y) + x50 → ∀ x53, x53 = nI y + 1 → K42 (x52, x53)) → J51 x50) → seB σ hm x36 x y → J51 1 := fun J51 hJ51 hn => hJ51 1 (fun x52 e52 x53 e53 => by
                rw [e52, e53, nI_1, nI_1]
                rw [c1 hn] at hK42
                exact hK42)
              have no : ¬ (bt (sgI σ 0 x) y = true ∧ bt (behL σ y x) hm = false ∧ bt (treeL σ hm) x = true) → J59 := fun hn => hJ59 (hJ49 0 (fun J51 hJ51 J54 hJ54 => ⟨fun _ => hJ54 (k0 J51 hJ51 (fun z => hn ⟨z.1, z.2.1, z.2.2.1⟩)), fun z => absurd rfl z⟩))
              refine sp (fun hb4 => no (fun z => by rw [hb4] at z; exact absurd z.1 (by decide))) (fun hb4 => ⟨rm_0 h6, r_behind h6 hL hy6 hx6 (r_has M6 _ (by omega) (sp (fun hb5 => ⟨rm_0 h6, r_treeOf h6 hL hh (r_has M6 _ (by omega) (sp (fun hb6 => no (fun z => by rw [hb6] at z; exact absurd z.2.2 (by decide))) (fun hb6 => hJ49 1 (fun J51 hJ51 J54 hJ54 => ⟨fun z => absurd z z10, fun _ => ⟨rm_0 h6, r_behind h6 hL hy6 hx6 ⟨fun e9 => hJ54 (k0 J51 hJ51 (fun z => z.2.2.2 e9)), fun e9 => k1 J51 hJ51 ⟨hb4, hb5, hb6, e9⟩⟩⟩⟩))))⟩) (fun hb5 => no (fun z => by rw [hb5] at z; exact absurd z.2.1 (by decide)))))⟩)
        refine sp (fun hb4 => cnt (fun z => by rw [hb4] at z; exact absurd z.1 (by decide))) (fun hb4 => ⟨rm_0 h6, _, rm_rf h6 vm11 (by decide), rm_in h6 vm11 (by decide) hi, rm_0 h6, ?_⟩)
        rw [rm_mb h6 hi]
        refine r_isEldest h6 hW.1 hu' _ (fun e9 => ⟨fun z => absurd z z10, fun _ => cnt (fun z => z.2 (hel2.mpr e9))⟩) (fun e9 => ⟨fun _ => ?_, fun z => absurd rfl z⟩)
        rw [if_pos ⟨hb4, fun z => e9 (hel2.mp z)⟩] at hpp
        exact hpp
      · rw [if_pos hb3] at hpp
        exact hpp
    · rw [if_neg (by rw [hb]; decide), if_pos (by rw [hb2]; decide)] at hpp
      exact hpp
  · intro J4 hJ4 J84 hJ84
    exact ⟨fun _ => hJ84 (hJ4 1 ⟨rm_0 h, r_holds h (fun e => absurd e z10) (fun _ M' h' => ⟨fun _ => h1 (Or.inl hn) M' (rm_none h'), fun z => absurd rfl z⟩)⟩), fun z => absurd rfl z⟩
end RF8
