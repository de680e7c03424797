/-! WHAT HOLDS OF THE VIEWS -/
theorem cb_z (u : Int32) : cb 0 u = 0 := b_ext (fun i _ => by
  show bt ((0 : Int32) &&& _) i = bt 0 i
  rw [b_and, b_0]; rfl)
theorem dr_5 (σ : Sg) (i : Nat) (u : Int32) (j : Nat) : sgI (dropL σ i u) 5 j = if j = i then cb (sgI σ 5 i) u else sgI σ 5 j := by
  unfold dropL
  dsimp only
  split
  · rw [sgI_uI, if_neg (by omega), sgI_uI, if_neg (by omega), sgI_uI, if_neg (by omega), sgI_uI]
    by_cases e : j = i
    · rw [if_pos ⟨rfl, e⟩, if_pos e]
    · rw [if_neg (fun z => e z.2), if_neg e]
  · rw [sgI_uI]
    by_cases e : j = i
    · rw [if_pos ⟨rfl, e⟩, if_pos e]
    · rw [if_neg (fun z => e z.2), if_neg e]
theorem dr_234 (σ : Sg) (i : Nat) (u : Int32) {f : Nat} (hf : f = 2 ∨ f = 3 ∨ f = 4) (j : Nat) : sgI (dropL σ i u) f j = if j = i ∧ cb (sgI σ 5 i) u = 0 then -1 else sgI σ f j := by
  unfold dropL
  dsimp only
  by_cases e : cb (sgI σ 5 i) u = 0
  · rw [if_pos e]
    by_cases ej : j = i
    · rw [if_pos ⟨ej, e⟩, sgI_uI]
      by_cases e4 : 4 = f ∧ i = j
      · rw [if_pos ⟨e4.1.symm, ej⟩]
      · rw [if_neg (by omega), sgI_uI]
        by_cases e3 : f = 3
        · rw [if_pos ⟨e3, ej⟩]
        · rw [if_neg (by omega), sgI_uI, if_pos ⟨by omega, ej⟩]
    · rw [if_neg (fun z => ej z.1), sgI_uI, if_neg (fun z => ej z.2), sgI_uI, if_neg (fun z => ej z.2), sgI_uI, if_neg (fun z => ej z.2), sgI_uI, if_neg (fun z => ej z.2)]
  · rw [if_neg e, if_neg (fun z => e z.2), sgI_uI, if_neg (by omega)]
/-- a channel is there if it has members, and else all is -1 -/
def AB (σ : Sg) : Prop := ∀ i, i < 24 → cI σ i ∧ (sgI σ 2 i = -1 → sgI σ 3 i = -1 ∧ sgI σ 4 i = -1)
def VI (σ : Sg) : Prop := AB σ ∧ (∀ s, s < 6 → dst σ s) ∧ (∀ s u, s < 6 → bt (sgI σ 1 s) u = true → u < sgN σ 0) ∧ ∀ s d u, s < 6 → d < 4 → bt (sgI σ 5 (s * 4 + d)) u = true → bt (sgI σ 1 s) u = true
theorem ab_congr {σ τ : Sg} (h : AB σ) (hI : ∀ f i, 2 ≤ f → f ≤ 5 → sgI τ f i = sgI σ f i) : AB τ := fun i hi => by
  unfold cI
  rw [hI 2 i (by omega) (by omega), hI 3 i (by omega) (by omega), hI 4 i (by omega) (by omega), hI 5 i (by omega) (by omega)]
  exact h i hi
theorem ab_drop {σ : Sg} (h : AB σ) (i : Nat) (u : Int32) : AB (dropL σ i u) := fun j hj => by
  have hj2 := h j hj
  unfold cI at hj2 ⊢
  rw [dr_5, dr_234 σ i u (Or.inl rfl), dr_234 σ i u (Or.inr (Or.inl rfl)), dr_234 σ i u (Or.inr (Or.inr rfl))]
  by_cases e : j = i
  · subst e
    rw [if_pos rfl]
    by_cases e0 : cb (sgI σ 5 j) u = 0
    · rw [if_pos ⟨rfl, e0⟩, if_pos ⟨rfl, e0⟩, if_pos ⟨rfl, e0⟩]
      exact ⟨⟨fun _ => rfl, fun _ => e0⟩, fun _ => ⟨rfl, rfl⟩⟩
    · rw [if_neg (fun z => e0 z.2), if_neg (fun z => e0 z.2), if_neg (fun z => e0 z.2)]
      have hn : sgI σ 2 j ≠ -1 := fun z => e0 (by rw [hj2.1.mpr z]; exact cb_z u)
      exact ⟨⟨fun z => absurd z e0, fun z => absurd z hn⟩, fun z => absurd z hn⟩
  · rw [if_neg e, if_neg (fun z => e z.1), if_neg (fun z => e z.1), if_neg (fun z => e z.1)]
    exact hj2
theorem ab_forgetN {σ : Sg} (h : AB σ) (s : Nat) (u : Int32) : ∀ c, AB (forgetN σ s u c) := by
  intro c
  induction c with
  | zero => exact ab_congr h (fun f i h1 h2 => by show sgI (uI σ 1 s _) f i = _; rw [sgI_uI, if_neg (by omega)])
  | succ c ih => exact ab_drop ih _ _
theorem fgN_5 (σ : Sg) (s : Nat) (u : Int32) (j : Nat) : ∀ c, sgI (forgetN σ s u c) 5 j = if s * 4 ≤ j ∧ j < s * 4 + c then cb (sgI σ 5 j) u else sgI σ 5 j := by
  intro c
  induction c with
  | zero =>
    rw [if_neg (by omega)]
    show sgI (uI σ 1 s _) 5 j = _
    rw [sgI_uI, if_neg (by omega)]
  | succ c ih =>
    show sgI (dropL (forgetN σ s u c) (s * 4 + c) u) 5 j = _
    rw [dr_5]
    by_cases e : j = s * 4 + c
    · rw [if_pos e, if_pos (by omega), ← e, ih, if_neg (by omega)]
    · rw [if_neg e, ih]
      by_cases e2 : s * 4 ≤ j ∧ j < s * 4 + c
      · rw [if_pos e2, if_pos (by omega)]
      · rw [if_neg e2, if_neg (by omega)]
theorem fg_5 (σ : Sg) (s : Nat) (u : Int32) (j : Nat) : sgI (forgetL σ s u) 5 j = if s * 4 ≤ j ∧ j < s * 4 + 4 then cb (sgI σ 5 j) u else sgI σ 5 j := fgN_5 σ s u j 4
theorem vi_congr {σ τ : Sg} (h : VI σ) (hI : ∀ f i, f ≠ 0 → sgI τ f i = sgI σ f i) (h0 : sgN τ 0 = sgN σ 0) : VI τ := by
  obtain ⟨a, c, d, e⟩ := h
  refine ⟨ab_congr a (fun f i h1 _ => hI f i (by omega)), fun s hs u v hu hv b1 b2 hl => ?_, fun s u hs hb => ?_, fun s d' u hs hd hb => ?_⟩
  · rw [h0] at hu hv
    rw [hI 1 _ (by decide)] at b1 b2
    rw [hI 6 _ (by decide), hI 6 _ (by decide)] at hl
    exact c s hs u v hu hv b1 b2 hl
  · rw [h0]
    rw [hI 1 _ (by decide)] at hb
    exact d s u hs hb
  · rw [hI 5 _ (by decide)] at hb
    rw [hI 1 _ (by decide)]
    exact e s d' u hs hd hb
theorem vi_spread {σ : Sg} (h : VI σ) (s : Nat) (but : Int32) (ln : Ln) : VI (spreadL σ s but ln) := vi_congr h (fun f i _ => spread_I σ s but ln f i) (spread_N σ s but ln 0 (by decide))
theorem vi_forget {σ : Sg} (h : VI σ) {s u : Nat} (hs : s < 6) (hu : u < 32) : VI (forgetL σ s (nI u)) := by
  obtain ⟨a, c, d, e⟩ := h
  have sub : ∀ t v, bt (sgI (forgetL σ s (nI u)) 1 t) v = true → bt (sgI σ 1 t) v = true := fun t v hb => by
    rw [fg_1] at hb
    by_cases et : t = s
    · rw [if_pos et, cb_iff _ hu] at hb
      rw [et]; exact hb.1
    · rw [if_neg et] at hb; exact hb
  refine ⟨ab_forgetN a s (nI u) 4, fun t ht v w hv hw b1 b2 hl => ?_, fun t v ht hb => ?_, fun t d' v ht hd hb => ?_⟩
  · rw [forget_N] at hv hw
    rw [forget_I σ s (nI u) 6 _ (Or.inr (by decide)), forget_I σ s (nI u) 6 _ (Or.inr (by decide))] at hl
    exact c t ht v w hv hw (sub t v b1) (sub t w b2) hl
  · rw [forget_N]
    exact d t v ht (sub t v hb)
  · rw [fg_5] at hb
    rw [fg_1]
    by_cases et : t = s
    · subst et
      rw [if_pos (by omega), cb_iff _ hu] at hb
      rw [if_pos rfl, cb_iff _ hu]
      exact ⟨e t d' v ht hd hb.1, hb.2⟩
    · rw [if_neg (by omega)] at hb
      rw [if_neg et]
      exact e t d' v ht hd hb
theorem vi_learn {σ : Sg} (h : VI σ) {s u : Nat} (hu : u < sgN σ 0) (hu2 : u < 32) (hn : ∀ v, v < sgN σ 0 → v ≠ u → bt (sgI σ 1 s) v = true → sgI σ 6 v ≠ sgI σ 6 u) : VI (uI σ 1 s (sb (sgI σ 1 s) (nI u))) := by
  obtain ⟨a, c, d, e⟩ := h
  have sub : ∀ t v, bt (sgI (uI σ 1 s (sb (sgI σ 1 s) (nI u))) 1 t) v = true ↔ (bt (sgI σ 1 t) v = true ∨ (t = s ∧ v = u)) := fun t v => by
    rw [sgI_uI]
    by_cases et : t = s
    · rw [if_pos ⟨rfl, et⟩, sb_iff _ hu2, et]
      constructor
      · rintro (g | g)
        · exact Or.inl g
        · exact Or.inr ⟨rfl, g⟩
      · rintro (g | ⟨_, g⟩)
        · exact Or.inl g
        · exact Or.inr g
    · rw [if_neg (fun z => et z.2)]
      constructor
      · exact Or.inl
      · rintro (g | ⟨g, _⟩)
        · exact g
        · exact absurd g et
  refine ⟨ab_congr a (fun f i h1 _ => by rw [sgI_uI, if_neg (by omega)]), fun t ht v w hv hw b1 b2 hl => ?_, fun t v ht hb => ?_, fun t d' v ht hd hb => ?_⟩
  · have hl : sgI σ 6 v = sgI σ 6 w := by
      rw [sgI_uI, if_neg (by omega), sgI_uI, if_neg (by omega)] at hl
      exact hl
    have hv : v < sgN σ 0 := hv
    have hw : w < sgN σ 0 := hw
    rcases (sub t v).mp b1 with g1 | ⟨g1, g2⟩ <;> rcases (sub t w).mp b2 with g3 | ⟨g3, g4⟩
    · exact c t ht v w hv hw g1 g3 hl
    · by_cases ev : v = u
      · rw [ev, g4]
      · rw [g3] at g1
        rw [g4] at hl
        exact absurd hl (hn v hv ev g1)
    · by_cases ew : w = u
      · rw [ew, g2]
      · rw [g1] at g3
        rw [g2] at hl
        exact absurd hl.symm (hn w hw ew g3)
    · rw [g2, g4]
  · rcases (sub t v).mp hb with g | ⟨_, g⟩
    · exact d t v ht g
    · rw [g]; exact hu
  · rw [sgI_uI, if_neg (by omega)] at hb
    exact (sub t v).mpr (Or.inl (e t d' v ht hd hb))
theorem vi_drop {σ : Sg} (h : VI σ) (i : Nat) {u : Nat} (hu : u < 32) : VI (dropL σ i (nI u)) := by
  obtain ⟨a, c, d, e⟩ := h
  have k1 : ∀ t, sgI (dropL σ i (nI u)) 1 t = sgI σ 1 t := fun t => dr_I σ i (nI u) 1 t (by omega)
  refine ⟨ab_drop a i (nI u), fun t ht v w hv hw b1 b2 hl => ?_, fun t v ht hb => ?_, fun t d' v ht hd hb => ?_⟩
  · rw [drop_N] at hv hw
    rw [k1] at b1 b2
    rw [dr_I σ i (nI u) 6 _ (by omega), dr_I σ i (nI u) 6 _ (by omega)] at hl
    exact c t ht v w hv hw b1 b2 hl
  · rw [drop_N]
    rw [k1] at hb
    exact d t v ht hb
  · rw [k1]
    rw [dr_5] at hb
    by_cases ei : t * 4 + d' = i
    · rw [if_pos ei, cb_iff _ hu, ← ei] at hb
      exact e t d' v ht hd hb.1
    · rw [if_neg ei] at hb
      exact e t d' v ht hd hb
theorem or_ne {a c : Int32} (h : c ≠ 0) : a ||| c ≠ 0 := fun e => h (b_ext (fun i _ => by
  have h1 : bt (a ||| c) i = false := by rw [e, b_0]
  rw [b_or, Bool.or_eq_false_iff] at h1
  rw [h1.2, b_0]))
/-- one channel of s has new members, known ones, and an age -/
theorem vi_chan {σ τ : Sg} (h : VI σ) {s d : Nat} (hs : s < 6) (hd : d < 4) (h5 : sgI τ 5 (s * 4 + d) ≠ 0) (h2 : sgI τ 2 (s * 4 + d) ≠ -1) (hm : ∀ u, bt (sgI τ 5 (s * 4 + d)) u = true → bt (sgI σ 1 s) u = true) (ho : ∀ f j, ¬ (2 ≤ f ∧ f ≤ 5 ∧ j = s * 4 + d) → sgI τ f j = sgI σ f j) (h0 : sgN τ 0 = sgN σ 0) : VI τ := by
  obtain ⟨a, c, d', e⟩ := h
  refine ⟨fun j hj => ?_, fun t ht v w hv hw b1 b2 hl => ?_, fun t v ht hb => ?_, fun t d2 v ht hd2 hb => ?_⟩
  · by_cases ej : j = s * 4 + d
    · rw [ej]
      exact ⟨⟨fun z => absurd z h5, fun z => absurd z h2⟩, fun z => absurd z h2⟩
    · have := a j hj
      unfold cI at this ⊢
      rw [ho 2 j (fun z => ej z.2.2), ho 3 j (fun z => ej z.2.2), ho 4 j (fun z => ej z.2.2), ho 5 j (fun z => ej z.2.2)]
      exact this
  · rw [h0] at hv hw
    rw [ho 1 _ (by omega)] at b1 b2
    rw [ho 6 _ (by omega), ho 6 _ (by omega)] at hl
    exact c t ht v w hv hw b1 b2 hl
  · rw [h0]
    rw [ho 1 _ (by omega)] at hb
    exact d' t v ht hb
  · rw [ho 1 _ (by omega)]
    by_cases ej : t * 4 + d2 = s * 4 + d
    · rw [ej] at hb
      have et : t = s := by omega
      rw [et]
      exact hm v hb
    · rw [ho 5 _ (fun z => ej z.2.2)] at hb
      exact e t d2 v ht hd2 hb
theorem vi_chanSet {σ : Sg} (h : VI σ) {s d : Nat} (hs : s < 6) (hd : d < 4) {ln : Ln} (hlc : ln.2.1 = nI d) (hag : ln.2.2.2.1 ≠ -1) : VI (chanSet σ s ln) := by
  have hcl : ln.2.1.toNatClampNeg = d := by rw [hlc, clN (by omega)]
  unfold chanSet
  split
  · exact h
  · rename_i hne
    rw [hcl]
    refine vi_chan h hs hd ?_ ?_ (fun u hb => ?_) (fun f j hfj => take_I σ _ _ _ _ _ f j hfj) rfl
    · rw [take_5]; exact or_ne hne
    · rw [take_2]
      split
      · exact hag
      · rename_i ha
        split
        · exact hag
        · exact ha
    · rw [take_5, b_or, Bool.or_eq_true, b_and, Bool.and_eq_true] at hb
      rcases hb with hb | hb
      · exact h.2.2.2 s d u hs hd hb
      · exact hb.2
theorem vi_mode {σ : Sg} (h : VI σ) {s d : Nat} (hs : s < 6) (hd : d < 4) (ag md bn : Int32) : VI (modeSet σ (s * 4 + d) ag md bn) := by
  unfold modeSet
  split
  · rename_i hc
    have hi : s * 4 + d < 24 := by omega
    have h5 : sgI (uI (uI σ 3 (s * 4 + d) md) 4 (s * 4 + d) bn) 5 (s * 4 + d) = sgI σ 5 (s * 4 + d) := by rw [sgI_uI, if_neg (by omega), sgI_uI, if_neg (by omega)]
    have h2 : sgI (uI (uI σ 3 (s * 4 + d) md) 4 (s * 4 + d) bn) 2 (s * 4 + d) = sgI σ 2 (s * 4 + d) := by rw [sgI_uI, if_neg (by omega), sgI_uI, if_neg (by omega)]
    refine vi_chan h hs hd (by rw [h5]; exact hc.1) (by rw [h2]; exact fun z => hc.1 ((h.1 _ hi).1.mpr z)) (fun u hb => by rw [h5] at hb; exact h.2.2.2 s d u hs hd hb) (fun f j hfj => by rw [sgI_uI, if_neg (by omega), sgI_uI, if_neg (by omega)]) rfl
  · exact h
theorem vi_mset {σ : Sg} (h : VI σ) {s d u : Nat} (hs : s < 6) (hd : d < 4) (hb : bt (sgI σ 5 (s * 4 + d)) u = true) (m b : Int32) : VI (mset σ (s * 4 + d) m b) := by
  have hi : s * 4 + d < 24 := by omega
  have hn : sgI σ 5 (s * 4 + d) ≠ 0 := fun z => by rw [z, b_0] at hb; cases hb
  have h5 : sgI (uI (uI σ 3 (s * 4 + d) m) 4 (s * 4 + d) b) 5 (s * 4 + d) = sgI σ 5 (s * 4 + d) := by rw [sgI_uI, if_neg (by omega), sgI_uI, if_neg (by omega)]
  have h2 : sgI (uI (uI σ 3 (s * 4 + d) m) 4 (s * 4 + d) b) 2 (s * 4 + d) = sgI σ 2 (s * 4 + d) := by rw [sgI_uI, if_neg (by omega), sgI_uI, if_neg (by omega)]
  exact vi_chan h hs hd (by show sgI (uI (uI σ 3 _ m) 4 _ b) 5 _ ≠ 0; rw [h5]; exact hn) (by show sgI (uI (uI σ 3 _ m) 4 _ b) 2 _ ≠ -1; rw [h2]; exact fun z => hn ((h.1 _ hi).1.mpr z)) (fun u hb => by
    have hb : bt (sgI (uI (uI σ 3 (s * 4 + d) m) 4 (s * 4 + d) b) 5 (s * 4 + d)) u = true := hb
    rw [h5] at hb; exact h.2.2.2 s d u hs hd hb) (fun f j hfj => by show sgI (uI (uI σ 3 _ m) 4 _ b) f j = _; rw [sgI_uI, if_neg (by omega), sgI_uI, if_neg (by omega)]) rfl
theorem en_5 (σ : Sg) (u hm d : Nat) : sgI (enL σ u hm d) 5 (hm * 4 + d) = sb (sgI σ 5 (hm * 4 + d)) (nI u) := by
  unfold enL enterL
  dsimp only
  split
  · rw [sgI_uI, if_pos ⟨rfl, rfl⟩, sgI_uI, if_neg (by omega), sgI_uI, if_neg (by omega), sgI_uI, if_neg (by omega)]
  · rw [sgI_uI, if_pos ⟨rfl, rfl⟩]
theorem en_2 (σ : Sg) (u hm d : Nat) : sgI (enL σ u hm d) 2 (hm * 4 + d) = if sgI σ 5 (hm * 4 + d) = 0 then nI (sgN σ 1) else sgI σ 2 (hm * 4 + d) := by
  unfold enL enterL
  dsimp only
  split
  · rw [sgI_uI, if_neg (by omega), sgI_uI, if_neg (by omega), sgI_uI, if_neg (by omega), sgI_uI, if_pos ⟨rfl, rfl⟩]
  · rw [sgI_uI, if_neg (by omega)]
theorem en_o (σ : Sg) (u hm d f j : Nat) (hf : ¬ (2 ≤ f ∧ f ≤ 5 ∧ j = hm * 4 + d)) : sgI (enL σ u hm d) f j = sgI σ f j := by
  unfold enL enterL
  dsimp only
  split
  · rw [sgI_uI, if_neg (by omega), sgI_uI, if_neg (by omega), sgI_uI, if_neg (by omega), sgI_uI, if_neg (by omega)]
  · rw [sgI_uI, if_neg (by omega)]
theorem en_ag {σ : Sg} (h : VI σ) {hm d : Nat} (hs : hm < 6) (hd : d < 4) (hck : sgN σ 1 < 2 ^ 31) (u : Nat) : sgI (enL σ u hm d) 2 (hm * 4 + d) ≠ -1 := by
  rw [en_2]
  split
  · exact nI_m1 hck
  · rename_i hn
    exact fun z => hn ((h.1 _ (by omega)).1.mpr z)
theorem vi_enter {σ : Sg} (h : VI σ) {u hm d : Nat} (hs : hm < 6) (hd : d < 4) (hu : u < 32) (hck : sgN σ 1 < 2 ^ 31) (hk : bt (sgI σ 1 hm) u = true) : VI (enL σ u hm d) := by
  refine vi_chan h hs hd ?_ (en_ag h hs hd hck u) (fun v hb => ?_) (fun f j hfj => en_o σ u hm d f j hfj) (enter_N σ _ _ _ 0)
  · rw [en_5]
    intro e
    have : bt (sb (sgI σ 5 (hm * 4 + d)) (nI u)) u = true := (sb_iff _ hu u).mpr (Or.inr rfl)
    rw [e, b_0] at this
    cases this
  · rw [en_5, sb_iff _ hu] at hb
    rcases hb with g | g
    · exact h.2.2.2 hm d v hs hd g
    · rw [g]; exact hk
theorem nsL_no {σ : Sg} (hu20 : sgN σ 0 ≤ 20) {s : Nat} {l be : Int32} (h : nsL σ s l be = -1) : ∀ u, u < sgN σ 0 → ¬ mtc σ s l be u := by
  rcases nsN_spec σ s l be (sgN σ 0) (by omega) with ⟨_, g⟩ | ⟨u, g1, g2, g3⟩
  · exact g
  · have h : nsN σ s l be (sgN σ 0) = -1 := h
    rw [g2] at h
    exact absurd h (nI_m1 (by omega))
theorem book_o (σ : Sg) (s : Nat) (l : Int32) (f i : Nat) (hf : f < 6) : sgI (bookL σ s l) f i = sgI σ f i := by
  show sgI (uI (uI (uI σ 7 _ _) 6 _ _) 8 _ _) f i = _
  rw [sgI_uI, if_neg (by omega), sgI_uI, if_neg (by omega), sgI_uI, if_neg (by omega)]
theorem vi_sign {σ : Sg} (h : VI σ) (hu20 : sgN σ 0 < 20) {s : Nat} {l : Int32} (hn : nsL σ s l (-1) = -1) : VI (signL σ s l) := by
  have hno := nsL_no (by omega) hn
  have hb : VI (bookL σ s l) := by
    obtain ⟨a, c, d, e⟩ := h
    have o := book_o σ s l
    refine ⟨ab_congr a (fun f i h1 h2 => o f i (by omega)), fun t ht v w hv hw b1 b2 hl => ?_, fun t v ht hb => ?_, fun t d' v ht hd hb => ?_⟩
    · rw [o 1 _ (by omega)] at b1 b2
      have hv2 := d t v ht b1
      have hw2 := d t w ht b2
      rw [book_6, book_6, if_neg (by omega), if_neg (by omega)] at hl
      exact c t ht v w hv2 hw2 b1 b2 hl
    · rw [o 1 _ (by omega)] at hb
      have := d t v ht hb
      rw [book_0]
      omega
    · rw [o 5 _ (by omega)] at hb
      rw [o 1 _ (by omega)]
      exact e t d' v ht hd hb
  have k1 : sgI (bookL σ s l) 1 s = sgI σ 1 s := book_o σ s l 1 s (by omega)
  have hl : VI (learnL (bookL σ s l) s (sgN σ 0)) := by
    refine vi_learn hb (by rw [book_0]; omega) (by omega) (fun v hv hne hk hle => ?_)
    rw [k1] at hk
    rw [book_0] at hv
    have hv2 : v < sgN σ 0 := by omega
    rw [book_6, book_6, if_neg (by omega), if_pos rfl] at hle
    exact hno v hv2 ⟨nI_m1 (by omega), hle, hk⟩
  exact vi_congr (vi_spread hl s (-1) (qln 0 (sgN σ 0))) (fun _ _ _ => rfl) rfl
theorem vi_recv {τ : Sg} (h : VI τ) (hW : WFu τ) {x y : Nat} (hy : y < 6) {ln : Ln} (hwl : WFln τ ln) (hx : lnX ln) : VI (recvL τ y x ln) := by
  unfold recvL
  rcases hwl with ⟨u, hu, hl⟩ | ⟨d, hd4, hlc, hkk⟩
  · have hu' : u < 20 := by have := hW.1; omega
    rcases hl with hl | hl
    · subst hl
      have a1 : (qln 0 u).1 = 0 := rfl
      have a2 : (qln 0 u).2.1.toNatClampNeg = u := clN (by omega)
      rw [if_pos a1, a2]
      unfold recvUser
      split
      · split
        · rename_i hns
          have hno := nsL_no hW.1 hns
          exact vi_spread (vi_learn h hu (by omega) (fun v hv hne hk hle => hno v hv ⟨fun z => hne ((nI_eq (by have := hW.1; omega) (by omega)).mp z), hle, hk⟩)) _ _ _
        · rename_i hns
          obtain ⟨v, hv, hve, hvm⟩ := nsL_user τ hW.1 y (sgI τ 6 u) (nI u) hns
          have hv' : v < 20 := by have := hW.1; omega
          rw [hve]
          split
          · dsimp only
            have f1 := vi_spread (vi_forget h hy (show v < 32 by omega)) y (-1) (1, nI v, 0, 0, 0, 0)
            refine vi_spread (vi_learn f1 ?_ (by omega) (fun w hw hne hk hle => ?_)) _ _ _
            · rw [spread_N _ _ _ _ 0 (by decide), forget_N]; exact hu
            · rw [spread_N _ _ _ _ 0 (by decide), forget_N] at hw
              rw [spread_I, fg_1, if_pos rfl, cb_iff _ (by omega)] at hk
              rw [spread_I, spread_I, forget_I _ _ _ 6 _ (Or.inr (by decide)), forget_I _ _ _ 6 _ (Or.inr (by decide))] at hle
              exact hk.2 (h.2.1 y hy w v hw hv hk.1 hvm.2.2 (hle.trans hvm.2.1.symm))
          · exact vi_congr h (fun _ _ _ => rfl) rfl
      · exact h
    · subst hl
      have a0 : ¬ (qln 1 u).1 = 0 := by show ¬ (1 : Int32) = 0; decide
      have a1 : (qln 1 u).1 = 1 := rfl
      have a2 : (qln 1 u).2.1.toNatClampNeg = u := clN (by omega)
      rw [if_neg a0, if_pos a1, a2]
      unfold recvQuit
      split
      · exact vi_spread (vi_forget h hy (by omega)) _ _ _
      · exact h
  · have n0 : ¬ ln.1 = 0 := by rcases hkk with e | e | e <;> (rw [e]; decide)
    have n1 : ¬ ln.1 = 1 := by rcases hkk with e | e | e <;> (rw [e]; decide)
    have hcl : ln.2.1.toNatClampNeg = d := by rw [hlc, clN (by omega)]
    rw [if_neg n0, if_neg n1]
    rcases hkk with hk | hk | hk
    · rw [if_pos hk]
      exact vi_spread (vi_chanSet h hy hd4 hlc (hx.2 (Or.inl hk))) _ _ _
    · have n2 : ¬ ln.1 = 2 := by rw [hk]; decide
      obtain ⟨u, hu, hlu⟩ := hx.1 hk
      rw [if_neg n2, if_pos hk]
      unfold recvLeave
      rw [hlu]
      exact vi_spread (vi_drop h _ (by omega)) _ _ _
    · have n2 : ¬ ln.1 = 2 := by rw [hk]; decide
      have n3 : ¬ ln.1 = 3 := by rw [hk]; decide
      rw [if_neg n2, if_neg n3]
      unfold recvModes
      rw [hcl]
      exact vi_spread (vi_mode h hy hd4 _ _ _) _ _ _
