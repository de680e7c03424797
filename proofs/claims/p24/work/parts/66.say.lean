/-! WHICH WAYS A MESSAGE TAKES: the two counts are one -/
def par (lk : Nat → Int32) (h x y : Nat) : Prop := bt (lk x) y = true ∧ bt (clo lk h) x = true ∧ bt (bhl lk x y) h = false
section SY
variable {lk : Nat → Int32} {h : Nat}
theorem pr_x (hG : GR lk) (hh : h < 6) {x y : Nat} (p : par lk h x y) : x < 6 := tr_lt hG.1 hh p.2.1
theorem pr_y (hG : GR lk) (hh : h < 6) {x y : Nat} (p : par lk h x y) : y < 6 := b66_lt hG.1 (pr_x hG hh p) p.1
/-- what lies behind y from x is y, or lies behind another neighbour of y -/
theorem pr_dec (hG : GR lk) {x y v : Nat} (hx : x < 6) (hy : y < 6) (hv : bt (bhl lk x y) v = true) : v = y ∨ ∃ z, z < 6 ∧ bt (lk y) z = true ∧ z ≠ x ∧ bt (bhl lk y z) v = true := by
  refine bh_in (lk := lk) (S := fun v => v = y ∨ ∃ z, z < 6 ∧ bt (lk y) z = true ∧ z ≠ x ∧ bt (bhl lk y z) v = true) hx hy (Or.inl rfl) (fun p q hp hS hl hq => ?_) hv
  by_cases eq : q = y
  · exact Or.inl eq
  · rcases hS with e | ⟨z, hz, z1, z2, z3⟩
    · rw [e] at hl
      have hq6 := b66_lt hG.1 hy hl
      exact Or.inr ⟨q, hq6, hl, hq, bh_self y hq6⟩
    · exact Or.inr ⟨z, hz, z1, z2, bh_step hG.1 hy hz z3 hl eq⟩
theorem pr_opp (hG : GR lk) {x y v : Nat} (hx : x < 6) (hy : y < 6) (hyx : bt (lk y) x = true) (h1 : bt (bhl lk x y) v = true) (h2 : bt (bhl lk y x) v = true) : False := by
  have hne : x ≠ y := fun e => by rw [e, hG.2.2.1 y hy] at hyx; cases hyx
  rcases pr_dec hG hx hy h1 with e | ⟨z, hz, z1, z2, z3⟩
  · exact bh_x hy hx hne h2 e
  · exact fs_dis hG hy hz hx z1 hyx z2 z3 h2
theorem pr_up (hG : GR lk) (hh : h < 6) {x y : Nat} (p : par lk h x y) : bt (bhl lk y x) h = true := by
  have hx := pr_x hG hh p
  have hy := pr_y hG hh p
  have hyx := hG.2.1 x y hx hy p.1
  have ht := tr_sym hG.1 hG.2.1 hh p.2.1
  have := clo_in (lk := lk) (S := fun v => bt (bhl lk y x) v = true ∨ bt (bhl lk x y) v = true) hx (Or.inl (bh_self y hx)) (fun a b ha hS hl => ?_) ht
  · rcases this with g | g
    · exact g
    · rw [p.2.2] at g; cases g
  · rcases hS with g | g
    · by_cases e : b = y
      · rw [e]; exact Or.inr (bh_self x hy)
      · exact Or.inl (bh_step hG.1 hy hx g hl e)
    · by_cases e : b = x
      · rw [e]; exact Or.inl (bh_self y hx)
      · exact Or.inr (bh_step hG.1 hx hy g hl e)
theorem pr_one (hG : GR lk) (hh : h < 6) {x x' y : Nat} (p : par lk h x y) (p' : par lk h x' y) : x = x' := by
  refine Classical.byContradiction (fun hne => ?_)
  have hx := pr_x hG hh p
  have hx' := pr_x hG hh p'
  have hy := pr_y hG hh p
  exact fs_dis hG hy hx hx' (hG.2.1 x y hx hy p.1) (hG.2.1 x' y hx' hy p'.1) hne (pr_up hG hh p) (pr_up hG hh p')
theorem pr_ne (hG : GR lk) (hh : h < 6) {x y : Nat} (p : par lk h x y) : y ≠ h := fun e => by
  have := p.2.2
  rw [e, bh_self x hh] at this
  cases this
theorem pr_tree (hG : GR lk) (hh : h < 6) {x y : Nat} (p : par lk h x y) : bt (clo lk h) y = true := tr_step hG.1 hh p.2.1 p.1
theorem pr_ex (hG : GR lk) (hh : h < 6) {y : Nat} (hy : bt (clo lk h) y = true) (hne : y ≠ h) : ∃ x, par lk h x y := by
  have hy6 := tr_lt hG.1 hh hy
  have ht := tr_sym hG.1 hG.2.1 hh hy
  have := clo_in (lk := lk) (S := fun v => v = y ∨ ∃ x, x < 6 ∧ bt (lk y) x = true ∧ bt (bhl lk y x) v = true) hy6 (Or.inl rfl) (fun a b ha hS hl => ?_) ht
  · rcases this with e | ⟨x, hx, x1, x2⟩
    · exact absurd e.symm hne
    · exact ⟨x, hG.2.1 y x hy6 hx x1, tr_step hG.1 hh hy x1, bt_false (fun e => pr_opp hG hx hy6 x1 e x2)⟩
  · by_cases eb : b = y
    · exact Or.inl eb
    · rcases hS with e | ⟨x, hx, x1, x2⟩
      · rw [e] at hl
        have hb := b66_lt hG.1 hy6 hl
        exact Or.inr ⟨b, hb, hl, bh_self y hb⟩
      · exact Or.inr ⟨x, hx, x1, bh_step hG.1 hy6 hx x2 hl eb⟩
theorem pr_kid (hG : GR lk) (hh : h < 6) {x y z : Nat} (p : par lk h x y) (hz : bt (lk y) z = true) (hne : z ≠ x) : par lk h y z := by
  have hx := pr_x hG hh p
  have hy := pr_y hG hh p
  have hz6 := b66_lt hG.1 hy hz
  exact ⟨hz, pr_tree hG hh p, bt_false (fun e => fs_dis hG hy hz6 hx hz (hG.2.1 x y hx hy p.1) hne e (pr_up hG hh p))⟩
/-- a way to y is needed -/
def kst (lk : Nat → Int32) (h : Nat) (T : Int32) (v : Nat) : Prop := v = h ∨ ∃ x w, par lk h x v ∧ bt (bhl lk x v) w = true ∧ bt T w = true
theorem kst_kid (hG : GR lk) (hh : h < 6) {T : Int32} {x y z : Nat} (p : par lk h x y) (q : par lk h y z) (hk : kst lk h T z) : kst lk h T y := by
  rcases hk with e | ⟨y', w, q', w1, w2⟩
  · exact absurd e (pr_ne hG hh q)
  · rw [← pr_one hG hh q q'] at w1
    have hx := pr_x hG hh p
    have hy := pr_y hG hh p
    have hz := pr_y hG hh q
    have hne : z ≠ x := fun e => by
      have := q.2.2
      rw [e, pr_up hG hh p] at this
      cases this
    exact Or.inr ⟨x, w, p, (fs_sub hG hx hy hz (hG.2.1 x y hx hy p.1) q.1 hne w1).1, w2⟩
theorem kst_dec (hG : GR lk) (hh : h < 6) {T : Int32} {y : Nat} (hy : y ≠ h) (hT : bt T y = false) (hk : kst lk h T y) : ∃ z, par lk h y z ∧ kst lk h T z := by
  rcases hk with e | ⟨x, w, p, w1, w2⟩
  · exact absurd e hy
  · rcases pr_dec hG (pr_x hG hh p) (pr_y hG hh p) w1 with e | ⟨z, hz, z1, z2, z3⟩
    · rw [e, hT] at w2; cases w2
    · have q := pr_kid hG hh p z1 z2
      exact ⟨z, q, Or.inr ⟨y, w, q, z3, w2⟩⟩
/-- servers are cut off: what holds on the way -/
def cutI (lk : Nat → Int32) (h : Nat) (T K : Int32) : Prop := b6 K ∧ (∀ v, bt K v = true → bt (clo lk h) v = true) ∧ bt K h = true ∧ (∀ v, kst lk h T v → bt K v = true) ∧ ∀ x v, par lk h x v → bt K v = true → bt K x = true
/-- those not needed, with r behind them at most, are cut off -/
def cutR (lk : Nat → Int32) (h : Nat) (T K : Int32) (r : Nat) : Prop := ∀ x v, par lk h x v → ¬ kst lk h T v → bta lk x v ≤ r → bt K v = false
theorem bta_kid (hG : GR lk) (hh : h < 6) {x y z : Nat} (p : par lk h x y) (q : par lk h y z) : bta lk y z < bta lk x y := by
  have hx := pr_x hG hh p
  have hy := pr_y hG hh p
  have hz := pr_y hG hh q
  have hyx := hG.2.1 x y hx hy p.1
  have hne : z ≠ x := fun e => by
    have := q.2.2
    rw [e, pr_up hG hh p] at this
    cases this
  exact cN_lt (bh_self x hy) (bt_false (fun e => (fs_sub hG hx hy hz hyx q.1 hne e).2 rfl)) 6 hy (fun i _ hi => (fs_sub hG hx hy hz hyx q.1 hne hi).1)
theorem bta_5 (hG : GR lk) (hh : h < 6) {x y : Nat} (p : par lk h x y) : bta lk x y ≤ 5 := by
  have h1 := cN_lt (R := bhl lk x y) (T := sb (bhl lk x y) (nI h)) (j := h) (by rw [sb_iff _ (by omega)]; exact Or.inr rfl) p.2.2 6 hh (fun i _ hi => by rw [sb_iff _ (by omega)]; exact Or.inl hi)
  have h2 := cN_le (sb (bhl lk x y) (nI h)) 6
  show cN (bhl lk x y) 6 ≤ 5
  omega
theorem cN_one {m : Int32} {x : Nat} : ∀ n, x < n → bt m x = true → (∀ i, i < n → bt m i = true → i = x) → cN m n = 1 := by
  intro n
  induction n with
  | zero => intro h; omega
  | succ n ih =>
    intro hx hb hu
    show cN m n + (if bt m n = true then 1 else 0) = 1
    by_cases e : x = n
    · subst e
      rw [if_pos hb]
      have : cN m x = 0 := by
        have hz : ∀ k, k ≤ x → cN m k = 0 := by
          intro k
          induction k with
          | zero => intro _; rfl
          | succ k ihk =>
            intro hk
            show cN m k + (if bt m k = true then 1 else 0) = 0
            rw [ihk (by omega), if_neg (fun e => by have := hu k (by omega) e; omega)]
        exact hz x (Nat.le_refl _)
      omega
    · rw [ih (by omega) hb (fun i hi => hu i (by omega)), if_neg (fun e2 => e (hu n (by omega) e2).symm)]
theorem cN_two {m : Int32} {x z : Nat} (hne : x ≠ z) : ∀ n, x < n → z < n → bt m x = true → bt m z = true → 2 ≤ cN m n := by
  intro n
  induction n with
  | zero => intro h; omega
  | succ n ih =>
    intro hx hz h1 h2
    show 2 ≤ cN m n + (if bt m n = true then 1 else 0)
    by_cases e : x = n
    · have := cN_pos h2 n (by omega)
      rw [← e, if_pos h1]
      rw [← e] at this
      omega
    · by_cases e2 : z = n
      · have := cN_pos h1 n (by omega)
        rw [← e2, if_pos h2]
        rw [← e2] at this
        omega
      · have := ih (by omega) (by omega) h1 h2
        omega
theorem nI_one {n : Nat} (hn : n < 2 ^ 31) : nI n = 1 ↔ n = 1 := nI_eq (b := 1) hn (by omega)
/-- one server is looked at -/
theorem srv_step (hG : GR lk) (hh : h < 6) {T K : Int32} {r y : Nat} (hy : y < 6) (hI : cutI lk h T K) (hr : cutR lk h T K r) {c : Prop} (hc : c ↔ (bt K y = true ∧ y ≠ h ∧ bt T y = false ∧ cN (lk y &&& K) 6 = 1)) :
    (c → cutI lk h T (cb K (nI y))) ∧ (¬ c → ∀ x, par lk h x y → ¬ kst lk h T y → bta lk x y ≤ r + 1 → bt K y = false) := by
  obtain ⟨i1, i2, i3, i4, i5⟩ := hI
  have nb : ∀ z, bt (lk y &&& K) z = true ↔ (bt (lk y) z = true ∧ bt K z = true) := fun z => by rw [b_and, Bool.and_eq_true]
  constructor
  · intro hc1
    obtain ⟨c1, c2, c3, c4⟩ := hc.mp hc1
    obtain ⟨x, p⟩ := pr_ex hG hh (i2 y c1) c2
    have hx := pr_x hG hh p
    have hyx := hG.2.1 x y hx hy p.1
    have hxK := i5 x y p c1
    have nokid : ∀ z, par lk h y z → bt K z = false := fun z q => bt_false (fun e => by
      have hne : x ≠ z := fun e => by
        have := q.2.2
        rw [← e, pr_up hG hh p] at this
        cases this
      have := cN_two (m := lk y &&& K) hne 6 hx (pr_y hG hh q) ((nb x).mpr ⟨hyx, hxK⟩) ((nb z).mpr ⟨q.1, e⟩)
      omega)
    have nk : ¬ kst lk h T y := fun hk => by
      obtain ⟨z, q, kz⟩ := kst_dec hG hh c2 c3 hk
      have := nokid z q
      rw [i4 z kz] at this
      cases this
    have sub : ∀ v, bt (cb K (nI y)) v = true ↔ (bt K v = true ∧ v ≠ y) := fun v => cb_iff K (by omega) v
    refine ⟨fun i hi => bt_false (fun e => by rw [sub, i1 i hi] at e; cases e.1), fun v hv => i2 v ((sub v).mp hv).1, (sub h).mpr ⟨i3, Ne.symm c2⟩, fun v hv => (sub v).mpr ⟨i4 v hv, fun e => nk (e ▸ hv)⟩, fun a v q hv => ?_⟩
    obtain ⟨v1, v2⟩ := (sub v).mp hv
    refine (sub a).mpr ⟨i5 a v q v1, fun e => ?_⟩
    rw [e] at q
    rw [nokid v q] at v1
    cases v1
  · intro hc1 x p nk hb
    refine bt_false (fun hyK => hc1 (hc.mpr ⟨hyK, pr_ne hG hh p, bt_false (fun e => nk (Or.inr ⟨x, y, p, bh_self x hy, e⟩)), ?_⟩))
    have hx := pr_x hG hh p
    refine cN_one 6 hx ((nb x).mpr ⟨hG.2.1 x y hx hy p.1, i5 x y p hyK⟩) (fun z _ hz => ?_)
    obtain ⟨z1, z2⟩ := (nb z).mp hz
    refine Classical.byContradiction (fun hne => ?_)
    have q := pr_kid hG hh p z1 hne
    have hlt := bta_kid hG hh p q
    have := hr y z q (fun kz => nk (kst_kid hG hh p q kz)) (by omega)
    rw [this] at z2
    cases z2
end SY
theorem cond_iff {σ : Sg} (hG : GR (sgI σ 0)) {hm : Nat} (hh : hm < 6) {T K : Int32} (hK : b6 K) {y : Nat} (hy : y < 6) : (bt (K &&& (sb T (nI hm) ^^^ (-1))) y = true ∧ bcL (sgI σ 0 y &&& K) = 1) ↔ (bt K y = true ∧ y ≠ hm ∧ bt T y = false ∧ cN (sgI σ 0 y &&& K) 6 = 1) := by
  have hb : b6 (sgI σ 0 y &&& K) := fun i hi => by rw [b_and, hK i hi, Bool.and_false]
  rw [bc_6 hb, nI_one (by have := cN_le (sgI σ 0 y &&& K) 6; omega), b_and, b_xor, b_m1 y (by omega), hs_sb T (by omega) (by omega)]
  cases h1 : bt K y with
  | false => simp
  | true =>
    cases h2 : bt T y with
    | true => simp
    | false =>
      by_cases h3 : y = hm
      · simp [h3]
      · simp [h3]
theorem lt_inner {σ : Sg} (hG : GR (sgI σ 0)) {hm : Nat} (hh : hm < 6) {T K : Int32} {r : Nat} (hI : cutI (sgI σ 0) hm T K) (hr : cutR (sgI σ 0) hm T K r) : ∀ y, y ≤ 6 → cutI (sgI σ 0) hm T (ltI σ (sb T (nI hm)) K y) ∧ (∀ v, bt (ltI σ (sb T (nI hm)) K y) v = true → bt K v = true) ∧ ∀ x v, v < y → par (sgI σ 0) hm x v → ¬ kst (sgI σ 0) hm T v → bta (sgI σ 0) x v ≤ r + 1 → bt (ltI σ (sb T (nI hm)) K y) v = false := by
  intro y
  induction y with
  | zero => intro _; exact ⟨hI, fun _ h => h, fun x v hv => by omega⟩
  | succ y ih =>
    intro hy
    obtain ⟨a1, a2, a3⟩ := ih (by omega)
    have hr2 : cutR (sgI σ 0) hm T (ltI σ (sb T (nI hm)) K y) r := fun x v p nk hb => bt_false (fun e => by
      have := hr x v p nk hb
      rw [a2 v e] at this
      cases this)
    have hy6 : y < 6 := by omega
    have cs := srv_step hG hh hy6 a1 hr2 (cond_iff hG hh a1.1 hy6)
    by_cases hc : bt (ltI σ (sb T (nI hm)) K y &&& (sb T (nI hm) ^^^ (-1))) y = true ∧ bcL (sgI σ 0 y &&& ltI σ (sb T (nI hm)) K y) = 1
    · have e : ltI σ (sb T (nI hm)) K (y + 1) = cb (ltI σ (sb T (nI hm)) K y) (nI y) := if_pos hc
      rw [e]
      have sub : ∀ v, bt (cb (ltI σ (sb T (nI hm)) K y) (nI y)) v = true ↔ (bt (ltI σ (sb T (nI hm)) K y) v = true ∧ v ≠ y) := fun v => cb_iff _ (by omega) v
      refine ⟨cs.1 hc, fun v hv => a2 v ((sub v).mp hv).1, fun x v hv p nk hb => bt_false (fun ev => ?_)⟩
      obtain ⟨e1, e2⟩ := (sub v).mp ev
      rw [a3 x v (by omega) p nk hb] at e1
      cases e1
    · have e : ltI σ (sb T (nI hm)) K (y + 1) = ltI σ (sb T (nI hm)) K y := if_neg hc
      rw [e]
      refine ⟨a1, a2, fun x v hv p nk hb => ?_⟩
      by_cases ev : v = y
      · rw [ev] at p nk hb ⊢
        exact cs.2 hc x p nk hb
      · exact a3 x v (by omega) p nk hb
theorem lt_outer {σ : Sg} (hG : GR (sgI σ 0)) {hm : Nat} (hh : hm < 6) (T : Int32) : ∀ r, cutI (sgI σ 0) hm T (ltO σ (sb T (nI hm)) (treeL σ hm) r) ∧ cutR (sgI σ 0) hm T (ltO σ (sb T (nI hm)) (treeL σ hm) r) r := by
  intro r
  induction r with
  | zero =>
    rw [show ltO σ (sb T (nI hm)) (treeL σ hm) 0 = treeL σ hm from rfl, tree_clo]
    refine ⟨⟨clo_b6 hh hG.1, fun _ h => h, clo_self _ hh, fun v hv => ?_, fun x v p _ => p.2.1⟩, fun x v p _ hb => ?_⟩
    · rcases hv with e | ⟨x, w, p, _⟩
      · rw [e]; exact clo_self _ hh
      · exact pr_tree hG hh p
    · have := bta_pos (sgI σ 0) x (pr_y hG hh p)
      omega
  | succ r ih =>
    have h1 := lt_inner hG hh ih.1 ih.2 6 (Nat.le_refl _)
    exact ⟨h1.1, fun x v p nk hb => h1.2.2 x v (pr_y hG hh p) p nk hb⟩
/-! the other count -/
theorem cN_sm (m : Int32) : ∀ n, cN m n = smN (fun i => if bt m i = true then 1 else 0) n := by
  intro n
  induction n with
  | zero => rfl
  | succ n ih =>
    show cN m n + _ = smN _ n + _
    rw [ih]
