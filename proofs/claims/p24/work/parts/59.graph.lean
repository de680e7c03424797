/-! LINKS WITHOUT RINGS -/
def bhl (lk : Nat → Int32) (x y : Nat) : Int32 := clo (fun k => cb (lk k) (nI x)) y
theorem beh_bhl (σ : Sg) (y x : Nat) : behL σ y x = bhl (sgI σ 0) x y := rfl
def fst6 (lk : Nat → Int32) : Prop := ∀ x y z, x < 6 → y < 6 → z < 6 → bt (lk x) y = true → bt (lk x) z = true → y ≠ z → bt (bhl lk x y) z = false
def sym6 (lk : Nat → Int32) : Prop := ∀ x y, x < 6 → y < 6 → bt (lk x) y = true → bt (lk y) x = true
def irr6 (lk : Nat → Int32) : Prop := ∀ x, x < 6 → bt (lk x) x = false
def b66 (lk : Nat → Int32) : Prop := ∀ k, k < 6 → b6 (lk k)
def GR (lk : Nat → Int32) : Prop := b66 lk ∧ sym6 lk ∧ irr6 lk ∧ fst6 lk
theorem b66_lt {lk : Nat → Int32} (h : b66 lk) {x y : Nat} (hx : x < 6) (e : bt (lk x) y = true) : y < 6 := Nat.not_le.mp (fun h9 => by rw [h x hx y h9] at e; cases e)
theorem cbk_b6 {lk : Nat → Int32} (h : b66 lk) {x : Nat} (hx : x < 6) : ∀ k, k < 6 → b6 (cb (lk k) (nI x)) := fun k hk i hi => bt_false (fun e => by
  have := (cb_bt _ hx e).1
  rw [h k hk i hi] at this
  cases this)
theorem cb_mk (m : Int32) {k i : Nat} (hk : k < 6) (h : bt m i = true) (hne : i ≠ k) : bt (cb m (nI k)) i = true := by
  by_cases hi : i < 32
  · rw [hs_cb m (by omega) hi, h, decide_eq_false hne]; rfl
  · rw [b_big (by omega)] at h; cases h
section GG
variable {lk : Nat → Int32}
theorem bh_self (x : Nat) {y : Nat} (hy : y < 6) : bt (bhl lk x y) y = true := clo_self _ hy
theorem bh_lt (hb : b66 lk) {x y v : Nat} (hx : x < 6) (hy : y < 6) (h : bt (bhl lk x y) v = true) : v < 6 := Nat.not_le.mp (fun h9 => by
  unfold bhl at h
  rw [clo_b6 hy (cbk_b6 hb hx) v h9] at h; cases h)
theorem bh_step (hb : b66 lk) {x y p q : Nat} (hx : x < 6) (hy : y < 6) (hp : bt (bhl lk x y) p = true) (hl : bt (lk p) q = true) (hq : q ≠ x) : bt (bhl lk x y) q = true :=
  clo_step hy (cbk_b6 hb hx) (bh_lt hb hx hy hp) hp (cb_mk _ hx hl hq)
theorem bh_in {x y : Nat} {S : Nat → Prop} (hx : x < 6) (hy : y < 6) (h0 : S y) (hc : ∀ p q, p < 6 → S p → bt (lk p) q = true → q ≠ x → S q) {v : Nat} (hv : bt (bhl lk x y) v = true) : S v :=
  clo_in hy h0 (fun p q hp hs hl => hc p q hp hs (cb_bt _ hx hl).1 (cb_bt _ hx hl).2) hv
theorem bh_x {x y : Nat} (hx : x < 6) (hy : y < 6) (hne : y ≠ x) {v : Nat} (hv : bt (bhl lk x y) v = true) : v ≠ x := bh_in (S := fun v => v ≠ x) hx hy hne (fun _ _ _ _ _ h => h) hv
theorem bh_trans (hb : b66 lk) {x y p v : Nat} (hx : x < 6) (hy : y < 6) (hp : bt (bhl lk x y) p = true) (hv : bt (bhl lk x p) v = true) : bt (bhl lk x y) v = true :=
  bh_in (S := fun v => bt (bhl lk x y) v = true) hx (bh_lt hb hx hy hp) hp (fun _ _ _ hs hl hq => bh_step hb hx hy hs hl hq) hv
theorem bh_sym (hb : b66 lk) (hs : sym6 lk) {x y v : Nat} (hx : x < 6) (hy : y < 6) (hne : y ≠ x) (hv : bt (bhl lk x y) v = true) : bt (bhl lk x v) y = true := by
  have h := bh_in (lk := lk) (S := fun v => v < 6 ∧ v ≠ x ∧ bt (bhl lk x v) y = true) hx hy ⟨hy, hne, bh_self x hy⟩ (fun p q hp hS hl hq => ?_) hv
  · exact h.2.2
  · have hq6 := b66_lt hb hp hl
    refine ⟨hq6, hq, bh_trans hb hx hq6 ?_ hS.2.2⟩
    exact bh_step hb hx hq6 (bh_self x hq6) (hs p q hp hq6 hl) hS.2.1
/-- trees -/
theorem tr_lt (hb : b66 lk) {y v : Nat} (hy : y < 6) (h : bt (clo lk y) v = true) : v < 6 := Nat.not_le.mp (fun h9 => by
  rw [clo_b6 hy hb v h9] at h; cases h)
theorem tr_step (hb : b66 lk) {y p q : Nat} (hy : y < 6) (hp : bt (clo lk y) p = true) (hl : bt (lk p) q = true) : bt (clo lk y) q = true := clo_step hy hb (tr_lt hb hy hp) hp hl
theorem tr_trans (hb : b66 lk) {y p v : Nat} (hy : y < 6) (hp : bt (clo lk y) p = true) (hv : bt (clo lk p) v = true) : bt (clo lk y) v = true :=
  clo_in (S := fun v => bt (clo lk y) v = true) (tr_lt hb hy hp) hp (fun _ _ _ hs hl => tr_step hb hy hs hl) hv
theorem tr_sym (hb : b66 lk) (hs : sym6 lk) {y v : Nat} (hy : y < 6) (hv : bt (clo lk y) v = true) : bt (clo lk v) y = true := by
  have h := clo_in (lk := lk) (S := fun v => v < 6 ∧ bt (clo lk v) y = true) hy ⟨hy, clo_self _ hy⟩ (fun p q hp hS hl => ?_) hv
  · exact h.2
  · have hq6 := b66_lt hb hp hl
    exact ⟨hq6, tr_trans hb hq6 (tr_step hb hq6 (clo_self _ hq6) (hs p q hp hq6 hl)) hS.2⟩
theorem bh_tr (hb : b66 lk) {x y v : Nat} (hx : x < 6) (hy : y < 6) (hv : bt (bhl lk x y) v = true) : bt (clo lk y) v = true :=
  bh_in (S := fun v => bt (clo lk y) v = true) hx hy (clo_self _ hy) (fun _ _ _ hs hl _ => tr_step hb hy hs hl) hv
/-- the parts behind two neighbours are apart -/
theorem fs_dis (h : GR lk) {x y z v : Nat} (hx : x < 6) (hy : y < 6) (hz : z < 6) (hxy : bt (lk x) y = true) (hxz : bt (lk x) z = true) (hne : y ≠ z) (h1 : bt (bhl lk x y) v = true) (h2 : bt (bhl lk x z) v = true) : False := by
  obtain ⟨hb, hs, hi, hf⟩ := h
  have hyx : y ≠ x := fun e => by rw [e, hi x hx] at hxy; cases hxy
  have h3 := bh_trans hb hx hz h2 (bh_sym hb hs hx hy hyx h1)
  rw [hf x z y hx hz hy hxz hxy (Ne.symm hne)] at h3
  cases h3
/-- what lies behind z from y lies behind y from x -/
theorem fs_sub (h : GR lk) {x y z v : Nat} (hx : x < 6) (hy : y < 6) (hz : z < 6) (hyx : bt (lk y) x = true) (hyz : bt (lk y) z = true) (hne : z ≠ x) (hv : bt (bhl lk y z) v = true) : bt (bhl lk x y) v = true ∧ v ≠ y := by
  obtain ⟨hb, hs, hi, hf⟩ := h
  have hzy : z ≠ y := fun e => by rw [e, hi y hy] at hyz; cases hyz
  refine ⟨?_, bh_x hy hz hzy hv⟩
  have h2 := bh_in (lk := lk) (S := fun v => bt (bhl lk x y) v = true ∧ bt (bhl lk y z) v = true) hy hz ⟨bh_step hb hx hy (bh_self x hy) hyz hne, bh_self y hz⟩ (fun p q hp hS hl hq => ?_) hv
  · exact h2.1
  · have h3 := bh_step hb hy hz hS.2 hl hq
    refine ⟨bh_step hb hx hy hS.1 hl (fun e => ?_), h3⟩
    rw [e, hf y z x hy hz hx hyz hyx hne] at h3
    cases h3
end GG
/-! sums -/
def smN (f : Nat → Nat) : Nat → Nat
  | 0 => 0
  | n + 1 => smN f n + f n
theorem smN_le {f g : Nat → Nat} : ∀ n, (∀ i, i < n → f i ≤ g i) → smN f n ≤ smN g n := by
  intro n
  induction n with
  | zero => intro _; exact Nat.le_refl _
  | succ n ih => intro h; exact Nat.add_le_add (ih (fun i hi => h i (by omega))) (h n (by omega))
theorem smN_eq {f g : Nat → Nat} : ∀ n, (∀ i, i < n → f i = g i) → smN f n = smN g n := by
  intro n
  induction n with
  | zero => intro _; rfl
  | succ n ih =>
    intro h
    show smN f n + f n = smN g n + g n
    rw [ih (fun i hi => h i (by omega)), h n (by omega)]
theorem smN_add (f g : Nat → Nat) : ∀ n, smN (fun i => f i + g i) n = smN f n + smN g n := by
  intro n
  induction n with
  | zero => rfl
  | succ n ih =>
    show smN (fun i => f i + g i) n + (f n + g n) = (smN f n + f n) + (smN g n + g n)
    omega
theorem smN_mul (k : Nat) (f : Nat → Nat) : ∀ n, smN (fun i => k * f i) n = k * smN f n := by
  intro n
  induction n with
  | zero => rfl
  | succ n ih =>
    show smN (fun i => k * f i) n + k * f n = k * (smN f n + f n)
    rw [ih, Nat.mul_add]
theorem smN_const (k : Nat) : ∀ n, smN (fun _ => k) n = n * k := by
  intro n
  induction n with
  | zero => rw [Nat.zero_mul]; rfl
  | succ n ih =>
    show smN (fun _ => k) n + k = (n + 1) * k
    rw [ih, Nat.succ_mul]
/-- one place has changed -/
theorem smN_at {f g : Nat → Nat} {j : Nat} : ∀ n, (∀ i, i < n → i ≠ j → g i = f i) → smN g n + (if j < n then f j else 0) = smN f n + (if j < n then g j else 0) := by
  intro n
  induction n with
  | zero => intro _; rfl
  | succ n ih =>
    intro h
    have h1 := ih (fun i hi hne => h i (by omega) hne)
    show smN g n + g n + _ = smN f n + f n + _
    by_cases e : j = n
    · subst e
      rw [if_pos (by omega), if_pos (by omega)]
      rw [if_neg (by omega), if_neg (by omega)] at h1
      omega
    · have h2 := h n (by omega) (fun z => e z.symm)
      by_cases e2 : j < n
      · rw [if_pos (by omega), if_pos (by omega)]
        rw [if_pos e2, if_pos e2] at h1
        omega
      · rw [if_neg (by omega), if_neg (by omega)]
        rw [if_neg e2, if_neg e2] at h1
        omega
theorem cN_or {A C : Int32} : ∀ n, (∀ i, i < n → bt A i = true → bt C i = true → False) → cN (A ||| C) n = cN A n + cN C n := by
  intro n
  induction n with
  | zero => intro _; rfl
  | succ n ih =>
    intro h
    have h1 := ih (fun i hi => h i (by omega))
    show cN (A ||| C) n + (if bt (A ||| C) n = true then 1 else 0) = (cN A n + if bt A n = true then 1 else 0) + (cN C n + if bt C n = true then 1 else 0)
    rw [h1, b_or]
    cases ha : bt A n with
    | true =>
      cases hc : bt C n with
      | true => exact (h n (by omega) ha hc).elim
      | false => simp; omega
    | false =>
      cases hc : bt C n with
      | true => simp; omega
      | false => simp
def uni (p : Nat → Bool) (R : Nat → Int32) : Nat → Int32
  | 0 => 0
  | n + 1 => if p n = true then uni p R n ||| R n else uni p R n
theorem uni_bt {p : Nat → Bool} {R : Nat → Int32} {i : Nat} : ∀ n, bt (uni p R n) i = true → ∃ o, o < n ∧ p o = true ∧ bt (R o) i = true := by
  intro n
  induction n with
  | zero => intro h; rw [show uni p R 0 = 0 from rfl, b_0] at h; cases h
  | succ n ih =>
    intro h
    have h : bt (if p n = true then uni p R n ||| R n else uni p R n) i = true := h
    split at h
    · rename_i hp
      rw [b_or, Bool.or_eq_true] at h
      rcases h with h | h
      · obtain ⟨o, h1, h2⟩ := ih h
        exact ⟨o, by omega, h2⟩
      · exact ⟨n, by omega, hp, h⟩
    · obtain ⟨o, h1, h2⟩ := ih h
      exact ⟨o, by omega, h2⟩
theorem cN_00 : cN 0 6 = 0 := by decide +kernel
theorem uni_sum {p : Nat → Bool} {R : Nat → Int32} : ∀ n, (∀ o o' i, o < n → o' < n → p o = true → p o' = true → o ≠ o' → bt (R o) i = true → bt (R o') i = true → False) → smN (fun o => if p o = true then cN (R o) 6 else 0) n = cN (uni p R n) 6 := by
  intro n
  induction n with
  | zero => intro _; exact cN_00.symm
  | succ n ih =>
    intro h
    have h1 := ih (fun o o' i ho ho' => h o o' i (by omega) (by omega))
    show smN _ n + (if p n = true then cN (R n) 6 else 0) = cN (if p n = true then uni p R n ||| R n else uni p R n) 6
    rw [h1]
    split
    · rename_i hp
      rw [cN_or 6 (fun i _ ha hc => ?_)]
      obtain ⟨o, g1, g2, g3⟩ := uni_bt n ha
      exact h o n i (by omega) (by omega) g2 hp (by omega) g3 hc
    · rfl
/-- the size of the part behind y from x -/
def bta (lk : Nat → Int32) (x y : Nat) : Nat := cN (bhl lk x y) 6
theorem bta_pos (lk : Nat → Int32) (x : Nat) {y : Nat} (hy : y < 6) : 1 ≤ bta lk x y := cN_pos (bh_self x hy) 6 hy
/-- one line's ways on -/
theorem fs_G {lk : Nat → Int32} (h : GR lk) {x y : Nat} (hx : x < 6) (hy : y < 6) (hyx : bt (lk y) x = true) : smN (fun o => if (bt (lk y) o && !decide (o = x)) = true then bta lk y o else 0) 6 + 1 ≤ bta lk x y := by
  have e := uni_sum (p := fun o => bt (lk y) o && !decide (o = x)) (R := fun o => bhl lk y o) 6 (fun o o' i ho ho' hp hp' hne h1 h2 => by
    rw [Bool.and_eq_true] at hp hp'
    exact fs_dis h hy ho ho' hp.1 hp'.1 hne h1 h2)
  have e2 : smN (fun o => if (bt (lk y) o && !decide (o = x)) = true then bta lk y o else 0) 6 = cN (uni (fun o => bt (lk y) o && !decide (o = x)) (fun o => bhl lk y o) 6) 6 := e
  rw [e2]
  have hin : ∀ i, bt (uni (fun o => bt (lk y) o && !decide (o = x)) (fun o => bhl lk y o) 6) i = true → bt (bhl lk x y) i = true ∧ i ≠ y := fun i hi => by
    obtain ⟨o, g1, g2, g3⟩ := uni_bt 6 hi
    rw [Bool.and_eq_true, Bool.not_eq_true', decide_eq_false_iff_not] at g2
    exact fs_sub h hx hy g1 hyx g2.1 g2.2 g3
  exact cN_lt (bh_self x hy) (bt_false (fun e => (hin y e).2 rfl)) 6 hy (fun i _ hi => (hin i hi).1)
theorem fs_F {lk : Nat → Int32} (h : GR lk) {x : Nat} (hx : x < 6) : smN (fun o => if bt (lk x) o = true then bta lk x o else 0) 6 ≤ 5 := by
  have e : smN (fun o => if bt (lk x) o = true then bta lk x o else 0) 6 = cN (uni (fun o => bt (lk x) o) (fun o => bhl lk x o) 6) 6 := uni_sum (p := fun o => bt (lk x) o) (R := fun o => bhl lk x o) 6 (fun o o' i ho ho' hp hp' hne h1 h2 => fs_dis h hx ho ho' hp hp' hne h1 h2)
  rw [e]
  have hn : bt (uni (fun o => bt (lk x) o) (fun o => bhl lk x o) 6) x = false := bt_false (fun hi => by
    obtain ⟨o, g1, g2, g3⟩ := uni_bt 6 hi
    have hne : o ≠ x := fun e => by rw [e, h.2.2.1 x hx] at g2; cases g2
    exact bh_x hx g1 hne g3 rfl)
  have h1 := cN_lt (R := uni (fun o => bt (lk x) o) (fun o => bhl lk x o) 6) (T := sb (uni (fun o => bt (lk x) o) (fun o => bhl lk x o) 6) (nI x)) (j := x) (by rw [hs_sb _ (by omega) (by omega)]; simp) hn 6 hx (fun i hi h9 => by rw [hs_sb _ (by omega) (by omega), h9]; rfl)
  have h2 := cN_le (sb (uni (fun o => bt (lk x) o) (fun o => bhl lk x o) 6) (nI x)) 6
  omega
