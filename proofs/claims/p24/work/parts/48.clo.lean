/-! SETS OF SERVERS CLOSED UNDER LINKS: passes, and when they stand still -/
def gpN (lk : Nat → Int32) (R : Int32) : Nat → Int32
  | 0 => R
  | k + 1 => if bt (gpN lk R k) k = true then gpN lk R k ||| lk k else gpN lk R k
def gtN (lk : Nat → Int32) (s : Nat) : Nat → Int32
  | 0 => 1 <<< (nI s &&& 31)
  | p + 1 => gpN lk (gtN lk s p) 6
def clo (lk : Nat → Int32) (s : Nat) : Int32 := gtN lk s 5
theorem tp_gp (σ : Sg) (R : Int32) : ∀ k, tpN σ R k = gpN (sgI σ 0) R k := by
  intro k
  induction k with
  | zero => rfl
  | succ k ih =>
    show (if bt (tpN σ R k) k = true then tpN σ R k ||| sgI σ 0 k else tpN σ R k) = if bt (gpN (sgI σ 0) R k) k = true then _ else _
    rw [ih]
theorem tr_gt (σ : Sg) (s : Nat) : ∀ p, trN σ s p = gtN (sgI σ 0) s p := by
  intro p
  induction p with
  | zero => rfl
  | succ p ih =>
    show tpN σ (trN σ s p) 6 = gpN (sgI σ 0) (gtN (sgI σ 0) s p) 6
    rw [tp_gp, ih]
theorem tree_clo (σ : Sg) (s : Nat) : treeL σ s = clo (sgI σ 0) s := tr_gt σ s 5
def b6 (R : Int32) : Prop := ∀ i, 6 ≤ i → bt R i = false
theorem gp_up {lk : Nat → Int32} {R : Int32} {i : Nat} (k : Nat) (h : bt (gpN lk R k) i = true) : bt (gpN lk R (k + 1)) i = true := by
  show bt (if bt (gpN lk R k) k = true then gpN lk R k ||| lk k else gpN lk R k) i = true
  split
  · rw [b_or, h]; rfl
  · exact h
theorem gp_le {lk : Nat → Int32} {R : Int32} {i k : Nat} (h : bt (gpN lk R k) i = true) : ∀ n, k ≤ n → bt (gpN lk R n) i = true := by
  intro n
  induction n with
  | zero => intro hk; rw [show k = 0 by omega] at h; exact h
  | succ n ih =>
    intro hk
    by_cases e : k = n + 1
    · rw [← e]; exact h
    · exact gp_up n (ih (by omega))
theorem gp_step {lk : Nat → Int32} {R : Int32} {p q : Nat} (hp : p < 6) (h : bt R p = true) (hl : bt (lk p) q = true) : bt (gpN lk R 6) q = true := by
  have h1 : bt (gpN lk R p) p = true := gp_le (k := 0) h p (Nat.zero_le _)
  refine gp_le (k := p + 1) ?_ 6 (by omega)
  show bt (if bt (gpN lk R p) p = true then gpN lk R p ||| lk p else gpN lk R p) q = true
  rw [if_pos h1, b_or, hl, Bool.or_true]
theorem gp_in {lk : Nat → Int32} {R : Int32} {S : Nat → Prop} (hR : ∀ i, bt R i = true → S i) (hc : ∀ p q, p < 6 → S p → bt (lk p) q = true → S q) : ∀ k, k ≤ 6 → ∀ i, bt (gpN lk R k) i = true → S i := by
  intro k
  induction k with
  | zero => intro _; exact hR
  | succ k ih =>
    intro hk i hi
    have hi2 : bt (if bt (gpN lk R k) k = true then gpN lk R k ||| lk k else gpN lk R k) i = true := hi
    split at hi2
    · rename_i e
      rw [b_or, Bool.or_eq_true] at hi2
      rcases hi2 with h | h
      · exact ih (by omega) i h
      · exact hc k i (by omega) (ih (by omega) k e) h
    · exact ih (by omega) i hi2
theorem bt_false {x : Int32} {i : Nat} (h : ¬ bt x i = true) : bt x i = false := by
  cases e : bt x i with
  | true => exact absurd e h
  | false => rfl
theorem gp_b6 {lk : Nat → Int32} {R : Int32} (hR : b6 R) (hl : ∀ k, k < 6 → b6 (lk k)) : ∀ k, k ≤ 6 → b6 (gpN lk R k) := by
  intro k hk i hi
  refine bt_false (fun h => ?_)
  have := gp_in (S := fun j => j < 6) (fun j hj => Nat.not_le.mp (fun h9 => by rw [hR j h9] at hj; cases hj)) (fun p q hp _ hq => Nat.not_le.mp (fun h9 => by rw [hl p hp q h9] at hq; cases hq)) k hk i h
  omega
theorem pow_b {s : Nat} (hs : s < 6) (i : Nat) : bt ((1 : Int32) <<< (nI s &&& 31)) i = decide (i = s) := by
  by_cases h : i < 32
  · exact hs_pow (by omega) h
  · rw [b_big (by omega)]
    symm
    exact decide_eq_false (by omega)
theorem gt_b6 {lk : Nat → Int32} {s : Nat} (hs : s < 6) (hl : ∀ k, k < 6 → b6 (lk k)) : ∀ p, b6 (gtN lk s p) := by
  intro p
  induction p with
  | zero =>
    intro i hi
    show bt ((1 : Int32) <<< (nI s &&& 31)) i = false
    rw [pow_b hs]
    exact decide_eq_false (by omega)
  | succ p ih => exact gp_b6 ih hl 6 (Nat.le_refl _)
theorem gt_up {lk : Nat → Int32} {s i : Nat} (p : Nat) (h : bt (gtN lk s p) i = true) : bt (gtN lk s (p + 1)) i = true := gp_le (k := 0) h 6 (Nat.zero_le _)
theorem gt_self {lk : Nat → Int32} {s : Nat} (hs : s < 6) : ∀ p, bt (gtN lk s p) s = true := by
  intro p
  induction p with
  | zero =>
    show bt ((1 : Int32) <<< (nI s &&& 31)) s = true
    rw [pow_b hs]
    exact decide_eq_true rfl
  | succ p ih => exact gt_up p ih
/-- how many of the places below n -/
def cN (R : Int32) : Nat → Nat
  | 0 => 0
  | n + 1 => cN R n + if bt R n = true then 1 else 0
theorem cN_le (R : Int32) : ∀ n, cN R n ≤ n := by
  intro n
  induction n with
  | zero => exact Nat.le_refl _
  | succ n ih => unfold cN; split <;> omega
theorem cN_mono {R T : Int32} : ∀ n, (∀ i, i < n → bt R i = true → bt T i = true) → cN R n ≤ cN T n := by
  intro n
  induction n with
  | zero => intro _; exact Nat.le_refl _
  | succ n ih =>
    intro h
    have h1 := ih (fun i hi => h i (by omega))
    unfold cN
    by_cases e : bt R n = true
    · rw [if_pos e, if_pos (h n (by omega) e)]; omega
    · rw [if_neg e]; omega
theorem cN_lt {R T : Int32} {j : Nat} (hj1 : bt T j = true) (hj2 : bt R j = false) : ∀ n, j < n → (∀ i, i < n → bt R i = true → bt T i = true) → cN R n < cN T n := by
  intro n
  induction n with
  | zero => intro h; omega
  | succ n ih =>
    intro hj h
    by_cases e : j = n
    · subst e
      have h1 := cN_mono (R := R) (T := T) j (fun i hi => h i (by omega))
      unfold cN
      rw [hj1, hj2]
      simp only [if_true, Bool.false_eq_true, if_false]
      omega
    · have h1 := ih (by omega) (fun i hi => h i (by omega))
      unfold cN
      by_cases e : bt R n = true
      · rw [if_pos e, if_pos (h n (by omega) e)]; omega
      · rw [if_neg e]; omega
theorem cN_pos {R : Int32} {j : Nat} (h : bt R j = true) : ∀ n, j < n → 1 ≤ cN R n := by
  intro n
  induction n with
  | zero => intro h; omega
  | succ n ih =>
    intro hj
    unfold cN
    by_cases e : j = n
    · subst e; rw [if_pos h]; omega
    · have := ih (by omega); omega
theorem cN_all {R : Int32} : ∀ n, n ≤ cN R n → ∀ i, i < n → bt R i = true := by
  intro n
  induction n with
  | zero => intro _ i hi; omega
  | succ n ih =>
    intro h i hi
    have h1 := cN_le R n
    unfold cN at h
    by_cases e : bt R n = true
    · rw [if_pos e] at h
      by_cases e2 : i = n
      · rw [e2]; exact e
      · exact ih (by omega) i (by omega)
    · rw [if_neg e] at h; omega
theorem b6_ext {R T : Int32} (hR : b6 R) (hT : b6 T) (h : ∀ i, i < 6 → bt R i = bt T i) : R = T := b_ext (fun i _ => by
  by_cases e : i < 6
  · exact h i e
  · rw [hR i (by omega), hT i (by omega)])
theorem gt_card {lk : Nat → Int32} {s : Nat} (hs : s < 6) (hl : ∀ k, k < 6 → b6 (lk k)) : ∀ p, gtN lk s (p + 1) = gtN lk s p ∨ p + 1 ≤ cN (gtN lk s p) 6 := by
  intro p
  induction p with
  | zero => exact Or.inr (cN_pos (gt_self hs 0) 6 hs)
  | succ p ih =>
    by_cases e : gtN lk s (p + 1) = gtN lk s p
    · left
      show gpN lk (gtN lk s (p + 1)) 6 = gtN lk s (p + 1)
      rw [e]
      exact e
    · right
      have h1 : p + 1 ≤ cN (gtN lk s p) 6 := ih.resolve_left e
      have hup : ∀ i, i < 6 → bt (gtN lk s p) i = true → bt (gtN lk s (p + 1)) i = true := fun i _ h => gt_up p h
      have h2 : ∃ j, j < 6 ∧ bt (gtN lk s (p + 1)) j = true ∧ bt (gtN lk s p) j = false := by
        refine Classical.byContradiction (fun hn => e (b6_ext (gt_b6 hs hl _) (gt_b6 hs hl _) (fun i hi => ?_)))
        cases h3 : bt (gtN lk s p) i with
        | true => exact hup i hi h3
        | false => exact bt_false (fun h4 => hn ⟨i, hi, h4, h3⟩)
      obtain ⟨j, hj, hj1, hj2⟩ := h2
      have := cN_lt hj1 hj2 6 hj hup
      omega
theorem gt_fix {lk : Nat → Int32} {s : Nat} (hs : s < 6) (hl : ∀ k, k < 6 → b6 (lk k)) : gtN lk s 6 = gtN lk s 5 := by
  rcases gt_card hs hl 5 with h | h
  · exact h
  · have ha := cN_all 6 h
    exact b6_ext (gt_b6 hs hl _) (gt_b6 hs hl _) (fun i hi => by rw [gt_up 5 (ha i hi), ha i hi])
theorem gt_stay {lk : Nat → Int32} {s p : Nat} (h : gtN lk s (p + 1) = gtN lk s p) : ∀ n, p ≤ n → gtN lk s n = gtN lk s p := by
  intro n
  induction n with
  | zero => intro hp; rw [show p = 0 by omega]
  | succ n ih =>
    intro hp
    by_cases e : p = n + 1
    · rw [e]
    · show gpN lk (gtN lk s n) 6 = _
      rw [ih (by omega)]
      exact h
theorem clo_self (lk : Nat → Int32) {s : Nat} (hs : s < 6) : bt (clo lk s) s = true := gt_self hs 5
theorem clo_b6 {lk : Nat → Int32} {s : Nat} (hs : s < 6) (hl : ∀ k, k < 6 → b6 (lk k)) : b6 (clo lk s) := gt_b6 hs hl 5
theorem clo_step {lk : Nat → Int32} {s p q : Nat} (hs : s < 6) (hl : ∀ k, k < 6 → b6 (lk k)) (hp : p < 6) (h : bt (clo lk s) p = true) (hq : bt (lk p) q = true) : bt (clo lk s) q = true := by
  have h1 : bt (gtN lk s 6) q = true := gp_step hp h hq
  rw [gt_fix hs hl] at h1
  exact h1
theorem clo_in {lk : Nat → Int32} {s : Nat} {S : Nat → Prop} (hs : s < 6) (h0 : S s) (hc : ∀ p q, p < 6 → S p → bt (lk p) q = true → S q) {v : Nat} (hv : bt (clo lk s) v = true) : S v := by
  have h1 : ∀ p i, bt (gtN lk s p) i = true → S i := by
    intro p
    induction p with
    | zero =>
      intro i hi
      have hi2 : bt ((1 : Int32) <<< (nI s &&& 31)) i = true := hi
      rw [pow_b hs] at hi2
      rw [of_decide_eq_true hi2]
      exact h0
    | succ p ih => exact gp_in ih hc 6 (Nat.le_refl _)
  exact h1 5 v hv
