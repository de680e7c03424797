/-! delivering comes to an end -/
theorem totN_0 (q : Nat → List Ln) : ∀ n, (∀ w, w < n → q w = []) → totN q n = 0 := by
  intro n
  induction n with
  | zero => intro _; rfl
  | succ n ih =>
    intro h
    show totN q n + (q n).length = 0
    rw [ih (fun w hw => h w (by omega)), h n (by omega)]
    rfl
def falls (P : Sg → Prop) (Ph : Sg → Nat) : Prop := ∀ τ x y, P τ → x < 6 → y < 6 → sgQ τ (x * 6 + y) ≠ [] → Ph (dlvL τ x y) < Ph τ
theorem drI_cnt {P : Sg → Prop} {Ph : Sg → Nat} (hO : OKd P) (hf : falls P Ph) {p : Sg × Nat} (hp : P p.1) {x : Nat} (hx : x < 6) : ∀ y, y ≤ 6 → p.2 ≤ (drI p x y).2 ∧ Ph (drI p x y).1 + (drI p x y).2 ≤ Ph p.1 + p.2 ∧ ((drI p x y).2 = p.2 → (drI p x y).1 = p.1 ∧ ∀ z, z < y → sgQ p.1 (x * 6 + z) = []) := by
  intro y
  induction y with
  | zero => intro _; exact ⟨Nat.le_refl _, Nat.le_refl _, fun _ => ⟨rfl, fun z hz => by omega⟩⟩
  | succ y ih =>
    intro hy
    obtain ⟨h1, h2, h3⟩ := ih (by omega)
    have hP := drI_P hO hp hx y (by omega)
    have e1 : (drI p x (y + 1)).1 = dlvL (drI p x y).1 x y := rfl
    have e2 : (drI p x (y + 1)).2 = (drI p x y).2 + (if sgQ (drI p x y).1 (x * 6 + y) = [] then 0 else 1) := rfl
    rw [e1, e2]
    by_cases e : sgQ (drI p x y).1 (x * 6 + y) = []
    · rw [if_pos e, dlv_e e]
      refine ⟨by omega, by omega, fun h => ?_⟩
      obtain ⟨k1, k2⟩ := h3 (by omega)
      refine ⟨k1, fun z hz => ?_⟩
      by_cases ez : z = y
      · rw [ez, ← k1]; exact e
      · exact k2 z (by omega)
    · rw [if_neg e]
      have := hf _ x y hP hx (by omega) e
      exact ⟨by omega, by omega, fun h => by omega⟩
theorem drO_cnt {P : Sg → Prop} {Ph : Sg → Nat} (hO : OKd P) (hf : falls P Ph) {σ : Sg} (hp : P σ) : ∀ x, x ≤ 6 → Ph (drO σ x).1 + (drO σ x).2 ≤ Ph σ ∧ ((drO σ x).2 = 0 → (drO σ x).1 = σ ∧ ∀ z, z < x → ∀ y, y < 6 → sgQ σ (z * 6 + y) = []) := by
  intro x
  induction x with
  | zero => intro _; exact ⟨Nat.le_refl _, fun _ => ⟨rfl, fun z hz => by omega⟩⟩
  | succ x ih =>
    intro hx
    obtain ⟨h1, h2⟩ := ih (by omega)
    have hP := drO_P hO hp x (by omega)
    obtain ⟨k1, k2, k3⟩ := drI_cnt hO hf hP (x := x) (by omega) 6 (by omega)
    have e1 : drO σ (x + 1) = drI (drO σ x) x 6 := rfl
    rw [e1]
    refine ⟨by omega, fun h => ?_⟩
    obtain ⟨a1, a2⟩ := h2 (by omega)
    obtain ⟨b1, b2⟩ := k3 (by omega)
    refine ⟨b1.trans a1, fun z hz y hy => ?_⟩
    by_cases ez : z = x
    · rw [ez, ← a1]; exact b2 y hy
    · exact a2 z (by omega) y hy
theorem dr_falls {P : Sg → Prop} {Ph : Sg → Nat} (hO : OKd P) (hf : falls P Ph) {σ : Sg} (hp : P σ) (ht : tot σ ≠ 0) : Ph (drL σ).1 < Ph σ := by
  obtain ⟨h1, h2⟩ := drO_cnt hO hf hp 6 (by omega)
  have hne : (drO σ 6).2 ≠ 0 := fun e => ht (by
    obtain ⟨-, h4⟩ := h2 e
    refine totN_0 (sgQ σ) 36 (fun w hw => ?_)
    have := h4 (w / 6) (by omega) (w % 6) (by omega)
    rw [show w / 6 * 6 + w % 6 = w by omega] at this
    exact this)
  show Ph (drO σ 6).1 < Ph σ
  omega
theorem da_falls {P : Sg → Prop} {Ph : Sg → Nat} (hO : OKd P) (hf : falls P Ph) {σ : Sg} (hp : P σ) : ∀ r, (∀ z, z < r → tot (daN σ z).1 ≠ 0) → Ph (daN σ r).1 + r ≤ Ph σ := by
  intro r
  induction r with
  | zero => intro _; exact Nat.le_refl _
  | succ r ih =>
    intro h
    have h1 := ih (fun z hz => h z (by omega))
    have h2 := dr_falls hO hf (da_P hO hp r) (h r (by omega))
    show Ph (drL (daN σ r).1).1 + (r + 1) ≤ Ph σ
    omega
theorem least {f : Nat → Nat} : ∀ n, (∃ R, R ≤ n ∧ f R = 0 ∧ ∀ r, r < R → f r ≠ 0) ∨ ∀ r, r ≤ n → f r ≠ 0 := by
  intro n
  induction n with
  | zero =>
    by_cases e : f 0 = 0
    · exact Or.inl ⟨0, by omega, e, fun r hr => by omega⟩
    · exact Or.inr (fun r hr => by rw [Nat.le_zero.mp hr]; exact e)
  | succ n ih =>
    rcases ih with ⟨R, h1, h2, h3⟩ | h
    · exact Or.inl ⟨R, by omega, h2, h3⟩
    · by_cases e : f (n + 1) = 0
      · exact Or.inl ⟨n + 1, by omega, e, fun r hr => h r (by omega)⟩
      · refine Or.inr (fun r hr => ?_)
        by_cases er : r = n + 1
        · rw [er]; exact e
        · exact h r (by omega)
/-- how many rounds it takes -/
theorem da_R {P : Sg → Prop} {Ph : Sg → Nat} (hO : OKd P) (hf : falls P Ph) {σ : Sg} (hp : P σ) : ∃ R, R ≤ Ph σ ∧ tot (daN σ R).1 = 0 ∧ ∀ r, r < R → tot (daN σ r).1 ≠ 0 := by
  rcases least (f := fun r => tot (daN σ r).1) (Ph σ) with h | h
  · exact h
  · have := da_falls hO hf hp (Ph σ + 1) (fun z hz => h z (by omega))
    omega
/-- what waits when all is delivered: nothing -/
theorem tot_q {σ : Sg} (h : tot σ = 0) : ∀ w, w < 36 → sgQ σ w = [] := by
  intro w hw
  have := tot_ge σ hw
  cases e : sgQ σ w with
  | nil => rfl
  | cons a l => rw [e, List.length_cons] at this; omega
