theorem putL_tot (σ : Sg) {w : Nat} (hw : w < 36) (ln : Ln) : tot (putL σ w ln) = tot σ + 1 := by
  have h9 := tot_uQ σ hw (sgQ σ w ++ [ln])
  rw [List.length_append, List.length_singleton] at h9
  show tot (uQ σ w (sgQ σ w ++ [ln])) = _
  omega
theorem putL_2 (σ : Sg) (w : Nat) (ln : Ln) : sgN (putL σ w ln) 2 = Nat.max (sgN σ 2) (tot σ + sgN σ 3 + 1) := rfl
theorem putL_3 (σ : Sg) (w : Nat) (ln : Ln) : sgN (putL σ w ln) 3 = sgN σ 3 := rfl
theorem putL_0 (σ : Sg) (w : Nat) (ln : Ln) : sgN (putL σ w ln) 0 = sgN σ 0 := rfl
theorem putL_1 (σ : Sg) (w : Nat) (ln : Ln) : sgN (putL σ w ln) 1 = sgN σ 1 := rfl
theorem putL_I (σ : Sg) (w : Nat) (ln : Ln) (f i : Nat) : sgI (putL σ w ln) f i = sgI σ f i := rfl
theorem nmax_le {a b : Nat} : a ≤ Nat.max a b := Nat.le_max_left a b
theorem nmax_le' {a b : Nat} : b ≤ Nat.max a b := Nat.le_max_right a b
theorem nmax_lub {a b c : Nat} (h1 : a ≤ c) (h2 : b ≤ c) : Nat.max a b ≤ c := Nat.max_le.mpr ⟨h1, h2⟩
theorem spreadN_I (σ : Sg) (s : Nat) (but : Int32) (ln : Ln) : ∀ o f i, sgI (spreadN σ s but ln o) f i = sgI σ f i := by
  intro o
  induction o with
  | zero => intro f i; rfl
  | succ o ih =>
    intro f i
    unfold spreadN
    split
    · rw [putL_I]; exact ih f i
    · exact ih f i
theorem spreadN_N (σ : Sg) (s : Nat) (but : Int32) (ln : Ln) : ∀ o f, f ≠ 2 → sgN (spreadN σ s but ln o) f = sgN σ f := by
  intro o
  induction o with
  | zero => intro f _; rfl
  | succ o ih =>
    intro f hf
    unfold spreadN
    split
    · show sgN (uN _ 2 _) f = _
      rw [sgN_uN, if_neg hf]; exact ih f hf
    · exact ih f hf
theorem spreadN_tot (σ : Sg) {s : Nat} (hs : s < 6) (but : Int32) (ln : Ln) : ∀ o, o ≤ 6 → tot (spreadN σ s but ln o) ≤ tot σ + o ∧ tot σ ≤ tot (spreadN σ s but ln o) := by
  intro o
  induction o with
  | zero => intro _; exact ⟨Nat.le_refl _, Nat.le_refl _⟩
  | succ o ih =>
    intro ho
    have := ih (by omega)
    unfold spreadN
    split
    · rw [putL_tot _ (by omega)]; omega
    · omega
theorem spreadN_2 (σ : Sg) {s : Nat} (hs : s < 6) (but : Int32) (ln : Ln) : ∀ o, sgN (spreadN σ s but ln o) 2 ≤ sgN (spreadN σ s but ln (o + 1)) 2 := by
  intro o
  show _ ≤ sgN (if _ then _ else _) 2
  split
  · exact nmax_le
  · exact Nat.le_refl _
theorem spreadN_2le (σ : Sg) {s : Nat} (hs : s < 6) (but : Int32) (ln : Ln) {o : Nat} : ∀ n, o ≤ n → sgN (spreadN σ s but ln o) 2 ≤ sgN (spreadN σ s but ln n) 2 := by
  intro n
  induction n with
  | zero => intro h; rw [Nat.le_zero.mp h]; exact Nat.le_refl _
  | succ n ih =>
    intro h
    by_cases e : o = n + 1
    · rw [e]; exact Nat.le_refl _
    · exact Nat.le_trans (ih (by omega)) (spreadN_2 σ hs but ln n)
theorem spreadN_2up (σ : Sg) {s : Nat} (hs : s < 6) (but : Int32) (ln : Ln) : ∀ o, o ≤ 6 → sgN (spreadN σ s but ln o) 2 ≤ Nat.max (sgN σ 2) (tot (spreadN σ s but ln o) + sgN σ 3) := by
  intro o
  induction o with
  | zero => intro _; exact nmax_le
  | succ o ih =>
    intro ho
    have h1 := ih (by omega)
    unfold spreadN
    split
    · rw [putL_2, putL_tot _ (by omega), spreadN_N σ s but ln o 3 (by decide)]
      refine nmax_lub (Nat.le_trans h1 (nmax_lub nmax_le ?_)) ?_
      · exact Nat.le_trans (by omega) (nmax_le')
      · exact Nat.le_trans (by omega) (nmax_le')
    · exact h1
section PC6
variable {A : Nat → Nat} {Fo : Nat → Prop} {M0 M : Mem} {σ : Sg} {hl : Nat → Option Ln}
theorem p_spread (h : RepC A Fo M0 M σ hl) {s b2 : Nat} (hs : s < 6) (but : Int32) {ln : Ln} (hb2 : hl b2 = some ln) (hn : sgN σ 2 < 90000 ∧ tot σ + sgN σ 3 < 90000) {mc ms : Nat} (hc : sgN (spreadL σ s but ln) 2 ≤ sgN σ 2 + mc) (hm : 8 * sgN (spreadL σ s but ln) 2 ≤ 8 * sgN σ 2 + ms) {post : Mem → Prop} (hp : ∀ M', RepC A Fo M0 M' (spreadL σ s but ln) hl → post M') : w_X4_spread mc ms M (A 2) (nI s) but b2 post := by
  refine Lp_for 6 (fun o z => z.1 = nI o ∧ RepC A Fo M0 z.2.1 (spreadN σ s but ln o) hl ∧ z.2.2.1 + sgN σ 2 = sgN (spreadN σ s but ln o) 2 ∧ z.2.2.2 = 8 * z.2.2.1) (fun z => z.1.toNatClampNeg) (fun c z hc hz => by rw [hz.1]; exact clN (by omega)) ⟨rfl, h, Nat.zero_add _, rfl⟩ ?_
  intro o z K ho hz hK x1 M2 k3 n4 ez
  subst ez
  obtain ⟨z1, z2, z3, z4⟩ := hz
  have z1 : x1 = nI o := z1
  have z2 : RepC A Fo M0 M2 (spreadN σ s but ln o) hl := z2
  have z3 : k3 + sgN σ 2 = sgN (spreadN σ s but ln o) 2 := z3
  have z4 : n4 = 8 * k3 := z4
  subst z1
  refine ⟨fun e => hp _ ?_, fun e J hJ => ?_⟩
  · have : 6 ≤ o := (le_nI (a := 6) (by omega) (by omega)).mp e
    have e6 : o = 6 := by omega
    subst e6
    exact z2
  · have hlt : o < 6 := Nat.not_le.mp (fun h9 => e ((le_nI (a := 6) (by omega) (by omega)).mpr h9))
    -- nothing is put
    have skip : ¬ (¬ nI o = but ∧ bt (sgI σ 0 s) o = true) → J M2 k3 n4 := fun hno => hJ _ _ _ (fun x10 e10 => hK _ hlt ⟨by show x10 = _; rw [e10, nI_1], by
      show RepC A Fo M0 M2 (spreadN σ s but ln (o + 1)) hl
      unfold spreadN; rw [if_neg hno]; exact z2, by
      show k3 + sgN σ 2 = sgN (spreadN σ s but ln (o + 1)) 2
      unfold spreadN; rw [if_neg hno]; exact z3, z4⟩)
    refine ⟨fun e1 => skip (fun hh => hh.1 e1), fun e1 => ⟨rp_w4 z2, p_haveLink z2 hs hlt ⟨fun e2 => ?_, fun e2 => ?_⟩⟩⟩
    · rw [b2i_z, spreadN_I] at e2
      exact skip (fun hh => by rw [hh.2] at e2; cases e2)
    · have hb : bt (sgI σ 0 s) o = true := by
        cases hb : bt (sgI σ 0 s) o with
        | true => rfl
        | false => exact absurd (by rw [b2i_z, spreadN_I]; exact hb) e2
      have hst : spreadN σ s but ln (o + 1) = putL (spreadN σ s but ln o) (s * 6 + o) ln := by
        show (if _ then _ else _) = _
        rw [if_pos ⟨e1, hb⟩]
      have m1 := spreadN_2le σ hs but ln (o := o + 1) 6 (by omega)
      have m0 := spreadN_2 σ hs but ln o
      have mt := spreadN_tot σ hs but ln o (by omega)
      have mu := spreadN_2up σ hs but ln o (by omega)
      have mu2 : sgN (spreadN σ s but ln o) 2 < 100000 := by
        refine Nat.lt_of_le_of_lt mu (Nat.max_lt.mpr ⟨by omega, by omega⟩)
      have hc' : sgN (spreadN σ s but ln 6) 2 ≤ sgN σ 2 + mc := hc
      have hm' : 8 * sgN (spreadN σ s but ln 6) 2 ≤ 8 * sgN σ 2 + ms := hm
      refine ⟨rp_w4 z2, sgN (spreadN σ s but ln (o + 1)) 2 - sgN (spreadN σ s but ln o) 2, 8 * (sgN (spreadN σ s but ln (o + 1)) 2 - sgN (spreadN σ s but ln o) 2), ⟨by omega, by omega⟩, p_put z2 hs hlt hb2 ⟨mu2, ?_⟩ ?_ ?_ (fun M16 h16 => hJ _ _ _ (fun x10 e10 => hK _ hlt ⟨?_, ?_, ?_, ?_⟩))⟩
      · rw [spreadN_N σ s but ln o 3 (by decide)]; omega
      · rw [← hst]; omega
      · rw [← hst]; omega
      · show x10 = _; rw [e10, nI_1]
      · show RepC A Fo M0 M16 (spreadN σ s but ln (o + 1)) hl
        rw [hst]; exact h16
      · show k3 + _ + sgN σ 2 = sgN (spreadN σ s but ln (o + 1)) 2
        omega
      · show n4 + _ = 8 * (k3 + _)
        omega
end PC6
