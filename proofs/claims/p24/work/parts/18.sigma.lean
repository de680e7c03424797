/-! THE ABSTRACT STATE: whole numbers by field and place, counts, the queues -/
abbrev Ln : Type := Int32 × Int32 × Int32 × Int32 × Int32 × Int32
abbrev Sg : Type := (Nat → Nat → Int32) × (Nat → Nat) × (Nat → List Ln)
/-- fields: 0 links, 1 known (by server); 2 age, 3 modes, 4 bans, 5 members (by 4 * server + channel); 6 letter, 7 home, 8 age (by user). counts: 0 users, 1 clock, 2 lines made, 3 lines in hand -/
def sgI (σ : Sg) (f i : Nat) : Int32 := σ.1 f i
def sgN (σ : Sg) (f : Nat) : Nat := σ.2.1 f
def sgQ (σ : Sg) (w : Nat) : List Ln := σ.2.2 w
def uI (σ : Sg) (f i : Nat) (v : Int32) : Sg := ((fun g j => if g = f ∧ j = i then v else σ.1 g j), σ.2.1, σ.2.2)
def uN (σ : Sg) (f : Nat) (v : Nat) : Sg := (σ.1, (fun g => if g = f then v else σ.2.1 g), σ.2.2)
def uQ (σ : Sg) (w : Nat) (l : List Ln) : Sg := (σ.1, σ.2.1, fun v => if v = w then l else σ.2.2 v)
theorem sgI_uI (σ : Sg) (f i : Nat) (v : Int32) (g j : Nat) : sgI (uI σ f i v) g j = if g = f ∧ j = i then v else sgI σ g j := rfl
theorem sgI_uN (σ : Sg) (f v g j : Nat) : sgI (uN σ f v) g j = sgI σ g j := rfl
theorem sgI_uQ (σ : Sg) (w : Nat) (l : List Ln) (g j : Nat) : sgI (uQ σ w l) g j = sgI σ g j := rfl
theorem sgN_uI (σ : Sg) (f i : Nat) (v : Int32) (g : Nat) : sgN (uI σ f i v) g = sgN σ g := rfl
theorem sgN_uN (σ : Sg) (f v g : Nat) : sgN (uN σ f v) g = if g = f then v else sgN σ g := rfl
theorem sgN_uQ (σ : Sg) (w : Nat) (l : List Ln) (g : Nat) : sgN (uQ σ w l) g = sgN σ g := rfl
theorem sgQ_uI (σ : Sg) (f i : Nat) (v : Int32) (w : Nat) : sgQ (uI σ f i v) w = sgQ σ w := rfl
theorem sgQ_uN (σ : Sg) (f v w : Nat) : sgQ (uN σ f v) w = sgQ σ w := rfl
theorem sgQ_uQ (σ : Sg) (w : Nat) (l : List Ln) (v : Nat) : sgQ (uQ σ w l) v = if v = w then l else sgQ σ v := rfl
theorem sg_ext {σ τ : Sg} (h1 : ∀ f i, sgI σ f i = sgI τ f i) (h2 : ∀ f, sgN σ f = sgN τ f) (h3 : ∀ w, sgQ σ w = sgQ τ w) : σ = τ := by
  obtain ⟨a, b, c⟩ := σ
  obtain ⟨a', b', c'⟩ := τ
  have e1 : a = a' := funext fun f => funext fun i => h1 f i
  have e2 : b = b' := funext h2
  have e3 : c = c' := funext h3
  rw [e1, e2, e3]
/-- how many lines -/
def totN (q : Nat → List Ln) : Nat → Nat
  | 0 => 0
  | n + 1 => totN q n + (q n).length
def tot (σ : Sg) : Nat := totN (sgQ σ) 36
theorem totN_up (q : Nat → List Ln) (w : Nat) (l : List Ln) : ∀ n, totN (fun v => if v = w then l else q v) n + (if w < n then (q w).length else 0) = totN q n + (if w < n then l.length else 0) := by
  intro n
  induction n with
  | zero => simp [totN]
  | succ n ih =>
    unfold totN
    by_cases h : n = w
    · subst h
      simp only [Nat.lt_irrefl, if_false, Nat.add_zero] at ih
      simp only [if_true, Nat.lt_succ_self]
      omega
    · by_cases h2 : w < n
      · have h3 : w < n + 1 := by omega
        simp only [h2, if_true] at ih
        simp only [h3, h, if_true, if_false]
        omega
      · have h3 : ¬ w < n + 1 := by omega
        simp only [h2, if_false] at ih
        simp only [h3, h, if_false]
        omega
theorem tot_uQ (σ : Sg) {w : Nat} (hw : w < 36) (l : List Ln) : tot (uQ σ w l) + (sgQ σ w).length = tot σ + l.length := by
  have h := totN_up (sgQ σ) w l 36
  simp only [hw, if_true] at h
  exact h
theorem tot_uI (σ : Sg) (f i : Nat) (v : Int32) : tot (uI σ f i v) = tot σ := rfl
theorem tot_uN (σ : Sg) (f v : Nat) : tot (uN σ f v) = tot σ := rfl
theorem totN_ge (q : Nat → List Ln) {w : Nat} : ∀ n, w < n → (q w).length ≤ totN q n := by
  intro n
  induction n with
  | zero => intro h; omega
  | succ n ih =>
    intro h
    unfold totN
    by_cases e : w = n
    · subst e; omega
    · have := ih (by omega); omega
theorem tot_ge (σ : Sg) {w : Nat} (hw : w < 36) : (sgQ σ w).length ≤ tot σ := totN_ge (sgQ σ) 36 hw
/-! what the calls do to it -/
/-- a line goes into the queue w; the lines made grow if none is spare -/
def putL (σ : Sg) (w : Nat) (ln : Ln) : Sg := uN (uQ σ w (sgQ σ w ++ [ln])) 2 (Nat.max (sgN σ 2) (tot σ + sgN σ 3 + 1))
def spreadN (σ : Sg) (s : Nat) (but : Int32) (ln : Ln) : Nat → Sg
  | 0 => σ
  | o + 1 => if ¬ nI o = but ∧ bt (sgI σ 0 s) o = true then putL (spreadN σ s but ln o) (s * 6 + o) ln else spreadN σ s but ln o
def spreadL (σ : Sg) (s : Nat) (but : Int32) (ln : Ln) : Sg := spreadN σ s but ln 6
/-- channel i: set a field -/
def dropL (σ : Sg) (i : Nat) (u : Int32) : Sg :=
  let τ := uI σ 5 i (cb (sgI σ 5 i) u)
  if cb (sgI σ 5 i) u = 0 then uI (uI (uI τ 2 i (-1)) 3 i (-1)) 4 i (-1) else τ
def forgetN (σ : Sg) (s : Nat) (u : Int32) : Nat → Sg
  | 0 => uI σ 1 s (cb (sgI σ 1 s) u)
  | c + 1 => dropL (forgetN σ s u c) (s * 4 + c) u
def forgetL (σ : Sg) (s : Nat) (u : Int32) : Sg := forgetN σ s u 4
def settle (a x b y : Int32) : Int32 := if a = -1 then y else if b = -1 then x else if a = b then x ||| y else if b ≤ a then y else x
