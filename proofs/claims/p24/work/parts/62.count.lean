/-! HOW MANY LINES: what a call adds -/
def qcn : List Ln → Nat
  | [] => 0
  | a :: l => (if a.1 = 1 then 0 else 1) + qcn l
def qcu : List Ln → Nat
  | [] => 0
  | a :: l => (if a.1 = 1 then 1 else 0) + qcu l
theorem qcn_app (a : Ln) : ∀ l, qcn (l ++ [a]) = qcn l + if a.1 = 1 then 0 else 1
  | [] => by show (if a.1 = 1 then 0 else 1) + 0 = 0 + _; omega
  | b :: l => by
    have := qcn_app a l
    show (if b.1 = 1 then 0 else 1) + qcn (l ++ [a]) = (if b.1 = 1 then 0 else 1) + qcn l + _
    omega
theorem qcu_app (a : Ln) : ∀ l, qcu (l ++ [a]) = qcu l + if a.1 = 1 then 1 else 0
  | [] => by show (if a.1 = 1 then 1 else 0) + 0 = 0 + _; omega
  | b :: l => by
    have := qcu_app a l
    show (if b.1 = 1 then 1 else 0) + qcu (l ++ [a]) = (if b.1 = 1 then 1 else 0) + qcu l + _
    omega
theorem lsm_qc (lk : Nat → Int32) (x y : Nat) : ∀ l, lsm (wtl lk x y) l = qcu l + qcn l * (3 * bta lk x y - 1)
  | [] => by show 0 = 0 + 0 * _; omega
  | a :: l => by
    have ih := lsm_qc lk x y l
    show wtl lk x y a + lsm (wtl lk x y) l = ((if a.1 = 1 then 1 else 0) + qcu l) + ((if a.1 = 1 then 0 else 1) + qcn l) * (3 * bta lk x y - 1)
    rw [ih]
    unfold wtl
    by_cases e : a.1 = 1
    · rw [if_pos e, if_pos e, if_pos e, Nat.zero_add]
      omega
    · rw [if_neg e, if_neg e, if_neg e, Nat.add_mul, Nat.one_mul]
      omega
/-- calls so far: k; each server has its share of them -/
def JJ (σ : Sg) (k : Nat) : Prop := ∃ c : Nat → Nat, smN c 6 ≤ k ∧ ∀ x y, x < 6 → y < 6 → qcn (sgQ σ (x * 6 + y)) ≤ c x + 24 ∧ qcu (sgQ σ (x * 6 + y)) ≤ c x
theorem JJ_mono {σ : Sg} {k m : Nat} (h : JJ σ k) (hm : k ≤ m) : JJ σ m := by
  obtain ⟨c, h1, h2⟩ := h
  exact ⟨c, by omega, h2⟩
theorem JJ_le {σ τ : Sg} {k : Nat} (h : JJ σ k) (h1 : ∀ w, w < 36 → qcn (sgQ τ w) ≤ qcn (sgQ σ w) ∧ qcu (sgQ τ w) ≤ qcu (sgQ σ w)) : JJ τ k := by
  obtain ⟨c, g1, g2⟩ := h
  refine ⟨c, g1, fun x y hx hy => ?_⟩
  have a := g2 x y hx hy
  have b := h1 (x * 6 + y) (by omega)
  omega
/-- lines have come to the queues of s: a that aren't QUIT, b QUIT, at most, in each -/
def ap (σ τ : Sg) (s a b : Nat) : Prop := ∀ x y, x < 6 → y < 6 → qcn (sgQ τ (x * 6 + y)) ≤ qcn (sgQ σ (x * 6 + y)) + (if x = s then a else 0) ∧ qcu (sgQ τ (x * 6 + y)) ≤ qcu (sgQ σ (x * 6 + y)) + (if x = s then b else 0)
theorem ap_q {σ τ : Sg} (h : sgQ τ = sgQ σ) (s : Nat) : ap σ τ s 0 0 := fun x y _ _ => by rw [h]; exact ⟨Nat.le_add_right _ _, Nat.le_add_right _ _⟩
theorem ap_tr {σ τ ρ : Sg} {s a b a' b' : Nat} (h : ap σ τ s a b) (h2 : ap τ ρ s a' b') : ap σ ρ s (a + a') (b + b') := fun x y hx hy => by
  have g1 := h x y hx hy
  have g2 := h2 x y hx hy
  by_cases e : x = s
  · rw [if_pos e, if_pos e] at g1 g2 ⊢
    omega
  · rw [if_neg e, if_neg e] at g1 g2 ⊢
    omega
theorem ap_put (σ : Sg) {s d : Nat} (hd : d < 6) (ln : Ln) : ap σ (putL σ (s * 6 + d) ln) s (if ln.1 = 1 then 0 else 1) (if ln.1 = 1 then 1 else 0) := fun x y hx hy => by
  have hq : sgQ (putL σ (s * 6 + d) ln) (x * 6 + y) = if x * 6 + y = s * 6 + d then sgQ σ (s * 6 + d) ++ [ln] else sgQ σ (x * 6 + y) := rfl
  rw [hq]
  by_cases e : x * 6 + y = s * 6 + d
  · rw [if_pos e, qcn_app, qcu_app, ← e]
    by_cases e2 : x = s
    · rw [if_pos e2, if_pos e2]; omega
    · exfalso
      omega
  · rw [if_neg e]
    omega
theorem spq (σ : Sg) {s : Nat} (hs : s < 6) (but : Int32) (ln : Ln) : ∀ o, o ≤ 6 → ∀ x y, x < 6 → y < 6 → sgQ (spreadN σ s but ln o) (x * 6 + y) = if x = s ∧ y < o ∧ ¬ nI y = but ∧ bt (sgI σ 0 s) y = true then sgQ σ (x * 6 + y) ++ [ln] else sgQ σ (x * 6 + y) := by
  intro o
  induction o with
  | zero => intro _ x y hx hy; rw [if_neg (by omega)]; rfl
  | succ o ih =>
    intro ho x y hx hy
    have h1 := ih (by omega)
    show sgQ (if ¬ nI o = but ∧ bt (sgI σ 0 s) o = true then putL (spreadN σ s but ln o) (s * 6 + o) ln else spreadN σ s but ln o) (x * 6 + y) = _
    by_cases e : ¬ nI o = but ∧ bt (sgI σ 0 s) o = true
    · rw [if_pos e]
      have hq : sgQ (putL (spreadN σ s but ln o) (s * 6 + o) ln) (x * 6 + y) = if x * 6 + y = s * 6 + o then sgQ (spreadN σ s but ln o) (s * 6 + o) ++ [ln] else sgQ (spreadN σ s but ln o) (x * 6 + y) := rfl
      rw [hq]
      by_cases e2 : x * 6 + y = s * 6 + o
      · have ex : x = s := by omega
        have ey : y = o := by omega
        subst ex
        subst ey
        rw [if_pos rfl, h1 x y hx hy, if_neg (by omega), if_pos ⟨rfl, by omega, e⟩]
      · rw [if_neg e2, h1 x y hx hy]
        by_cases e3 : x = s ∧ y < o ∧ ¬ nI y = but ∧ bt (sgI σ 0 s) y = true
        · rw [if_pos e3, if_pos ⟨e3.1, by omega, e3.2.2⟩]
        · rw [if_neg e3, if_neg (fun z => e3 ⟨z.1, by omega, z.2.2⟩)]
    · rw [if_neg e, h1 x y hx hy]
      by_cases e3 : x = s ∧ y < o ∧ ¬ nI y = but ∧ bt (sgI σ 0 s) y = true
      · rw [if_pos e3, if_pos ⟨e3.1, by omega, e3.2.2⟩]
      · rw [if_neg e3, if_neg (fun z => e3 ⟨z.1, by
          have : y ≠ o := fun ey => by rw [ey] at z; exact e z.2.2
          omega, z.2.2⟩)]
theorem ap_spread (σ : Sg) {s : Nat} (hs : s < 6) (but : Int32) (ln : Ln) : ap σ (spreadL σ s but ln) s (if ln.1 = 1 then 0 else 1) (if ln.1 = 1 then 1 else 0) := fun x y hx hy => by
  have hq : sgQ (spreadL σ s but ln) (x * 6 + y) = _ := spq σ hs but ln 6 (Nat.le_refl _) x y hx hy
  rw [hq]
  by_cases e : x = s ∧ y < 6 ∧ ¬ nI y = but ∧ bt (sgI σ 0 s) y = true
  · rw [if_pos e, if_pos e.1, if_pos e.1, qcn_app, qcu_app]; exact ⟨Nat.le_refl _, Nat.le_refl _⟩
  · rw [if_neg e]; exact ⟨Nat.le_add_right _ _, Nat.le_add_right _ _⟩
theorem JJ_ap {σ τ : Sg} {k s a b : Nat} (hs : s < 6) (h : JJ σ k) (h1 : ap σ τ s a b) (ha : a ≤ 1) (hb : b ≤ 1) : JJ τ (k + 1) := by
  obtain ⟨c, g1, g2⟩ := h
  refine ⟨fun x => if x = s then c x + 1 else c x, ?_, fun x y hx hy => ?_⟩
  · have e := smN_at (f := c) (g := fun x => if x = s then c x + 1 else c x) (j := s) 6 (fun i hi hne => by show (if i = s then _ else _) = _; rw [if_neg hne])
    rw [if_pos hs, if_pos hs] at e
    have e2 : (if s = s then c s + 1 else c s) = c s + 1 := if_pos rfl
    omega
  · have q := g2 x y hx hy
    have r := h1 x y hx hy
    show _ ≤ (if x = s then c x + 1 else c x) + 24 ∧ _ ≤ (if x = s then c x + 1 else c x)
    by_cases e : x = s
    · rw [if_pos e, if_pos e] at r
      rw [if_pos e]
      omega
    · rw [if_neg e, if_neg e] at r
      rw [if_neg e]
      omega
/-- the weight of all that waits -/
theorem J_Ph {σ : Sg} {k : Nat} (hG : GR (sgI σ 0)) (hN : nolk σ) (h : JJ σ k) : Ph σ ≤ 15 * k + 2880 := by
  obtain ⟨c, g1, g2⟩ := h
  have hPK : PK (sgI σ 0) (sgI σ 1) ≤ 720 := by
    have h1 : PK (sgI σ 0) (sgI σ 1) ≤ smN (fun _ => 120) 6 := smN_le 6 (fun v hv => by
      have a := cN_le (sgI σ 1 v) 20
      have b : dgl (sgI σ 0) v ≤ 6 := by
        have : dgl (sgI σ 0) v ≤ smN (fun _ => 1) 6 := smN_le 6 (fun o ho => by split <;> omega)
        rw [smN_const] at this
        omega
      exact Nat.le_trans (Nat.mul_le_mul a b) (by omega))
    rw [smN_const] at h1
    omega
  have hPQ : PQ (sgI σ 0) (sgQ σ) ≤ 15 * k + 2160 := by
    have h1 : PQ (sgI σ 0) (sgQ σ) ≤ smN (fun x => 15 * c x + 360) 6 := smN_le 6 (fun x hx => by
      have h2 : smN (fun y => lsm (wtl (sgI σ 0) x y) (sgQ σ (x * 6 + y))) 6 ≤ smN (fun y => (3 * c x + 72) * (if bt (sgI σ 0 x) y = true then bta (sgI σ 0) x y else 0)) 6 := smN_le 6 (fun y hy => by
        have q := g2 x y hx hy
        show lsm (wtl (sgI σ 0) x y) (sgQ σ (x * 6 + y)) ≤ (3 * c x + 72) * (if bt (sgI σ 0 x) y = true then bta (sgI σ 0) x y else 0)
        by_cases e : bt (sgI σ 0 x) y = true
        · rw [if_pos e, lsm_qc]
          have hb := bta_pos (sgI σ 0) x hy
          generalize bta (sgI σ 0) x y = β at hb ⊢
          have m1 : qcn (sgQ σ (x * 6 + y)) * (3 * β - 1) ≤ (c x + 24) * (3 * β - 1) := Nat.mul_le_mul_right _ q.1
          have m2 : (c x + 24) * (3 * β - 1) + (c x + 24) = (c x + 24) * (3 * β) := by
            rw [← Nat.mul_succ]
            congr 1
            omega
          have m3 : (c x + 24) * (3 * β) = (3 * c x + 72) * β := by
            rw [← Nat.mul_assoc]
            congr 1
            omega
          omega
        · rw [hN x y hx hy e]
          exact Nat.zero_le _)
      have h3 := fs_F hG hx
      rw [smN_mul] at h2
      have h4 := Nat.mul_le_mul_left (3 * c x + 72) h3
      show smN (fun y => lsm (wtl (sgI σ 0) x y) (sgQ σ (x * 6 + y))) 6 ≤ 15 * c x + 360
      omega)
    rw [smN_add, smN_mul, smN_const] at h1
    omega
  unfold Ph
  omega
/-- lines made -/
def md (σ τ : Sg) (n : Nat) : Prop := sgN τ 2 ≤ Nat.max (sgN σ 2) (tot σ + sgN σ 3 + n) ∧ tot τ ≤ tot σ + n ∧ sgN τ 3 = sgN σ 3
theorem md_q {σ τ : Sg} (h : sgQ τ = sgQ σ) (h2 : sgN τ 2 = sgN σ 2) (h3 : sgN τ 3 = sgN σ 3) : md σ τ 0 := ⟨by rw [h2]; exact nmax_le, by unfold tot; rw [h]; exact Nat.le_refl _, h3⟩
theorem md_tr {σ τ ρ : Sg} {n m : Nat} (h : md σ τ n) (h2 : md τ ρ m) : md σ ρ (n + m) := by
  obtain ⟨a1, a2, a3⟩ := h
  obtain ⟨b1, b2, b3⟩ := h2
  refine ⟨Nat.le_trans b1 (nmax_lub (Nat.le_trans a1 (nmax_lub nmax_le (Nat.le_trans ?_ nmax_le'))) (Nat.le_trans ?_ nmax_le')), by omega, b3.trans a3⟩
  · omega
  · rw [a3]; omega
theorem md_mono {σ τ : Sg} {n m : Nat} (h : md σ τ n) (hm : n ≤ m) : md σ τ m := ⟨Nat.le_trans h.1 (nmax_lub nmax_le (Nat.le_trans (by omega) nmax_le')), by have := h.2.1; omega, h.2.2⟩
theorem md_put (σ : Sg) {w : Nat} (hw : w < 36) (ln : Ln) : md σ (putL σ w ln) 1 := ⟨by rw [putL_2]; exact Nat.le_refl _, by rw [putL_tot σ hw]; exact Nat.le_refl _, rfl⟩
theorem md_spread (σ : Sg) {s : Nat} (hs : s < 6) (but : Int32) (ln : Ln) : md σ (spreadL σ s but ln) 6 := by
  have h1 := spreadN_2up σ hs but ln 6 (Nat.le_refl _)
  have h2 := (spreadN_tot σ hs but ln 6 (Nat.le_refl _)).1
  exact ⟨Nat.le_trans h1 (nmax_lub nmax_le (Nat.le_trans (by omega) nmax_le')), h2, spread_N σ s but ln 3 (by decide)⟩
theorem md_up {σ τ : Sg} {n : Nat} (h : upL σ τ n) : md σ τ n := by
  obtain ⟨u1, u2, u3, u4, u5⟩ := h
  refine ⟨Nat.le_trans u5 (nmax_lub nmax_le (Nat.le_trans (by omega) nmax_le')), by omega, u2 3 (by decide)⟩
theorem recv_ap {τ : Sg} (hW : WFu τ) {x y : Nat} (hx : x < 6) (hy : y < 6) {ln : Ln} (hwl : WFln τ ln) : ap τ (recvL τ y x ln) y 1 1 ∧ md τ (recvL τ y x ln) 12 := by
  have wk : ∀ {σ ρ : Sg} {a b : Nat}, ap σ ρ y a b → a ≤ 1 → b ≤ 1 → ap σ ρ y 1 1 := fun h ha hb x' y' hx' hy' => by
    have g := h x' y' hx' hy'
    by_cases e : x' = y
    · rw [if_pos e, if_pos e] at g; rw [if_pos e]; omega
    · rw [if_neg e, if_neg e] at g; rw [if_neg e]; exact g
  have nw : ∀ u, u < 20 → ∀ ρ : Sg, ap ρ (spreadL (uI ρ 1 y (sb (sgI ρ 1 y) (nI u))) y (nI x) (qln 0 u)) y 1 0 ∧ md ρ (spreadL (uI ρ 1 y (sb (sgI ρ 1 y) (nI u))) y (nI x) (qln 0 u)) 6 := fun u _ ρ => by
    have h1 := ap_spread (uI ρ 1 y (sb (sgI ρ 1 y) (nI u))) hy (nI x) (qln 0 u)
    have h2 := md_spread (uI ρ 1 y (sb (sgI ρ 1 y) (nI u))) hy (nI x) (qln 0 u)
    exact ⟨h1, h2⟩
  unfold recvL
  rcases hwl with ⟨u, hu, hl⟩ | ⟨d, hd4, hlc, hkk⟩
  · have hu' : u < 20 := by have := hW.1; omega
    rcases hl with hl | hl
    · subst hl
      have a1 : (qln 0 u).1 = 0 := rfl
      have a2 : (qln 0 u).2.1.toNatClampNeg = u := clN (by omega)
      rw [if_pos a1, a2]
      unfold recvUser
      split
      · split
        · exact ⟨wk (nw u hu' τ).1 (by omega) (by omega), md_mono (nw u hu' τ).2 (by omega)⟩
        · split
          · dsimp only
            have f1 := ap_q (σ := τ) (τ := forgetL τ y (nsL τ y (sgI τ 6 u) (nI u))) (fg_q τ y _) y
            have f2 := md_q (σ := τ) (τ := forgetL τ y (nsL τ y (sgI τ 6 u) (nI u))) (fg_q τ y _) (forget_N τ y _ 2) (forget_N τ y _ 3)
            have g1 := ap_spread (forgetL τ y (nsL τ y (sgI τ 6 u) (nI u))) hy (-1) (1, nsL τ y (sgI τ 6 u) (nI u), 0, 0, 0, 0)
            have g2 := md_spread (forgetL τ y (nsL τ y (sgI τ 6 u) (nI u))) hy (-1) (1, nsL τ y (sgI τ 6 u) (nI u), 0, 0, 0, 0)
            have e1 := ap_tr (ap_tr f1 g1) (nw u hu' _).1
            have e2 := md_tr (md_tr f2 g2) (nw u hu' _).2
            exact ⟨wk e1 (Nat.le_refl _) (Nat.le_refl _), md_mono e2 (by omega)⟩
          · exact ⟨wk (ap_put τ (s := y) (d := x) hx (qln 1 u)) (Nat.zero_le _) (Nat.le_refl _), md_mono (md_put τ (by omega) _) (by omega)⟩
      · exact ⟨wk (ap_q rfl y) (by omega) (by omega), md_mono (md_q rfl rfl rfl) (by omega)⟩
    · subst hl
      have a0 : ¬ (qln 1 u).1 = 0 := by show ¬ (1 : Int32) = 0; decide
      have a1 : (qln 1 u).1 = 1 := rfl
      have a2 : (qln 1 u).2.1.toNatClampNeg = u := clN (by omega)
      rw [if_neg a0, if_pos a1, a2]
      unfold recvQuit
      split
      · have e1 := ap_tr (ap_q (fg_q τ y (nI u)) y) (ap_spread (forgetL τ y (nI u)) hy (nI x) (qln 1 u))
        have e2 := md_tr (md_q (fg_q τ y (nI u)) (forget_N τ y _ 2) (forget_N τ y _ 3)) (md_spread (forgetL τ y (nI u)) hy (nI x) (qln 1 u))
        exact ⟨wk e1 (Nat.zero_le _) (Nat.le_refl _), md_mono e2 (by omega)⟩
      · exact ⟨wk (ap_q rfl y) (by omega) (by omega), md_mono (md_q rfl rfl rfl) (by omega)⟩
  · have n0 : ¬ ln.1 = 0 := by rcases hkk with e | e | e <;> (rw [e]; decide)
    have n1 : ¬ ln.1 = 1 := by rcases hkk with e | e | e <;> (rw [e]; decide)
    rw [if_neg n0, if_neg n1]
    have fin : ∀ ρ : Sg, sgQ ρ = sgQ τ → sgN ρ 2 = sgN τ 2 → sgN ρ 3 = sgN τ 3 → ap τ (spreadL ρ y (nI x) ln) y 1 1 ∧ md τ (spreadL ρ y (nI x) ln) 12 := by
      intro ρ rq r2 r3
      have e1 := ap_tr (ap_q rq y) (ap_spread ρ hy (nI x) ln)
      have e2 := md_tr (md_q rq r2 r3) (md_spread ρ hy (nI x) ln)
      rw [if_neg n1, if_neg n1] at e1
      exact ⟨wk e1 (by omega) (by omega), md_mono e2 (by omega)⟩
    split
    · exact fin _ (funext (fun w => chan_Q τ y ln w)) (chan_N τ y ln 2) (chan_N τ y ln 3)
    · split
      · exact fin _ (funext (fun w => drop_Q τ _ _ w)) (drop_N τ _ _ 2) (drop_N τ _ _ 3)
      · exact fin _ (funext (fun w => mode_Q τ _ _ _ _ w)) (mode_N τ _ _ _ _ 2) (mode_N τ _ _ _ _ 3)
theorem dlv_J {σ : Sg} (hW : WFu σ) (hq : wfq σ) {k : Nat} (h : JJ σ k) {x y : Nat} (hx : x < 6) (hy : y < 6) : JJ (dlvL σ x y) (k + 1) ∧ md σ (dlvL σ x y) 12 := by
  cases hq2 : sgQ σ (x * 6 + y) with
  | nil =>
    rw [dlv_e hq2]
    exact ⟨JJ_mono h (by omega), md_mono (md_q rfl rfl rfl) (by omega)⟩
  | cons ln rest =>
    have e : dlvL σ x y = uN (recvL (uN (uQ σ (x * 6 + y) rest) 3 (sgN σ 3 + 1)) y x ln) 3 (sgN σ 3) := by
      unfold dlvL
      rw [hq2]
    rw [e]
    have hmem : ln ∈ sgQ σ (x * 6 + y) := by rw [hq2]; exact List.mem_cons_self
    obtain ⟨r1, r2, r3, r4⟩ := recv_ap (τ := uN (uQ σ (x * 6 + y) rest) 3 (sgN σ 3 + 1)) hW hx hy (wf_congr (hq _ ln hmem) rfl)
    have qq : ∀ v, sgQ (uN (uQ σ (x * 6 + y) rest) 3 (sgN σ 3 + 1)) v = if v = x * 6 + y then rest else sgQ σ v := fun v => rfl
    have j1 : JJ (uN (uQ σ (x * 6 + y) rest) 3 (sgN σ 3 + 1)) k := JJ_le h (fun w hw => by
      rw [qq]
      split
      · rename_i ew
        rw [ew, hq2]
        exact ⟨Nat.le_add_left _ _, Nat.le_add_left _ _⟩
      · exact ⟨Nat.le_refl _, Nat.le_refl _⟩)
    have j2 := JJ_ap hy j1 r1 (Nat.le_refl _) (Nat.le_refl _)
    refine ⟨JJ_le j2 (fun w _ => ⟨Nat.le_refl _, Nat.le_refl _⟩), ?_⟩
    have t1 := tot_uQ σ (show x * 6 + y < 36 by omega) rest
    rw [hq2, List.length_cons] at t1
    have t2 : tot (uN (uQ σ (x * 6 + y) rest) 3 (sgN σ 3 + 1)) = tot (uQ σ (x * 6 + y) rest) := rfl
    have n2 : sgN (uN (uQ σ (x * 6 + y) rest) 3 (sgN σ 3 + 1)) 2 = sgN σ 2 := rfl
    have n3 : sgN (uN (uQ σ (x * 6 + y) rest) 3 (sgN σ 3 + 1)) 3 = sgN σ 3 + 1 := rfl
    rw [n2, n3, t2] at r2
    rw [t2] at r3
    refine ⟨Nat.le_trans r2 (nmax_lub nmax_le (Nat.le_trans (by omega) nmax_le')), ?_, rfl⟩
    show tot (recvL _ y x ln) ≤ _
    omega
