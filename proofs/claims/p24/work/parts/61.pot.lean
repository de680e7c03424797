/-! WHAT LINES AND KNOWN USERS WEIGH: each delivery makes it less -/
def lsm (f : Ln → Nat) : List Ln → Nat
  | [] => 0
  | a :: l => f a + lsm f l
theorem lsm_app (f : Ln → Nat) (a : Ln) : ∀ l, lsm f (l ++ [a]) = lsm f l + f a
  | [] => by show f a + 0 = 0 + f a; omega
  | b :: l => by
    have := lsm_app f a l
    show f b + lsm f (l ++ [a]) = f b + lsm f l + f a
    omega
def wtl (lk : Nat → Int32) (x y : Nat) (ln : Ln) : Nat := if ln.1 = 1 then 1 else 3 * bta lk x y - 1
theorem wtl_pos (lk : Nat → Int32) (x : Nat) {y : Nat} (hy : y < 6) (ln : Ln) : 1 ≤ wtl lk x y ln := by
  have := bta_pos lk x hy
  unfold wtl
  split <;> omega
def PQ (lk : Nat → Int32) (q : Nat → List Ln) : Nat := smN (fun x => smN (fun y => lsm (wtl lk x y) (q (x * 6 + y))) 6) 6
def dgl (lk : Nat → Int32) (y : Nat) : Nat := smN (fun o => if bt (lk y) o = true then 1 else 0) 6
def PK (lk kn : Nat → Int32) : Nat := smN (fun v => cN (kn v) 20 * dgl lk v) 6
def Ph (σ : Sg) : Nat := PQ (sgI σ 0) (sgQ σ) + PK (sgI σ 0) (sgI σ 1)
theorem lsm_len {f : Ln → Nat} (hf : ∀ a, 1 ≤ f a) : ∀ l : List Ln, l.length ≤ lsm f l
  | [] => Nat.le_refl _
  | a :: l => by
    have h1 := lsm_len hf l
    have h2 := hf a
    show l.length + 1 ≤ f a + lsm f l
    omega
theorem totN_sm (q : Nat → List Ln) : ∀ n, totN q n = smN (fun w => (q w).length) n := by
  intro n
  induction n with
  | zero => rfl
  | succ n ih =>
    show totN q n + (q n).length = smN _ n + (q n).length
    rw [ih]
theorem sm_row (f : Nat → Nat) (x : Nat) : ∀ n, smN f (x * 6 + n) = smN f (x * 6) + smN (fun y => f (x * 6 + y)) n := by
  intro n
  induction n with
  | zero => rfl
  | succ n ih =>
    show smN f (x * 6 + n) + f (x * 6 + n) = smN f (x * 6) + (smN (fun y => f (x * 6 + y)) n + f (x * 6 + n))
    omega
theorem sm_36 (f : Nat → Nat) : ∀ n, smN f (n * 6) = smN (fun x => smN (fun y => f (x * 6 + y)) 6) n := by
  intro n
  induction n with
  | zero => rfl
  | succ n ih =>
    rw [show (n + 1) * 6 = n * 6 + 6 by omega, sm_row f n 6, ih]
    rfl
theorem tot_PQ (σ : Sg) (lk : Nat → Int32) : tot σ ≤ PQ lk (sgQ σ) := by
  unfold tot
  rw [totN_sm, show (36 : Nat) = 6 * 6 from rfl, sm_36]
  refine smN_le 6 (fun x hx => smN_le 6 (fun y hy => lsm_len (wtl_pos lk x hy) _))
theorem tot_Ph (σ : Sg) : tot σ ≤ Ph σ := Nat.le_trans (tot_PQ σ _) (Nat.le_add_right _ _)
/-- one queue has changed -/
theorem PQ_at (lk : Nat → Int32) {q q' : Nat → List Ln} {s d : Nat} (hs : s < 6) (hd : d < 6) (h : ∀ w, w ≠ s * 6 + d → q' w = q w) : PQ lk q' + lsm (wtl lk s d) (q (s * 6 + d)) = PQ lk q + lsm (wtl lk s d) (q' (s * 6 + d)) := by
  have h1 := smN_at (f := fun y => lsm (wtl lk s y) (q (s * 6 + y))) (g := fun y => lsm (wtl lk s y) (q' (s * 6 + y))) (j := d) 6 (fun i hi hne => by
    show lsm _ (q' (s * 6 + i)) = lsm _ (q (s * 6 + i))
    rw [h _ (by omega)])
  have h2 := smN_at (f := fun x => smN (fun y => lsm (wtl lk x y) (q (x * 6 + y))) 6) (g := fun x => smN (fun y => lsm (wtl lk x y) (q' (x * 6 + y))) 6) (j := s) 6 (fun i hi hne => smN_eq 6 (fun y hy => by rw [h _ (by omega)]))
  rw [if_pos hd, if_pos hd] at h1
  rw [if_pos hs, if_pos hs] at h2
  unfold PQ
  omega
theorem PQ_put (lk : Nat → Int32) (σ : Sg) {s d : Nat} (hs : s < 6) (hd : d < 6) (ln : Ln) : PQ lk (sgQ (putL σ (s * 6 + d) ln)) = PQ lk (sgQ σ) + wtl lk s d ln := by
  have hq : ∀ v, sgQ (putL σ (s * 6 + d) ln) v = if v = s * 6 + d then sgQ σ (s * 6 + d) ++ [ln] else sgQ σ v := fun v => rfl
  have h := PQ_at lk (q := sgQ σ) (q' := sgQ (putL σ (s * 6 + d) ln)) hs hd (fun w hw => by rw [hq, if_neg hw])
  rw [hq, if_pos rfl, lsm_app] at h
  omega
theorem PQ_spread (lk : Nat → Int32) (σ : Sg) {s : Nat} (hs : s < 6) (but : Int32) (ln : Ln) : ∀ o, o ≤ 6 → PQ lk (sgQ (spreadN σ s but ln o)) = PQ lk (sgQ σ) + smN (fun i => if ¬ nI i = but ∧ bt (sgI σ 0 s) i = true then wtl lk s i ln else 0) o := by
  intro o
  induction o with
  | zero => intro _; rfl
  | succ o ih =>
    intro ho
    have h1 := ih (by omega)
    show PQ lk (sgQ (if ¬ nI o = but ∧ bt (sgI σ 0 s) o = true then putL (spreadN σ s but ln o) (s * 6 + o) ln else spreadN σ s but ln o)) = PQ lk (sgQ σ) + (smN _ o + (if ¬ nI o = but ∧ bt (sgI σ 0 s) o = true then wtl lk s o ln else 0))
    by_cases e : ¬ nI o = but ∧ bt (sgI σ 0 s) o = true
    · rw [if_pos e, if_pos e, PQ_put lk _ hs (by omega), h1]
      omega
    · rw [if_neg e, if_neg e, h1]
      omega
/-- known users -/
theorem PK_at (lk : Nat → Int32) {kn kn' : Nat → Int32} {y : Nat} (hy : y < 6) (h : ∀ v, v ≠ y → kn' v = kn v) : PK lk kn' + cN (kn y) 20 * dgl lk y = PK lk kn + cN (kn' y) 20 * dgl lk y := by
  have h2 := smN_at (f := fun v => cN (kn v) 20 * dgl lk v) (g := fun v => cN (kn' v) 20 * dgl lk v) (j := y) 6 (fun i hi hne => by
    show cN (kn' i) 20 * _ = cN (kn i) 20 * _
    rw [h i hne])
  rw [if_pos hy, if_pos hy] at h2
  exact h2
theorem cN_sb (m : Int32) {u : Nat} (hu : u < 32) : ∀ n, cN (sb m (nI u)) n ≤ cN m n + (if u < n then 1 else 0) := by
  intro n
  induction n with
  | zero => exact Nat.le_add_right _ _
  | succ n ih =>
    show cN (sb m (nI u)) n + (if bt (sb m (nI u)) n = true then 1 else 0) ≤ (cN m n + if bt m n = true then 1 else 0) + (if u < n + 1 then 1 else 0)
    by_cases e : n = u
    · subst e
      rw [if_neg (Nat.lt_irrefl _)] at ih
      rw [if_pos (Nat.lt_succ_self _)]
      split <;> split <;> omega
    · have : bt (sb m (nI u)) n = true ↔ bt m n = true := by
        rw [sb_iff m hu]
        exact ⟨fun h => h.resolve_right e, Or.inl⟩
      by_cases e2 : bt m n = true
      · rw [if_pos (this.mpr e2), if_pos e2]
        by_cases e3 : u < n
        · rw [if_pos e3] at ih; rw [if_pos (by omega)]; omega
        · rw [if_neg e3] at ih; rw [if_neg (by omega)]; omega
      · rw [if_neg (fun z => e2 (this.mp z)), if_neg e2]
        by_cases e3 : u < n
        · rw [if_pos e3] at ih; rw [if_pos (by omega)]; omega
        · rw [if_neg e3] at ih; rw [if_neg (by omega)]; omega
theorem cN_cb (m : Int32) {u : Nat} (hu : u < 32) (hb : bt m u = true) : ∀ n, cN (cb m (nI u)) n + (if u < n then 1 else 0) = cN m n := by
  intro n
  induction n with
  | zero => rfl
  | succ n ih =>
    show cN (cb m (nI u)) n + (if bt (cb m (nI u)) n = true then 1 else 0) + (if u < n + 1 then 1 else 0) = cN m n + if bt m n = true then 1 else 0
    by_cases e : n = u
    · subst e
      rw [if_neg (Nat.lt_irrefl _)] at ih
      rw [if_pos (Nat.lt_succ_self _), if_pos hb, if_neg (fun z => ((cb_iff m hu n).mp z).2 rfl)]
      omega
    · have : bt (cb m (nI u)) n = true ↔ bt m n = true := by
        rw [cb_iff m hu]
        exact ⟨fun h => h.1, fun h => ⟨h, e⟩⟩
      by_cases e2 : bt m n = true
      · rw [if_pos (this.mpr e2), if_pos e2]
        by_cases e3 : u < n
        · rw [if_pos e3] at ih; rw [if_pos (by omega)]; omega
        · rw [if_neg e3] at ih; rw [if_neg (by omega)]; omega
      · rw [if_neg (fun z => e2 (this.mp z)), if_neg e2]
        by_cases e3 : u < n
        · rw [if_pos e3] at ih; rw [if_pos (by omega)]; omega
        · rw [if_neg e3] at ih; rw [if_neg (by omega)]; omega
theorem dr_I (σ : Sg) (i : Nat) (u : Int32) (f j : Nat) (hf : f < 2 ∨ 5 < f) : sgI (dropL σ i u) f j = sgI σ f j := by
  unfold dropL
  dsimp only
  split
  · rw [sgI_uI, if_neg (by omega), sgI_uI, if_neg (by omega), sgI_uI, if_neg (by omega), sgI_uI, if_neg (by omega)]
  · rw [sgI_uI, if_neg (by omega)]
theorem fgN_1 (σ : Sg) (s : Nat) (u : Int32) (v : Nat) : ∀ c, sgI (forgetN σ s u c) 1 v = if v = s then cb (sgI σ 1 s) u else sgI σ 1 v := by
  intro c
  induction c with
  | zero =>
    show sgI (uI σ 1 s (cb (sgI σ 1 s) u)) 1 v = _
    rw [sgI_uI]
    by_cases e : v = s
    · rw [if_pos ⟨rfl, e⟩, if_pos e]
    · rw [if_neg (fun z => e z.2), if_neg e]
  | succ c ih =>
    show sgI (dropL (forgetN σ s u c) (s * 4 + c) u) 1 v = _
    rw [dr_I _ _ _ _ _ (by omega), ih]
theorem fg_1 (σ : Sg) (s : Nat) (u : Int32) (v : Nat) : sgI (forgetL σ s u) 1 v = if v = s then cb (sgI σ 1 s) u else sgI σ 1 v := fgN_1 σ s u v 4
theorem fg_lk (σ : Sg) (s : Nat) (u : Int32) : sgI (forgetL σ s u) 0 = sgI σ 0 := funext (fun i => forget_I σ s u 0 i (Or.inl rfl))
theorem fg_q (σ : Sg) (s : Nat) (u : Int32) : sgQ (forgetL σ s u) = sgQ σ := funext (fun w => forgetN_Q σ s u 4 w)
theorem sp_I (σ : Sg) (s : Nat) (but : Int32) (ln : Ln) (f : Nat) : sgI (spreadL σ s but ln) f = sgI σ f := funext (fun i => spread_I σ s but ln f i)
/-- a known user is forgotten -/
theorem PK_fg (lk : Nat → Int32) (σ : Sg) {y v : Nat} (hy : y < 6) (hv : v < 20) (hb : bt (sgI σ 1 y) v = true) : PK lk (sgI (forgetL σ y (nI v)) 1) + dgl lk y = PK lk (sgI σ 1) := by
  have h := PK_at lk (kn := sgI σ 1) (kn' := sgI (forgetL σ y (nI v)) 1) hy (fun w hw => by rw [fg_1, if_neg hw])
  rw [fg_1, if_pos rfl] at h
  have h2 := cN_cb (sgI σ 1 y) (u := v) (by omega) hb 20
  rw [if_pos hv] at h2
  rw [← h2, Nat.add_mul, Nat.one_mul] at h
  omega
theorem PK_ln (lk : Nat → Int32) (σ : Sg) {y u : Nat} (hy : y < 6) (hu : u < 20) : PK lk (sgI (uI σ 1 y (sb (sgI σ 1 y) (nI u))) 1) ≤ PK lk (sgI σ 1) + dgl lk y := by
  have h := PK_at lk (kn := sgI σ 1) (kn' := sgI (uI σ 1 y (sb (sgI σ 1 y) (nI u))) 1) hy (fun w hw => by rw [sgI_uI, if_neg (fun z => hw z.2)])
  rw [sgI_uI, if_pos ⟨rfl, rfl⟩] at h
  have h2 := cN_sb (sgI σ 1 y) (u := u) (by omega) 20
  rw [if_pos hu] at h2
  have h3 := Nat.mul_le_mul_right (dgl lk y) h2
  rw [Nat.add_mul, Nat.one_mul] at h3
  omega
/-- the links of y but that to x -/
def othA (lk : Nat → Int32) (x y : Nat) : Nat := smN (fun o => if (bt (lk y) o && !decide (o = x)) = true then bta lk y o else 0) 6
def othD (lk : Nat → Int32) (x y : Nat) : Nat := smN (fun o => if (bt (lk y) o && !decide (o = x)) = true then 1 else 0) 6
theorem dgl_oth {lk : Nat → Int32} {x y : Nat} (hx : x < 6) (h : bt (lk y) x = true) : dgl lk y = othD lk x y + 1 := by
  have e := smN_at (f := fun o => if bt (lk y) o = true then 1 else 0) (g := fun o => if (bt (lk y) o && !decide (o = x)) = true then 1 else 0) (j := x) 6 (fun i hi hne => by
    show (if (bt (lk y) i && !decide (i = x)) = true then 1 else 0) = (if bt (lk y) i = true then 1 else 0)
    rw [decide_eq_false hne, Bool.not_false, Bool.and_true])
  rw [if_pos hx, if_pos hx] at e
  have e1 : (if bt (lk y) x = true then 1 else 0) = 1 := if_pos h
  have e2 : (if (bt (lk y) x && !decide (x = x)) = true then 1 else 0) = 0 := if_neg (by simp)
  unfold dgl othD
  omega
theorem but_c (lk : Nat → Int32) {x y i : Nat} (hx : x < 6) (hi : i < 6) : (¬ nI i = nI x ∧ bt (lk y) i = true) ↔ (bt (lk y) i && !decide (i = x)) = true := by
  rw [Bool.and_eq_true, Bool.not_eq_true', decide_eq_false_iff_not]
  constructor
  · rintro ⟨h1, h2⟩
    exact ⟨h2, fun e => h1 (by rw [e])⟩
  · rintro ⟨h1, h2⟩
    exact ⟨fun e => h2 ((nI_eq (by omega) (by omega)).mp e), h1⟩
/-- a line that isn't QUIT goes on from y, away from x -/
theorem sp_oth {σ : Sg} {x y : Nat} (hx : x < 6) (hy : y < 6) {ln : Ln} (hk : ¬ ln.1 = 1) : PQ (sgI σ 0) (sgQ (spreadL σ y (nI x) ln)) + othD (sgI σ 0) x y = PQ (sgI σ 0) (sgQ σ) + 3 * othA (sgI σ 0) x y := by
  have h : PQ (sgI σ 0) (sgQ (spreadL σ y (nI x) ln)) = _ := PQ_spread (sgI σ 0) σ hy (nI x) ln 6 (Nat.le_refl _)
  rw [h]
  have e : smN (fun i => if ¬ nI i = nI x ∧ bt (sgI σ 0 y) i = true then wtl (sgI σ 0) y i ln else 0) 6 + othD (sgI σ 0) x y = 3 * othA (sgI σ 0) x y := by
    unfold othA othD
    rw [← smN_add, ← smN_mul]
    refine smN_eq 6 (fun i hi => ?_)
    have hc := but_c (sgI σ 0) (y := y) hx hi
    by_cases g : (bt (sgI σ 0 y) i && !decide (i = x)) = true
    · rw [if_pos (hc.mpr g), if_pos g, if_pos g]
      have := bta_pos (sgI σ 0) y hi
      unfold wtl
      rw [if_neg hk]
      omega
    · rw [if_neg (fun z => g (hc.mp z)), if_neg g, if_neg g]
  omega
theorem sp_quit {σ : Sg} {x y : Nat} (hx : x < 6) (hy : y < 6) {ln : Ln} (hk : ln.1 = 1) : PQ (sgI σ 0) (sgQ (spreadL σ y (nI x) ln)) = PQ (sgI σ 0) (sgQ σ) + othD (sgI σ 0) x y := by
  have h : PQ (sgI σ 0) (sgQ (spreadL σ y (nI x) ln)) = _ := PQ_spread (sgI σ 0) σ hy (nI x) ln 6 (Nat.le_refl _)
  rw [h]
  unfold othD
  congr 1
  refine smN_eq 6 (fun i hi => ?_)
  have hc := but_c (sgI σ 0) (y := y) hx hi
  by_cases g : (bt (sgI σ 0 y) i && !decide (i = x)) = true
  · rw [if_pos (hc.mpr g), if_pos g]
    unfold wtl
    rw [if_pos hk]
  · rw [if_neg (fun z => g (hc.mp z)), if_neg g]
theorem sp_all {σ : Sg} {y : Nat} (hy : y < 6) {ln : Ln} (hk : ln.1 = 1) : PQ (sgI σ 0) (sgQ (spreadL σ y (-1) ln)) = PQ (sgI σ 0) (sgQ σ) + dgl (sgI σ 0) y := by
  have h : PQ (sgI σ 0) (sgQ (spreadL σ y (-1) ln)) = _ := PQ_spread (sgI σ 0) σ hy (-1) ln 6 (Nat.le_refl _)
  rw [h]
  unfold dgl
  congr 1
  refine smN_eq 6 (fun i hi => ?_)
  by_cases g : bt (sgI σ 0 y) i = true
  · rw [if_pos ⟨nI_m1 (by omega), g⟩, if_pos g]
    unfold wtl
    rw [if_pos hk]
  · rw [if_neg (fun z => g z.2), if_neg g]
/-- the line of a new user goes on -/
theorem Ph_new {τ : Sg} {x y u : Nat} (hG : GR (sgI τ 0)) (hx : x < 6) (hy : y < 6) (hyx : bt (sgI τ 0 y) x = true) (hu : u < 20) : Ph (spreadL (uI τ 1 y (sb (sgI τ 1 y) (nI u))) y (nI x) (qln 0 u)) < Ph τ + (3 * bta (sgI τ 0) x y - 1) := by
  have hl : sgI (uI τ 1 y (sb (sgI τ 1 y) (nI u))) 0 = sgI τ 0 := funext (fun i => by rw [sgI_uI, if_neg (by omega)])
  have h1 := sp_oth (σ := uI τ 1 y (sb (sgI τ 1 y) (nI u))) hx hy (ln := qln 0 u) (by show ¬ (0 : Int32) = 1; decide)
  have h2 := PK_ln (sgI τ 0) τ hy hu
  have h3 := dgl_oth hx hyx
  have h4 : othA (sgI τ 0) x y + 1 ≤ bta (sgI τ 0) x y := fs_G hG hx hy hyx
  rw [hl] at h1
  unfold Ph
  rw [sp_I, sp_I, hl]
  have hq : sgQ (uI τ 1 y (sb (sgI τ 1 y) (nI u))) = sgQ τ := rfl
  rw [hq] at h1
  omega
theorem recv_Ph {τ : Sg} (hG : GR (sgI τ 0)) (hW : WFu τ) {x y : Nat} (hx : x < 6) (hy : y < 6) (hyx : bt (sgI τ 0 y) x = true) {ln : Ln} (hwl : WFln τ ln) : Ph (recvL τ y x ln) < Ph τ + wtl (sgI τ 0) x y ln := by
  have hbp := bta_pos (sgI τ 0) x hy
  have h3 := dgl_oth hx hyx
  unfold recvL
  rcases hwl with ⟨u, hu, hl⟩ | ⟨d, hd4, hlc, hkk⟩
  · have hu' : u < 20 := by have := hW.1; omega
    obtain ⟨hm, hh, he⟩ := hW.2 u hu
    rcases hl with hl | hl
    · subst hl
      have a1 : (qln 0 u).1 = 0 := rfl
      have a2 : (qln 0 u).2.1.toNatClampNeg = u := clN (by omega)
      have aw : wtl (sgI τ 0) x y (qln 0 u) = 3 * bta (sgI τ 0) x y - 1 := if_neg (by show ¬ (0 : Int32) = 1; decide)
      rw [if_pos a1, a2, he, clN (by omega : hm < 2 ^ 31), aw]
      unfold recvUser
      split
      · split
        · exact Ph_new hG hx hy hyx hu'
        · rename_i hne
          obtain ⟨v, hv, hve, hvm⟩ := nsL_user τ hW.1 y (sgI τ 6 u) (nI u) hne
          have hv' : v < 20 := by have := hW.1; omega
          rw [hve]
          split
          · dsimp only
            have hb : bt (sgI τ 1 y) v = true := hvm.2.2
            have k1 := PK_fg (sgI τ 0) τ hy hv' hb
            have l1 := fg_lk τ y (nI v)
            have k2 := sp_all (σ := forgetL τ y (nI v)) hy (ln := (1, nI v, 0, 0, 0, 0)) rfl
            rw [l1, fg_q] at k2
            have l2 : sgI (spreadL (forgetL τ y (nI v)) y (-1) (1, nI v, 0, 0, 0, 0)) 0 = sgI τ 0 := by rw [sp_I, l1]
            have k3 : Ph (spreadL (forgetL τ y (nI v)) y (-1) (1, nI v, 0, 0, 0, 0)) = Ph τ := by
              unfold Ph
              rw [l2, k2, sp_I]
              omega
            have k4 := Ph_new (τ := spreadL (forgetL τ y (nI v)) y (-1) (1, nI v, 0, 0, 0, 0)) (x := x) (y := y) (u := u) (by rw [l2]; exact hG) hx hy (by rw [l2]; exact hyx) hu'
            rw [k3, l2] at k4
            exact k4
          · unfold Ph
            have p1 := PQ_put (sgI τ 0) τ hy hx (qln 1 u)
            have p2 : wtl (sgI τ 0) y x (qln 1 u) = 1 := if_pos rfl
            have p3 : sgI (putL τ (y * 6 + x) (qln 1 u)) 0 = sgI τ 0 := rfl
            have p4 : sgI (putL τ (y * 6 + x) (qln 1 u)) 1 = sgI τ 1 := rfl
            rw [p3, p4, p1, p2]
            omega
      · omega
    · subst hl
      have a0 : ¬ (qln 1 u).1 = 0 := by show ¬ (1 : Int32) = 0; decide
      have a1 : (qln 1 u).1 = 1 := rfl
      have a2 : (qln 1 u).2.1.toNatClampNeg = u := clN (by omega)
      have aw : wtl (sgI τ 0) x y (qln 1 u) = 1 := if_pos rfl
      rw [if_neg a0, if_pos a1, a2, aw]
      unfold recvQuit
      split
      · rename_i hb
        have k1 := PK_fg (sgI τ 0) τ hy hu' hb
        have l1 := fg_lk τ y (nI u)
        have k2 := sp_quit (σ := forgetL τ y (nI u)) hx hy (ln := qln 1 u) rfl
        rw [l1, fg_q] at k2
        unfold Ph
        rw [sp_I, sp_I, l1, k2]
        omega
      · omega
  · have n0 : ¬ ln.1 = 0 := by rcases hkk with e | e | e <;> (rw [e]; decide)
    have n1 : ¬ ln.1 = 1 := by rcases hkk with e | e | e <;> (rw [e]; decide)
    have aw : wtl (sgI τ 0) x y ln = 3 * bta (sgI τ 0) x y - 1 := if_neg n1
    rw [if_neg n0, if_neg n1, aw]
    -- the state but for the channel
    have fin : ∀ ρ : Sg, sgI ρ 0 = sgI τ 0 → sgI ρ 1 = sgI τ 1 → sgQ ρ = sgQ τ → Ph (spreadL ρ y (nI x) ln) < Ph τ + (3 * bta (sgI τ 0) x y - 1) := by
      intro ρ r0 r1 rq
      have k1 := sp_oth (σ := ρ) hx hy (ln := ln) n1
      have h4 : othA (sgI τ 0) x y + 1 ≤ bta (sgI τ 0) x y := fs_G hG hx hy hyx
      rw [r0, rq] at k1
      unfold Ph
      rw [sp_I, sp_I, r0, r1]
      omega
    have uo : ∀ (ρ : Sg) (f i : Nat) (z : Int32) (g : Nat), g < 2 → 2 ≤ f → sgI (uI ρ f i z) g = sgI ρ g := fun ρ f i z g h1 h2 => funext (fun j => by rw [sgI_uI, if_neg (by omega)])
    split
    · refine fin _ ?_ ?_ (funext (fun w => chan_Q τ y ln w))
      · exact funext (fun i => chan_I τ y ln 0 i (Or.inl rfl))
      · unfold chanSet
        split
        · rfl
        · exact funext (fun i => take_I τ _ _ _ _ _ 1 i (by omega))
    · split
      · exact fin _ (funext (fun i => dr_I τ _ _ 0 i (by omega))) (funext (fun i => dr_I τ _ _ 1 i (by omega))) (funext (fun w => drop_Q τ _ _ w))
      · refine fin _ ?_ ?_ (funext (fun w => mode_Q τ _ _ _ _ w))
        · exact funext (fun i => mode_I τ _ _ _ _ 0 i (Or.inl rfl))
        · unfold modeSet
          split
          · rw [uo _ _ _ _ 1 (by omega) (by omega), uo _ _ _ _ 1 (by omega) (by omega)]
          · rfl
/-- no link, no line -/
def nolk (σ : Sg) : Prop := ∀ x y, x < 6 → y < 6 → ¬ bt (sgI σ 0 x) y = true → sgQ σ (x * 6 + y) = []
theorem dlv_falls {σ : Sg} (hG : GR (sgI σ 0)) (hW : WFu σ) (hq : wfq σ) (hN : nolk σ) {x y : Nat} (hx : x < 6) (hy : y < 6) (hne : sgQ σ (x * 6 + y) ≠ []) : Ph (dlvL σ x y) < Ph σ := by
  have hxy : bt (sgI σ 0 x) y = true := Classical.byContradiction (fun h => hne (hN x y hx hy h))
  cases hq2 : sgQ σ (x * 6 + y) with
  | nil => exact absurd hq2 hne
  | cons ln rest =>
    have e : dlvL σ x y = uN (recvL (uN (uQ σ (x * 6 + y) rest) 3 (sgN σ 3 + 1)) y x ln) 3 (sgN σ 3) := by
      unfold dlvL
      rw [hq2]
    rw [e]
    have hmem : ln ∈ sgQ σ (x * 6 + y) := by rw [hq2]; exact List.mem_cons_self
    have h1 := recv_Ph (τ := uN (uQ σ (x * 6 + y) rest) 3 (sgN σ 3 + 1)) hG hW hx hy (hG.2.1 x y hx hy hxy) (wf_congr (hq _ ln hmem) rfl)
    have qq : ∀ v, sgQ (uN (uQ σ (x * 6 + y) rest) 3 (sgN σ 3 + 1)) v = if v = x * 6 + y then rest else sgQ σ v := fun v => rfl
    have h2 := PQ_at (sgI σ 0) (q := sgQ σ) (q' := sgQ (uN (uQ σ (x * 6 + y) rest) 3 (sgN σ 3 + 1))) hx hy (fun w hw => by rw [qq, if_neg hw])
    rw [qq, if_pos rfl, hq2] at h2
    have h2 : PQ (sgI σ 0) (sgQ (uN (uQ σ (x * 6 + y) rest) 3 (sgN σ 3 + 1))) + (wtl (sgI σ 0) x y ln + lsm (wtl (sgI σ 0) x y) rest) = PQ (sgI σ 0) (sgQ σ) + lsm (wtl (sgI σ 0) x y) rest := h2
    have h3 : Ph (uN (uQ σ (x * 6 + y) rest) 3 (sgN σ 3 + 1)) + wtl (sgI σ 0) x y ln = Ph σ := by
      show PQ (sgI σ 0) (sgQ (uN (uQ σ (x * 6 + y) rest) 3 (sgN σ 3 + 1))) + PK (sgI σ 0) (sgI σ 1) + _ = PQ (sgI σ 0) (sgQ σ) + PK (sgI σ 0) (sgI σ 1)
      omega
    rw [← h3]
    exact h1
