/-! WHAT THE LAW ASKS OF TREES AND OF COUNTS -/
theorem tr_eq {lk : Nat → Int32} (hG : GR lk) {s t : Nat} (hs : s < 6) (h : bt (clo lk s) t = true) : clo lk s = clo lk t := by
  have ht := tr_lt hG.1 hs h
  have h2 := tr_sym hG.1 hG.2.1 hs h
  exact b_ext (fun i _ => Bool.eq_iff_iff.mpr ⟨fun e => tr_trans hG.1 ht h2 e, fun e => tr_trans hG.1 hs h e⟩)
theorem link_lk {σ : Sg} {s t : Nat} (hs : s < 6) (ht : t < 6) : sgI (linkL σ s t) 0 = sgI (connectL σ s t) 0 := by
  have u1 := burst_up (connectL σ s t) hs ht
  have u2 := burst_up (burstL (connectL σ s t) s t) ht hs
  have lk1 : sgI (burstL (connectL σ s t) s t) 0 = sgI (connectL σ s t) 0 := funext (fun i => u1.1 0 i)
  exact (funext (fun i => u2.1 0 i)).trans lk1
theorem tr_link {σ : Sg} (hG : GR (sgI σ 0)) {s t : Nat} (hs : s < 6) (ht : t < 6) (hn : ¬ bt (treeL σ s) t = true) : treeL (linkL σ s t) s = treeL σ s ||| treeL σ t ∧ treeL (linkL σ s t) t = treeL σ s ||| treeL σ t := by
  have hst : s ≠ t := fun e => hn (by rw [← e, tree_clo]; exact clo_self _ hs)
  have hG' := gr_connect hG hs ht hn
  have a1 : bt (sgI (connectL σ s t) 0 s) t = true := (connect_lk σ hs ht hst s t).mpr (Or.inr (Or.inl ⟨rfl, rfl⟩))
  have st : bt (clo (sgI (connectL σ s t) 0) s) t = true := tr_step hG'.1 hs (clo_self _ hs) a1
  have e1 : clo (sgI (connectL σ s t) 0) s = clo (sgI σ 0) s ||| clo (sgI σ 0) t := b_ext (fun i _ => by
    rw [b_or]
    refine Bool.eq_iff_iff.mpr ⟨fun e => ?_, fun e => ?_⟩
    · rw [Bool.or_eq_true]
      refine clo_in (S := fun v => bt (clo (sgI σ 0) s) v = true ∨ bt (clo (sgI σ 0) t) v = true) hs (Or.inl (clo_self _ hs)) (fun p q hp hS hq => ?_) e
      rcases (connect_lk σ hs ht hst p q).mp hq with g | ⟨-, g⟩ | ⟨-, g⟩
      · exact hS.imp (fun z => tr_step hG.1 hs z g) (fun z => tr_step hG.1 ht z g)
      · rw [g]; exact Or.inr (clo_self _ ht)
      · rw [g]; exact Or.inl (clo_self _ hs)
    · rw [Bool.or_eq_true] at e
      have mo : ∀ r, r < 6 → bt (clo (sgI σ 0) r) i = true → bt (clo (sgI (connectL σ s t) 0) r) i = true := fun r hr z => clo_mono hG'.1 (fun p q _ g => (connect_lk σ hs ht hst p q).mpr (Or.inl g)) hr z
      rcases e with e | e
      · exact mo s hs e
      · exact tr_trans hG'.1 hs st (mo t ht e))
  rw [tree_clo, tree_clo, tree_clo, tree_clo, link_lk hs ht]
  exact ⟨e1, (tr_eq hG' hs st).symm.trans e1⟩
theorem tr_unlink {σ : Sg} (hG : GR (sgI σ 0)) {s t : Nat} (hs : s < 6) (ht : t < 6) (hl : bt (sgI σ 0 s) t = true) : ¬ bt (clo (sgI (unlinkL σ s t) 0) s) t = true := fun hb => by
  have hst : s ≠ t := fun e => by rw [← e, hG.2.2.1 s hs] at hl; cases hl
  have key := clo_in (S := fun v => v = s ∨ ∃ z, z < 6 ∧ z ≠ t ∧ bt (sgI σ 0 s) z = true ∧ bt (bhl (sgI σ 0) s z) v = true) hs (Or.inl rfl) (fun p q hp hS hq => by
    obtain ⟨g, n1, n2⟩ := (unlink_lk σ hs ht hst p q).mp hq
    rcases hS with e | ⟨z, hz, hzt, hsz, hv⟩
    · rw [e] at g
      have hq6 := b66_lt hG.1 hs g
      exact Or.inr ⟨q, hq6, fun z => n1 ⟨e, z⟩, g, bh_self s hq6⟩
    · by_cases eq : q = s
      · exact Or.inl eq
      · exact Or.inr ⟨z, hz, hzt, hsz, bh_step hG.1 hs hz hv g eq⟩) hb
  rcases key with e | ⟨z, hz, hzt, hsz, hv⟩
  · exact hst e.symm
  · rw [hG.2.2.2 s z t hs hz ht hsz hl hzt] at hv
    cases hv
theorem split_lk (σ : Sg) (s t : Nat) : sgI (splitL σ s t) 0 = sgI (unlinkL σ s t) 0 := funext (fun i => fs_I (cutL σ s t) 0 i (Or.inl rfl) 6)
/-! how many lines a burst is -/
def chN (σ : Sg) (s : Nat) : Nat → Nat
  | 0 => 0
  | c + 1 => chN σ s c + if sgI σ 5 (s * 4 + c) = 0 then 0 else 1
def dueN (σ : Sg) (s : Nat) : Nat := cN (sgI σ 1 s) 20 + chN σ s 4
theorem tot_bu1 (σ : Sg) {s t : Nat} (hw : s * 6 + t < 36) : ∀ u, tot (bu1 σ s t u) = tot σ + cN (sgI σ 1 s) u := by
  intro u
  induction u with
  | zero => rfl
  | succ u ih =>
    by_cases e : bt (sgI σ 1 s) u = true
    · have h1 : bu1 σ s t (u + 1) = putL (bu1 σ s t u) (s * 6 + t) (qln 0 u) := if_pos e
      have h2 : cN (sgI σ 1 s) (u + 1) = cN (sgI σ 1 s) u + 1 := congrArg (cN (sgI σ 1 s) u + ·) (if_pos e)
      rw [h1, h2, putL_tot _ hw, ih]
      omega
    · have h1 : bu1 σ s t (u + 1) = bu1 σ s t u := if_neg e
      have h2 : cN (sgI σ 1 s) (u + 1) = cN (sgI σ 1 s) u + 0 := congrArg (cN (sgI σ 1 s) u + ·) (if_neg e)
      rw [h1, h2]; exact ih
theorem tot_bu2 (σ : Sg) {s t : Nat} (hw : s * 6 + t < 36) : ∀ c, tot (bu2 σ s t c) = tot σ + cN (sgI σ 1 s) (sgN σ 0) + chN σ s c := by
  intro c
  induction c with
  | zero => exact tot_bu1 σ hw _
  | succ c ih =>
    by_cases e : sgI σ 5 (s * 4 + c) = 0
    · have h1 : bu2 σ s t (c + 1) = bu2 σ s t c := if_neg (fun z => z e)
      have h2 : chN σ s (c + 1) = chN σ s c + 0 := congrArg (chN σ s c + ·) (if_pos e)
      rw [h1, h2]; exact ih
    · have h1 : bu2 σ s t (c + 1) = putL (bu2 σ s t c) (s * 6 + t) (chLn σ s c) := if_pos e
      have h2 : chN σ s (c + 1) = chN σ s c + 1 := congrArg (chN σ s c + ·) (if_neg e)
      rw [h1, h2, putL_tot _ hw, ih]
      omega
theorem kn_20 {σ : Sg} (hV : VI σ) (hu : sgN σ 0 ≤ 20) {s : Nat} (hs : s < 6) : cN (sgI σ 1 s) (sgN σ 0) = cN (sgI σ 1 s) 20 := by
  have h := cN_more (m := sgI σ 1 s) (k := sgN σ 0) (fun i hi => bt_false (fun e => by have := hV.2.2.1 s i hs e; omega)) (20 - sgN σ 0)
  rw [← h]
  congr 1
  omega
theorem tot_burst {σ : Sg} (hV : VI σ) (hu : sgN σ 0 ≤ 20) {s t : Nat} (hs : s < 6) (ht : t < 6) : tot (burstL σ s t) = tot σ + dueN σ s := by
  have h : tot (burstL σ s t) = _ := tot_bu2 σ (show s * 6 + t < 36 by omega) 4
  rw [h, kn_20 hV hu hs]
  unfold dueN
  omega
theorem chN_congr {σ τ : Sg} (h : ∀ i, sgI τ 5 i = sgI σ 5 i) (s : Nat) : ∀ c, chN τ s c = chN σ s c := by
  intro c
  induction c with
  | zero => rfl
  | succ c ih =>
    show chN τ s c + (if sgI τ 5 (s * 4 + c) = 0 then 0 else 1) = chN σ s c + _
    rw [ih, h]
theorem due_congr {σ τ : Sg} (h1 : ∀ i, sgI τ 1 i = sgI σ 1 i) (h5 : ∀ i, sgI τ 5 i = sgI σ 5 i) (s : Nat) : dueN τ s = dueN σ s := by
  unfold dueN
  rw [h1, chN_congr h5]
theorem tot_link {σ : Sg} (hP : PI σ) {s t : Nat} (hs : s < 6) (ht : t < 6) : tot (linkL σ s t) = tot σ + (dueN σ s + dueN σ t) := by
  have u1 := burst_up (connectL σ s t) hs ht
  have p6 := hP.2.2.2.2.2.1
  have v1 : VI (connectL σ s t) := vi_congr p6 (fun f i hf => connect_ne σ s t f i hf) rfl
  have v2 : VI (burstL (connectL σ s t) s t) := vi_congr v1 (fun f i _ => u1.1 f i) (u1.2.1 0 (by decide))
  have n0 : sgN (connectL σ s t) 0 ≤ 20 := hP.1.1
  have e1 := tot_burst v1 n0 hs ht
  have e2 := tot_burst v2 (by rw [u1.2.1 0 (by decide)]; exact n0) ht hs
  have d1 : dueN (connectL σ s t) s = dueN σ s := due_congr (fun i => connect_ne σ s t 1 i (by decide)) (fun i => connect_ne σ s t 5 i (by decide)) s
  have d2 : dueN (burstL (connectL σ s t) s t) t = dueN σ t := (due_congr (fun i => u1.1 1 i) (fun i => u1.1 5 i) t).trans (due_congr (fun i => connect_ne σ s t 1 i (by decide)) (fun i => connect_ne σ s t 5 i (by decide)) t)
  have t0 : tot (connectL σ s t) = tot σ := rfl
  have e3 : tot (linkL σ s t) = tot (burstL (burstL (connectL σ s t) s t) t s) := rfl
  rw [e3, e2, e1, d1, d2, t0]
  omega
theorem tot_spread (σ : Sg) {s : Nat} (hs : s < 6) (ln : Ln) : ∀ o, o ≤ 6 → tot (spreadN σ s (-1) ln o) = tot σ + cN (sgI σ 0 s) o := by
  intro o
  induction o with
  | zero => intro _; rfl
  | succ o ih =>
    intro ho
    have ih := ih (by omega)
    by_cases e : bt (sgI σ 0 s) o = true
    · have h1 : spreadN σ s (-1) ln (o + 1) = putL (spreadN σ s (-1) ln o) (s * 6 + o) ln := if_pos ⟨nI_m1 (by omega), e⟩
      have h2 : cN (sgI σ 0 s) (o + 1) = cN (sgI σ 0 s) o + 1 := congrArg (cN (sgI σ 0 s) o + ·) (if_pos e)
      rw [h1, h2, putL_tot _ (by omega), ih]
      omega
    · have h1 : spreadN σ s (-1) ln (o + 1) = spreadN σ s (-1) ln o := if_neg (fun z => e z.2)
      have h2 : cN (sgI σ 0 s) (o + 1) = cN (sgI σ 0 s) o + 0 := congrArg (cN (sgI σ 0 s) o + ·) (if_neg e)
      rw [h1, h2]; exact ih
theorem tot_spread_le (σ : Sg) {s : Nat} (hs : s < 6) (but : Int32) (ln : Ln) : tot σ ≤ tot (spreadL σ s but ln) := by
  have : ∀ o, o ≤ 6 → tot σ ≤ tot (spreadN σ s but ln o) := by
    intro o
    induction o with
    | zero => intro _; exact Nat.le_refl _
    | succ o ih =>
      intro ho
      have ih := ih (by omega)
      by_cases e : ¬ nI o = but ∧ bt (sgI σ 0 s) o = true
      · have h1 : spreadN σ s but ln (o + 1) = putL (spreadN σ s but ln o) (s * 6 + o) ln := if_pos e
        rw [h1, putL_tot _ (by omega)]
        omega
      · have h1 : spreadN σ s but ln (o + 1) = spreadN σ s but ln o := if_neg e
        rw [h1]
        exact ih
  exact this 6 (Nat.le_refl _)
theorem dlv_tot {σ : Sg} (hP : PI σ) {x y : Nat} (hx : x < 6) (hy : y < 6) : tot σ ≤ tot (dlvL σ x y) + 1 := by
  obtain ⟨p1, p2, p3, p4, p5, p6, p7, p8⟩ := id hP
  cases hq2 : sgQ σ (x * 6 + y) with
  | nil => rw [dlv_e hq2]; omega
  | cons ln rest =>
    have e : dlvL σ x y = uN (recvL (uN (uQ σ (x * 6 + y) rest) 3 (sgN σ 3 + 1)) y x ln) 3 (sgN σ 3) := by
      unfold dlvL
      rw [hq2]
    have hne : sgQ σ (x * 6 + y) ≠ [] := by rw [hq2]; exact fun z => by cases z
    have hxy : bt (sgI σ 0 x) y = true := Classical.byContradiction (fun h => hne (p5 x y hx hy h))
    have hyx := p4.2.1 x y hx hy hxy
    have hmem : ln ∈ sgQ σ (x * 6 + y) := by rw [hq2]; exact List.mem_cons_self
    have hwl : WFln (uN (uQ σ (x * 6 + y) rest) 3 (sgN σ 3 + 1)) ln := wf_congr (p3 _ ln hmem) rfl
    have hlx := p7 _ ln (by omega) hmem
    have t1 : tot (uN (uQ σ (x * 6 + y) rest) 3 (sgN σ 3 + 1)) + 1 = tot σ := by
      have := tot_uQ σ (show x * 6 + y < 36 by omega) rest
      rw [hq2, List.length_cons] at this
      show tot (uQ σ (x * 6 + y) rest) + 1 = tot σ
      omega
    have key := recv_q (P := fun ρ => tot (uN (uQ σ (x * 6 + y) rest) 3 (sgN σ 3 + 1)) ≤ tot ρ) (x := x) (y := y) (fun a b ha _ hq => by rw [show tot b = tot a from tot_congr (fun w => by rw [hq])]; exact ha) (fun a b l ha _ => Nat.le_trans ha (tot_spread_le a hy b l)) (fun a u ha _ => by rw [putL_tot _ (by omega)]; omega) (Nat.le_refl _) p1 hyx hwl hlx
    rw [e]
    show tot σ ≤ tot (recvL (uN (uQ σ (x * 6 + y) rest) 3 (sgN σ 3 + 1)) y x ln) + 1
    omega
theorem drI_tot {k : Nat} {p : Sg × Nat} (hp : PD k p.1) {x : Nat} (hx : x < 6) : ∀ y, y ≤ 6 → tot p.1 + p.2 ≤ tot (drI p x y).1 + (drI p x y).2 := by
  intro y
  induction y with
  | zero => intro _; exact Nat.le_refl _
  | succ y ih =>
    intro hy
    have ih := ih (by omega)
    have hq := drI_P (pd_OK k) hp hx y (by omega)
    show tot p.1 + p.2 ≤ tot (dlvL (drI p x y).1 x y) + ((drI p x y).2 + (if sgQ (drI p x y).1 (x * 6 + y) = [] then 0 else 1))
    by_cases e : sgQ (drI p x y).1 (x * 6 + y) = []
    · rw [if_pos e, dlv_e e]; exact ih
    · rw [if_neg e]
      have := dlv_tot hq.1 hx (show y < 6 by omega)
      omega
theorem drO_tot {k : Nat} {σ : Sg} (hp : PD k σ) : ∀ x, x ≤ 6 → tot σ ≤ tot (drO σ x).1 + (drO σ x).2 := by
  intro x
  induction x with
  | zero => intro _; exact Nat.le_refl _
  | succ x ih =>
    intro hx
    exact Nat.le_trans (ih (by omega)) (drI_tot (drO_P (pd_OK k) hp x (by omega)) (by omega) 6 (Nat.le_refl _))
theorem da_tot {k : Nat} {σ : Sg} (hp : PD k σ) : ∀ r, tot σ ≤ tot (daN σ r).1 + (daN σ r).2 := by
  intro r
  induction r with
  | zero => exact Nat.le_refl _
  | succ r ih =>
    have := drO_tot (da_P (pd_OK k) hp r) 6 (Nat.le_refl _)
    show tot σ ≤ tot (drL (daN σ r).1).1 + ((daN σ r).2 + (drL (daN σ r).1).2)
    have e : drL (daN σ r).1 = drO (daN σ r).1 6 := rfl
    rw [e]
    omega
/-! say -/
theorem lt_rng {σ : Sg} (hG : GR (sgI σ 0)) {hm : Nat} (hh : hm < 6) (T : Int32) : ∃ n, ltL σ hm T = nI n ∧ n < cN (treeL σ hm) 6 := by
  obtain ⟨⟨k1, k2, k3, -⟩, -⟩ := lt_outer hG hh T 5
  have h1 : 1 ≤ cN (ltO σ (sb T (nI hm)) (treeL σ hm) 5) 6 := cN_pos k3 6 hh
  have h2 : cN (ltO σ (sb T (nI hm)) (treeL σ hm) 5) 6 ≤ cN (treeL σ hm) 6 := cN_mono 6 (fun i _ hb => by rw [tree_clo]; exact k2 i hb)
  refine ⟨cN (ltO σ (sb T (nI hm)) (treeL σ hm) 5) 6 - 1, ?_, by omega⟩
  show bcL (ltO σ (sb T (nI hm)) (treeL σ hm) 5) - 1 = _
  rw [bc_6 k1]
  exact nI_sub (b := 1) h1
theorem say_c {σ : Sg} (hG : GR (sgI σ 0)) (u : Nat) {hm : Nat} (hh : hm < 6) (c : Nat) : sayL σ u hm c = -2 ∨ sayL σ u hm c = -3 ∨ sayL σ u hm c = -4 ∨ sayL σ u hm c = -5 ∨ ∃ n, n < 6 ∧ sayL σ u hm c = nI n := by
  unfold sayL
  split
  · exact Or.inl rfl
  · split
    · exact Or.inr (Or.inl rfl)
    · split
      · exact Or.inr (Or.inr (Or.inl rfl))
      · split
        · exact Or.inr (Or.inr (Or.inr (Or.inl rfl)))
        · obtain ⟨n, h1, h2⟩ := lt_rng hG hh (hmN σ (cb (sgI σ 5 (hm * 4 + c)) (nI u)) (sgN σ 0))
          have := cN_le (treeL σ hm) 6
          exact Or.inr (Or.inr (Or.inr (Or.inr ⟨n, by omega, h1⟩)))
