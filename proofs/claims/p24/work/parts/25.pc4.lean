theorem fs_fs {α : Type} (f : Nat → α) (b : Nat) (v w : α) : fset (fset f b v) b w = fset f b w := by
  funext a
  by_cases e : a = b
  · subst e; rw [fs_s, fs_s]
  · rw [fs_n _ _ e, fs_n _ _ e, fs_n _ _ e]
theorem fs_id {α : Type} (f : Nat → α) (b : Nat) {w : α} (h : f b = w) : fset f b w = f := by
  funext a
  by_cases e : a = b
  · subst e; rw [fs_s, h]
  · rw [fs_n _ _ e]
theorem wI (s t : Nat) : nI s * 6 + nI t = nI (s * 6 + t) := by
  rw [← nI_add, ← pk_mul]
  rfl
theorem uN_uN (σ : Sg) (f a b : Nat) : uN (uN σ f a) f b = uN σ f b := sg_ext (fun _ _ => rfl) (fun g => by rw [sgN_uN, sgN_uN, sgN_uN]; split <;> rfl) (fun _ => rfl)
theorem uN_id (σ : Sg) (f : Nat) {a : Nat} (h : sgN σ f = a) : uN σ f a = σ := sg_ext (fun _ _ => rfl) (fun g => by rw [sgN_uN]; split <;> simp_all) (fun _ => rfl)
theorem uQ_uQ (σ : Sg) (w : Nat) (a b : List Ln) : uQ (uQ σ w a) w b = uQ σ w b := sg_ext (fun _ _ => rfl) (fun _ => rfl) (fun g => by rw [sgQ_uQ, sgQ_uQ, sgQ_uQ]; split <;> rfl)
theorem uQ_uN (σ : Sg) (w : Nat) (l : List Ln) (f a : Nat) : uQ (uN σ f a) w l = uN (uQ σ w l) f a := rfl
theorem uQ_id (σ : Sg) (w : Nat) {l : List Ln} (h : sgQ σ w = l) : uQ σ w l = σ := sg_ext (fun _ _ => rfl) (fun _ => rfl) (fun g => by rw [sgQ_uQ]; split <;> simp_all)
section PC4
variable {A : Nat → Nat} {Fo : Nat → Prop} {M0 M : Mem} {σ : Sg} {hl : Nat → Option Ln}
theorem rp_qq (h : RepC A Fo M0 M σ hl) {w : Nat} (hw : w < 36) : gR M (A 2) 1 = some (A 8) ∧ inA M (A 8) 14 (nI w) ∧ gR M (A 8) (nI w).toNatClampNeg = some (A (60 + w)) := by
  refine ⟨h.1.2.2.1.2.2.1.2, in_nI (h.1.1 8 (by unfold vid; omega)) hw (by omega), ?_⟩
  rw [clN (by omega)]
  exact h.1.2.2.1.2.2.2.2.2 w hw
/-- a step of memory that touches references of lines, queues, spares, and the wires' counts -/
theorem rp_lines (h : RepC A Fo M0 M σ hl) {M' : Mem} {σ' : Sg} {hl' : Nat → Option Ln} (hs : ShC A Fo M0 M') (hI : ∀ b j, b ≠ A 2 → gI M' b j = gI M b j) (hσI : ∀ f i, sgI σ' f i = sgI σ f i) (h0 : sgN σ' 0 = sgN σ 0) (h1 : sgN σ' 1 = sgN σ 1) (hq : QC A Fo M' σ' hl') (h6 : hl' (A 6) ≠ none) : RepC A Fo M0 M' σ' hl' := by
  refine ⟨hs, ?_, hq, h6⟩
  have := va_oth h.1 h.2.1 (Or.inr (rp_w4 h)) hI
  exact ⟨fun f i hd => by rw [hσI]; exact this.1 f i hd, by rw [h0]; exact this.2.1, by rw [h1]; exact this.2.2⟩
theorem p_take (h : RepC A Fo M0 M σ hl) {s t : Nat} (hs : s < 6) (ht : t < 6) {post : Mem → Option Nat → Prop} (h0 : sgQ σ (s * 6 + t) = [] → post M none) (h1 : ∀ M' a ln rest, sgQ σ (s * 6 + t) = ln :: rest → hl a = none → RepC A Fo M0 M' (uN (uQ σ (s * 6 + t) rest) 3 (sgN σ 3 + 1)) (fset hl a (some ln)) → post M' (some a)) : w_X4_take M (A 2) (nI s) (nI t) post := by
  have hw : s * 6 + t < 36 := by omega
  generalize hwe : s * 6 + t = w at hw h0 h1
  have hqq := rp_qq h hw
  have hqt : ∀ w, w < 36 → gT M (A (60 + w)) = some (2, 0) := fun w hw => rp_q h hw
  refine ⟨rp_w4 h, A 8, hqq.1, by rw [wI, hwe]; exact hqq.2.1, A (60 + w), by rw [wI, hwe]; exact hqq.2.2, rp_q h hw, rp_q h hw, fun r2 e2 J4 hJ4 => ⟨fun e => ?_, fun b5 e5 => ?_⟩⟩
  · subst e
    have hq := (qc_empty h.2.2.1 hw).mp e2
    refine hJ4 _ (fun J9 hJ9 => ⟨fun _ => hJ9 _ (h0 hq), fun b10 e10 => by cases e10⟩)
  · subst e5
    have hlt : gT M b5 = some (1, 0) := by
      obtain ⟨La, Sp, ow, q1, -⟩ := h.2.2.1
      obtain ⟨b1, -, -, -, -, b6⟩ := q1 w hw
      rw [e2] at b1
      exact (b6 b5 (List.mem_of_head? b1.symm)).2.1
    have hlF : ¬ Fo b5 := by
      obtain ⟨La, Sp, ow, q1, -⟩ := h.2.2.1
      obtain ⟨b1, -, -, -, -, b6⟩ := q1 w hw
      rw [e2] at b1
      exact (b6 b5 (List.mem_of_head? b1.symm)).2.2
    have hqF : ¬ Fo (A (60 + w)) := h.1.2.2.2.1 _ (by unfold vid; omega)
    have hbq : b5 ≠ A (60 + w) := fun e => by rw [e, rp_q h hw] at hlt; cases hlt
    have hwq : A 2 ≠ A (60 + w) := sh_inj h.1 (by unfold vid; omega) (by unfold vid; omega) (by omega)
    have hwb : A 2 ≠ b5 := fun e => by rw [← e, rp_w4 h] at hlt; cases hlt
    refine ⟨hlt, fun r7 e7 => ⟨rp_q h hw, fun M9 e9 => ⟨by rw [e9]; exact rp_q h hw, fun r11 e11 J13 hJ13 => ?_⟩⟩⟩
    have hr11 : r11 = r7 := by
      rw [← e11, e9, gR_sR, if_pos ⟨rfl, rfl⟩]
    subst hr11
    have s9 : ShC A Fo M0 M9 := by rw [e9]; exact sh_sR h.1 hqF (Or.inr (Or.inl (rp_q h hw)))
    -- the step, for either end of the last pointer
    have fin : ∀ M12 : Mem, (M12 = M9 ∧ r11 ≠ none) ∨ (M12 = sR M9 (A (60 + w)) 1 none ∧ r11 = none) → J13 M12 := by
      intro M12 hM12
      have t12 : ∀ b, gT M12 b = gT M b := by
        intro b
        rcases hM12 with ⟨e, -⟩ | ⟨e, -⟩ <;> rw [e, e9] <;> rfl
      have i12 : ∀ b j, gI M12 b j = gI M b j := by
        intro b j
        rcases hM12 with ⟨e, -⟩ | ⟨e, -⟩ <;> rw [e, e9] <;> rfl
      have s12 : ShC A Fo M0 M12 := by
        rcases hM12 with ⟨e, -⟩ | ⟨e, -⟩
        · rw [e]; exact s9
        · rw [e]; exact sh_sR s9 hqF (Or.inr (Or.inl (by rw [e9]; exact rp_q h hw)))
      have r12 : ∀ a j, a ≠ A (60 + w) → gR M12 a j = gR M a j := by
        intro a j ha
        rcases hM12 with ⟨e, -⟩ | ⟨e, -⟩
        · rw [e, e9, gR_sR, if_neg (fun z => ha z.1)]
        · rw [e, gR_sR, if_neg (fun z => ha z.1), e9, gR_sR, if_neg (fun z => ha z.1)]
      have f12 : gR M12 (A (60 + w)) 0 = r11 := by
        rcases hM12 with ⟨e, -⟩ | ⟨e, -⟩
        · rw [e, e9, gR_sR, if_pos ⟨rfl, rfl⟩]
        · rw [e, gR_sR, if_neg (fun z => absurd z.2 (by decide)), e9, gR_sR, if_pos ⟨rfl, rfl⟩]
      have l12 : gR M12 (A (60 + w)) 1 = if r11 = none then none else gR M (A (60 + w)) 1 := by
        rcases hM12 with ⟨e, e'⟩ | ⟨e, e'⟩
        · rw [e, if_neg e', e9, gR_sR, if_neg (fun z => absurd z.2 (by decide))]
        · rw [e, if_pos e', gR_sR, if_pos ⟨rfl, rfl⟩]
      refine hJ13 _ ⟨(t12 b5).trans hlt, fun M15 e15 => hJ4 _ (fun J9 hJ9 => ⟨fun z => (by cases z), fun b10 e10 => ?_⟩)⟩
      cases e10
      have t15 : ∀ b, gT M15 b = gT M b := fun b => by rw [e15]; exact t12 b
      have s15 : ShC A Fo M0 M15 := by rw [e15]; exact sh_sR s12 hlF (Or.inl ((t12 b5).trans hlt))
      refine ⟨(t15 _).trans (rp_w4 h), (t15 _).trans (rp_w4 h), fun M13 e13 => hJ9 _ ?_⟩
      have i15 : ∀ b j, gI M15 b j = gI M b j := fun b j => by rw [e15]; exact i12 b j
      have s13 : ShC A Fo M0 M13 := by rw [e13]; exact sh_sI s15 (h.1.2.2.2.1 2 (by unfold vid; omega))
      obtain ⟨k1, k2, ln, rest, k3, k4⟩ := qc_take (M' := M13) h.2.2.1 (rp_w4 h) hqt (rp_qi h) hw e2 (fun a => by rw [e13]; exact t15 a) (fun a j hne => by rw [e13, gI_sI, if_neg hne, i15]) (by rw [e13, gI_sI, if_pos ⟨rfl, rfl⟩, i15])
        (by rw [e13, gR_sI, e15, gR_sR, if_neg (fun z => hbq z.1.symm), f12, e7])
        (by rw [e13, gR_sI, e15, gR_sR, if_neg (fun z => hbq z.1.symm), l12, e7])
        (fun a j ha1 ha2 => by rw [e13, gR_sI, e15, gR_sR, if_neg (fun z => ha1 z.1), r12 a j ha2])
      refine h1 _ b5 ln rest k3 k2 (rp_lines h s13 (fun b j hb => by rw [e13, gI_sI, if_neg (fun z => hb z.1), i15]) (fun _ _ => rfl) rfl rfl k4 ?_)
      by_cases e6 : A 6 = b5
      · rw [← e6, fs_s]; exact fun z => by cases z
      · rw [fs_n _ _ e6]; exact h.2.2.2
    exact ⟨fun e => ⟨by rw [e9]; exact rp_q h hw, fun M18 e18 => fin _ (Or.inr ⟨e18, e⟩)⟩, fun b16 e16 => fin _ (Or.inl ⟨rfl, fun z => by rw [e16] at z; cases z⟩)⟩
theorem p_keep (h : RepC A Fo M0 M σ hl) {b k : Nat} {ln : Ln} (hb : hl b = some ln) (hne : b ≠ A 6) (hk : sgN σ 3 = k + 1) {post : Mem → Prop} (hp : ∀ M', RepC A Fo M0 M' (uN σ 3 k) (fset hl b none) → post M') : w_X4_keepSpare M (A 2) b post := by
  have hl1 := (rp_line h hb).1
  have hF : ¬ Fo b := by
    obtain ⟨La, Sp, ow, -, -, q3, -⟩ := h.2.2.1
    exact (q3 b ln hb).2.1.2
  refine ⟨rp_w4 h, fun r2 e2 => ⟨hl1, fun M4 e4 => ⟨by rw [e4]; exact (rp_w4 h : gT M (A 2) = some (4, 0)), fun M6 e6 => hp _ ?_⟩⟩⟩
  subst e2
  subst e4
  have s4 : ShC A Fo M0 (sR M b 7 (gR M (A 2) 3)) := sh_sR h.1 hF (Or.inl hl1)
  have s6 : ShC A Fo M0 M6 := by rw [e6]; exact sh_sR s4 (h.1.2.2.2.1 2 (by unfold vid; omega)) (Or.inr (Or.inr ⟨rfl, rfl⟩))
  refine rp_lines h s6 (fun c j hc => by rw [e6]; rfl) (fun _ _ => rfl) rfl rfl ?_ ?_
  · rw [e6]
    exact qc_keep h.2.2.1 (rp_w4 h) (fun w hw => rp_q h hw) hb hk
  · rw [fs_n _ _ (fun e => hne e.symm)]; exact h.2.2.2
theorem p_lose (h : RepC A Fo M0 M σ hl) {s t : Nat} (hs : s < 6) (ht : t < 6) (hn : tot σ < 100000) {post : Mem → Prop} (hp : ∀ M', RepC A Fo M0 M' (uQ σ (s * 6 + t) []) hl → post M') : w_X4_loseLines M (A 2) (nI s) (nI t) post := by
  have hw : s * 6 + t < 36 := by omega
  have hlen : (sgQ σ (s * 6 + t)).length < 100000 := Nat.lt_of_le_of_lt (tot_ge σ hw) hn
  -- the loop's state
  let I : Option Nat × Int32 × Mem → Prop := fun z => ∃ j rest, z.2.1 = nI j ∧ ((z.1 = none ∧ j ≤ (sgQ σ (s * 6 + t)).length ∧ RepC A Fo M0 z.2.2 (uQ σ (s * 6 + t) []) hl) ∨ (∃ a ln, z.1 = some a ∧ hl a = none ∧ j + 1 + rest.length = (sgQ σ (s * 6 + t)).length ∧ RepC A Fo M0 z.2.2 (uN (uQ σ (s * 6 + t) rest) 3 (sgN σ 3 + 1)) (fset hl a (some ln))))
  have loop : ∀ z0 : Option Nat × Int32 × Mem, I z0 → Lp (fun (K7 : Option Nat × Int32 × Mem → Prop) (z : Option Nat × Int32 × Mem) => ∀ (r4 : Option Nat) (x5 : Int32) (M6 : Mem), z = (r4, x5, M6) → (∀ J8 : Prop, ((post M6) → J8) → ((150000 ≤ x5 → J8) ∧ (¬ (150000 ≤ x5) → (r4 = none → J8) ∧ (∀ b9, r4 = some b9 → gT M6 (A 2) = some (4, 0) ∧ w_X4_keepSpare M6 (A 2) b9 (fun M11 => gT M11 (A 2) = some (4, 0) ∧ w_X4_take M11 (A 2) (nI s) (nI t) (fun M13 r14 => ∀ x15, x15 = x5 + 1 → K7 (r14, x15, M13)))))))) z0 := by
    intro z0 hz0
    refine ⟨I, fun z => 100000 - z.2.1.toNatClampNeg, hz0, ?_⟩
    intro z hz r4 x5 M6 ez J8 hJ8
    subst ez
    obtain ⟨j, rest, e1, e2⟩ := hz
    have e1 : x5 = nI j := e1
    subst e1
    have hj : j < 100000 := by
      rcases e2 with ⟨-, e, -⟩ | ⟨a, ln, -, -, e, -⟩ <;> omega
    refine ⟨fun e => ?_, fun _ => ⟨fun e => ?_, fun b9 e9 => ?_⟩⟩
    · have : 150000 ≤ j := (le_nI (a := 150000) (by omega) (by omega)).mp e
      omega
    · subst e
      rcases e2 with ⟨-, -, e⟩ | ⟨a, ln, e, -⟩
      · exact hJ8 (hp _ e)
      · cases e
    · subst e9
      rcases e2 with ⟨e, -⟩ | ⟨a, ln, e, ha, hl2, h6⟩
      · cases e
      · cases e
        have hne : b9 ≠ A 6 := fun e => h.2.2.2 (e ▸ ha)
        refine ⟨rp_w4 h6, p_keep h6 (fs_s _ _ _) hne rfl (fun M11 h11 => ?_)⟩
        rw [fs_fs, fs_id _ _ ha, uN_uN, uN_id _ _ (show sgN (uQ σ (s * 6 + t) rest) 3 = sgN σ 3 from rfl)] at h11
        refine ⟨rp_w4 h11, p_take h11 hs ht (fun e0 x15 e15 => ?_) (fun M' a ln2 rest2 eq ha2 h13 x15 e15 => ?_)⟩
        · have e0' : rest = [] := by rw [sgQ_uQ, if_pos rfl] at e0; exact e0
          subst e0'
          refine ⟨⟨j + 1, [], by show x15 = _; rw [e15, nI_1], Or.inl ⟨rfl, ?_, h11⟩⟩, ?_⟩
          · simp only [List.length_nil] at hl2; omega
          · show 100000 - x15.toNatClampNeg < 100000 - (nI j).toNatClampNeg
            rw [e15, nI_1, clN (by omega), clN (by omega)]; omega
        · have eq' : rest = ln2 :: rest2 := by rw [sgQ_uQ, if_pos rfl] at eq; exact eq
          rw [uQ_uQ] at h13
          refine ⟨⟨j + 1, rest2, by show x15 = _; rw [e15, nI_1], Or.inr ⟨a, ln2, rfl, ha2, ?_, h13⟩⟩, ?_⟩
          · rw [eq', List.length_cons] at hl2; omega
          · show 100000 - x15.toNatClampNeg < 100000 - (nI j).toNatClampNeg
            rw [e15, nI_1, clN (by omega), clN (by omega)]; omega
  refine ⟨rp_w4 h, p_take h hs ht (fun e0 => loop _ ⟨0, [], rfl, Or.inl ⟨rfl, Nat.zero_le _, ?_⟩⟩) (fun M' a ln rest eq ha h2 => loop _ ⟨0, rest, rfl, Or.inr ⟨a, ln, rfl, ha, ?_, h2⟩⟩)⟩
  · rw [uQ_id _ _ e0]; exact h
  · rw [eq, List.length_cons]; omega
def unlinkL (σ : Sg) (s t : Nat) : Sg :=
  let τ := uI σ 0 s (cb (sgI σ 0 s) (nI t))
  uI τ 0 t (cb (sgI τ 0 t) (nI s))
def cutL (σ : Sg) (s t : Nat) : Sg := uQ (uQ (unlinkL σ s t) (s * 6 + t) []) (t * 6 + s) []
theorem tot_clear (σ : Sg) {w : Nat} (hw : w < 36) : tot (uQ σ w []) ≤ tot σ := by
  have := tot_uQ σ hw []
  simp only [List.length_nil] at this
  omega
theorem p_cut (h : RepC A Fo M0 M σ hl) {s t : Nat} (hs : s < 6) (ht : t < 6) (hn : tot σ < 100000) {post : Mem → Prop} (hp : ∀ M', RepC A Fo M0 M' (cutL σ s t) hl → post M') : w_X4_cut M (A 2) (nI s) (nI t) post := by
  refine ⟨rp_w4 h, _, (rp_lk h).1, in_nI (rp_lk h).2 hs (by omega), in_nI (rp_lk h).2 hs (by omega), fun M4 e4 => ?_⟩
  have h4 : RepC A Fo M0 M4 (uI σ 0 s (cb (sgI σ 0 s) (nI t))) hl := by
    rw [e4, rp_lki h hs, clN (by omega)]
    exact rp_own h 0 s hs _
  refine ⟨rp_w4 h4, _, (rp_lk h4).1, in_nI (rp_lk h4).2 ht (by omega), in_nI (rp_lk h4).2 ht (by omega), fun M9 e9 => ?_⟩
  have h9 : RepC A Fo M0 M9 (unlinkL σ s t) hl := by
    rw [e9, rp_lki h4 ht, clN (by omega)]
    exact rp_own h4 0 t ht _
  exact ⟨rp_w4 h9, p_lose h9 hs ht hn (fun M12 h12 => ⟨rp_w4 h12, p_lose h12 ht hs (Nat.lt_of_le_of_lt (tot_clear (unlinkL σ s t) (by omega)) hn) (fun M14 h14 => hp _ h14)⟩)⟩
end PC4
