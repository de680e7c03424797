section PC5
variable {A : Nat → Nat} {Fo : Nat → Prop} {M0 M : Mem} {σ : Sg} {hl : Nat → Option Ln}
theorem p_copyFrom (h : RepC A Fo M0 M σ hl) {b b2 : Nat} {l0 ln : Ln} (hb : hl b = some l0) (hb2 : hl b2 = some ln) (hne : b ≠ b2) {post : Mem → Prop} (hp : ∀ M', RepC A Fo M0 M' σ (fset hl b (some ln)) → post M') : w_X1_copyFrom M b b2 post := by
  have t1 : gT M b = some (1, 0) := (rp_line h hb).1
  have t2 : gT M b2 = some (1, 0) := (rp_line h hb2).1
  have sk : ∀ (N : Mem) (j : Nat) (x : Int32) (f : Nat), gI (sI N b j x) b2 f = gI N b2 f := fun N j x f => by rw [gI_sI, if_neg (fun e => hne e.1.symm)]
  refine ⟨t2, t1, fun M3 e3 => ⟨by rw [e3]; exact t2, by rw [e3]; exact t1, fun M6 e6 => ⟨by rw [e6, e3]; exact t2, by rw [e6, e3]; exact t1, fun M9 e9 => ⟨by rw [e9, e6, e3]; exact t2, by rw [e9, e6, e3]; exact t1, fun M12 e12 => ⟨by rw [e12, e9, e6, e3]; exact t2, by rw [e12, e9, e6, e3]; exact t1, fun M15 e15 => ⟨by rw [e15, e12, e9, e6, e3]; exact t2, by rw [e15, e12, e9, e6, e3]; exact t1, fun M18 e18 => ⟨by rw [e18, e15, e12, e9, e6, e3]; exact t2, by rw [e18, e15, e12, e9, e6, e3]; exact t1, fun M21 e21 => hp _ ?_⟩⟩⟩⟩⟩⟩⟩
  have k6 : gI M3 b2 1 = gI M b2 1 := by rw [e3, sk]
  have k9 : gI M6 b2 2 = gI M b2 2 := by rw [e6, sk, e3, sk]
  have k12 : gI M9 b2 3 = gI M b2 3 := by rw [e9, sk, e6, sk, e3, sk]
  have k15 : gI M12 b2 4 = gI M b2 4 := by rw [e12, sk, e9, sk, e6, sk, e3, sk]
  have k18 : gI M15 b2 5 = gI M b2 5 := by rw [e15, sk, e12, sk, e9, sk, e6, sk, e3, sk]
  have k21 : gI M18 b2 6 = gI M b2 6 := by rw [e18, sk, e15, sk, e12, sk, e9, sk, e6, sk, e3, sk]
  rw [k6] at e6
  rw [k9] at e9
  rw [k12] at e12
  rw [k15] at e15
  rw [k18] at e18
  rw [k21] at e21
  refine rp_set h hb (fun c => by rw [e21, e18, e15, e12, e9, e6, e3]; rfl) (fun c j => by rw [e21, e18, e15, e12, e9, e6, e3]; rfl) (fun c j => by rw [e21, e18, e15, e12, e9, e6, e3]; rfl) (fun c j hc => by rw [e21, e18, e15, e12, e9, e6, e3]; simp only [gI_sI, hc, false_and, if_false]) ?_
  refine lnC_keep (rp_line h hb2).2 (fun k hk => ?_)
  have own : ∀ f : Nat, gI M21 b f = if f = 6 then gI M b2 6 else if f = 5 then gI M b2 5 else if f = 4 then gI M b2 4 else if f = 3 then gI M b2 3 else if f = 2 then gI M b2 2 else if f = 1 then gI M b2 1 else if f = 0 then gI M b2 0 else gI M b f := fun f => by
    rw [e21, e18, e15, e12, e9, e6, e3]
    simp only [gI_sI, true_and]
  rw [own]
  rcases (show k = 0 ∨ k = 1 ∨ k = 2 ∨ k = 3 ∨ k = 4 ∨ k = 5 ∨ k = 6 by omega) with rfl | rfl | rfl | rfl | rfl | rfl | rfl <;> rfl
theorem p_lineInit (h : RepC A Fo M0 M σ hl) {b : Nat} {l0 : Ln} (hb : hl b = some l0) (hn : gR M b 7 = none) {post : Mem → Prop} (hp : ∀ M' l1, RepC A Fo M0 M' σ (fset hl b (some l1)) → post M') : w_X1_init M b post := by
  have t1 : gT M b = some (1, 0) := (rp_line h hb).1
  refine ⟨t1, fun M2 e2 => ⟨by rw [e2]; exact t1, fun M4 e4 => ⟨by rw [e4, e2]; exact t1, fun M6 e6 => ⟨by rw [e6, e4, e2]; exact t1, fun M8 e8 => ⟨by rw [e8, e6, e4, e2]; exact t1, fun M10 e10 => ⟨by rw [e10, e8, e6, e4, e2]; exact t1, fun M12 e12 => ⟨by rw [e12, e10, e8, e6, e4, e2]; exact t1, fun M14 e14 => ⟨by rw [e14, e12, e10, e8, e6, e4, e2]; exact t1, fun M16 e16 => ?_⟩⟩⟩⟩⟩⟩⟩⟩
  obtain ⟨l1, hl1⟩ := lnC_any M16 b
  refine hp _ l1 (rp_set h hb (fun c => by rw [e16, e14, e12, e10, e8, e6, e4, e2]; rfl) (fun c j => ?_) (fun c j => by rw [e16, e14, e12, e10, e8, e6, e4, e2]; rfl) (fun c j hc => by rw [e16, e14, e12, e10, e8, e6, e4, e2]; simp only [gI_sR, gI_sI, hc, false_and, if_false]) hl1)
  rw [e16, gR_sR]
  by_cases e : c = b ∧ j = 7
  · rw [if_pos e, e.1, e.2, hn]
  · rw [if_neg e, e14, e12, e10, e8, e6, e4, e2]; rfl
theorem p_append (h : RepC A Fo M0 M σ hl) {w b k : Nat} (hw : w < 36) {ln : Ln} (hb : hl b = some ln) (hne : b ≠ A 6) (hk : sgN σ 3 = k + 1) {post : Mem → Prop} (hp : ∀ M16, (gT M16 (A 2) = some (4, 0) ∧ ∀ M19, M19 = sI M16 (A 2) 2 (gI M16 (A 2) 2 + 1) → RepC A Fo M0 M19 (uN (uQ σ w (sgQ σ w ++ [ln])) 3 k) (fset hl b none)) → post M16) : w_X2_append M (A (60 + w)) b post := by
  have t1 : gT M b = some (1, 0) := (rp_line h hb).1
  have hF : ¬ Fo b := by
    obtain ⟨La, Sp, ow, -, -, q3, -⟩ := h.2.2.1
    exact (q3 b ln hb).2.1.2
  have hqF : ¬ Fo (A (60 + w)) := h.1.2.2.2.1 _ (by unfold vid; omega)
  have tq := rp_q h hw
  have hbq : b ≠ A (60 + w) := fun e => by rw [e, tq] at t1; cases t1
  refine ⟨t1, fun M2 e2 => ⟨by rw [e2]; exact tq, fun r4 e4 J6 hJ6 => ?_⟩⟩
  have s2 : ShC A Fo M0 M2 := by rw [e2]; exact sh_sR h.1 hF (Or.inl t1)
  have e4' : gR M (A (60 + w)) 1 = r4 := by rw [← e4, e2, gR_sR, if_neg (fun z => hbq z.1.symm)]
  have rest : ∀ M5 : Mem, ShC A Fo M0 M5 → (∀ c, gT M5 c = gT M c) → (∀ c j, gI M5 c j = gI M c j) → gR M5 b 7 = none → ((r4 = none ∧ gR M5 (A (60 + w)) 0 = some b ∧ ∀ a j, a ≠ b → a ≠ A (60 + w) → gR M5 a j = gR M a j) ∨ (∃ c, r4 = some c ∧ gR M5 c 7 = some b ∧ c ≠ A (60 + w) ∧ gR M5 (A (60 + w)) 0 = gR M (A (60 + w)) 0 ∧ ∀ a j, a ≠ b → a ≠ c → a ≠ A (60 + w) → gR M5 a j = gR M a j)) → J6 M5 := by
    intro M5 s5 t5 i5 b5 hc
    refine hJ6 _ ⟨(t5 _).trans tq, fun M8 e8 => hp _ ⟨by rw [e8]; exact (t5 _).trans (rp_w4 h), fun M19 e19 => ?_⟩⟩
    have s8 : ShC A Fo M0 M8 := by rw [e8]; exact sh_sR s5 hqF (Or.inr (Or.inl ((t5 _).trans tq)))
    have s19 : ShC A Fo M0 M19 := by rw [e19]; exact sh_sI s8 (h.1.2.2.2.1 2 (by unfold vid; omega))
    have i8 : ∀ c j, gI M8 c j = gI M c j := fun c j => by rw [e8]; exact i5 c j
    have r8 : ∀ a j, a ≠ A (60 + w) → gR M19 a j = gR M5 a j := fun a j ha => by rw [e19, gR_sI, e8, gR_sR, if_neg (fun z => ha z.1)]
    have r80 : gR M19 (A (60 + w)) 0 = gR M5 (A (60 + w)) 0 := by rw [e19, gR_sI, e8, gR_sR, if_neg (fun z => absurd z.2 (by decide))]
    refine rp_lines h s19 (fun c j hc => by rw [e19, gI_sI, if_neg (fun z => hc z.1), i8]) (fun _ _ => rfl) rfl rfl (qc_app h.2.2.1 (rp_w4 h) (fun w hw => rp_q h hw) (rp_qi h) hw hb hk (fun a => by rw [e19, e8]; exact t5 a) (fun a j hne => by rw [e19, gI_sI, if_neg hne, i8]) (by rw [e19, gI_sI, if_pos ⟨rfl, rfl⟩, i8]) (by rw [r8 b 7 hbq]; exact b5) (by rw [e19, gR_sI, e8, gR_sR, if_pos ⟨rfl, rfl⟩]) ?_) ?_
    · rcases hc with ⟨g1, g2, g3⟩ | ⟨c, g1, g2, g3, g4, g5⟩
      · exact Or.inl ⟨e4'.trans g1, r80.trans g2, fun a j h1 h2 => (r8 a j h2).trans (g3 a j h1 h2)⟩
      · exact Or.inr ⟨c, e4'.trans g1, (r8 c 7 g3).trans g2, r80.trans g4, fun a j h1 h2 h3 => (r8 a j h3).trans (g5 a j h1 h2 h3)⟩
    · rw [fs_n _ _ (fun z => hne z.symm)]; exact h.2.2.2
  refine ⟨fun e => ⟨by rw [e2]; exact tq, fun M11 e11 => ?_⟩, fun b9 e9 => ⟨by rw [e2]; exact tq, fun r13 e13 => ?_⟩⟩
  · refine rest _ (by rw [e11]; exact sh_sR s2 hqF (Or.inr (Or.inl (by rw [e2]; exact tq)))) (fun c => by rw [e11, e2]; rfl) (fun c j => by rw [e11, e2]; rfl) ?_ (Or.inl ⟨e, ?_, fun a j h1 h2 => ?_⟩)
    · rw [e11, gR_sR, if_neg (fun z => hbq z.1), e2, gR_sR, if_pos ⟨rfl, rfl⟩]
    · rw [e11, gR_sR, if_pos ⟨rfl, rfl⟩]
    · rw [e11, gR_sR, if_neg (fun z => h2 z.1), e2, gR_sR, if_neg (fun z => h1 z.1)]
  · have e13' : r13 = some b9 := by rw [← e13, e4, e9]
    -- the last line is a line of the queue
    have hl9 : gT M b9 = some (1, 0) ∧ ¬ Fo b9 ∧ b9 ≠ b := by
      obtain ⟨La, Sp, ow, q1, -, q3, -⟩ := h.2.2.1
      obtain ⟨-, g2, -, -, -, g6⟩ := q1 w hw
      rw [e4', e9] at g2
      have h9 := g6 b9 (List.mem_of_getLast? g2.symm)
      refine ⟨h9.2.1, h9.2.2, fun e => ?_⟩
      have h8 := (q3 b ln hb).1
      rw [← e, h9.1] at h8
      omega
    refine ⟨b9, e13', by rw [e2]; exact hl9.1, fun M16 e16 => ?_⟩
    have h9q : b9 ≠ A (60 + w) := fun e => by have h9 := hl9.1; rw [e, tq] at h9; cases h9
    refine rest _ (by rw [e16]; exact sh_sR s2 hl9.2.1 (Or.inl (by rw [e2]; exact hl9.1))) (fun c => by rw [e16, e2]; rfl) (fun c j => by rw [e16, e2]; rfl) ?_ (Or.inr ⟨b9, e9, ?_, h9q, ?_, fun a j h1 h2 h3 => ?_⟩)
    · rw [e16, gR_sR, if_neg (fun z => hl9.2.2 z.1.symm), e2, gR_sR, if_pos ⟨rfl, rfl⟩]
    · rw [e16, gR_sR, if_pos ⟨rfl, rfl⟩]
    · rw [e16, gR_sR, if_neg (fun z => h9q z.1.symm), e2, gR_sR, if_neg (fun z => hbq z.1.symm)]
    · rw [e16, gR_sR, if_neg (fun z => h2 z.1), e2, gR_sR, if_neg (fun z => h1 z.1)]
theorem qc_cnt (h : QC A Fo M σ hl) : gI M (A 2) 2 = nI (tot σ) ∧ gI M (A 2) 4 = nI (sgN σ 2) ∧ tot σ + sgN σ 3 ≤ sgN σ 2 ∧ (gR M (A 2) 3 = none → sgN σ 2 = tot σ + sgN σ 3) ∧ (∀ b, gR M (A 2) 3 = some b → tot σ + sgN σ 3 + 1 ≤ sgN σ 2) := by
  obtain ⟨La, Sp, ow, q1, ⟨a1, -, -, -⟩, q3, q4⟩ := h
  refine ⟨q4.1, q4.2.1, by have := q4.2.2; omega, fun e => ?_, fun b e => ?_⟩
  · rw [e] at a1
    have e0 : Sp = [] := List.head?_eq_none_iff.mp a1.symm
    have := q4.2.2
    rw [e0, List.length_nil] at this
    omega
  · rw [e] at a1
    have : 0 < Sp.length := by
      cases hS : Sp with
      | nil => rw [hS] at a1; cases a1
      | cons x l => simp
    have := q4.2.2
    omega
theorem p_put (h : RepC A Fo M0 M σ hl) {s t b2 : Nat} (hs : s < 6) (ht : t < 6) {ln : Ln} (hb2 : hl b2 = some ln) (hn : sgN σ 2 < 100000 ∧ tot σ + sgN σ 3 < 100000) {mc ms : Nat} (hc : sgN (putL σ (s * 6 + t) ln) 2 ≤ sgN σ 2 + mc) (hm : 8 * sgN (putL σ (s * 6 + t) ln) 2 ≤ 8 * sgN σ 2 + ms) {post : Mem → Prop} (hp : ∀ M', RepC A Fo M0 M' (putL σ (s * 6 + t) ln) hl → post M') : w_X4_put mc ms M (A 2) (nI s) (nI t) b2 post := by
  have hw : s * 6 + t < 36 := by omega
  generalize hwe : s * 6 + t = w at hw hc hm hp
  obtain ⟨c1, c2, c3, c4, c5⟩ := qc_cnt h.2.2.1
  have hqt : ∀ w, w < 36 → gT M (A (60 + w)) = some (2, 0) := fun w hw => rp_q h hw
  have w2F : ¬ Fo (A 2) := h.1.2.2.2.1 2 (by unfold vid; omega)
  have hmax : sgN (putL σ w ln) 2 = Nat.max (sgN σ 2) (tot σ + sgN σ 3 + 1) := rfl
  refine ⟨rp_w4 h, fun r2 e2 J7 hJ7 => ?_⟩
  -- behind the line that was got
  have rest : ∀ (b : Nat) (l0 : Ln) (M4 : Mem) (mk k5 n6 : Nat), hl b = none → RepC A Fo M0 M4 (uN (uN σ 3 (sgN σ 3 + 1)) 2 mk) (fset hl b (some l0)) → mk = sgN (putL σ w ln) 2 → J7 (some b) M4 k5 n6 := by
    intro b l0 M4 mk k5 n6 hb h4 hmk
    have hne : b ≠ b2 := fun e => by rw [e, hb2] at hb; cases hb
    have hn6 : b ≠ A 6 := fun e => h.2.2.2 (e ▸ hb)
    have hb2' : fset hl b (some l0) b2 = some ln := by rw [fs_n _ _ (fun z => hne z.symm)]; exact hb2
    refine hJ7 _ _ _ _ ⟨b, rfl, (rp_line h4 (fs_s _ _ _)).1, p_copyFrom h4 (fs_s _ _ _) hb2' hne (fun M10 h10 => ?_)⟩
    rw [fs_fs] at h10
    have hqq := rp_qq h10 hw
    refine ⟨rp_w4 h10, A 8, hqq.1, by rw [wI, hwe]; exact hqq.2.1, A (60 + w), by rw [wI, hwe]; exact hqq.2.2, rp_q h10 hw, p_append h10 hw (fs_s _ _ _) hn6 (k := sgN σ 3) rfl (fun M16 h16 => ⟨h16.1, h16.1, fun M19 e19 => hp _ ?_⟩)⟩
    have h19 := h16.2 M19 e19
    rw [fs_fs, fs_id _ _ hb] at h19
    have hσ : uN (uQ (uN (uN σ 3 (sgN σ 3 + 1)) 2 mk) w (sgQ (uN (uN σ 3 (sgN σ 3 + 1)) 2 mk) w ++ [ln])) 3 (sgN σ 3) = putL σ w ln := by
      refine sg_ext (fun _ _ => rfl) (fun f => ?_) (fun _ => rfl)
      have : ∀ f, sgN (uN (uQ (uN (uN σ 3 (sgN σ 3 + 1)) 2 mk) w (sgQ (uN (uN σ 3 (sgN σ 3 + 1)) 2 mk) w ++ [ln])) 3 (sgN σ 3)) f = if f = 3 then sgN σ 3 else if f = 2 then mk else if f = 3 then sgN σ 3 + 1 else sgN σ f := fun f => rfl
      rw [this]
      have h2 : ∀ f, sgN (putL σ w ln) f = if f = 2 then Nat.max (sgN σ 2) (tot σ + sgN σ 3 + 1) else sgN σ f := fun f => rfl
      rw [hmk, h2 f, h2 2]
      by_cases e3 : f = 3
      · subst e3; rfl
      · by_cases e2 : f = 2
        · subst e2; rfl
        · rw [if_neg e3, if_neg e2, if_neg e3, if_neg e2]
    rw [hσ] at h19
    exact h19
  refine ⟨fun e => ?_, fun b20 e => ?_⟩
  · subst e
    have h0 := c4 e2
    have hmk : sgN (putL σ w ln) 2 = sgN σ 2 + 1 := by rw [hmax, h0]; exact Nat.max_eq_right (by omega)
    refine ⟨rp_w4 h, fun e9 => ?_, fun _ => ⟨rp_w4 h, rp_w4 h, fun M24 e24 => ⟨⟨by omega, by omega⟩, fun q hq M26 e26 => ?_⟩⟩⟩
    · rw [c2] at e9
      have : 150000 ≤ sgN σ 2 := (le_nI (a := 150000) (by omega) (by omega)).mp e9
      omega
    · have hq' : gT M q = none := by rw [e24] at hq; exact hq
      have hqF : ¬ Fo q := fun hF => by
        have h9 := h.1.2.2.2.2 q hF
        rw [← h9.2.1] at h9
        exact h9.1 hq'
      obtain ⟨g1, l0, g2⟩ := qc_new h.2.2.1 (rp_w4 h) hqt hq' hqF
      have s26 : ShC A Fo M0 M26 := by rw [e26, e24]; exact sh_sN (sh_sI h.1 w2F) hq'
      have h26 : RepC A Fo M0 M26 (uN (uN σ 3 (sgN σ 3 + 1)) 2 (sgN σ 2 + 1)) (fset hl q (some l0)) := by
        refine ⟨s26, ?_, by rw [e26, e24]; exact g2, ?_⟩
        · have v1 := va_oth h.1 h.2.1 (Or.inr (rp_w4 h)) (M' := M24) (fun b j hb => by rw [e24, gI_sI, if_neg (fun z => hb z.1)])
          have ne : ∀ i, vid i → A i ≠ q := fun i hi z => by
            have h9 := h.1.1 i hi
            rw [z, hq'] at h9
            cases h9
          refine ⟨fun f i hd => ?_, ?_, ?_⟩
          · rw [e26, gI_sN, if_neg (ne _ (dmn_vid hd).1)]; exact v1.1 f i hd
          · rw [e26, gI_sN, if_neg (ne 0 (by unfold vid; omega))]; exact v1.2.1
          · rw [e26, gI_sN, if_neg (ne 0 (by unfold vid; omega))]; exact v1.2.2
        · by_cases z : A 6 = q
          · rw [← z, fs_s]; exact fun z => by cases z
          · rw [fs_n _ _ z]; exact h.2.2.2
      refine p_lineInit h26 (fs_s _ _ _) (by rw [e26, gR_sN, if_pos rfl]) (fun M28 l1 h28 => ?_)
      rw [fs_fs] at h28
      exact rest q l1 M28 _ _ _ g1 h28 (by rw [hmk])
  · subst e
    obtain ⟨g1, g2, l0, g3⟩ := qc_grab h.2.2.1 (rp_w4 h) hqt e2
    have h5 := c5 _ e2
    have hmk : sgN (putL σ w ln) 2 = sgN σ 2 := by rw [hmax]; exact Nat.max_eq_left (by omega)
    refine ⟨g1.1, fun r31 e31 => ⟨rp_w4 h, fun M33 e33 => ?_⟩⟩
    have s33 : ShC A Fo M0 M33 := by rw [e33]; exact sh_sR h.1 w2F (Or.inr (Or.inr ⟨rfl, rfl⟩))
    have h33 : RepC A Fo M0 M33 (uN (uN σ 3 (sgN σ 3 + 1)) 2 (sgN σ 2)) (fset hl b20 (some l0)) := by
      rw [uN_id (uN σ 3 (sgN σ 3 + 1)) 2 (show sgN (uN σ 3 (sgN σ 3 + 1)) 2 = sgN σ 2 from rfl)]
      refine rp_lines h s33 (fun c j hc => by rw [e33]; rfl) (fun _ _ => rfl) rfl rfl (by rw [e33, ← e31]; exact g3) ?_
      by_cases z : A 6 = b20
      · rw [← z, fs_s]; exact fun z => by cases z
      · rw [fs_n _ _ z]; exact h.2.2.2
    exact rest b20 l0 M33 _ _ _ g2 h33 hmk.symm
end PC5
