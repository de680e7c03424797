/-! LINKS WITHOUT RINGS: one comes, one goes -/
theorem fl_s {lk lk' : Nat → Int32} {s t : Nat} (h : GR lk) (hs : s < 6) (ht : t < 6) (hn : bt (clo lk s) t = false) (hl : ∀ p q, p < 6 → (bt (lk' p) q = true ↔ bt (lk p) q = true ∨ (p = s ∧ q = t) ∨ (p = t ∧ q = s))) {y z : Nat} (hy : y < 6) (hz : z < 6) (h1 : bt (lk' s) y = true) (h2 : bt (lk' s) z = true) (hne : y ≠ z) : bt (bhl lk' s y) z = false := by
  obtain ⟨hb, hsy, hi, hf⟩ := id h
  have hst : s ≠ t := fun e => by
    have := clo_self lk hs
    rw [e, ← e] at hn
    rw [hn] at this
    cases this
  have hys : y ≠ s := fun e => by
    rw [e] at h1
    rcases (hl s s hs).mp h1 with g | ⟨_, g⟩ | ⟨g, _⟩
    · rw [hi s hs] at g; cases g
    · exact hst g
    · exact hst g
  refine bt_false (fun h9 => ?_)
  have key : bt (bhl lk s y) z = true := by
    have := bh_in (lk := lk') (S := fun v => bt (bhl lk s y) v = true ∧ v ≠ s) hs hy ⟨bh_self s hy, hys⟩ (fun p q hp hS hl' hq => ?_) h9
    · exact this.1
    · rcases (hl p q hp).mp hl' with g | ⟨g, _⟩ | ⟨_, g⟩
      · exact ⟨bh_step hb hs hy hS.1 g hq, hq⟩
      · exact absurd g hS.2
      · exact absurd g hq
  have no : ∀ v, bt (clo lk v) t = true → v < 6 → bt (lk s) v = true → False := fun v hv hv6 hsv => by
    have := tr_trans hb hs (tr_step hb hs (clo_self _ hs) hsv) hv
    rw [hn] at this
    cases this
  rcases (hl s y hs).mp h1 with g1 | ⟨_, g1⟩ | ⟨g1, _⟩
  · rcases (hl s z hs).mp h2 with g2 | ⟨_, g2⟩ | ⟨g2, _⟩
    · rw [hf s y z hs hy hz g1 g2 hne] at key; cases key
    · rw [g2] at key
      exact no y (bh_tr hb hs hy key) hy g1
    · exact hst g2
  · rcases (hl s z hs).mp h2 with g2 | ⟨_, g2⟩ | ⟨g2, _⟩
    · rw [g1] at key
      exact no z (tr_sym hb hsy ht (bh_tr hb hs ht key)) hz g2
    · exact hne (g1.trans g2.symm)
    · exact hst g2
  · exact hst g1
theorem gr_link {lk lk' : Nat → Int32} {s t : Nat} (h : GR lk) (hs : s < 6) (ht : t < 6) (hn : bt (clo lk s) t = false) (hl : ∀ p q, p < 6 → (bt (lk' p) q = true ↔ bt (lk p) q = true ∨ (p = s ∧ q = t) ∨ (p = t ∧ q = s))) : GR lk' := by
  obtain ⟨hb, hsy, hi, hf⟩ := id h
  have hst : s ≠ t := fun e => by
    have := clo_self lk hs
    rw [e, ← e] at hn
    rw [hn] at this
    cases this
  have hn2 : bt (clo lk t) s = false := bt_false (fun e => by
    have := tr_sym hb hsy ht e
    rw [hn] at this
    cases this)
  have hl2 : ∀ p q, p < 6 → (bt (lk' p) q = true ↔ bt (lk p) q = true ∨ (p = t ∧ q = s) ∨ (p = s ∧ q = t)) := fun p q hp => by
    rw [hl p q hp]
    constructor
    · rintro (g | g | g)
      · exact Or.inl g
      · exact Or.inr (Or.inr g)
      · exact Or.inr (Or.inl g)
    · rintro (g | g | g)
      · exact Or.inl g
      · exact Or.inr (Or.inr g)
      · exact Or.inr (Or.inl g)
  refine ⟨fun p hp q hq => bt_false (fun e => ?_), fun p q hp hq e => ?_, fun p hp => bt_false (fun e => ?_), fun x y z hx hy hz h1 h2 hne => ?_⟩
  · rcases (hl p q hp).mp e with g | ⟨_, g⟩ | ⟨_, g⟩
    · have := b66_lt hb hp g
      omega
    · omega
    · omega
  · rcases (hl p q hp).mp e with g | ⟨g1, g2⟩ | ⟨g1, g2⟩
    · exact (hl q p hq).mpr (Or.inl (hsy p q hp hq g))
    · exact (hl q p hq).mpr (Or.inr (Or.inr ⟨g2, g1⟩))
    · exact (hl q p hq).mpr (Or.inr (Or.inl ⟨g2, g1⟩))
  · rcases (hl p p hp).mp e with g | ⟨g1, g2⟩ | ⟨g1, g2⟩
    · rw [hi p hp] at g; cases g
    · exact hst (g1.symm.trans g2)
    · exact hst (g2.symm.trans g1)
  · by_cases exs : x = s
    · subst exs
      exact fl_s h hs ht hn hl hy hz h1 h2 hne
    by_cases ext : x = t
    · subst ext
      exact fl_s h ht hs hn2 hl2 hy hz h1 h2 hne
    have old : ∀ v, bt (lk' x) v = true → bt (lk x) v = true := fun v hv => by
      rcases (hl x v hx).mp hv with g | ⟨g, _⟩ | ⟨g, _⟩
      · exact g
      · exact absurd g exs
      · exact absurd g ext
    have o1 := old y h1
    have o2 := old z h2
    have trx : ∀ v, bt (lk x) v = true → bt (clo lk x) v = true := fun v hv => tr_step hb hx (clo_self _ hx) hv
    have both : bt (clo lk x) s = true → bt (clo lk x) t = true → False := fun a c => by
      have := tr_trans hb hs (tr_sym hb hsy hx a) c
      rw [hn] at this
      cases this
    refine bt_false (fun h9 => ?_)
    have key := bh_in (lk := lk') (S := fun v => v < 6 ∧ (bt (clo lk x) v = true → bt (bhl lk x y) v = true) ∧ (bt (clo lk x) v = false → (bt (clo lk x) t = true → bt (bhl lk x y) t = true) ∧ (bt (clo lk x) s = true → bt (bhl lk x y) s = true))) hx hy ⟨hy, fun _ => bh_self x hy, fun e => by rw [trx y o1] at e; cases e⟩ (fun p q hp hS hl' hq => ?_) h9
    · have k2 := key.2.1 (trx z o2)
      rw [hf x y z hx hy hz o1 o2 hne] at k2
      cases k2
    · obtain ⟨hp6, hSa, hSb⟩ := hS
      rcases (hl p q hp).mp hl' with g | ⟨g1, g2⟩ | ⟨g1, g2⟩
      · have hq6 := b66_lt hb hp g
        have pq : bt (clo lk x) q = true → bt (clo lk x) p = true := fun e => tr_step hb hx e (hsy p q hp hq6 g)
        refine ⟨hq6, fun e => bh_step hb hx hy (hSa (pq e)) g hq, fun e => hSb (bt_false (fun e2 => ?_))⟩
        rw [tr_step hb hx e2 g] at e
        cases e
      · subst g1
        subst g2
        refine ⟨ht, fun e => ?_, fun e => ⟨(fun e2 => by rw [e] at e2; cases e2), fun e2 => hSa e2⟩⟩
        exact (hSb (bt_false (fun e2 => both e2 e))).1 e
      · subst g1
        subst g2
        refine ⟨hs, fun e => ?_, fun e => ⟨fun e2 => hSa e2, fun e2 => by rw [e] at e2; cases e2⟩⟩
        exact (hSb (bt_false (fun e2 => both e e2))).2 e
theorem gr_cut {lk lk' : Nat → Int32} (h : GR lk) (hsy' : sym6 lk') (hl : ∀ p q, p < 6 → bt (lk' p) q = true → bt (lk p) q = true) : GR lk' := by
  obtain ⟨hb, hsy, hi, hf⟩ := h
  refine ⟨fun p hp q hq => bt_false (fun e => ?_), hsy', fun p hp => bt_false (fun e => ?_), fun x y z hx hy hz h1 h2 hne => bt_false (fun e => ?_)⟩
  · have := hl p q hp e
    rw [hb p hp q hq] at this
    cases this
  · have := hl p p hp e
    rw [hi p hp] at this
    cases this
  · have k := bh_in (lk := lk') (S := fun v => bt (bhl lk x y) v = true) hx hy (bh_self x hy) (fun p q hp hS hl' hq => bh_step hb hx hy hS (hl p q hp hl') hq) e
    rw [hf x y z hx hy hz (hl x y hx h1) (hl x z hx h2) hne] at k
    cases k
theorem sb_iff (m : Int32) {k : Nat} (hk : k < 32) (i : Nat) : bt (sb m (nI k)) i = true ↔ bt m i = true ∨ i = k := by
  by_cases hi : i < 32
  · rw [hs_sb m hk hi, Bool.or_eq_true, decide_eq_true_iff]
  · rw [b_big (by omega), b_big (by omega)]
    constructor
    · intro h; cases h
    · rintro (h | h)
      · cases h
      · omega
theorem cb_iff (m : Int32) {k : Nat} (hk : k < 32) (i : Nat) : bt (cb m (nI k)) i = true ↔ bt m i = true ∧ i ≠ k := by
  by_cases hi : i < 32
  · rw [hs_cb m hk hi, Bool.and_eq_true, Bool.not_eq_true', decide_eq_false_iff_not]
  · rw [b_big (by omega), b_big (by omega)]
    constructor
    · intro h; cases h
    · rintro ⟨h, _⟩
      cases h
theorem connect_lk (σ : Sg) {s t : Nat} (hs : s < 6) (ht : t < 6) (hst : s ≠ t) (p q : Nat) : bt (sgI (connectL σ s t) 0 p) q = true ↔ bt (sgI σ 0 p) q = true ∨ (p = s ∧ q = t) ∨ (p = t ∧ q = s) := by
  show bt (sgI (uI (uI σ 0 s (sb (sgI σ 0 s) (nI t))) 0 t (sb (sgI (uI σ 0 s (sb (sgI σ 0 s) (nI t))) 0 t) (nI s))) 0 p) q = true ↔ _
  rw [sgI_uI]
  by_cases e1 : p = t
  · rw [if_pos ⟨rfl, e1⟩, sb_iff _ (by omega), sgI_uI, if_neg (fun e => hst e.2.symm), e1]
    constructor
    · rintro (g | g)
      · exact Or.inl g
      · exact Or.inr (Or.inr ⟨rfl, g⟩)
    · rintro (g | ⟨g, _⟩ | ⟨_, g⟩)
      · exact Or.inl g
      · exact absurd g.symm hst
      · exact Or.inr g
  · rw [if_neg (fun e => e1 e.2), sgI_uI]
    by_cases e2 : p = s
    · rw [if_pos ⟨rfl, e2⟩, sb_iff _ (by omega), e2]
      constructor
      · rintro (g | g)
        · exact Or.inl g
        · exact Or.inr (Or.inl ⟨rfl, g⟩)
      · rintro (g | ⟨_, g⟩ | ⟨g, _⟩)
        · exact Or.inl g
        · exact Or.inr g
        · exact absurd g hst
    · rw [if_neg (fun e => e2 e.2)]
      constructor
      · exact Or.inl
      · rintro (g | ⟨g, _⟩ | ⟨g, _⟩)
        · exact g
        · exact absurd g e2
        · exact absurd g e1
theorem unlink_lk (σ : Sg) {s t : Nat} (hs : s < 6) (ht : t < 6) (hst : s ≠ t) (p q : Nat) : bt (sgI (unlinkL σ s t) 0 p) q = true ↔ bt (sgI σ 0 p) q = true ∧ ¬ (p = s ∧ q = t) ∧ ¬ (p = t ∧ q = s) := by
  show bt (sgI (uI (uI σ 0 s (cb (sgI σ 0 s) (nI t))) 0 t (cb (sgI (uI σ 0 s (cb (sgI σ 0 s) (nI t))) 0 t) (nI s))) 0 p) q = true ↔ _
  rw [sgI_uI]
  by_cases e1 : p = t
  · rw [if_pos ⟨rfl, e1⟩, cb_iff _ (by omega), sgI_uI, if_neg (fun e => hst e.2.symm), e1]
    constructor
    · rintro ⟨g1, g2⟩
      exact ⟨g1, fun e => hst e.1.symm, fun e => g2 e.2⟩
    · rintro ⟨g1, _, g3⟩
      exact ⟨g1, fun e => g3 ⟨rfl, e⟩⟩
  · rw [if_neg (fun e => e1 e.2), sgI_uI]
    by_cases e2 : p = s
    · rw [if_pos ⟨rfl, e2⟩, cb_iff _ (by omega), e2]
      constructor
      · rintro ⟨g1, g2⟩
        exact ⟨g1, fun e => g2 e.2, fun e => hst e.1⟩
      · rintro ⟨g1, g2, _⟩
        exact ⟨g1, fun e => g2 ⟨rfl, e⟩⟩
    · rw [if_neg (fun e => e2 e.2)]
      constructor
      · intro g
        exact ⟨g, fun e => e2 e.1, fun e => e1 e.1⟩
      · exact fun g => g.1
theorem gr_connect {σ : Sg} (h : GR (sgI σ 0)) {s t : Nat} (hs : s < 6) (ht : t < 6) (hn : ¬ bt (treeL σ s) t = true) : GR (sgI (connectL σ s t) 0) := by
  rw [tree_clo] at hn
  have hst : s ≠ t := fun e => hn (by rw [← e]; exact clo_self _ hs)
  exact gr_link h hs ht (bt_false hn) (fun p q _ => connect_lk σ hs ht hst p q)
theorem gr_unlink {σ : Sg} (h : GR (sgI σ 0)) {s t : Nat} (hs : s < 6) (ht : t < 6) (hl : bt (sgI σ 0 s) t = true) : GR (sgI (unlinkL σ s t) 0) := by
  have hst : s ≠ t := fun e => by rw [← e, h.2.2.1 s hs] at hl; cases hl
  refine gr_cut h (fun p q hp hq e => ?_) (fun p q hp e => ((unlink_lk σ hs ht hst p q).mp e).1)
  obtain ⟨g1, g2, g3⟩ := (unlink_lk σ hs ht hst p q).mp e
  exact (unlink_lk σ hs ht hst q p).mpr ⟨h.2.1 p q hp hq g1, fun e => g3 ⟨e.2, e.1⟩, fun e => g2 ⟨e.2, e.1⟩⟩
theorem gr_zero : GR (sgI σ0 0) := by
  have hz : ∀ x, sgI σ0 0 x = 0 := fun x => rfl
  refine ⟨(fun k _ i _ => by rw [hz, b_0]), (fun x y _ _ e => by rw [hz, b_0] at e; cases e), (fun x _ => by rw [hz, b_0]), (fun x y z _ _ _ e => by rw [hz, b_0] at e; cases e)⟩
