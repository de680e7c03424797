def sS (c i : Nat) : Prop := (10 ≤ i ∧ i < 10 + c) ∨ (20 ≤ i ∧ i < 20 + c) ∨ (30 ≤ i ∧ i < 30 + 4 * c)
/-- one view with all that hangs on it, at the addresses g -/
def vq (M : Mem) (g : Nat → Nat) (s : Nat) : Prop := gT M (g (10 + s)) = some (3, 0) ∧ gI M (g (10 + s)) 0 = 0 ∧ gR M (g (10 + s)) 1 = some (g (20 + s)) ∧ gT M (g (20 + s)) = some (13, 4) ∧ ∀ d, d < 4 → gR M (g (20 + s)) d = some (g (30 + (s * 4 + d))) ∧ ch0 M (g (30 + (s * 4 + d)))
theorem vq_agr {M M' : Mem} {g g' : Nat → Nat} {s c : Nat} (hs : s < c) (h : vq M g s) (e : ∀ i, sS c i → g' i = g i ∧ agr M M' (g i)) : vq M' g' s := by
  obtain ⟨h1, h2, h3, h4, h5⟩ := h
  obtain ⟨a1, a2⟩ := e (10 + s) (by unfold sS; omega)
  obtain ⟨b1, b2⟩ := e (20 + s) (by unfold sS; omega)
  refine ⟨by rw [a1]; exact a2.1.trans h1, by rw [a1]; exact (a2.2.1 0).trans h2, by rw [a1, b1]; exact (a2.2.2.1 1).trans h3, by rw [b1]; exact b2.1.trans h4, fun d hd => ?_⟩
  obtain ⟨c1, c2⟩ := e (30 + (s * 4 + d)) (by unfold sS; omega)
  obtain ⟨k1, k2⟩ := h5 d hd
  exact ⟨by rw [b1, c1]; exact (b2.2.2.1 d).trans k1, by rw [c1]; exact ch0_agr k2 c2⟩
/-- the first c views -/
def vv0 (Mk : Mem) (va : Nat) (M : Mem) (g : Nat → Nat) (c : Nat) : Prop := (∀ b, b ≠ va → gT Mk b ≠ none → agr Mk M b) ∧ gT M va = some (12, 6) ∧ (∀ s, s < c → gR M va s = some (g (10 + s)) ∧ vq M g s) ∧ (∀ i, sS c i → gT Mk (g i) = none ∧ gT M (g i) ≠ none ∧ g i ≠ va) ∧ ∀ i j, sS c i → sS c j → g i = g j → i = j
def gst (g : Nat → Nat) (c q ca : Nat) (fc : Nat → Nat) (i : Nat) : Nat := if i = 10 + c then q else if i = 20 + c then ca else if 30 + 4 * c ≤ i ∧ i < 30 + 4 * c + 4 then fc (i - (30 + 4 * c)) else g i
theorem vv0_step {Mk : Mem} {va : Nat} {M9 : Mem} {g : Nat → Nat} {c q : Nat} (hc : c < 6) (h : vv0 Mk va M9 g c) (hq : gT M9 q = none) {M51 : Mem} {ca : Nat} {fc : Nat → Nat} (hv : vw0 (sN M9 q (3, 0)) q ca M51 fc 4) : vv0 Mk va (sR M51 va c (some q)) (gst g c q ca fc) (c + 1) := by
  obtain ⟨h1, h2, h3, h4, h5⟩ := h
  obtain ⟨v1, v2, v3, v4, v5, v6, v7, v8⟩ := hv
  have nvq : va ≠ q := fun e => by rw [e, hq] at h2; cases h2
  -- what is none in M9 is none at the start
  have old : ∀ b, gT M9 b = none → gT Mk b = none := by
    intro b hb
    cases hg : gT Mk b with
    | none => rfl
    | some t =>
      by_cases e : b = va
      · rw [e, h2] at hb; cases hb
      · have := (h1 b e (by rw [hg]; exact fun z => by cases z)).1
        rw [hb, hg] at this
        cases this
  have un : ∀ b, gT (sN M9 q (3, 0)) b = none → gT M9 b = none ∧ b ≠ q := by
    intro b hb
    rw [gT_sN] at hb
    by_cases e : b = q
    · rw [if_pos e] at hb; cases hb
    · rw [if_neg e] at hb; exact ⟨hb, e⟩
  obtain ⟨u1, u2⟩ := un ca v6
  -- cells of M9 but va stay
  have st : ∀ b, b ≠ va → gT M9 b ≠ none → agr M9 (sR M51 va c (some q)) b := by
    intro b n1 n2
    have nq : b ≠ q := fun e => n2 (e ▸ hq)
    exact agr_sR (agr_tr (agr_sN agr_rf nq) (v1 b nq (by rw [gT_sN, if_neg nq]; exact n2))) n1
  -- new cells stay under the last write
  have s2 : ∀ b, b ≠ va → agr M51 (sR M51 va c (some q)) b := fun b n1 => agr_sR agr_rf n1
  have ncv : ca ≠ va := fun e => by rw [e, h2] at u1; cases u1
  have vd : ∀ d, d < 4 → gT M9 (fc d) = none ∧ fc d ≠ q ∧ fc d ≠ va ∧ fc d ≠ ca := fun d hd => by
    obtain ⟨w1, w2⟩ := un _ (v7 d hd).2.2.1
    exact ⟨w1, w2, (fun e => by rw [e, h2] at w1; cases w1), (v7 d hd).2.2.2⟩
  have go : ∀ i, sS c i → gst g c q ca fc i = g i := by
    intro i hi
    unfold sS at hi
    unfold gst
    rw [if_neg (by omega), if_neg (by omega), if_neg (by omega)]
  have g1 : gst g c q ca fc (10 + c) = q := by unfold gst; rw [if_pos rfl]
  have g2 : gst g c q ca fc (20 + c) = ca := by unfold gst; rw [if_neg (by omega), if_pos rfl]
  have g3 : ∀ d, d < 4 → gst g c q ca fc (30 + (c * 4 + d)) = fc d := by
    intro d hd
    unfold gst
    rw [if_neg (by omega), if_neg (by omega), if_pos (by omega)]
    congr 1
    omega
  have cs : ∀ i, sS (c + 1) i → sS c i ∨ i = 10 + c ∨ i = 20 + c ∨ ∃ d, d < 4 ∧ i = 30 + (c * 4 + d) := by
    intro i hi
    unfold sS at hi ⊢
    by_cases e : 30 + 4 * c ≤ i
    · rcases hi with hi | hi | hi
      · omega
      · omega
      · exact Or.inr (Or.inr (Or.inr ⟨i - (30 + 4 * c), by omega, by omega⟩))
    · omega
  have tva : gT M51 va = some (12, 6) := by
    have := (v1 va nvq (by rw [gT_sN, if_neg nvq, h2]; exact fun z => by cases z)).1
    rw [this, gT_sN, if_neg nvq]
    exact h2
  -- a new address is fresh in M9
  have nw : ∀ i, sS (c + 1) i → ¬ sS c i → gT M9 (gst g c q ca fc i) = none ∧ gT M51 (gst g c q ca fc i) ≠ none ∧ gst g c q ca fc i ≠ va := by
    intro i hi hn
    rcases cs i hi with e | e | e | ⟨d, hd, e⟩
    · exact absurd e hn
    · rw [e, g1]; exact ⟨hq, by rw [v2]; exact (fun z => by cases z), fun e => nvq e.symm⟩
    · rw [e, g2]; exact ⟨u1, by rw [v5]; exact (fun z => by cases z), ncv⟩
    · rw [e, g3 d hd]; exact ⟨(vd d hd).1, by rw [(v7 d hd).2.1.1]; exact (fun z => by cases z), (vd d hd).2.2.1⟩
  have dec : ∀ i, sS c i ∨ ¬ sS c i := fun i => by unfold sS; omega
  refine ⟨fun b n1 n2 => ?_, tva, fun s hs => ?_, fun i hi => ?_, fun i j hi hj e => ?_⟩
  · have a1 := h1 b n1 n2
    exact agr_tr a1 (st b n1 (by rw [a1.1]; exact n2))
  · by_cases e : s = c
    · subst e
      refine ⟨by rw [gR_sR, if_pos ⟨rfl, rfl⟩, g1], ?_⟩
      have sq := s2 q (fun e => nvq e.symm)
      have sc := s2 ca ncv
      refine ⟨by rw [g1]; exact sq.1.trans v2, by rw [g1]; exact (sq.2.1 0).trans v3, by rw [g1, g2]; exact (sq.2.2.1 1).trans v4, by rw [g2]; exact sc.1.trans v5, fun d hd => ?_⟩
      rw [g2, g3 d hd]
      exact ⟨(sc.2.2.1 d).trans (v7 d hd).1, ch0_agr (v7 d hd).2.1 (s2 _ (vd d hd).2.2.1)⟩
    · have hs' : s < c := by omega
      obtain ⟨k1, k2⟩ := h3 s hs'
      refine ⟨?_, vq_agr hs' k2 (fun i hi => ⟨go i hi, st _ (h4 i hi).2.2 (h4 i hi).2.1⟩)⟩
      rw [gR_sR, if_neg (fun z => e z.2), go _ (by unfold sS; omega)]
      have := (v1 va nvq (by rw [gT_sN, if_neg nvq, h2]; exact fun z => by cases z)).2.2.1 s
      rw [this, gR_sN, if_neg nvq]
      exact k1
  · rcases dec i with hd | hd
    · rw [go i hd]
      obtain ⟨k1, k2, k3⟩ := h4 i hd
      exact ⟨k1, by rw [(st _ k3 k2).1]; exact k2, k3⟩
    · obtain ⟨k1, k2, k3⟩ := nw i hi hd
      exact ⟨old _ k1, k2, k3⟩
  · rcases dec i with hd | hd
    · rcases dec j with hd2 | hd2
      · rw [go i hd, go j hd2] at e
        exact h5 i j hd hd2 e
      · have k := (nw j hj hd2).1
        rw [← e, go i hd] at k
        exact absurd k (h4 i hd).2.1
    · rcases dec j with hd2 | hd2
      · have k := (nw i hi hd).1
        rw [e, go j hd2] at k
        exact absurd k (h4 j hd2).2.1
      · rcases cs i hi with z | z | z | ⟨d, hdd, z⟩
        · exact absurd z hd
        · rcases cs j hj with y | y | y | ⟨d2, hdd2, y⟩
          · exact absurd y hd2
          · omega
          · rw [z, y, g1, g2] at e; exact absurd e.symm u2
          · rw [z, y, g1, g3 d2 hdd2] at e; exact absurd e.symm (vd d2 hdd2).2.1
        · rcases cs j hj with y | y | y | ⟨d2, hdd2, y⟩
          · exact absurd y hd2
          · rw [z, y, g1, g2] at e; exact absurd e u2
          · omega
          · rw [z, y, g2, g3 d2 hdd2] at e; exact absurd e.symm (vd d2 hdd2).2.2.2
        · rcases cs j hj with y | y | y | ⟨d2, hdd2, y⟩
          · exact absurd y hd2
          · rw [z, y, g1, g3 d hdd] at e; exact absurd e (vd d hdd).2.1
          · rw [z, y, g2, g3 d hdd] at e; exact absurd e (vd d hdd).2.2.2
          · rw [z, y, g3 d hdd, g3 d2 hdd2] at e
            have := v8 d d2 hdd hdd2 e
            omega
