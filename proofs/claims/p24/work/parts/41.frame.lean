theorem ln_agr {M M' : Mem} {a : Nat} {ln : Ln} (h : lnC M a ln) (g : agr M M' a) : lnC M' a ln := by
  unfold lnC at h ⊢
  rw [g.2.1 0, g.2.1 1, g.2.1 2, g.2.1 3, g.2.1 4, g.2.1 5, g.2.1 6]
  exact h
theorem chn_agr {M M' : Mem} : ∀ (l : List Nat), (∀ a ∈ l, agr M M' a) → chn M l → chn M' l
  | [], _, _ => trivial
  | a :: l, h, hc => ⟨((h a (List.mem_cons_self ..)).2.2.1 7).trans hc.1, chn_agr l (fun b hb => h b (List.mem_cons_of_mem _ hb)) hc.2⟩
/-- others' writes leave the relay as it is -/
theorem rp_frame {A : Nat → Nat} {Fo : Nat → Prop} {M0 M M' : Mem} {σ : Sg} {hl : Nat → Option Ln} (h : RepC A Fo M0 M σ hl) (hg : ∀ b, ¬ Fo b → gT M b ≠ none → agr M M' b) (hF : ∀ b, Fo b → gT M' b ≠ none) : RepC A Fo M' M' σ hl := by
  have own : ∀ i, vid i → agr M M' (A i) := fun i hi => hg _ (h.1.2.2.2.1 i hi) (sm (h.1.1 i hi))
  have v0 : vid 0 := by unfold vid; omega
  have v1 : vid 1 := by unfold vid; omega
  have v2 : vid 2 := by unfold vid; omega
  have v8 : vid 8 := by unfold vid; omega
  have lin : ∀ a, okA Fo M a → agr M M' a ∧ okA Fo M' a := fun a ha => by
    have g := hg a ha.2 (sm ha.1)
    exact ⟨g, g.1.trans ha.1, ha.2⟩
  obtain ⟨⟨s1, s2, ⟨⟨r0, r1, r2, r3, r4, r5⟩, r6, ⟨r7, r8⟩, r9, r10, r11⟩, s4, s5⟩, ⟨w1, w2, w3⟩, ⟨La, Sp, ow, q1, ⟨q2, q2b, q2c, q2d⟩, q3, ⟨q4, q5, q6⟩⟩, h6⟩ := h
  have g0 := own 0 v0
  have g2 := own 2 v2
  refine ⟨⟨fun i hi => (own i hi).1.trans (s1 i hi), s2, ⟨⟨(g0.2.2.1 0).trans r0, (g0.2.2.1 1).trans r1, (g0.2.2.1 2).trans r2, (g0.2.2.1 3).trans r3, (g0.2.2.1 4).trans r4, (g0.2.2.1 5).trans r5⟩, fun s hs => ((own 1 v1).2.2.1 s).trans (r6 s hs), ⟨(g2.2.2.1 0).trans r7, (g2.2.2.1 1).trans r8⟩, fun s hs => ((own (10 + s) (by unfold vid; omega)).2.2.1 1).trans (r9 s hs), fun s c hs hc => ((own (20 + s) (by unfold vid; omega)).2.2.1 c).trans (r10 s c hs hc), fun w hw => ((own 8 v8).2.2.1 w).trans (r11 w hw)⟩, s4, fun b hb => ⟨hF b hb, agr_rf⟩⟩, ⟨fun f i hd => ((own _ (dmn_vid hd).1).2.1 _).trans (w1 f i hd), (g0.2.1 6).trans w2, (g0.2.1 7).trans w3⟩, ⟨La, Sp, ow, fun w hw => ?_, ⟨(g2.2.2.1 3).trans q2, chn_agr Sp (fun a ha => (lin a (q2d a ha).2).1) q2b, q2c, fun a ha => ⟨(q2d a ha).1, (lin a (q2d a ha).2).2⟩⟩, fun a ln ha => ?_, ⟨(g2.2.1 2).trans q4, (g2.2.1 4).trans q5, q6⟩⟩, h6⟩
  · obtain ⟨b1, b2, b3, b4, b5, b6⟩ := q1 w hw
    have gw := own (60 + w) (by unfold vid; omega)
    exact ⟨(gw.2.2.1 0).trans b1, (gw.2.2.1 1).trans b2, chn_agr _ (fun a ha => (lin a (b6 a ha).2).1) b3, b4, FA2_mono _ _ (fun a ha x hx => ln_agr hx (lin a (b6 a ha).2).1) b5, fun a ha => ⟨(b6 a ha).1, (lin a (b6 a ha).2).2⟩⟩
  · obtain ⟨c1, c2, c3⟩ := q3 a ln ha
    exact ⟨c1, (lin a c2).2, ln_agr c3 (lin a c2).1⟩
/-- what the class leaves alone -/
theorem rp_for {A : Nat → Nat} {Fo : Nat → Prop} {M0 M : Mem} {σ : Sg} {hl : Nat → Option Ln} (h : RepC A Fo M0 M σ hl) {b : Nat} (hb : Fo b) : gT M b ≠ none ∧ agr M0 M b := by
  obtain ⟨q1, q2⟩ := h.1.2.2.2.2 b hb
  exact ⟨by rw [q2.1]; exact q1, q2⟩
theorem rp_base {A : Nat → Nat} {Fo : Nat → Prop} {M0 M : Mem} {σ : Sg} {hl : Nat → Option Ln} (h : RepC A Fo M0 M σ hl) : RepC A Fo M M σ hl := rp_frame h (fun _ _ _ => agr_rf) (fun _ hb => (rp_for h hb).1)
