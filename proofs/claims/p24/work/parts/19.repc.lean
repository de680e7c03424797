/-! THE CLASS IN MEMORY: ids 0 the relay, 1 its views, 2 wires, 3 homes, 4 letters, 5 ages, 6 the draft, 7 linked, 8 queues, 10+s a view, 20+s its channels, 30+i channel i, 60+w queue w -/
def vid (i : Nat) : Prop := i ≤ 8 ∨ (10 ≤ i ∧ i < 16) ∨ (20 ≤ i ∧ i < 26) ∨ (30 ≤ i ∧ i < 54) ∨ (60 ≤ i ∧ i < 96)
def tyO (i : Nat) : Nat × Nat := if i = 0 then (5, 0) else if i = 1 then (12, 6) else if i = 2 then (4, 0) else if i ≤ 5 then (10, 20) else if i = 6 then (1, 0) else if i = 7 then (10, 6) else if i = 8 then (14, 36) else if i < 16 then (3, 0) else if i < 26 then (13, 4) else if i < 54 then (0, 0) else (2, 0)
theorem ty_v : ∀ s, s < 6 → tyO (10 + s) = (3, 0) := by decide
theorem ty_c : ∀ s, s < 6 → tyO (20 + s) = (13, 4) := by decide
theorem ty_i : ∀ i, i < 24 → tyO (30 + i) = (0, 0) := by decide
theorem ty_q : ∀ w, w < 36 → tyO (60 + w) = (2, 0) := by decide
def agr (M M' : Mem) (b : Nat) : Prop := gT M' b = gT M b ∧ (∀ j, gI M' b j = gI M b j) ∧ (∀ j, gR M' b j = gR M b j) ∧ ∀ j, gL M' b j = gL M b j
def refC (A : Nat → Nat) (M : Mem) : Prop := (gR M (A 0) 0 = some (A 1) ∧ gR M (A 0) 1 = some (A 2) ∧ gR M (A 0) 2 = some (A 3) ∧ gR M (A 0) 3 = some (A 4) ∧ gR M (A 0) 4 = some (A 5) ∧ gR M (A 0) 5 = some (A 6)) ∧ (∀ s, s < 6 → gR M (A 1) s = some (A (10 + s))) ∧ (gR M (A 2) 0 = some (A 7) ∧ gR M (A 2) 1 = some (A 8)) ∧ (∀ s, s < 6 → gR M (A (10 + s)) 1 = some (A (20 + s))) ∧ (∀ s c, s < 6 → c < 4 → gR M (A (20 + s)) c = some (A (30 + (s * 4 + c)))) ∧ ∀ w, w < 36 → gR M (A 8) w = some (A (60 + w))
def ShC (A : Nat → Nat) (Fo : Nat → Prop) (M0 M : Mem) : Prop := (∀ i, vid i → gT M (A i) = some (tyO i)) ∧ (∀ i j, vid i → vid j → A i = A j → i = j) ∧ refC A M ∧ (∀ i, vid i → ¬ Fo (A i)) ∧ ∀ b, Fo b → gT M0 b ≠ none ∧ agr M0 M b
theorem agr_rf {M : Mem} {b : Nat} : agr M M b := ⟨rfl, fun _ => rfl, fun _ => rfl, fun _ => rfl⟩
theorem agr_sI {M0 M : Mem} {a k : Nat} {x : Int32} {b : Nat} (h : agr M0 M b) (hne : b ≠ a) : agr M0 (sI M a k x) b := ⟨h.1, fun j => by rw [gI_sI, if_neg (fun e => hne e.1)]; exact h.2.1 j, h.2.2.1, h.2.2.2⟩
theorem agr_sR {M0 M : Mem} {a k : Nat} {x : Option Nat} {b : Nat} (h : agr M0 M b) (hne : b ≠ a) : agr M0 (sR M a k x) b := ⟨h.1, h.2.1, fun j => by rw [gR_sR, if_neg (fun e => hne e.1)]; exact h.2.2.1 j, h.2.2.2⟩
theorem agr_sN {M0 M : Mem} {a : Nat} {t : Nat × Nat} {b : Nat} (h : agr M0 M b) (hne : b ≠ a) : agr M0 (sN M a t) b := ⟨by rw [gT_sN, if_neg hne]; exact h.1, fun j => by rw [gI_sN, if_neg hne]; exact h.2.1 j, fun j => by rw [gR_sN, if_neg hne]; exact h.2.2.1 j, fun j => by rw [gL_sN, if_neg hne]; exact h.2.2.2 j⟩
theorem sh_sI {A : Nat → Nat} {Fo : Nat → Prop} {M0 M : Mem} (h : ShC A Fo M0 M) {a k : Nat} {x : Int32} (ha : ¬ Fo a) : ShC A Fo M0 (sI M a k x) :=
  ⟨h.1, h.2.1, h.2.2.1, h.2.2.2.1, fun b hb => ⟨(h.2.2.2.2 b hb).1, agr_sI (h.2.2.2.2 b hb).2 (fun e => ha (e ▸ hb))⟩⟩
theorem sh_ne {A : Nat → Nat} {Fo : Nat → Prop} {M0 M : Mem} (h : ShC A Fo M0 M) {a i : Nat} {t : Nat × Nat} (ht : gT M a = some t) (hi : vid i) (hn : tyO i ≠ t) : A i ≠ a := by
  intro e
  have h1 := h.1 i hi
  rw [e, ht] at h1
  exact hn (Option.some.inj h1).symm
theorem sh_inj {A : Nat → Nat} {Fo : Nat → Prop} {M0 M : Mem} (h : ShC A Fo M0 M) {i j : Nat} (hi : vid i) (hj : vid j) (hn : i ≠ j) : A i ≠ A j := fun e => hn (h.2.1 i j hi hj e)
theorem sh_sR {A : Nat → Nat} {Fo : Nat → Prop} {M0 M : Mem} (h : ShC A Fo M0 M) {a k : Nat} {x : Option Nat} (ha : ¬ Fo a) (hf : (gT M a = some (1, 0)) ∨ (gT M a = some (2, 0)) ∨ (a = A 2 ∧ k = 3)) : ShC A Fo M0 (sR M a k x) := by
  have key : ∀ i, vid i → ∀ j, tyO i ≠ (1, 0) → tyO i ≠ (2, 0) → ¬ (i = 2 ∧ j = 3) → gR (sR M a k x) (A i) j = gR M (A i) j := by
    intro i hi j h1 h2 h3
    rw [gR_sR, if_neg]
    rintro ⟨e1, e2⟩
    rcases hf with hf | hf | ⟨e3, e4⟩
    · exact sh_ne h hf hi h1 e1
    · exact sh_ne h hf hi h2 e1
    · rw [e3] at e1
      exact h3 ⟨h.2.1 i 2 hi (by unfold vid; omega) e1, by omega⟩
  obtain ⟨⟨r1, r2, r3, r4, r5, r6⟩, r7, ⟨r8, r9⟩, r10, r11, r12⟩ := h.2.2.1
  refine ⟨h.1, h.2.1, ⟨⟨?_, ?_, ?_, ?_, ?_, ?_⟩, fun s hs => ?_, ⟨?_, ?_⟩, fun s hs => ?_, fun s c hs hc => ?_, fun w hw => ?_⟩, h.2.2.2.1, fun b hb => ⟨(h.2.2.2.2 b hb).1, agr_sR (h.2.2.2.2 b hb).2 (fun e => ha (e ▸ hb))⟩⟩
  · rw [key 0 (by unfold vid; omega) 0 (by decide) (by decide) (by decide)]; exact r1
  · rw [key 0 (by unfold vid; omega) 1 (by decide) (by decide) (by decide)]; exact r2
  · rw [key 0 (by unfold vid; omega) 2 (by decide) (by decide) (by decide)]; exact r3
  · rw [key 0 (by unfold vid; omega) 3 (by decide) (by decide) (by decide)]; exact r4
  · rw [key 0 (by unfold vid; omega) 4 (by decide) (by decide) (by decide)]; exact r5
  · rw [key 0 (by unfold vid; omega) 5 (by decide) (by decide) (by decide)]; exact r6
  · rw [key 1 (by unfold vid; omega) s (by decide) (by decide) (by omega)]; exact r7 s hs
  · rw [key 2 (by unfold vid; omega) 0 (by decide) (by decide) (by decide)]; exact r8
  · rw [key 2 (by unfold vid; omega) 1 (by decide) (by decide) (by decide)]; exact r9
  · rw [key (10 + s) (by unfold vid; omega) 1 (by rw [ty_v s hs]; decide) (by rw [ty_v s hs]; decide) (by omega)]; exact r10 s hs
  · rw [key (20 + s) (by unfold vid; omega) c (by rw [ty_c s hs]; decide) (by rw [ty_c s hs]; decide) (by omega)]; exact r11 s c hs hc
  · rw [key 8 (by unfold vid; omega) w (by decide) (by decide) (by omega)]; exact r12 w hw
theorem sh_sN {A : Nat → Nat} {Fo : Nat → Prop} {M0 M : Mem} (h : ShC A Fo M0 M) {q : Nat} {t : Nat × Nat} (hq : gT M q = none) : ShC A Fo M0 (sN M q t) := by
  have ne : ∀ i, vid i → A i ≠ q := fun i hi e => by
    have h1 := h.1 i hi
    rw [e, hq] at h1
    cases h1
  have key : ∀ i, vid i → ∀ j, gR (sN M q t) (A i) j = gR M (A i) j := fun i hi j => by rw [gR_sN, if_neg (ne i hi)]
  obtain ⟨⟨r1, r2, r3, r4, r5, r6⟩, r7, ⟨r8, r9⟩, r10, r11, r12⟩ := h.2.2.1
  refine ⟨fun i hi => by rw [gT_sN, if_neg (ne i hi)]; exact h.1 i hi, h.2.1, ⟨⟨?_, ?_, ?_, ?_, ?_, ?_⟩, fun s hs => ?_, ⟨?_, ?_⟩, fun s hs => ?_, fun s c hs hc => ?_, fun w hw => ?_⟩, h.2.2.2.1, fun b hb => ⟨(h.2.2.2.2 b hb).1, agr_sN (h.2.2.2.2 b hb).2 (fun e => ?_)⟩⟩
  · rw [key 0 (by unfold vid; omega) 0]; exact r1
  · rw [key 0 (by unfold vid; omega) 1]; exact r2
  · rw [key 0 (by unfold vid; omega) 2]; exact r3
  · rw [key 0 (by unfold vid; omega) 3]; exact r4
  · rw [key 0 (by unfold vid; omega) 4]; exact r5
  · rw [key 0 (by unfold vid; omega) 5]; exact r6
  · rw [key 1 (by unfold vid; omega) s]; exact r7 s hs
  · rw [key 2 (by unfold vid; omega) 0]; exact r8
  · rw [key 2 (by unfold vid; omega) 1]; exact r9
  · rw [key (10 + s) (by unfold vid; omega) 1]; exact r10 s hs
  · rw [key (20 + s) (by unfold vid; omega) c]; exact r11 s c hs hc
  · rw [key 8 (by unfold vid; omega) w]; exact r12 w hw
  · have h1 := (h.2.2.2.2 b hb).2.1
    rw [e, hq] at h1
    exact (h.2.2.2.2 b hb).1 (e ▸ h1.symm)
/-! whole numbers -/
def lid (f i : Nat) : Nat := match f with
  | 0 => 7
  | 1 => 10 + i
  | 2 => 30 + i
  | 3 => 30 + i
  | 4 => 30 + i
  | 5 => 30 + i
  | 6 => 4
  | 7 => 3
  | _ => 5
def lsl (f i : Nat) : Nat := match f with
  | 0 => i
  | 1 => 0
  | 2 => 0
  | 3 => 1
  | 4 => 2
  | 5 => 3
  | _ => i
def dmn (f i : Nat) : Prop := match f with
  | 0 => i < 6
  | 1 => i < 6
  | 2 => i < 24
  | 3 => i < 24
  | 4 => i < 24
  | 5 => i < 24
  | 6 => i < 20
  | 7 => i < 20
  | 8 => i < 20
  | _ => False
theorem dmn_c : ∀ f i, dmn f i → (f = 0 ∧ i < 6 ∧ lid f i = 7 ∧ lsl f i = i) ∨ (f = 1 ∧ i < 6 ∧ lid f i = 10 + i ∧ lsl f i = 0) ∨ (2 ≤ f ∧ f ≤ 5 ∧ i < 24 ∧ lid f i = 30 + i ∧ lsl f i = f - 2) ∨ (f = 6 ∧ i < 20 ∧ lid f i = 4 ∧ lsl f i = i) ∨ (f = 7 ∧ i < 20 ∧ lid f i = 3 ∧ lsl f i = i) ∨ (f = 8 ∧ i < 20 ∧ lid f i = 5 ∧ lsl f i = i) := by
  intro f i h
  match f, h with
  | 0, h => exact Or.inl ⟨rfl, h, rfl, rfl⟩
  | 1, h => exact Or.inr (Or.inl ⟨rfl, h, rfl, rfl⟩)
  | 2, h => exact Or.inr (Or.inr (Or.inl ⟨by omega, by omega, h, rfl, rfl⟩))
  | 3, h => exact Or.inr (Or.inr (Or.inl ⟨by omega, by omega, h, rfl, rfl⟩))
  | 4, h => exact Or.inr (Or.inr (Or.inl ⟨by omega, by omega, h, rfl, rfl⟩))
  | 5, h => exact Or.inr (Or.inr (Or.inl ⟨by omega, by omega, h, rfl, rfl⟩))
  | 6, h => exact Or.inr (Or.inr (Or.inr (Or.inl ⟨rfl, h, rfl, rfl⟩)))
  | 7, h => exact Or.inr (Or.inr (Or.inr (Or.inr (Or.inl ⟨rfl, h, rfl, rfl⟩))))
  | 8, h => exact Or.inr (Or.inr (Or.inr (Or.inr (Or.inr ⟨rfl, h, rfl, rfl⟩))))
  | f + 9, h => exact h.elim
theorem dmn_vid {f i : Nat} (h : dmn f i) : vid (lid f i) ∧ tyO (lid f i) ≠ (1, 0) ∧ tyO (lid f i) ≠ (4, 0) ∧ lid f i ≠ 0 ∧ lid f i ≠ 2 := by
  rcases dmn_c f i h with ⟨_, _, e, _⟩ | ⟨_, h2, e, _⟩ | ⟨_, _, h2, e, _⟩ | ⟨_, _, e, _⟩ | ⟨_, _, e, _⟩ | ⟨_, _, e, _⟩
  · rw [e]; exact ⟨by unfold vid; omega, by decide, by decide, by decide, by decide⟩
  · rw [e, ty_v i h2]; exact ⟨by unfold vid; omega, by decide, by decide, by omega, by omega⟩
  · rw [e, ty_i i h2]; exact ⟨by unfold vid; omega, by decide, by decide, by omega, by omega⟩
  · rw [e]; exact ⟨by unfold vid; omega, by decide, by decide, by decide, by decide⟩
  · rw [e]; exact ⟨by unfold vid; omega, by decide, by decide, by decide, by decide⟩
  · rw [e]; exact ⟨by unfold vid; omega, by decide, by decide, by decide, by decide⟩
theorem dmn_inj {f i g j : Nat} (h : dmn f i) (h' : dmn g j) (e1 : lid f i = lid g j) (e2 : lsl f i = lsl g j) : f = g ∧ i = j := by
  rcases dmn_c f i h with ⟨_, _, _, _⟩ | ⟨_, _, _, _⟩ | ⟨_, _, _, _, _⟩ | ⟨_, _, _, _⟩ | ⟨_, _, _, _⟩ | ⟨_, _, _, _⟩ <;> rcases dmn_c g j h' with ⟨_, _, _, _⟩ | ⟨_, _, _, _⟩ | ⟨_, _, _, _, _⟩ | ⟨_, _, _, _⟩ | ⟨_, _, _, _⟩ | ⟨_, _, _, _⟩ <;> omega
def VaC (A : Nat → Nat) (M : Mem) (σ : Sg) : Prop := (∀ f i, dmn f i → gI M (A (lid f i)) (lsl f i) = sgI σ f i) ∧ gI M (A 0) 6 = nI (sgN σ 0) ∧ gI M (A 0) 7 = nI (sgN σ 1)
theorem va_own {A : Nat → Nat} {Fo : Nat → Prop} {M0 M : Mem} {σ : Sg} (hS : ShC A Fo M0 M) (h : VaC A M σ) {f i : Nat} (hd : dmn f i) (x : Int32) : VaC A (sI M (A (lid f i)) (lsl f i) x) (uI σ f i x) := by
  have hv := dmn_vid hd
  refine ⟨fun g j hg => ?_, ?_, ?_⟩
  · rw [gI_sI, sgI_uI]
    by_cases e : g = f ∧ j = i
    · rw [if_pos e, if_pos]
      rw [e.1, e.2]
      exact ⟨rfl, rfl⟩
    · rw [if_neg e, if_neg]
      · exact h.1 g j hg
      · rintro ⟨e1, e2⟩
        exact e (dmn_inj hg hd (hS.2.1 _ _ (dmn_vid hg).1 hv.1 e1) e2)
  · rw [gI_sI, if_neg]
    · exact h.2.1
    · rintro ⟨e1, -⟩
      exact hv.2.2.2.1 (hS.2.1 _ _ (by unfold vid; omega) hv.1 e1).symm
  · rw [gI_sI, if_neg]
    · exact h.2.2
    · rintro ⟨e1, -⟩
      exact hv.2.2.2.1 (hS.2.1 _ _ (by unfold vid; omega) hv.1 e1).symm
/-- a write elsewhere: to a line, or to the wires -/
theorem va_oth {A : Nat → Nat} {Fo : Nat → Prop} {M0 M M' : Mem} {σ : Sg} (hS : ShC A Fo M0 M) (h : VaC A M σ) {a : Nat} (ha : gT M a = some (1, 0) ∨ gT M a = some (4, 0)) (hM : ∀ b j, b ≠ a → gI M' b j = gI M b j) : VaC A M' σ := by
  have ne : ∀ i, vid i → tyO i ≠ (1, 0) → tyO i ≠ (4, 0) → A i ≠ a := fun i hi h1 h2 e => by
    rcases ha with ha | ha
    · exact sh_ne hS ha hi h1 e
    · exact sh_ne hS ha hi h2 e
  refine ⟨fun f i hd => ?_, ?_, ?_⟩
  · have hv := dmn_vid hd
    rw [hM _ _ (ne _ hv.1 hv.2.1 hv.2.2.1)]
    exact h.1 f i hd
  · rw [hM _ _ (ne 0 (by unfold vid; omega) (by decide) (by decide))]
    exact h.2.1
  · rw [hM _ _ (ne 0 (by unfold vid; omega) (by decide) (by decide))]
    exact h.2.2
