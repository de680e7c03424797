/-! THE REFERENCE'S METHODS: a line is got -/
def gcTail (M : Mem) (a0 : Nat) (x2 x7 x11 x13 x15 : Int32) (post : Mem → Prop) : Prop :=
  gT M a0 = some (6, 0) ∧ ∃ b18, gR M a0 9 = some b18 ∧ ∀ J20 : Int32 → Prop, (∀ (x19 : Int32), (inA M b18 10 x2 ∧ ∀ M21, M21 = sI M b18 (Int32.toNatClampNeg x2) x19 → gT M21 a0 = some (6, 0) ∧ ∃ b24, gR M21 a0 10 = some b24 ∧ ∀ J26 : Int32 → Prop, (∀ (x25 : Int32), (inA M21 b24 10 x2 ∧ ∀ M27, M27 = sI M21 b24 (Int32.toNatClampNeg x2) x25 → gT M27 a0 = some (6, 0) ∧ ∃ b30, gR M27 a0 8 = some b30 ∧ ∀ J32 : Int32 → Prop, (∀ (x31 : Int32), (inA M27 b30 10 x2 ∧ ∀ M33, M33 = sI M27 b30 (Int32.toNatClampNeg x2) x31 → gT M33 a0 = some (6, 0) ∧ ∃ b36, gR M33 a0 11 = some b36 ∧ ∀ J38 : Int32 → Prop, (∀ (x37 : Int32), (inA M33 b36 10 x2 ∧ ∀ M39, M39 = sI M33 b36 (Int32.toNatClampNeg x2) x37 → post M39) → J38 x37) → ((x11 = 0 → gT M33 a0 = some (6, 0) ∧ ∃ b42, gR M33 a0 11 = some b42 ∧ inA M33 b42 10 x2 ∧ J38 ((gI M33 b42 (Int32.toNatClampNeg x2)) ||| x7)) ∧ (¬ (x11 = 0) → J38 x7))) → J32 x31) → ((x13 = 0 → gT M27 a0 = some (6, 0) ∧ ∃ b46, gR M27 a0 8 = some b46 ∧ inA M27 b46 10 x2 ∧ J32 (gI M27 b46 (Int32.toNatClampNeg x2))) ∧ (¬ (x13 = 0) → gT M27 a0 = some (6, 0) ∧ J32 (gI M27 a0 26)))) → J26 x25) → ((x13 = 0 → (x15 = 0 → gT M21 a0 = some (6, 0) ∧ ∃ b51, gR M21 a0 10 = some b51 ∧ inA M21 b51 10 x2 ∧ J26 (gI M21 b51 (Int32.toNatClampNeg x2))) ∧ (¬ (x15 = 0) → gT M21 a0 = some (6, 0) ∧ ∃ b54, gR M21 a0 10 = some b54 ∧ inA M21 b54 10 x2 ∧ gT M21 a0 = some (6, 0) ∧ J26 ((gI M21 b54 (Int32.toNatClampNeg x2)) ||| (gI M21 a0 28)))) ∧ (¬ (x13 = 0) → gT M21 a0 = some (6, 0) ∧ J26 (gI M21 a0 28)))) → J20 x19) → ((x13 = 0 → (x15 = 0 → gT M a0 = some (6, 0) ∧ ∃ b61, gR M a0 9 = some b61 ∧ inA M b61 10 x2 ∧ J20 (gI M b61 (Int32.toNatClampNeg x2))) ∧ (¬ (x15 = 0) → gT M a0 = some (6, 0) ∧ ∃ b64, gR M a0 9 = some b64 ∧ inA M b64 10 x2 ∧ gT M a0 = some (6, 0) ∧ J20 ((gI M b64 (Int32.toNatClampNeg x2)) ||| (gI M a0 27)))) ∧ (¬ (x13 = 0) → gT M a0 = some (6, 0) ∧ J20 (gI M a0 27)))
/-- one channel of one view has changed -/
theorem sm_chan {V V' : Vm} {σ τ : Sg} {c : Option Ln} {t : Int32} (h : SimM V σ c t) {i : Nat} (hV : ∀ k j, ¬ (8 ≤ k ∧ k ≤ 11 ∧ j = i) → V' k j = V k j) (h8 : V' 8 i = sgI τ 2 i) (h11 : V' 11 i = sgI τ 5 i) (h9 : sgI τ 2 i ≠ -1 → V' 9 i = sgI τ 3 i ∧ V' 10 i = sgI τ 4 i) (hτ : ∀ f j, ¬ (2 ≤ f ∧ f ≤ 5 ∧ j = i) → sgI τ f j = sgI σ f j) (h0 : sgN τ 0 = sgN σ 0) (h1 : sgN τ 1 = sgN σ 1) (hq : ∀ w, sgQ τ w = sgQ σ w) : SimM V' τ c t := by
  obtain ⟨s1, s2, s3, s4⟩ := h
  refine ⟨fun g j hg hc => ?_, ?_, qm_congr s3 (fun k hk j => hV k j (by omega)) (hV _ _ (by omega)) (hV _ _ (by omega)) hq, fun ln e => cuM_keep (s4 ln e) (fun j hj => hV _ _ (by omega))⟩
  · by_cases e : 2 ≤ g ∧ g ≤ 5 ∧ j = i
    · obtain ⟨e1, e2, e3⟩ := e
      subst e3
      have : g = 2 ∨ g = 3 ∨ g = 4 ∨ g = 5 := by omega
      rcases this with rfl | rfl | rfl | rfl
      · exact h8
      · exact (h9 (hc (Or.inl rfl))).1
      · exact (h9 (hc (Or.inr rfl))).2
      · exact h11
    · have hk : ¬ (8 ≤ kid g ∧ kid g ≤ 11 ∧ j = i) := by
        have := dmn_8 hg
        unfold kid
        split <;> omega
      rw [hV _ _ hk, hτ g j e]
      refine s1 g j hg (fun e2 => ?_)
      rw [← hτ 2 j (fun z => e ⟨by omega, by omega, z.2.2⟩)]
      exact hc e2
  · rw [hV _ _ (by omega), hV _ _ (by omega), hV _ _ (by omega), h0, h1]
    exact s2
section GC
variable {B : Nat → Nat} {M0 M : Mem} {V : Vm}
theorem gcTail_ok (hV : RpV B M0 M V) {i : Nat} (hi : i < 24) (x7 x11 x13 x15 : Int32) {post : Mem → Prop} (hp : ∀ M', RpV B M0 M' (up (up (up (up V 9 i (if x13 = 0 then (if x15 = 0 then V 9 i else V 9 i ||| V 0 27) else V 0 27)) 10 i (if x13 = 0 then (if x15 = 0 then V 10 i else V 10 i ||| V 0 28) else V 0 28)) 8 i (if x13 = 0 then V 8 i else V 0 26)) 11 i (if x11 = 0 then V 11 i ||| x7 else x7)) → post M') : gcTail M (B 0) (nI i) x7 x11 x13 x15 post := by
  have hi31 : i < 2 ^ 31 := by omega
  generalize hy9 : (if x13 = 0 then (if x15 = 0 then V 9 i else V 9 i ||| V 0 27) else V 0 27) = y9 at hp
  generalize hy10 : (if x13 = 0 then (if x15 = 0 then V 10 i else V 10 i ||| V 0 28) else V 0 28) = y10 at hp
  generalize hy8 : (if x13 = 0 then V 8 i else V 0 26) = y8 at hp
  generalize hy11 : (if x11 = 0 then V 11 i ||| x7 else x7) = y11 at hp
  refine ⟨rv_0 hV, _, rv_rf hV vm9 (by decide), fun J20 hJ20 => ?_⟩
  have k20 : J20 y9 := by
    refine hJ20 _ ⟨rv_in hV vm9 (by decide) hi, fun M21 e21 => ?_⟩
    have h21 := rv_sn hV vm9 hi31 y9
    rw [← e21] at h21
    refine ⟨rv_0 h21, _, rv_rf h21 vm10 (by decide), fun J26 hJ26 => ?_⟩
    have k26 : J26 y10 := by
      refine hJ26 _ ⟨rv_in h21 vm10 (by decide) hi, fun M27 e27 => ?_⟩
      have h27 := rv_sn h21 vm10 hi31 y10
      rw [← e27] at h27
      refine ⟨rv_0 h27, _, rv_rf h27 vm8 (by decide), fun J32 hJ32 => ?_⟩
      have k32 : J32 y8 := by
        refine hJ32 _ ⟨rv_in h27 vm8 (by decide) hi, fun M33 e33 => ?_⟩
        have h33 := rv_sn h27 vm8 hi31 y8
        rw [← e33] at h33
        refine ⟨rv_0 h33, _, rv_rf h33 vm11 (by decide), fun J38 hJ38 => ?_⟩
        have k38 : J38 y11 := by
          refine hJ38 _ ⟨rv_in h33 vm11 (by decide) hi, fun M39 e39 => hp M39 ?_⟩
          have h39 := rv_sn h33 vm11 hi31 y11
          rw [← e39] at h39
          exact h39
        refine ⟨fun e => ⟨rv_0 h33, _, rv_rf h33 vm11 (by decide), rv_in h33 vm11 (by decide) hi, ?_⟩, fun e => ?_⟩
        · rw [rv_rn h33 vm11 hi31, up_k _ _ _ _ (by decide), up_k _ _ _ _ (by decide), up_k _ _ _ _ (by decide)]
          rw [if_pos e] at hy11
          rw [hy11]; exact k38
        · rw [if_neg e] at hy11
          rw [hy11]; exact k38
      refine ⟨fun e => ⟨rv_0 h27, _, rv_rf h27 vm8 (by decide), rv_in h27 vm8 (by decide) hi, ?_⟩, fun e => ⟨rv_0 h27, ?_⟩⟩
      · rw [rv_rn h27 vm8 hi31, up_k _ _ _ _ (by decide), up_k _ _ _ _ (by decide)]
        rw [if_pos e] at hy8
        rw [hy8]; exact k32
      · rw [rv_rd h27 vm0, up_k _ _ _ _ (by decide), up_k _ _ _ _ (by decide)]
        rw [if_neg e] at hy8
        rw [hy8]; exact k32
    refine ⟨fun e => ⟨fun e2 => ⟨rv_0 h21, _, rv_rf h21 vm10 (by decide), rv_in h21 vm10 (by decide) hi, ?_⟩, fun e2 => ⟨rv_0 h21, _, rv_rf h21 vm10 (by decide), rv_in h21 vm10 (by decide) hi, rv_0 h21, ?_⟩⟩, fun e => ⟨rv_0 h21, ?_⟩⟩
    · rw [rv_rn h21 vm10 hi31, up_k _ _ _ _ (by decide)]
      rw [if_pos e, if_pos e2] at hy10
      rw [hy10]; exact k26
    · rw [rv_rn h21 vm10 hi31, rv_rd h21 vm0, up_k _ _ _ _ (by decide), up_k _ _ _ _ (by decide)]
      rw [if_pos e, if_neg e2] at hy10
      rw [hy10]; exact k26
    · rw [rv_rd h21 vm0, up_k _ _ _ _ (by decide)]
      rw [if_neg e] at hy10
      rw [hy10]; exact k26
  refine ⟨fun e => ⟨fun e2 => ⟨rv_0 hV, _, rv_rf hV vm9 (by decide), rv_in hV vm9 (by decide) hi, ?_⟩, fun e2 => ⟨rv_0 hV, _, rv_rf hV vm9 (by decide), rv_in hV vm9 (by decide) hi, rv_0 hV, ?_⟩⟩, fun e => ⟨rv_0 hV, ?_⟩⟩
  · rw [rv_rn hV vm9 hi31]
    rw [if_pos e, if_pos e2] at hy9
    rw [hy9]; exact k20
  · rw [rv_rn hV vm9 hi31, rv_rd hV vm0]
    rw [if_pos e, if_neg e2] at hy9
    rw [hy9]; exact k20
  · rw [rv_rd hV vm0]
    rw [if_neg e] at hy9
    rw [hy9]; exact k20
end GC
/-- no members: no channel -/
def cI (σ : Sg) (i : Nat) : Prop := sgI σ 5 i = 0 ↔ sgI σ 2 i = -1
theorem take_I (σ : Sg) (i : Nat) (ag md bn pr : Int32) (f j : Nat) (h : ¬ (2 ≤ f ∧ f ≤ 5 ∧ j = i)) : sgI (takeInL σ i ag md bn pr) f j = sgI σ f j := by
  show sgI (uI (uI (uI (uI σ 3 i _) 4 i _) 2 i _) 5 i _) f j = _
  rw [sgI_uI, if_neg (by omega), sgI_uI, if_neg (by omega), sgI_uI, if_neg (by omega), sgI_uI, if_neg (by omega)]
theorem take_2 (σ : Sg) (i : Nat) (ag md bn pr : Int32) : sgI (takeInL σ i ag md bn pr) 2 i = if sgI σ 2 i = -1 then ag else if ag < sgI σ 2 i then ag else sgI σ 2 i := by
  show sgI (uI (uI (uI (uI σ 3 i _) 4 i _) 2 i (if sgI σ 2 i = -1 then ag else if ag < sgI σ 2 i then ag else sgI σ 2 i)) 5 i _) 2 i = _
  rw [sgI_uI, if_neg (by omega), sgI_uI, if_pos ⟨rfl, rfl⟩]
theorem take_3 (σ : Sg) (i : Nat) (ag md bn pr : Int32) : sgI (takeInL σ i ag md bn pr) 3 i = settle (sgI σ 2 i) (sgI σ 3 i) ag md := by
  show sgI (uI (uI (uI (uI σ 3 i (settle (sgI σ 2 i) (sgI σ 3 i) ag md)) 4 i _) 2 i _) 5 i _) 3 i = _
  rw [sgI_uI, if_neg (by omega), sgI_uI, if_neg (by omega), sgI_uI, if_neg (by omega), sgI_uI, if_pos ⟨rfl, rfl⟩]
theorem take_4 (σ : Sg) (i : Nat) (ag md bn pr : Int32) : sgI (takeInL σ i ag md bn pr) 4 i = settle (sgI σ 2 i) (sgI σ 4 i) ag bn := by
  show sgI (uI (uI (uI (uI σ 3 i _) 4 i (settle (sgI σ 2 i) (sgI σ 4 i) ag bn)) 2 i _) 5 i _) 4 i = _
  rw [sgI_uI, if_neg (by omega), sgI_uI, if_neg (by omega), sgI_uI, if_pos ⟨rfl, rfl⟩]
theorem take_5 (σ : Sg) (i : Nat) (ag md bn pr : Int32) : sgI (takeInL σ i ag md bn pr) 5 i = sgI σ 5 i ||| pr := by
  show sgI (uI (uI (uI (uI σ 3 i _) 4 i _) 2 i _) 5 i (_ ||| pr)) 5 i = _
  rw [sgI_uI, if_pos ⟨rfl, rfl⟩]
theorem take_N (σ : Sg) (i : Nat) (ag md bn pr : Int32) (f : Nat) : sgN (takeInL σ i ag md bn pr) f = sgN σ f := rfl
theorem take_Q (σ : Sg) (i : Nat) (ag md bn pr : Int32) (f : Nat) : sgQ (takeInL σ i ag md bn pr) f = sgQ σ f := rfl
section RF4
variable {B : Nat → Nat} {M0 M : Mem} {σ : Sg} {c : Option Ln} {t : Int32}
theorem r_getsChannel {ln : Ln} (h : RepM B M0 M σ (some ln) t) {s d : Nat} (hs : s < 6) (hd : d < 4) (hln : ln.2.1 = nI d) (hk : ln.1 = 2) (hag : ln.2.2.2.1 ≠ -1) (hc : cI σ (s * 4 + d)) {post : Mem → Prop} (hp : ∀ M', RepM B M0 M' (chanSet σ s ln) (some ln) t → post M') : w_X6_getsChannel M (B 0) (nI s) post := by
  have h0 := h
  obtain ⟨V, hV, hS⟩ := h
  obtain ⟨c1, c2, c3, c4⟩ := hS.2.2.2 ln rfl
  obtain ⟨c26, c27, c28⟩ := c4 (Or.inl hk)
  have hi : s * 4 + d < 24 := by omega
  have hcl : ln.2.1.toNatClampNeg = d := by rw [hln, clN (by omega)]
  unfold chanSet at hp
  rw [hcl] at hp
  refine ⟨rv_0 hV, ?_⟩
  rw [rv_rd hV vm0 24, c2, hln]
  refine r_at s d ?_
  have v7 : V 7 s = sgI σ 1 s := hS.1 1 s hs (by omega)
  have v8 : V 8 (s * 4 + d) = sgI σ 2 (s * 4 + d) := hS.1 2 _ hi (by omega)
  have v11 : V 11 (s * 4 + d) = sgI σ 5 (s * 4 + d) := hS.1 5 _ hi (by omega)
  have v9 : sgI σ 2 (s * 4 + d) ≠ -1 → V 9 (s * 4 + d) = sgI σ 3 (s * 4 + d) ∧ V 10 (s * 4 + d) = sgI σ 4 (s * 4 + d) := fun z => ⟨hS.1 3 _ hi (fun _ => z), hS.1 4 _ hi (fun _ => z)⟩
  generalize s * 4 + d = i at *
  have hi31 : i < 2 ^ 31 := by omega
  refine ⟨rv_0 hV, rv_0 hV, _, rv_rf hV vm7 (by decide), rv_in hV vm7 (by decide) hs, fun x7 e7 => ?_⟩
  rw [rv_rd hV vm0 25, c3, rv_rn hV vm7 (by omega), v7] at e7
  refine ⟨fun e => ?_, fun e => ?_⟩
  · rw [if_pos (by rw [← e7]; exact e)] at hp
    exact hp M h0
  rw [if_neg (by rw [← e7]; exact e), ← e7] at hp
  have fin : ∀ x11 x13 x15 : Int32, (if x13 = 0 then V 8 i else V 0 26) = (if sgI σ 2 i = -1 then ln.2.2.2.1 else if ln.2.2.2.1 < sgI σ 2 i then ln.2.2.2.1 else sgI σ 2 i) → (if x13 = 0 then (if x15 = 0 then V 9 i else V 9 i ||| V 0 27) else V 0 27) = settle (sgI σ 2 i) (sgI σ 3 i) ln.2.2.2.1 ln.2.2.2.2.1 → (if x13 = 0 then (if x15 = 0 then V 10 i else V 10 i ||| V 0 28) else V 0 28) = settle (sgI σ 2 i) (sgI σ 4 i) ln.2.2.2.1 ln.2.2.2.2.2 → (if x11 = 0 then V 11 i ||| x7 else x7) = sgI σ 5 i ||| x7 → gcTail M (B 0) (nI i) x7 x11 x13 x15 post := by
    intro x11 x13 x15 y8 y9 y10 y11
    refine gcTail_ok hV hi x7 x11 x13 x15 (fun M' h' => hp M' ?_)
    rw [y8, y9, y10, y11] at h'
    refine ⟨_, h', sm_chan hS (i := i) (fun k j hkj => ?_) ?_ ?_ (fun _ => ⟨?_, ?_⟩) (take_I σ i _ _ _ _) rfl rfl (fun _ => rfl)⟩
    · rw [up_rd, if_neg (by omega), up_rd, if_neg (by omega), up_rd, if_neg (by omega), up_rd, if_neg (by omega)]
    · rw [up_k _ _ _ _ (by decide), up_s, take_2]
    · rw [up_s, take_5]
    · rw [up_k _ _ _ _ (by decide), up_k _ _ _ _ (by decide), up_k _ _ _ _ (by decide), up_s, take_3]
    · rw [up_k _ _ _ _ (by decide), up_k _ _ _ _ (by decide), up_s, take_4]
  refine ⟨rv_0 hV, _, rv_rf hV vm8 (by decide), rv_in hV vm8 (by decide) hi, ?_⟩
  rw [rv_rn hV vm8 hi31, v8]
  have z01 : ¬ (1 : Int32) = 0 := by decide
  by_cases ha : sgI σ 2 i = -1
  · refine fun J12 hJ12 => ⟨fun _ => hJ12 1 (fun J14 hJ14 J77 hJ77 => ⟨fun z => absurd z z01, fun _ => hJ77 (hJ14 1 (fun J16 hJ16 J70 hJ70 => ⟨fun z => absurd z z01, fun _ => hJ70 (hJ16 0 (fin 1 1 0 ?_ ?_ ?_ ?_))⟩))⟩), fun e9 => absurd ha e9⟩
    · rw [if_neg z01, if_pos ha, c26]
    · rw [if_neg z01, c27]; unfold settle; rw [if_pos ha]
    · rw [if_neg z01, c28]; unfold settle; rw [if_pos ha]
    · rw [if_neg z01, hc.mpr ha]
      exact (b_ext (fun i _ => by rw [b_or, b_0, Bool.false_or])).symm
  · obtain ⟨v9, v10⟩ := v9 ha
    refine fun J12 hJ12 => ⟨fun e9 => absurd e9 ha, fun _ => hJ12 0 (fun J14 hJ14 J77 hJ77 => ⟨fun _ => ⟨rv_0 hV, rv_0 hV, _, rv_rf hV vm8 (by decide), rv_in hV vm8 (by decide) hi, ?_⟩, fun z => absurd rfl z⟩)⟩
    rw [rv_rn hV vm8 hi31, v8, rv_rd hV vm0 26, c26]
    refine ⟨fun hle => hJ14 0 (fun J16 hJ16 J70 hJ70 => ⟨fun _ => ⟨rv_0 hV, rv_0 hV, _, rv_rf hV vm8 (by decide), rv_in hV vm8 (by decide) hi, ?_⟩, fun z => absurd rfl z⟩), fun hle => hJ77 (hJ14 1 (fun J16 hJ16 J70 hJ70 => ⟨fun _ => ⟨rv_0 hV, rv_0 hV, _, rv_rf hV vm8 (by decide), rv_in hV vm8 (by decide) hi, ?_⟩, fun z => absurd rfl z⟩))⟩
    · rw [rv_rn hV vm8 hi31, v8, rv_rd hV vm0 26, c26]
      refine ⟨fun heq => hJ16 1 (fin 0 0 1 ?_ ?_ ?_ ?_), fun hne => hJ70 (hJ16 0 (fin 0 0 0 ?_ ?_ ?_ ?_))⟩
      · rw [if_pos rfl, if_neg ha, if_neg (Int32.not_lt.mpr hle), v8]
      · rw [if_pos rfl, if_neg z01, v9, c27]; unfold settle; rw [if_neg ha, if_neg hag, if_pos heq.symm]
      · rw [if_pos rfl, if_neg z01, v10, c28]; unfold settle; rw [if_neg ha, if_neg hag, if_pos heq.symm]
      · rw [if_pos rfl, v11]
      · rw [if_pos rfl, if_neg ha, if_neg (Int32.not_lt.mpr hle), v8]
      · rw [if_pos rfl, if_pos rfl, v9]
        unfold settle
        rw [if_neg ha, if_neg hag, if_neg (fun z => hne z.symm), if_neg (fun z => hne (Int32.le_antisymm z hle))]
      · rw [if_pos rfl, if_pos rfl, v10]
        unfold settle
        rw [if_neg ha, if_neg hag, if_neg (fun z => hne z.symm), if_neg (fun z => hne (Int32.le_antisymm z hle))]
      · rw [if_pos rfl, v11]
    · rw [rv_rn hV vm8 hi31, v8, rv_rd hV vm0 26, c26]
      have hlt : ln.2.2.2.1 < sgI σ 2 i := Int32.not_le.mp hle
      refine ⟨fun heq => absurd (by rw [heq]; exact Int32.le_refl _) hle, fun hne => hJ70 (hJ16 0 (fin 0 1 0 ?_ ?_ ?_ ?_))⟩
      · rw [if_neg z01, if_neg ha, if_pos hlt, c26]
      · rw [if_neg z01, c27]
        unfold settle
        rw [if_neg ha, if_neg hag, if_neg (fun z => hne z.symm), if_pos (Int32.le_of_lt hlt)]
      · rw [if_neg z01, c28]
        unfold settle
        rw [if_neg ha, if_neg hag, if_neg (fun z => hne z.symm), if_pos (Int32.le_of_lt hlt)]
      · rw [if_pos rfl, v11]
theorem r_getsUser {u : Nat} (h : RepM B M0 M σ (some (qln 0 u)) t) (hL : L6 σ) (hu20 : sgN σ 0 ≤ 20) {s fr hm : Nat} (hs : s < 6) (hd : dst σ s) (hfr : fr < 6) (hu : u < sgN σ 0) (hh : hm < 6) (he : sgI σ 7 u = nI hm) (ht : tot σ + 12 ≤ 16384) {post : Mem → Prop} (hp : ∀ M', RepM B M0 M' (recvUser σ s fr u hm) none t → post M') : w_X6_getsUser M (B 0) (nI s) (nI fr) post := by
  have hu' : u < 20 := by omega
  refine ⟨rm_0 h, fun x2 e2 => ?_⟩
  rw [(rm_cu h).2.1] at e2
  have e2 : x2 = nI u := e2
  subst e2
  refine ⟨rm_0 h, r_treeOf h hL hs ⟨rm_0 h, _, rm_rf h vm4 (by decide), rm_in h vm4 (by decide) hu', ?_⟩⟩
  rw [rm_hm h hu', he]
  unfold recvUser at hp
  refine r_has M _ (by omega) (sp (fun hb => ?_) (fun hb => ⟨rm_0 h, _, rm_rf h vm3 (by decide), rm_in h vm3 (by decide) hu', rm_0 h, ?_⟩))
  · rw [if_neg (by rw [hb]; decide)] at hp
    exact hp M (rm_none h)
  rw [if_pos hb] at hp
  rw [rm_nm h hu']
  refine r_namesake h hu20 hs hd _ _ ?_
  generalize hrv : nsL σ s (sgI σ 6 u) (nI u) = rv at hp ⊢
  intro J14 hJ14
  -- the last part: the user is known, its line goes on
  have fin : ∀ (M15 : Mem) (τ : Sg) (c2 : Option Ln), RepM B M0 M15 τ c2 t → tot τ + 6 ≤ 16384 → (∀ M', RepM B M0 M' (spreadL (uI τ 1 s (sb (sgI τ 1 s) (nI u))) s (nI fr) (qln 0 u)) none t → post M') → gT M15 (B 0) = some (6, 0) ∧ ∃ b18, gR M15 (B 0) 7 = some b18 ∧ inA M15 b18 10 (nI s) ∧ inA M15 b18 10 (nI s) ∧ ∀ M20, M20 = sI M15 b18 (Int32.toNatClampNeg (nI s)) ((gI M15 b18 (Int32.toNatClampNeg (nI s))) ||| (1 <<< (nI u &&& 31))) → gT M20 (B 0) = some (6, 0) ∧ w_X6_makes M20 (B 0) 0 (nI u) 0 (fun M23 => gT M23 (B 0) = some (6, 0) ∧ w_X6_sends M23 (B 0) (nI s) (nI fr) (fun M25 => post M25)) := by
    intro M15 τ c2 h15 ht15 hp15
    refine ⟨rm_0 h15, _, rm_rf h15 vm7 (by decide), rm_in h15 vm7 (by decide) hs, rm_in h15 vm7 (by decide) hs, fun M20 e20 => ?_⟩
    rw [rm_kn h15 hs] at e20
    have h20 := rm_own h15 (f := 1) (i := s) hs (sb (sgI τ 1 s) (nI u)) (by omega) (k := 7) rfl (by omega)
    have h20 : RepM B M0 M20 (uI τ 1 s (sb (sgI τ 1 s) (nI u))) c2 t := by rw [e20]; exact h20
    exact ⟨rm_0 h20, r_makes h20 (by decide) _ _ (fun M23 h23 => ⟨rm_0 h23, r_sends h23 hs (nI fr) ht15 (fun M25 h25 => hp15 M25 (rm_none h25))⟩)⟩
  refine ⟨fun e1 => hJ14 (fun J16 hJ16 => ⟨fun _ => hJ16 M (fin M σ _ h (by omega) ?_), fun z => absurd e1 z⟩), fun e1 => ?_⟩
  · rw [if_pos e1] at hp
    exact hp
  rw [if_neg e1] at hp
  obtain ⟨v, hv, hve, hvm⟩ := nsL_user σ hu20 s (sgI σ 6 u) (nI u) (by rw [hrv]; exact e1)
  rw [hrv] at hve
  subst hve
  have hv' : v < 20 := by omega
  rw [clN (by omega : v < 2 ^ 31)] at hp
  refine ⟨rm_0 h, _, rm_rf h vm5 (by decide), rm_in h vm5 (by decide) hv', rm_0 h, _, rm_rf h vm5 (by decide), rm_in h vm5 (by decide) hu', ?_⟩
  rw [rm_bo h hu', rm_bo h hv']
  refine ⟨fun e2 => hJ14 (fun J16 hJ16 => ⟨fun z => absurd z e1, fun _ => ⟨rm_0 h, r_quits h hs (nI v) (fun M27 h27 => ⟨rm_0 h27, r_makes h27 (by decide) _ _ (fun M29 h29 => ⟨rm_0 h29, r_sends h29 hs (-1) ?_ (fun M31 h31 => hJ16 M31 (fin M31 _ _ h31 ?_ ?_))⟩)⟩)⟩⟩), fun e2 => ⟨rm_0 h, r_makes h (by decide) _ _ (fun M40 h40 => ⟨rm_0 h40, r_puts h40 hs hfr (by omega) (fun M42 h42 => ?_)⟩)⟩⟩
  · rw [forget_tot]; omega
  · have := (spreadN_tot (forgetL σ s (nI v)) hs (-1) (1, nI v, 0, 0, 0, 0) 6 (by omega)).1
    rw [forget_tot] at this
    have this : tot (spreadL (forgetL σ s (nI v)) s (-1) (1, nI v, 0, 0, 0, 0)) ≤ tot σ + 6 := this
    omega
  · rw [if_pos e2] at hp
    exact hp
  · rw [if_neg e2] at hp
    exact hp M42 (rm_none h42)
/-- what a line is, beside its form -/
def lnX (ln : Ln) : Prop := (ln.1 = 3 → ∃ u, u < 20 ∧ ln.2.2.1 = nI u) ∧ ((ln.1 = 2 ∨ ln.1 = 4) → ln.2.2.2.1 ≠ -1)
theorem drop_no (h : RepM B M0 M σ c t) {i u : Nat} (hu : u < 20) (hc : cI σ i) (hb : bt (sgI σ 5 i) u = false) : RepM B M0 M (dropL σ i (nI u)) c t := by
  have e5 : cb (sgI σ 5 i) (nI u) = sgI σ 5 i := b_ext (fun j hj => by
    rw [hs_cb _ (by omega) hj]
    by_cases e : j = u
    · rw [e, hb]; rfl
    · rw [decide_eq_false e]; simp)
  have h1 : RepM B M0 M (uI σ 5 i (cb (sgI σ 5 i) (nI u))) c t := rm_congr h (uI_id σ 5 i e5.symm) rfl rfl (fun _ => rfl)
  unfold dropL
  dsimp only
  split
  · rename_i e
    rw [e5] at e
    have e2 := hc.mp e
    have e2' : sgI (uI σ 5 i (cb (sgI σ 5 i) (nI u))) 2 i = -1 := by rw [sgI_uI, if_neg (by omega)]; exact e2
    have h2 : RepM B M0 M (uI (uI σ 5 i (cb (sgI σ 5 i) (nI u))) 2 i (-1)) c t := rm_congr h1 (uI_id _ 2 i e2') rfl rfl (fun _ => rfl)
    refine rm_stale (rm_stale h2 (Or.inl rfl) ?_ _) (Or.inr rfl) ?_ _
    · rw [sgI_uI, if_pos ⟨rfl, rfl⟩]
    · rw [sgI_uI, if_neg (by omega), sgI_uI, if_pos ⟨rfl, rfl⟩]
  · exact h1
theorem r_gets {ln : Ln} (h : RepM B M0 M σ (some ln) t) (hL : L6 σ) (hW : WFu σ) {s fr : Nat} (hs : s < 6) (hfr : fr < 6) (hd : dst σ s) (hwl : WFln σ ln) (hx : lnX ln) (hc : ∀ i, i < 24 → cI σ i) (ht : tot σ + 12 ≤ 16384) {post : Mem → Prop} (hp : ∀ M', RepM B M0 M' (recvL σ s fr ln) none t → post M') : w_X6_gets M (B 0) (nI s) (nI fr) post := by
  obtain ⟨k1, k2, k3, k4⟩ := rm_cu h
  refine ⟨rm_0 h, fun J3 hJ3 => ?_⟩
  rw [k1]
  unfold recvL at hp
  rcases hwl with ⟨u, hu, hl⟩ | ⟨d, hd4, hlc, hkk⟩
  · have hu' : u < 20 := by have := hW.1; omega
    obtain ⟨hm, hh, he⟩ := hW.2 u hu
    rcases hl with hl | hl
    · subst hl
      have a1 : (qln 0 u).1 = 0 := rfl
      have a2 : (qln 0 u).2.1.toNatClampNeg = u := clN (by omega)
      rw [a2, if_pos a1, he, clN (by omega : hm < 2 ^ 31)] at hp
      exact ⟨fun _ => ⟨rm_0 h, r_getsUser h hL hW.1 hs hd hfr hu hh he ht (fun M70 h70 => hJ3 M70 (hp M70 h70))⟩, fun z => absurd a1 z⟩
    · subst hl
      have a0 : ¬ (qln 1 u).1 = 0 := by show ¬ (1 : Int32) = 0; decide
      have a1 : (qln 1 u).1 = 1 := rfl
      have a2 : (qln 1 u).2.1.toNatClampNeg = u := clN (by omega)
      have k2 : gI M (B 0) 24 = nI u := k2
      rw [a2, if_neg a0, if_pos a1] at hp
      unfold recvQuit at hp
      refine ⟨fun z => absurd z a0, fun _ => ⟨rm_0 h, fun _ => ⟨rm_0 h, _, rm_rf h vm7 (by decide), rm_in h vm7 (by decide) hs, rm_0 h, ?_⟩, fun z => absurd a1 z⟩⟩
      rw [rm_kn h hs, k2]
      refine r_has M _ (by omega) (sp (fun hb => hJ3 M ?_) (fun hb => ⟨rm_0 h, rm_0 h, r_quits h hs (nI u) (fun M64 h64 => ⟨rm_0 h64, r_sends h64 hs (nI fr) ?_ (fun M66 h66 => hJ3 M66 ?_)⟩)⟩))
      · rw [if_neg (by rw [hb]; decide)] at hp
        exact hp M (rm_none h)
      · rw [forget_tot]; omega
      · rw [if_pos hb] at hp
        exact hp M66 (rm_none h66)
  · have hcl : ln.2.1.toNatClampNeg = d := by rw [hlc, clN (by omega)]
    have n0 : ¬ ln.1 = 0 := by rcases hkk with e | e | e <;> (rw [e]; decide)
    have n1 : ¬ ln.1 = 1 := by rcases hkk with e | e | e <;> (rw [e]; decide)
    have hi : s * 4 + d < 24 := by omega
    rw [if_neg n0, if_neg n1] at hp
    refine ⟨fun z => absurd z n0, fun _ => ⟨rm_0 h, fun z => absurd z n1, fun _ => ⟨rm_0 h, fun J7 hJ7 => ?_⟩⟩⟩
    -- the line goes on
    have fin : ∀ M6 τ, RepM B M0 M6 τ (some ln) t → tot τ = tot σ → (∀ M', RepM B M0 M' (spreadL τ s (nI fr) ln) none t → post M') → J7 M6 := fun M6 τ h6 ht6 hp6 => hJ7 M6 ⟨rm_0 h6, r_sends h6 hs (nI fr) (by omega) (fun M9 h9 => hJ3 M9 (hp6 M9 (rm_none h9)))⟩
    rcases hkk with hk | hk | hk
    · rw [if_pos hk] at hp
      exact ⟨fun _ => ⟨rm_0 h, r_getsChannel h hs hd4 hlc hk (hx.2 (Or.inl hk)) (hc _ hi) (fun M55 h55 => fin M55 _ h55 (tot_congr (chan_Q σ s ln)) hp)⟩, fun z => absurd hk z⟩
    · have n2 : ¬ ln.1 = 2 := by rw [hk]; decide
      have n4 : ¬ ln.1 = 4 := by rw [hk]; decide
      obtain ⟨u, hu, hlu⟩ := hx.1 hk
      rw [if_neg n2, if_pos hk] at hp
      unfold recvLeave at hp
      rw [hcl, hlu] at hp
      refine ⟨fun z => absurd z n2, fun _ => ⟨rm_0 h, fun J11 hJ11 => ?_⟩⟩
      have no : (bt (sgI σ 5 (s * 4 + d)) u = false) → J11 := fun hb => hJ11 ⟨rm_0 h, fun z => absurd z n4, fun _ => fin M _ (drop_no h hu (hc _ hi) hb) (tot_congr (drop_Q σ _ _)) hp⟩
      refine ⟨fun _ => ⟨rm_0 h, _, rm_rf h vm11 (by decide), rm_0 h, ?_⟩, fun z => absurd hk z⟩
      rw [k2, hlc]
      refine r_at s d ⟨rm_in h vm11 (by decide) hi, rm_0 h, ?_⟩
      rw [rm_mb h hi, k3, hlu]
      refine r_has M _ (by omega) (sp (fun hb => no hb) (fun hb => ⟨rm_0 h, _, rm_rf h vm8 (by decide), rm_0 h, r_at s d ⟨rm_in h vm8 (by decide) hi, ?_⟩⟩))
      rw [rm_ag h hi]
      refine ⟨fun e => ?_, fun e => ⟨rm_0 h, rm_0 h, rm_0 h, r_leaves h hs hd4 (nI u) (fun M50 h50 => fin M50 _ h50 (tot_congr (drop_Q σ _ _)) hp)⟩⟩
      rw [(hc _ hi).mpr e, b_0] at hb
      cases hb
    · have n2 : ¬ ln.1 = 2 := by rw [hk]; decide
      have n3 : ¬ ln.1 = 3 := by rw [hk]; decide
      have hag := hx.2 (Or.inr hk)
      obtain ⟨k26, k27, k28⟩ := k4 (Or.inr hk)
      rw [if_neg n2, if_neg n3] at hp
      unfold recvModes at hp
      rw [hcl] at hp
      refine ⟨fun z => absurd z n2, fun _ => ⟨rm_0 h, fun J11 hJ11 => ⟨fun z => absurd z n3, fun _ => hJ11 ⟨rm_0 h, fun _ => ⟨rm_0 h, _, rm_rf h vm8 (by decide), rm_0 h, ?_⟩, fun z => absurd hk z⟩⟩⟩⟩
      rw [k2, hlc]
      refine r_at s d ⟨rm_in h vm8 (by decide) hi, rm_0 h, ?_⟩
      rw [rm_ag h hi, k26]
      unfold modeSet at hp
      refine ⟨fun e => ⟨rm_0 h, _, rm_rf h vm9 (by decide), rm_0 h, r_at s d ⟨rm_0 h, rm_in h vm9 (by decide) hi, fun M24 e24 => ?_⟩⟩, fun e => ?_⟩
      · rw [k27] at e24
        have hn : ¬ sgI σ 5 (s * 4 + d) = 0 := fun z => hag (by rw [← e]; exact (hc _ hi).mp z)
        rw [if_pos ⟨hn, e⟩] at hp
        have h24 := rm_own h (f := 3) (i := s * 4 + d) hi ln.2.2.2.2.1 (by omega) (k := 9) rfl (by omega)
        rw [← e24] at h24
        refine ⟨rm_0 h24, _, rm_rf h24 vm10 (by decide), rm_0 h24, ?_⟩
        rw [(rm_cu h24).2.1, hlc]
        refine r_at s d ⟨rm_0 h24, rm_in h24 vm10 (by decide) hi, fun M31 e31 => ?_⟩
        rw [((rm_cu h24).2.2.2 (Or.inr hk)).2.2] at e31
        have h31 := rm_own h24 (f := 4) (i := s * 4 + d) hi ln.2.2.2.2.2 (by omega) (k := 10) rfl (by omega)
        rw [← e31] at h31
        exact fin M31 _ h31 rfl hp
      · rw [if_neg (fun z => e z.2)] at hp
        exact fin M σ h rfl hp
end RF4
