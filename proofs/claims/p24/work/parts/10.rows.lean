/-! rows by class, loops, and the words' bundle -/
def KC (ci : Nat) (CN : String) (T : u_T) (N : Nat) (tyT : Nat → FieldType) : Prop := vwCl[ci]? = some (CN, T, N) ∧ ci < 7 ∧ nf ci = N ∧ (∀ w ∈ u_ws CN T N, w ∈ lwg) ∧ (∀ k, k < N → parseFieldDescriptor (T k).2.2.1 = some (tyT k)) ∧ (∀ a, a < N → ∀ b, b < N → a ≠ b → (T a).2.1 ≠ (T b).2.1) ∧ ∀ j, j < N → defaultValue (tyT j) = if kd ci j = true then .int 0 else .null
set_option maxRecDepth 100000 in
theorem kc0 : KC 0 RX0 TX0 4 tyX0 := ⟨rfl, by decide, rfl, by decide +kernel, tyX0_ok, nmX0, by decide +kernel⟩
set_option maxRecDepth 100000 in
theorem kc1 : KC 1 RX1 TX1 8 tyX1 := ⟨rfl, by decide, rfl, by decide +kernel, tyX1_ok, nmX1, by decide +kernel⟩
set_option maxRecDepth 100000 in
theorem kc2 : KC 2 RX2 TX2 2 tyX2 := ⟨rfl, by decide, rfl, by decide +kernel, tyX2_ok, nmX2, by decide +kernel⟩
set_option maxRecDepth 100000 in
theorem kc3 : KC 3 RX3 TX3 2 tyX3 := ⟨rfl, by decide, rfl, by decide +kernel, tyX3_ok, nmX3, by decide +kernel⟩
set_option maxRecDepth 100000 in
theorem kc4 : KC 4 RX4 TX4 5 tyX4 := ⟨rfl, by decide, rfl, by decide +kernel, tyX4_ok, nmX4, by decide +kernel⟩
set_option maxRecDepth 100000 in
theorem kc5 : KC 5 RX5 TX5 8 tyX5 := ⟨rfl, by decide, rfl, by decide +kernel, tyX5_ok, nmX5, by decide +kernel⟩
section GF
variable {X : XT} {d nL mc ms ci N : Nat} {cc : ByteArray} {ow CN : String} {T : u_T} {tyT : Nat → FieldType} {M : Mem} {k n pc : Nat} {lv : List (Nat × Value)} {st : List Value}
theorem g_getI (C : Cx X d cc nL ow mc ms) (K : KC ci CN T N tyT) {a idx : Nat} (f : Nat) (hf : f < N) (hw : Cond.fieldLink ow idx (T f).1 (T f).2.1 (T f).2.2.1 ∈ lwg) (hd : decode cc pc = .ok (.getfield idx, 3)) (hk : kd ci f = true) (hT : gT M a = some (ci, 0)) (kk : G X nL M k n (pc + 3) lv (.int (gI M a f) :: st)) : G X nL M k n pc lv (.ref a :: st) := by
  refine g_get C K.1 K.2.1 K.2.2.1 K.2.2.2.1 hf hw hd hT ?_
  unfold fV
  rw [if_pos hk]
  exact kk
theorem g_getR (C : Cx X d cc nL ow mc ms) (K : KC ci CN T N tyT) {a idx : Nat} (f : Nat) (hf : f < N) (hw : Cond.fieldLink ow idx (T f).1 (T f).2.1 (T f).2.2.1 ∈ lwg) (hd : decode cc pc = .ok (.getfield idx, 3)) (hk : kd ci f = false) (hT : gT M a = some (ci, 0)) {r : Option Nat} (hr : gR M a f = r) (kk : G X nL M k n (pc + 3) lv (va_rf r :: st)) : G X nL M k n pc lv (.ref a :: st) := by
  refine g_get C K.1 K.2.1 K.2.2.1 K.2.2.2.1 hf hw hd hT ?_
  unfold fV
  rw [if_neg (by rw [hk]; decide), hr]
  exact kk
theorem g_getA (C : Cx X d cc nL ow mc ms) (K : KC ci CN T N tyT) {a idx : Nat} (f : Nat) (hf : f < N) (hw : Cond.fieldLink ow idx (T f).1 (T f).2.1 (T f).2.2.1 ∈ lwg) (hd : decode cc pc = .ok (.getfield idx, 3)) (hk : kd ci f = false) (hT : gT M a = some (ci, 0)) {b : Nat} (hr : gR M a f = some b) (kk : G X nL M k n (pc + 3) lv (.ref b :: st)) : G X nL M k n pc lv (.ref a :: st) := g_getR C K f hf hw hd hk hT hr kk
abbrev finF (X : XT) (T : u_T) (f : Nat) (ow : String) : Prop := (T f).2.2.2 = false ∨ ((T f).2.2.2 = true ∧ (∀ (m0 : Method), X.2.2.2.2.2.2.2.2.1 = m0 → m0.name = "<init>") ∧ (T f).1 = ow)
theorem g_putI (C : Cx X d cc nL ow mc ms) (K : KC ci CN T N tyT) {a idx : Nat} {x : Int32} (f : Nat) (hf : f < N) (hw : Cond.fieldLink ow idx (T f).1 (T f).2.1 (T f).2.2.1 ∈ lwg) (hd : decode cc pc = .ok (.putfield idx, 3)) (hk : kd ci f = true) (hty : tyT f = .int) (hfin : finF X T f ow) (hT : gT M a = some (ci, 0)) (kk : G X nL (sI M a f x) k n (pc + 3) lv st) : G X nL M k n pc lv (.int x :: .ref a :: st) := by
  refine g_put (M' := sI M a f x) C K.1 K.2.1 K.2.2.1 K.2.2.2.1 K.2.2.2.2.1 K.2.2.2.2.2.1 hf hw hd hfin (by rw [hty]; rfl) (by rw [hty]; rfl) hT ⟨fun _ => rfl, fun b j hb => by rw [gI_sI, if_neg (fun h => hb h.1)], fun _ _ _ => rfl, fun _ _ _ => rfl, fun j _ => ?_⟩ kk
  unfold fV
  by_cases e : j = f
  · subst e
    rw [if_pos rfl, if_pos hk, gI_sI, if_pos ⟨rfl, rfl⟩]
  · have h1 : gI (sI M a f x) a j = gI M a j := by rw [gI_sI, if_neg (fun h => e h.2)]
    rw [if_neg e, h1, gR_sI]
theorem g_putR (C : Cx X d cc nL ow mc ms) (K : KC ci CN T N tyT) {a idx : Nat} {r : Option Nat} (f : Nat) (hf : f < N) (hw : Cond.fieldLink ow idx (T f).1 (T f).2.1 (T f).2.2.1 ∈ lwg) (hd : decode cc pc = .ok (.putfield idx, 3)) (hk : kd ci f = false) (hty : ∀ r : Option Nat, narrow (tyT f) (va_rf r) = va_rf r ∧ fits (tyT f) (va_rf r) = true) (hfin : finF X T f ow) (hT : gT M a = some (ci, 0)) (kk : G X nL (sR M a f r) k n (pc + 3) lv st) : G X nL M k n pc lv (va_rf r :: .ref a :: st) := by
  refine g_put (M' := sR M a f r) C K.1 K.2.1 K.2.2.1 K.2.2.2.1 K.2.2.2.2.1 K.2.2.2.2.2.1 hf hw hd hfin (hty r).1 (hty r).2 hT ⟨fun _ => rfl, fun _ _ _ => rfl, fun b j hb => by rw [gR_sR, if_neg (fun h => hb h.1)], fun _ _ _ => rfl, fun j _ => ?_⟩ kk
  unfold fV
  by_cases e : j = f
  · subst e
    rw [if_pos rfl, if_neg (by rw [hk]; decide), gR_sR, if_pos ⟨rfl, rfl⟩]
  · have h1 : gR (sR M a f r) a j = gR M a j := by rw [gR_sR, if_neg (fun h => e h.2)]
    rw [if_neg e, h1, gI_sR]
theorem g_newK (C : Cx X d cc nL ow mc ms) (K : KC ci CN T N tyT) {idx : Nat} (hw1 : Cond.classLink ow idx CN ∈ lwg) (hw2 : Cond.instantiable CN N ∈ lwg) (hw3 : Cond.initialized CN ∈ lwg) (hd : decode cc pc = .ok (.new idx, 3)) (hk : k + 1 ≤ mc ∧ n + N ≤ ms) (kk : ∀ q, gT M q = none → G X nL (sN M q (ci, 0)) (k + 1) (n + N) (pc + 3) lv (.ref q :: st)) : G X nL M k n pc lv st :=
  g_new C K.1 K.2.1 K.2.2.1 K.2.2.2.1 K.2.2.2.2.1 K.2.2.2.2.2.2 hw1 hw2 hw3 hd hk kk
/-- an index into an array of kind c -/
def inA (M : Mem) (a c : Nat) (i : Int32) : Prop := ∃ N, gT M a = some (c, N) ∧ vp_in i N
theorem g_ialdA (C : Cx X d cc nL ow mc ms) {a : Nat} {i : Int32} (hd : decode cc pc = .ok (.iaload, 1)) (hi : inA M a 10 i) (kk : G X nL M k n (pc + 1) lv (.int (gI M a i.toNatClampNeg) :: st)) : G X nL M k n pc lv (.int i :: .ref a :: st) := by
  obtain ⟨N, h1, h2⟩ := hi
  exact g_iald C hd h1 h2 kk
theorem g_aaldA (C : Cx X d cc nL ow mc ms) {a ck b : Nat} {i : Int32} (hck : ck = 12 ∨ ck = 13 ∨ ck = 14) (hd : decode cc pc = .ok (.aaload, 1)) (hi : inA M a ck i) (hb : gR M a i.toNatClampNeg = some b) (kk : G X nL M k n (pc + 1) lv (.ref b :: st)) : G X nL M k n pc lv (.int i :: .ref a :: st) := by
  obtain ⟨N, h1, h2⟩ := hi
  refine g_aald C hck hd h1 h2 ?_
  rw [hb]
  exact kk
theorem g_iastA (C : Cx X d cc nL ow mc ms) {a : Nat} {i x : Int32} (hd : decode cc pc = .ok (.iastore, 1)) (hi : inA M a 10 i) (kk : G X nL (sI M a i.toNatClampNeg x) k n (pc + 1) lv st) : G X nL M k n pc lv (.int x :: .int i :: .ref a :: st) := by
  obtain ⟨N, h1, h2⟩ := hi
  exact g_iast C hd h1 h2 kk
theorem g_aastA (C : Cx X d cc nL ow mc ms) {a ck v : Nat} {i : Int32} (ci' : Nat) (hck : (ck = 12 ∧ ci' = 3) ∨ (ck = 13 ∧ ci' = 0) ∨ (ck = 14 ∧ ci' = 2)) (hd : decode cc pc = .ok (.aastore, 1)) (hi : inA M a ck i) (hV : gT M v = some (ci', 0)) (kk : G X nL (sR M a i.toNatClampNeg (some v)) k n (pc + 1) lv st) : G X nL M k n pc lv (.ref v :: .int i :: .ref a :: st) := by
  obtain ⟨N, h1, h2⟩ := hi
  exact g_aast C hck hd h1 hV h2 kk
end GF
/-- a loop: an invariant and a measure -/
def Lp {σ : Type} (F : (σ → Prop) → σ → Prop) (x0 : σ) : Prop := ∃ (I : σ → Prop) (μ : σ → Nat), I x0 ∧ ∀ x, I x → F (fun y => I y ∧ μ y < μ x) x
theorem Lp_use {σ : Type} {F : (σ → Prop) → σ → Prop} {x0 : σ} (P : σ → Prop) (h : Lp F x0) (hs : ∀ (K : σ → Prop) (x : σ), (∀ y, K y → P y) → F K x → P x) : P x0 := by
  obtain ⟨I, μ, h0, h1⟩ := h
  have key : ∀ (b : Nat) (x : σ), μ x ≤ b → I x → P x := by
    intro b
    induction b with
    | zero => intro x hx hI; exact hs _ x (fun y hy => absurd hy.2 (by omega)) (h1 x hI)
    | succ b ih => intro x hx hI; exact hs _ x (fun y hy => ih y (by omega) hy.1) (h1 x hI)
  exact key _ x0 (Nat.le_refl _) h0
theorem nar_o (C : String) : ∀ r : Option Nat, narrow (.object C) (va_rf r) = va_rf r ∧ fits (.object C) (va_rf r) = true := fun r => by cases r <;> exact ⟨rfl, rfl⟩
theorem nar_a (t : FieldType) : ∀ r : Option Nat, narrow (.array t) (va_rf r) = va_rf r ∧ fits (.array t) (va_rf r) = true := fun r => by cases r <;> exact ⟨rfl, rfl⟩
abbrev pI (f : Mem → Int32 → Prop) : Mem → Option Value → Prop := fun M' v => ∃ r : Int32, v = some (.int r) ∧ f M' r
abbrev pV (f : Mem → Prop) : Mem → Option Value → Prop := fun M' v => v = none ∧ f M'
abbrev pR (f : Mem → Option Nat → Prop) : Mem → Option Value → Prop := fun M' v => ∃ r : Option Nat, v = some (va_rf r) ∧ f M' r
theorem xs_212 : (212, "there is no such server") ∈ xwS := List.mem_of_getElem? (i := 0) rfl
theorem xs_61 : (61, "both are in one tree") ∈ xwS := List.mem_of_getElem? (i := 1) rfl
theorem xs_79 : (79, "they have no link") ∈ xwS := List.mem_of_getElem? (i := 2) rfl
theorem xs_90 : (90, "there is no line") ∈ xwS := List.mem_of_getElem? (i := 3) rfl
theorem xs_103 : (103, "the name is no letter") ∈ xwS := List.mem_of_getElem? (i := 4) rfl
theorem xs_110 : (110, "the name is known there, or 20 users have signed on") ∈ xwS := List.mem_of_getElem? (i := 5) rfl
theorem xs_217 : (217, "there is no such user") ∈ xwS := List.mem_of_getElem? (i := 6) rfl
theorem xs_219 : (219, "the user is gone") ∈ xwS := List.mem_of_getElem? (i := 7) rfl
theorem xs_215 : (215, "there is no such channel") ∈ xwS := List.mem_of_getElem? (i := 8) rfl
theorem xs_144 : (144, "the user is a member there") ∈ xwS := List.mem_of_getElem? (i := 9) rfl
theorem xs_153 : (153, "the name is banned there") ∈ xwS := List.mem_of_getElem? (i := 10) rfl
theorem xs_221 : (221, "the user is no member") ∈ xwS := List.mem_of_getElem? (i := 11) rfl
theorem xs_177 : (177, "the modes or bans are out of range") ∈ xwS := List.mem_of_getElem? (i := 12) rfl
theorem sw_o {x : Int32} {N : Nat} (hN : N < 2 ^ 31) (h : ∀ j : Nat, j ≤ N → ¬ x = nI j) : x.toInt < 0 ∨ (N : Int) < x.toInt := by
  by_cases h0 : x.toInt < 0
  · exact Or.inl h0
  · refine Or.inr ?_
    by_cases h1 : (N : Int) < x.toInt
    · exact h1
    · refine absurd (Int32.toInt_inj.mp ?_) (h x.toInt.toNat (by omega))
      rw [nI_toInt (by omega)]
      omega
theorem sw_out4 {x : Int32} (h0 : ¬ x = 0) (h1 : ¬ x = 1) (h2 : ¬ x = 2) (h3 : ¬ x = 3) : x.toInt < 0 ∨ 3 < x.toInt := sw_o (N := 3) (by decide) (fun j hj => by
  rcases (show j = 0 ∨ j = 1 ∨ j = 2 ∨ j = 3 by omega) with rfl | rfl | rfl | rfl
  · exact h0
  · exact h1
  · exact h2
  · exact h3)
theorem sw_out21 {x : Int32} (h0 : ¬ x = 0) (h1 : ¬ x = 1) (h2 : ¬ x = 2) (h3 : ¬ x = 3) (h4 : ¬ x = 4) (h5 : ¬ x = 5) (h6 : ¬ x = 6) (h7 : ¬ x = 7) (h8 : ¬ x = 8) (h9 : ¬ x = 9) (h10 : ¬ x = 10) (h11 : ¬ x = 11) (h12 : ¬ x = 12) (h13 : ¬ x = 13) (h14 : ¬ x = 14) (h15 : ¬ x = 15) (h16 : ¬ x = 16) (h17 : ¬ x = 17) (h18 : ¬ x = 18) (h19 : ¬ x = 19) (h20 : ¬ x = 20) : x.toInt < 0 ∨ 20 < x.toInt := sw_o (N := 20) (by decide) (fun j hj => by
  rcases (show j = 0 ∨ j = 1 ∨ j = 2 ∨ j = 3 ∨ j = 4 ∨ j = 5 ∨ j = 6 ∨ j = 7 ∨ j = 8 ∨ j = 9 ∨ j = 10 ∨ j = 11 ∨ j = 12 ∨ j = 13 ∨ j = 14 ∨ j = 15 ∨ j = 16 ∨ j = 17 ∨ j = 18 ∨ j = 19 ∨ j = 20 by omega) with rfl | rfl | rfl | rfl | rfl | rfl | rfl | rfl | rfl | rfl | rfl | rfl | rfl | rfl | rfl | rfl | rfl | rfl | rfl | rfl | rfl
  · exact h0
  · exact h1
  · exact h2
  · exact h3
  · exact h4
  · exact h5
  · exact h6
  · exact h7
  · exact h8
  · exact h9
  · exact h10
  · exact h11
  · exact h12
  · exact h13
  · exact h14
  · exact h15
  · exact h16
  · exact h17
  · exact h18
  · exact h19
  · exact h20)
