/-! rows by class, loops, and the words' bundle -/
def KC (ci : Nat) (CN : String) (T : u_T) (N : Nat) (tyT : Nat → FieldType) : Prop := vwCl[ci]? = some (CN, T, N) ∧ ci < 7 ∧ nf ci = N ∧ (∀ w ∈ u_ws CN T N, w ∈ lwg) ∧ (∀ k, k < N → parseFieldDescriptor (T k).2.2.1 = some (tyT k)) ∧ (∀ a, a < N → ∀ b, b < N → a ≠ b → (T a).2.1 ≠ (T b).2.1) ∧ ∀ j, j < N → defaultValue (tyT j) = if kd ci j = true then .int 0 else .null
set_option maxRecDepth 100000 in
theorem kc0 : KC 0 RX0 TX0 4 tyX0 := ⟨rfl, by decide, rfl, by decide +kernel, tyX0_ok, nmX0, by decide +kernel⟩
set_option maxRecDepth 100000 in
theorem kc1 : KC 1 RX1 TX1 8 tyX1 := ⟨rfl, by decide, rfl, by decide +kernel, tyX1_ok, nmX1, by decide +kernel⟩
set_option maxRecDepth 100000 in
theorem kc2 : KC 2 RX2 TX2 2 tyX2 := ⟨rfl, by decide, rfl, by decide +kernel, tyX2_ok, nmX2, by decide +kernel⟩
set_option maxRecDepth 100000 in
theorem kc3 : KC 3 RX3 TX3 2 tyX3 := ⟨rfl, by decide, rfl, by decide +kernel, tyX3_ok, nmX3, by decide +kernel⟩
set_option maxRecDepth 100000 in
theorem kc4 : KC 4 RX4 TX4 5 tyX4 := ⟨rfl, by decide, rfl, by decide +kernel, tyX4_ok, nmX4, by decide +kernel⟩
set_option maxRecDepth 100000 in
theorem kc5 : KC 5 RX5 TX5 8 tyX5 := ⟨rfl, by decide, rfl, by decide +kernel, tyX5_ok, nmX5, by decide +kernel⟩
set_option maxRecDepth 100000 in
theorem kc6 : KC 6 RX6 TX6 29 tyX6 := ⟨rfl, by decide, rfl, by decide +kernel, tyX6_ok, nmX6, by decide +kernel⟩
section GF
variable {X : XT} {d nL mc ms ci N : Nat} {cc : ByteArray} {ow CN : String} {T : u_T} {tyT : Nat → FieldType} {M : Mem} {k n pc : Nat} {lv : List (Nat × Value)} {st : List Value}
theorem g_getI (C : Cx X d cc nL ow mc ms) (K : KC ci CN T N tyT) {a idx : Nat} (f : Nat) (hf : f < N) (hw : Cond.fieldLink ow idx (T f).1 (T f).2.1 (T f).2.2.1 ∈ lwg) (hd : decode cc pc = .ok (.getfield idx, 3)) (hk : kd ci f = true) (hT : gT M a = some (ci, 0)) (kk : G X nL M k n (pc + 3) lv (.int (gI M a f) :: st)) : G X nL M k n pc lv (.ref a :: st) := by
  refine g_get C K.1 K.2.1 K.2.2.1 K.2.2.2.1 hf hw hd hT ?_
  unfold fV
  rw [if_pos hk]
  exact kk
theorem g_getR (C : Cx X d cc nL ow mc ms) (K : KC ci CN T N tyT) {a idx : Nat} (f : Nat) (hf : f < N) (hw : Cond.fieldLink ow idx (T f).1 (T f).2.1 (T f).2.2.1 ∈ lwg) (hd : decode cc pc = .ok (.getfield idx, 3)) (hk : kd ci f = false) (hT : gT M a = some (ci, 0)) {r : Option Nat} (hr : gR M a f = r) (kk : G X nL M k n (pc + 3) lv (va_rf r :: st)) : G X nL M k n pc lv (.ref a :: st) := by
  refine g_get C K.1 K.2.1 K.2.2.1 K.2.2.2.1 hf hw hd hT ?_
  unfold fV
  rw [if_neg (by rw [hk]; decide), hr]
  exact kk
theorem g_getA (C : Cx X d cc nL ow mc ms) (K : KC ci CN T N tyT) {a idx : Nat} (f : Nat) (hf : f < N) (hw : Cond.fieldLink ow idx (T f).1 (T f).2.1 (T f).2.2.1 ∈ lwg) (hd : decode cc pc = .ok (.getfield idx, 3)) (hk : kd ci f = false) (hT : gT M a = some (ci, 0)) {b : Nat} (hr : gR M a f = some b) (kk : G X nL M k n (pc + 3) lv (.ref b :: st)) : G X nL M k n pc lv (.ref a :: st) := g_getR C K f hf hw hd hk hT hr kk
abbrev finF (X : XT) (T : u_T) (f : Nat) (ow : String) : Prop := (T f).2.2.2 = false ∨ ((T f).2.2.2 = true ∧ (∀ (m0 : Method), X.2.2.2.2.2.2.2.2.1 = m0 → m0.name = "<init>") ∧ (T f).1 = ow)
theorem g_putI (C : Cx X d cc nL ow mc ms) (K : KC ci CN T N tyT) {a idx : Nat} {x : Int32} (f : Nat) (hf : f < N) (hw : Cond.fieldLink ow idx (T f).1 (T f).2.1 (T f).2.2.1 ∈ lwg) (hd : decode cc pc = .ok (.putfield idx, 3)) (hk : kd ci f = true) (hty : tyT f = .int) (hfin : finF X T f ow) (hT : gT M a = some (ci, 0)) (kk : G X nL (sI M a f x) k n (pc + 3) lv st) : G X nL M k n pc lv (.int x :: .ref a :: st) := by
  refine g_put (M' := sI M a f x) C K.1 K.2.1 K.2.2.1 K.2.2.2.1 K.2.2.2.2.1 K.2.2.2.2.2.1 hf hw hd hfin (by rw [hty]; rfl) (by rw [hty]; rfl) hT ⟨fun _ => rfl, fun b j hb => by rw [gI_sI, if_neg (fun h => hb h.1)], fun _ _ _ => rfl, fun _ _ _ => rfl, fun j _ => ?_⟩ kk
  unfold fV
  by_cases e : j = f
  · subst e
    rw [if_pos rfl, if_pos hk, gI_sI, if_pos ⟨rfl, rfl⟩]
  · have h1 : gI (sI M a f x) a j = gI M a j := by rw [gI_sI, if_neg (fun h => e h.2)]
    rw [if_neg e, h1, gR_sI]
theorem g_putR (C : Cx X d cc nL ow mc ms) (K : KC ci CN T N tyT) {a idx : Nat} {r : Option Nat} (f : Nat) (hf : f < N) (hw : Cond.fieldLink ow idx (T f).1 (T f).2.1 (T f).2.2.1 ∈ lwg) (hd : decode cc pc = .ok (.putfield idx, 3)) (hk : kd ci f = false) (hty : ∀ r : Option Nat, narrow (tyT f) (va_rf r) = va_rf r ∧ fits (tyT f) (va_rf r) = true) (hfin : finF X T f ow) (hT : gT M a = some (ci, 0)) (kk : G X nL (sR M a f r) k n (pc + 3) lv st) : G X nL M k n pc lv (va_rf r :: .ref a :: st) := by
  refine g_put (M' := sR M a f r) C K.1 K.2.1 K.2.2.1 K.2.2.2.1 K.2.2.2.2.1 K.2.2.2.2.2.1 hf hw hd hfin (hty r).1 (hty r).2 hT ⟨fun _ => rfl, fun _ _ _ => rfl, fun b j hb => by rw [gR_sR, if_neg (fun h => hb h.1)], fun _ _ _ => rfl, fun j _ => ?_⟩ kk
  unfold fV
  by_cases e : j = f
  · subst e
    rw [if_pos rfl, if_neg (by rw [hk]; decide), gR_sR, if_pos ⟨rfl, rfl⟩]
  · have h1 : gR (sR M a f r) a j = gR M a j := by rw [gR_sR, if_neg (fun h => e h.2)]
    rw [if_neg e, h1, gI_sR]
theorem g_newK (C : Cx X d cc nL ow mc ms) (K : KC ci CN T N tyT) {idx : Nat} (hw1 : Cond.classLink ow idx CN ∈ lwg) (hw2 : Cond.instantiable CN N ∈ lwg) (hw3 : Cond.initialized CN ∈ lwg) (hd : decode cc pc = .ok (.new idx, 3)) (hk : k + 1 ≤ mc ∧ n + N ≤ ms) (kk : ∀ q, gT M q = none → G X nL (sN M q (ci, 0)) (k + 1) (n + N) (pc + 3) lv (.ref q :: st)) : G X nL M k n pc lv st :=
  g_new C K.1 K.2.1 K.2.2.1 K.2.2.2.1 K.2.2.2.2.1 K.2.2.2.2.2.2 hw1 hw2 hw3 hd hk kk
/-- an index into an array of kind c -/
def inA (M : Mem) (a c : Nat) (i : Int32) : Prop := ∃ N, gT M a = some (c, N) ∧ vp_in i N
theorem g_ialdA (C : Cx X d cc nL ow mc ms) {a : Nat} {i : Int32} (hd : decode cc pc = .ok (.iaload, 1)) (hi : inA M a 10 i) (kk : G X nL M k n (pc + 1) lv (.int (gI M a i.toNatClampNeg) :: st)) : G X nL M k n pc lv (.int i :: .ref a :: st) := by
  obtain ⟨N, h1, h2⟩ := hi
  exact g_iald C hd h1 h2 kk
theorem g_laldA (C : Cx X d cc nL ow mc ms) {a : Nat} {i : Int32} (hd : decode cc pc = .ok (.laload, 1)) (hi : inA M a 11 i) (kk : G X nL M k n (pc + 1) lv (.long (gL M a i.toNatClampNeg) :: st)) : G X nL M k n pc lv (.int i :: .ref a :: st) := by
  obtain ⟨N, h1, h2⟩ := hi
  exact g_lald C hd h1 h2 kk
theorem g_aaldA (C : Cx X d cc nL ow mc ms) {a ck b : Nat} {i : Int32} (hck : ck = 12 ∨ ck = 13 ∨ ck = 14) (hd : decode cc pc = .ok (.aaload, 1)) (hi : inA M a ck i) (hb : gR M a i.toNatClampNeg = some b) (kk : G X nL M k n (pc + 1) lv (.ref b :: st)) : G X nL M k n pc lv (.int i :: .ref a :: st) := by
  obtain ⟨N, h1, h2⟩ := hi
  refine g_aald C hck hd h1 h2 ?_
  rw [hb]
  exact kk
theorem g_iastA (C : Cx X d cc nL ow mc ms) {a : Nat} {i x : Int32} (hd : decode cc pc = .ok (.iastore, 1)) (hi : inA M a 10 i) (kk : G X nL (sI M a i.toNatClampNeg x) k n (pc + 1) lv st) : G X nL M k n pc lv (.int x :: .int i :: .ref a :: st) := by
  obtain ⟨N, h1, h2⟩ := hi
  exact g_iast C hd h1 h2 kk
theorem g_lastA (C : Cx X d cc nL ow mc ms) {a : Nat} {i : Int32} {x : Int64} (hd : decode cc pc = .ok (.lastore, 1)) (hi : inA M a 11 i) (kk : G X nL (sL M a i.toNatClampNeg x) k n (pc + 1) lv st) : G X nL M k n pc lv (.long x :: .int i :: .ref a :: st) := by
  obtain ⟨N, h1, h2⟩ := hi
  exact g_last C hd h1 h2 kk
theorem g_aastA (C : Cx X d cc nL ow mc ms) {a ck v : Nat} {i : Int32} (ci' : Nat) (hck : (ck = 12 ∧ ci' = 3) ∨ (ck = 13 ∧ ci' = 0) ∨ (ck = 14 ∧ ci' = 2)) (hd : decode cc pc = .ok (.aastore, 1)) (hi : inA M a ck i) (hV : gT M v = some (ci', 0)) (kk : G X nL (sR M a i.toNatClampNeg (some v)) k n (pc + 1) lv st) : G X nL M k n pc lv (.ref v :: .int i :: .ref a :: st) := by
  obtain ⟨N, h1, h2⟩ := hi
  exact g_aast C hck hd h1 hV h2 kk
end GF
/-- a loop: an invariant and a measure -/
def Lp {σ : Type} (F : (σ → Prop) → σ → Prop) (x0 : σ) : Prop := ∃ (I : σ → Prop) (μ : σ → Nat), I x0 ∧ ∀ x, I x → F (fun y => I y ∧ μ y < μ x) x
theorem Lp_use {σ : Type} {F : (σ → Prop) → σ → Prop} {x0 : σ} (P : σ → Prop) (h : Lp F x0) (hs : ∀ (K : σ → Prop) (x : σ), (∀ y, K y → P y) → F K x → P x) : P x0 := by
  obtain ⟨I, μ, h0, h1⟩ := h
  have key : ∀ (b : Nat) (x : σ), μ x ≤ b → I x → P x := by
    intro b
    induction b with
    | zero => intro x hx hI; exact hs _ x (fun y hy => absurd hy.2 (by omega)) (h1 x hI)
    | succ b ih => intro x hx hI; exact hs _ x (fun y hy => ih y (by omega) hy.1) (h1 x hI)
  exact key _ x0 (Nat.le_refl _) h0
theorem nar_o (C : String) : ∀ r : Option Nat, narrow (.object C) (va_rf r) = va_rf r ∧ fits (.object C) (va_rf r) = true := fun r => by cases r <;> exact ⟨rfl, rfl⟩
theorem nar_a (t : FieldType) : ∀ r : Option Nat, narrow (.array t) (va_rf r) = va_rf r ∧ fits (.array t) (va_rf r) = true := fun r => by cases r <;> exact ⟨rfl, rfl⟩
abbrev pI (f : Mem → Int32 → Prop) : Mem → Option Value → Prop := fun M' v => ∃ r : Int32, v = some (.int r) ∧ f M' r
abbrev pV (f : Mem → Prop) : Mem → Option Value → Prop := fun M' v => v = none ∧ f M'
abbrev pR (f : Mem → Option Nat → Prop) : Mem → Option Value → Prop := fun M' v => ∃ r : Option Nat, v = some (va_rf r) ∧ f M' r
