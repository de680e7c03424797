/-! THE REFERENCE IN MEMORY: B 0 its object, B k the row of its field k; V the whole numbers in them -/
def vm (k : Nat) : Prop := k = 0 ∨ (3 ≤ k ∧ k ≤ 13) ∨ (16 ≤ k ∧ k ≤ 22)
def szM (k : Nat) : Nat := if k ≤ 5 then 20 else if k ≤ 7 then 6 else if k ≤ 11 then 24 else if k ≤ 13 then 36 else 16384
def tyM (k : Nat) : Nat × Nat := if k = 0 then (6, 0) else (10, szM k)
def ShM (B : Nat → Nat) (M0 M : Mem) : Prop := (∀ k, vm k → gT M0 (B k) = some (tyM k)) ∧ (∀ k, vm k → k ≠ 0 → gR M0 (B 0) k = some (B k)) ∧ (∀ i j, vm i → vm j → B i = B j → i = j) ∧ (∀ b, gT M b = gT M0 b) ∧ (∀ b j, gR M b j = gR M0 b j) ∧ (∀ b j, gL M b j = gL M0 b j) ∧ ∀ b, (∀ k, vm k → b ≠ B k) → ∀ j, gI M b j = gI M0 b j
abbrev Vm : Type := Nat → Nat → Int32
def RpV (B : Nat → Nat) (M0 M : Mem) (V : Vm) : Prop := ShM B M0 M ∧ ∀ k, vm k → ∀ j, gI M (B k) j = V k j
def up (V : Vm) (k j : Nat) (x : Int32) : Vm := fun k' j' => if k' = k ∧ j' = j then x else V k' j'
theorem up_rd (V : Vm) (k j : Nat) (x : Int32) (k' j' : Nat) : up V k j x k' j' = if k' = k ∧ j' = j then x else V k' j' := rfl
theorem up_k (V : Vm) {k : Nat} (j : Nat) (x : Int32) {k' : Nat} (j' : Nat) (h : k' ≠ k) : up V k j x k' j' = V k' j' := if_neg (fun e => h e.1)
theorem up_j (V : Vm) (k : Nat) {j : Nat} (x : Int32) (k' : Nat) {j' : Nat} (h : j' ≠ j) : up V k j x k' j' = V k' j' := if_neg (fun e => h e.2)
theorem up_s (V : Vm) (k j : Nat) (x : Int32) : up V k j x k j = x := if_pos ⟨rfl, rfl⟩
theorem vm0 : vm 0 := Or.inl rfl
theorem vm3 : vm 3 := by unfold vm; omega
theorem vm4 : vm 4 := by unfold vm; omega
theorem vm5 : vm 5 := by unfold vm; omega
theorem vm6 : vm 6 := by unfold vm; omega
theorem vm7 : vm 7 := by unfold vm; omega
theorem vm8 : vm 8 := by unfold vm; omega
theorem vm9 : vm 9 := by unfold vm; omega
theorem vm10 : vm 10 := by unfold vm; omega
theorem vm11 : vm 11 := by unfold vm; omega
theorem vm12 : vm 12 := by unfold vm; omega
theorem vm13 : vm 13 := by unfold vm; omega
theorem vm16 : vm 16 := by unfold vm; omega
theorem vm17 : vm 17 := by unfold vm; omega
theorem vm18 : vm 18 := by unfold vm; omega
theorem vm19 : vm 19 := by unfold vm; omega
theorem vm20 : vm 20 := by unfold vm; omega
theorem vm21 : vm 21 := by unfold vm; omega
theorem vm22 : vm 22 := by unfold vm; omega
theorem szM_le (k : Nat) : szM k < 2 ^ 31 := by
  unfold szM
  repeat' split
  all_goals omega
section RV
variable {B : Nat → Nat} {M0 M : Mem} {V : Vm}
theorem rv_ty (h : RpV B M0 M V) {k : Nat} (hk : vm k) : gT M (B k) = some (tyM k) := by rw [h.1.2.2.2.1]; exact h.1.1 k hk
theorem rv_0 (h : RpV B M0 M V) : gT M (B 0) = some (6, 0) := rv_ty h vm0
theorem rv_rf (h : RpV B M0 M V) {k : Nat} (hk : vm k) (h0 : k ≠ 0) : gR M (B 0) k = some (B k) := by rw [h.1.2.2.2.2.1]; exact h.1.2.1 k hk h0
theorem rv_in (h : RpV B M0 M V) {k j : Nat} (hk : vm k) (h0 : k ≠ 0) (hj : j < szM k) : inA M (B k) 10 (nI j) := in_nI (N := szM k) (by rw [rv_ty h hk]; unfold tyM; rw [if_neg h0]) hj (szM_le k)
theorem rv_rd (h : RpV B M0 M V) {k : Nat} (hk : vm k) (j : Nat) : gI M (B k) j = V k j := h.2 k hk j
theorem rv_rn (h : RpV B M0 M V) {k j : Nat} (hk : vm k) (hj : j < 2 ^ 31) : gI M (B k) (Int32.toNatClampNeg (nI j)) = V k j := by rw [clN hj]; exact h.2 k hk j
theorem rv_set (h : RpV B M0 M V) {k : Nat} (hk : vm k) (j : Nat) (x : Int32) : RpV B M0 (sI M (B k) j x) (up V k j x) := by
  obtain ⟨⟨s1, s2, s3, s4, s5, s6, s7⟩, hv⟩ := h
  refine ⟨⟨s1, s2, s3, s4, s5, s6, fun b hb i => ?_⟩, fun k' hk' j' => ?_⟩
  · rw [gI_sI, if_neg (fun e => hb k hk e.1)]
    exact s7 b hb i
  · rw [gI_sI, up_rd]
    by_cases e : k' = k ∧ j' = j
    · rw [if_pos e, if_pos]
      rw [e.1, e.2]
      exact ⟨rfl, rfl⟩
    · rw [if_neg e, if_neg (fun z => e ⟨s3 k' k hk' hk z.1, z.2⟩)]
      exact hv k' hk' j'
theorem rv_sn (h : RpV B M0 M V) {k j : Nat} (hk : vm k) (hj : j < 2 ^ 31) (x : Int32) : RpV B M0 (sI M (B k) (Int32.toNatClampNeg (nI j)) x) (up V k j x) := by rw [clN hj]; exact rv_set h hk j x
end RV
/-! what V tells -/
def kid (f : Nat) : Nat := if f ≤ 5 then f + 6 else f - 3
def VaM (V : Vm) (σ : Sg) : Prop := ∀ f i, dmn f i → (f = 3 ∨ f = 4 → sgI σ 2 i ≠ -1) → V (kid f) i = sgI σ f i
def lnM (V : Vm) (a : Nat) (ln : Ln) : Prop := V 17 a = ln.1 ∧ V 18 a = ln.2.1 ∧ V 19 a = ln.2.2.1 ∧ ((ln.1 = 2 ∨ ln.1 = 4) → V 20 a = ln.2.2.2.1 ∧ V 21 a = ln.2.2.2.2.1 ∧ V 22 a = ln.2.2.2.2.2)
def cuM (V : Vm) (ln : Ln) : Prop := V 0 23 = ln.1 ∧ V 0 24 = ln.2.1 ∧ V 0 25 = ln.2.2.1 ∧ ((ln.1 = 2 ∨ ln.1 = 4) → V 0 26 = ln.2.2.2.1 ∧ V 0 27 = ln.2.2.2.2.1 ∧ V 0 28 = ln.2.2.2.2.2)
def hdM (e : Int32) : List Nat → Int32
  | [] => e
  | a :: _ => nI a
def chM (V : Vm) (e : Int32) : List Nat → Prop
  | [] => True
  | a :: l => V 16 a = hdM e l ∧ chM V e l
/-- the queues' places La, the free ones fr, ow where a place is -/
def QuX (V : Vm) (σ : Sg) (La : Nat → List Nat) (fr : List Nat) (ow : Nat → Nat) : Prop :=
  (∀ w, w < 36 → V 12 w = hdM (-1) (La w) ∧ (∀ a, (La w).getLast? = some a → V 13 w = nI a) ∧ chM V (-1) (La w) ∧ (La w).Nodup ∧ FA2 (lnM V) (La w) (sgQ σ w) ∧ ∀ a ∈ La w, ow a = w ∧ a < 16384) ∧
  (V 0 15 = hdM (nI 16384) fr ∧ chM V (nI 16384) fr ∧ fr.Nodup ∧ ∀ a ∈ fr, ow a = 36 ∧ a < 16384) ∧ (fr.length + tot σ = 16384 ∧ V 0 14 = nI (tot σ))
def QuM (V : Vm) (σ : Sg) : Prop := ∃ (La : Nat → List Nat) (fr : List Nat) (ow : Nat → Nat), QuX V σ La fr ow
def SimM (V : Vm) (σ : Sg) (c : Option Ln) (t : Int32) : Prop := VaM V σ ∧ (V 0 0 = t ∧ V 0 1 = nI (sgN σ 1) ∧ V 0 2 = nI (sgN σ 0)) ∧ QuM V σ ∧ ∀ ln, c = some ln → cuM V ln
def RepM (B : Nat → Nat) (M0 M : Mem) (σ : Sg) (c : Option Ln) (t : Int32) : Prop := ∃ V, RpV B M0 M V ∧ SimM V σ c t
theorem chM_keep {V V' : Vm} {e : Int32} : ∀ (l : List Nat), (∀ a ∈ l, V' 16 a = V 16 a) → chM V e l → chM V' e l
  | [], _, _ => trivial
  | a :: l, h, ⟨h1, h2⟩ => ⟨(h a List.mem_cons_self).trans h1, chM_keep l (fun b hb => h b (List.mem_cons_of_mem _ hb)) h2⟩
theorem lnM_keep {V V' : Vm} {a : Nat} {ln : Ln} (h : lnM V a ln) (hk : ∀ f, 17 ≤ f → V' f a = V f a) : lnM V' a ln := by
  unfold lnM
  rw [hk 17 (by omega), hk 18 (by omega), hk 19 (by omega), hk 20 (by omega), hk 21 (by omega), hk 22 (by omega)]
  exact h
theorem chM_app {V V' : Vm} {e : Int32} {b : Nat} (hb : V' 16 b = e) : ∀ (l : List Nat), l.Nodup → chM V e l → (∀ a, l.getLast? = some a → V' 16 a = nI b) → (∀ a ∈ l, l.getLast? ≠ some a → V' 16 a = V 16 a) → chM V' e (l ++ [b])
  | [], _, _, _, _ => ⟨hb, trivial⟩
  | [a], _, _, h, _ => ⟨h a rfl, hb, trivial⟩
  | a :: c :: l, hn, hc, h, h2 => by
    have hn2 := List.nodup_cons.mp hn
    refine ⟨(h2 a List.mem_cons_self (fun e2 => ?_)).trans hc.1, chM_app hb (c :: l) hn2.2 hc.2 (fun x hx => h x (by rw [List.getLast?_cons_cons]; exact hx)) (fun x hx hx2 => h2 x (List.mem_cons_of_mem _ hx) (by rw [List.getLast?_cons_cons]; exact hx2))⟩
    rw [List.getLast?_cons_cons] at e2
    exact hn2.1 (List.mem_of_getLast? e2)
theorem nI_in16 {a b : Nat} (ha : a < 16384) (hb : b < 16384) (h : nI a = nI b) : a = b := (nI_eq (by omega) (by omega)).mp h
/-- a line is put at the free place k -/
theorem qx_put {V V' : Vm} {σ : Sg} {w k : Nat} {ln : Ln} {La : Nat → List Nat} {fr : List Nat} {ow : Nat → Nat} (hw : w < 36) (h : QuX V σ La (k :: fr) ow)
    (h12 : ∀ v, v ≠ w → V' 12 v = V 12 v) (h13o : ∀ v, v ≠ w → V' 13 v = V 13 v) (h12w : V' 12 w = hdM (nI k) (La w)) (h13 : V' 13 w = nI k) (h16k : V' 16 k = -1)
    (h16 : ∀ a, a ≠ k → (La w).getLast? ≠ some a → V' 16 a = V 16 a) (h16l : ∀ a, (La w).getLast? = some a → V' 16 a = nI k)
    (hln : lnM V' k ln) (hkeep : ∀ f a, 17 ≤ f → a ≠ k → V' f a = V f a) (h14 : V' 0 14 = V 0 14 + 1) (h15 : V' 0 15 = V 16 k) : QuX V' (putL σ w ln) (fset La w (La w ++ [k])) fr (fset ow k w) := by
  obtain ⟨q1, ⟨f1, f2, f3, f4⟩, n1, n2⟩ := h
  have hk := f4 k List.mem_cons_self
  have hkn : ∀ v, v < 36 → k ∉ La v := fun v hv hm => by
    have := ((q1 v hv).2.2.2.2.2 k hm).1
    omega
  have hf3 := List.nodup_cons.mp f3
  have hlast : ∀ a, (La w).getLast? = some a → a ∈ La w := fun a ha => List.mem_of_getLast? ha
  refine ⟨fun v hv => ?_, ⟨?_, ?_, hf3.2, fun a ha => ?_⟩, ?_, ?_⟩
  · obtain ⟨b1, b2, b3, b4, b5, b6⟩ := q1 v hv
    by_cases e : v = w
    · subst e
      rw [fs_s]
      refine ⟨?_, fun a ha => ?_, ?_, ?_, ?_, fun a ha => ?_⟩
      · rw [h12w]
        cases La v <;> rfl
      · rw [List.getLast?_concat] at ha
        cases ha
        exact h13
      · exact chM_app h16k (La v) b4 b3 h16l (fun a ha hl => h16 a (fun e => hkn v hv (e ▸ ha)) hl)
      · rw [List.nodup_append]
        exact ⟨b4, List.nodup_cons.mpr ⟨List.not_mem_nil, List.nodup_nil⟩, fun a ha b hb => by
          rw [List.mem_singleton] at hb
          intro e
          exact hkn v hv (by rw [← hb, ← e]; exact ha)⟩
      · show FA2 _ _ (if v = v then sgQ σ v ++ [ln] else sgQ σ v)
        rw [if_pos rfl]
        exact FA2_app _ _ (FA2_mono _ _ (fun a ha x hx => lnM_keep hx (fun f hf => hkeep f a hf (fun e => hkn v hv (e ▸ ha)))) b5) hln
      · rcases List.mem_append.mp ha with ha | ha
        · rw [fs_n _ _ (show a ≠ k from fun e => hkn v hv (e ▸ ha))]
          exact b6 a ha
        · rw [List.mem_singleton] at ha
          rw [ha, fs_s]
          exact ⟨rfl, hk.2⟩
    · rw [fs_n _ _ e]
      have hvl : ∀ a ∈ La v, (La w).getLast? ≠ some a := fun a ha hl => by
        have h1 := (b6 a ha).1
        have h2 := ((q1 w hw).2.2.2.2.2 a (hlast a hl)).1
        exact e (h1.symm.trans h2)
      refine ⟨by rw [h12 v e]; exact b1, fun a ha => by rw [h13o v e]; exact b2 a ha, chM_keep _ (fun a ha => h16 a (fun e2 => hkn v hv (e2 ▸ ha)) (hvl a ha)) b3, b4, ?_, fun a ha => ?_⟩
      · show FA2 _ _ (if v = w then sgQ σ w ++ [ln] else sgQ σ v)
        rw [if_neg e]
        exact FA2_mono _ _ (fun a ha x hx => lnM_keep hx (fun f hf => hkeep f a hf (fun e2 => hkn v hv (e2 ▸ ha)))) b5
      · rw [fs_n _ _ (show a ≠ k from fun e2 => hkn v hv (e2 ▸ ha))]
        exact b6 a ha
  · rw [h15]
    exact f2.1
  · refine chM_keep _ (fun a ha => h16 a (fun e => hf3.1 (e ▸ ha)) (fun hl => ?_)) f2.2
    have h1 := (f4 a (List.mem_cons_of_mem _ ha)).1
    have h2 := ((q1 w hw).2.2.2.2.2 a (hlast a hl)).1
    omega
  · rw [fs_n _ _ (show a ≠ k from fun e => hf3.1 (e ▸ ha))]
    exact f4 a (List.mem_cons_of_mem _ ha)
  · rw [putL_tot σ hw]
    rw [List.length_cons] at n1
    omega
  · rw [h14, n2, putL_tot σ hw, nI_1]
/-- the first line is taken -/
theorem qx_take {V V' : Vm} {σ : Sg} {w k : Nat} {ln : Ln} {rest : List Ln} {La : Nat → List Nat} {l fr : List Nat} {ow : Nat → Nat} (hw : w < 36) (h : QuX V σ La fr ow) (hL : La w = k :: l) (hq : sgQ σ w = ln :: rest)
    (h12w : V' 12 w = V 16 k) (h12 : ∀ v, v ≠ w → V' 12 v = V 12 v) (h13 : ∀ v, V' 13 v = V 13 v) (h16k : V' 16 k = V 0 15) (h16 : ∀ a, a ≠ k → V' 16 a = V 16 a)
    (hkeep : ∀ f a, 17 ≤ f → V' f a = V f a) (h14 : V' 0 14 = V 0 14 - 1) (h15 : V' 0 15 = nI k) : QuX V' (uQ σ w rest) (fset La w l) (k :: fr) (fset ow k 36) := by
  obtain ⟨q1, ⟨f1, f2, f3, f4⟩, n1, n2⟩ := h
  have hkw : k ∈ La w := by rw [hL]; exact List.mem_cons_self
  have hk := (q1 w hw).2.2.2.2.2 k hkw
  have hkf : k ∉ fr := fun hm => by
    have := (f4 k hm).1
    omega
  have ht := tot_uQ σ hw rest
  rw [hq, List.length_cons] at ht
  refine ⟨fun v hv => ?_, ⟨?_, ⟨?_, ?_⟩, List.nodup_cons.mpr ⟨hkf, f3⟩, fun a ha => ?_⟩, ?_, ?_⟩
  · obtain ⟨b1, b2, b3, b4, b5, b6⟩ := q1 v hv
    by_cases e : v = w
    · subst e
      rw [hL] at b1 b2 b3 b4 b5 b6
      rw [hq] at b5
      have hn := List.nodup_cons.mp b4
      rw [fs_s]
      refine ⟨by rw [h12w]; exact b3.1, fun a ha => ?_, chM_keep _ (fun a ha => h16 a (fun e2 => hn.1 (e2 ▸ ha))) b3.2, hn.2, ?_, fun a ha => ?_⟩
      · rw [h13]
        refine b2 a ?_
        cases l with
        | nil => cases ha
        | cons c l => rw [List.getLast?_cons_cons]; exact ha
      · show FA2 _ _ (if v = v then rest else sgQ σ v)
        rw [if_pos rfl]
        exact FA2_mono _ _ (fun a ha x hx => lnM_keep hx (fun f hf => hkeep f a hf)) b5.2
      · rw [fs_n _ _ (show a ≠ k from fun e2 => hn.1 (e2 ▸ ha))]
        exact b6 a (List.mem_cons_of_mem _ ha)
    · rw [fs_n _ _ e]
      have hne : ∀ a ∈ La v, a ≠ k := fun a ha e2 => by
        have h1 := (b6 a ha).1
        rw [e2] at h1
        exact e (h1.symm.trans hk.1)
      refine ⟨by rw [h12 v e]; exact b1, fun a ha => by rw [h13]; exact b2 a ha, chM_keep _ (fun a ha => h16 a (hne a ha)) b3, b4, ?_, fun a ha => ?_⟩
      · show FA2 _ _ (if v = w then rest else sgQ σ v)
        rw [if_neg e]
        exact FA2_mono _ _ (fun a ha x hx => lnM_keep hx (fun f hf => hkeep f a hf)) b5
      · rw [fs_n _ _ (hne a ha)]
        exact b6 a ha
  · exact h15
  · rw [h16k]; exact f1
  · exact chM_keep _ (fun a ha => h16 a (fun e => hkf (e ▸ ha))) f2
  · rcases List.mem_cons.mp ha with e | ha
    · rw [e, fs_s]; exact ⟨rfl, hk.2⟩
    · rw [fs_n _ _ (show a ≠ k from fun e => hkf (e ▸ ha))]; exact f4 a ha
  · rw [List.length_cons]; omega
  · rw [h14, n2, show tot σ = tot (uQ σ w rest) + 1 by omega, nI_pred]
theorem qm_congr {V V' : Vm} {σ σ' : Sg} (h : QuM V σ) (hk : ∀ f, f = 12 ∨ f = 13 ∨ 16 ≤ f → ∀ j, V' f j = V f j) (h14 : V' 0 14 = V 0 14) (h15 : V' 0 15 = V 0 15) (hq : ∀ w, sgQ σ' w = sgQ σ w) : QuM V' σ' := by
  obtain ⟨La, fr, ow, q1, ⟨f1, f2, f3, f4⟩, n1, n2⟩ := h
  have ht : tot σ' = tot σ := by unfold tot; rw [show sgQ σ' = sgQ σ from funext hq]
  refine ⟨La, fr, ow, fun w hw => ?_, ⟨by rw [h15]; exact f1, chM_keep _ (fun a _ => hk 16 (by omega) a) f2, f3, f4⟩, by rw [ht]; exact n1, by rw [h14, ht]; exact n2⟩
  obtain ⟨b1, b2, b3, b4, b5, b6⟩ := q1 w hw
  refine ⟨by rw [hk 12 (by omega)]; exact b1, fun a ha => by rw [hk 13 (by omega)]; exact b2 a ha, chM_keep _ (fun a _ => hk 16 (by omega) a) b3, b4, ?_, b6⟩
  rw [hq]
  exact FA2_mono _ _ (fun a _ x hx => lnM_keep hx (fun f hf => hk f (by omega) a)) b5
theorem rm_congr {B : Nat → Nat} {M0 M : Mem} {σ τ : Sg} {c : Option Ln} {t : Int32} (h : RepM B M0 M σ c t) (hI : ∀ f i, sgI τ f i = sgI σ f i) (h0 : sgN τ 0 = sgN σ 0) (h1 : sgN τ 1 = sgN σ 1) (hq : ∀ w, sgQ τ w = sgQ σ w) : RepM B M0 M τ c t := by
  obtain ⟨V, hV, s1, s2, s3, s4⟩ := h
  exact ⟨V, hV, fun f i hd hc => by rw [hI]; exact s1 f i hd (fun e => by rw [← hI]; exact hc e), by rw [h0, h1]; exact s2, qm_congr s3 (fun _ _ _ => rfl) rfl rfl hq, s4⟩
theorem rm_none {B : Nat → Nat} {M0 M : Mem} {σ : Sg} {c : Option Ln} {t : Int32} (h : RepM B M0 M σ c t) : RepM B M0 M σ none t := by
  obtain ⟨V, hV, s1, s2, s3, _⟩ := h
  exact ⟨V, hV, s1, s2, s3, fun ln e => by cases e⟩
