theorem chn_snoc {M M' : Mem} {b c : Nat} : ∀ (l : List Nat), chn M l → l.getLast? = some c → l.Nodup → (∀ a ∈ l, a ≠ c → gR M' a 7 = gR M a 7) → gR M' c 7 = some b → gR M' b 7 = none → chn M' (l ++ [b])
  | [], _, h, _, _, _, _ => by cases h
  | [a], _, h, _, _, h5, h6 => by
    have e : a = c := by simpa using h
    subst e
    exact ⟨h5, h6, trivial⟩
  | a :: d :: l, h1, h2, h3, h4, h5, h6 => by
    rw [List.getLast?_cons_cons] at h2
    have hac : a ≠ c := fun e => by
      have hm : c ∈ d :: l := List.mem_of_getLast? h2
      exact (List.nodup_cons.mp h3).1 (e ▸ hm)
    exact ⟨(h4 a List.mem_cons_self hac).trans h1.1, chn_snoc (d :: l) h1.2 h2 (List.nodup_cons.mp h3).2 (fun x hx => h4 x (List.mem_cons_of_mem _ hx)) h5 h6⟩
/-- a line in hand becomes spare -/
theorem qc_keep {A : Nat → Nat} {Fo : Nat → Prop} {M : Mem} {σ : Sg} {hl : Nat → Option Ln} (h : QC A Fo M σ hl) (hw4 : gT M (A 2) = some (4, 0)) (hqt : ∀ w, w < 36 → gT M (A (60 + w)) = some (2, 0)) {b k : Nat} {ln : Ln} (hb : hl b = some ln) (hk : sgN σ 3 = k + 1) : QC A Fo (sR (sR M b 7 (gR M (A 2) 3)) (A 2) 3 (some b)) (uN σ 3 k) (fset hl b none) := by
  obtain ⟨La, Sp, ow, q1, ⟨a1, a2, a3, a4⟩, q3, q4⟩ := h
  have hob := q3 b ln hb
  have hRk : ∀ a, a ≠ b → a ≠ A 2 → ∀ j, gR (sR (sR M b 7 (gR M (A 2) 3)) (A 2) 3 (some b)) a j = gR M a j := fun a h1 h2 j => by rw [gR_sR, if_neg (fun e => h2 e.1), gR_sR, if_neg (fun e => h1 e.1)]
  have n2 : ∀ a, gT M a = some (1, 0) → a ≠ A 2 := fun a h1 e => by rw [e, hw4] at h1; cases h1
  have hnb : b ∉ Sp := fun h1 => by have := (a4 b h1).1; omega
  have hb2 : b ≠ A 2 := n2 b hob.2.1.1
  refine ⟨La, b :: Sp, fset ow b 36, fun w hw => ?_, ⟨?_, ⟨?_, ?_⟩, ?_, ?_⟩, ?_, ?_⟩
  · obtain ⟨b1, b2, b3, b4, b5, b6⟩ := q1 w hw
    have m2 : A (60 + w) ≠ A 2 := fun e => by
      have h1 := hqt w hw
      rw [e, hw4] at h1
      cases h1
    have mb : A (60 + w) ≠ b := fun e => by
      have h1 := hqt w hw
      rw [e, hob.2.1.1] at h1
      cases h1
    have hne : ∀ a ∈ La w, a ≠ b := fun a ha e => by have := (b6 a ha).1; rw [e] at this; omega
    refine ⟨by rw [hRk _ mb m2]; exact b1, by rw [hRk _ mb m2]; exact b2, chn_keep _ (fun a ha => hRk a (hne a ha) (n2 a (b6 a ha).2.1) 7) b3, b4, FA2_mono _ _ (fun a ha x hx => lnC_keep hx (fun k _ => rfl)) b5, fun a ha => ⟨?_, (b6 a ha).2⟩⟩
    rw [fs_n _ _ (hne a ha)]
    exact (b6 a ha).1
  · rw [gR_sR, if_pos ⟨rfl, rfl⟩]; rfl
  · rw [gR_sR, if_neg (fun e => hb2 e.1), gR_sR, if_pos ⟨rfl, rfl⟩]; exact a1
  · exact chn_keep _ (fun a ha => hRk a (fun e => hnb (e ▸ ha)) (n2 a (a4 a ha).2.1) 7) a2
  · exact List.nodup_cons.mpr ⟨hnb, a3⟩
  · intro a ha
    rcases List.mem_cons.mp ha with e | ha
    · rw [e, fs_s]; exact ⟨rfl, hob.2.1⟩
    · rw [fs_n _ _ (fun (e : a = b) => hnb (e ▸ ha))]; exact a4 a ha
  · intro a l ha
    by_cases e : a = b
    · subst e
      rw [fs_s] at ha
      cases ha
    · rw [fs_n _ _ e] at ha
      obtain ⟨c1, c2, c3⟩ := q3 a l ha
      exact ⟨by rw [fs_n _ _ e]; exact c1, c2, c3⟩
  · have e5 : sgN (uN σ 3 k) 2 = sgN σ 2 := rfl
    have e6 : sgN (uN σ 3 k) 3 = k := rfl
    rw [e5, e6]
    refine ⟨q4.1, q4.2.1, ?_⟩
    have h1 := q4.2.2
    show _ = tot σ + _ + _
    rw [List.length_cons]
    omega
/-- a line in hand goes to the end of the queue w -/
theorem qc_app {A : Nat → Nat} {Fo : Nat → Prop} {M M' : Mem} {σ : Sg} {hl : Nat → Option Ln} (h : QC A Fo M σ hl) (hw4 : gT M (A 2) = some (4, 0)) (hqt : ∀ w, w < 36 → gT M (A (60 + w)) = some (2, 0)) (hqi : ∀ w v, w < 36 → v < 36 → A (60 + w) = A (60 + v) → w = v) {b k w : Nat} {ln : Ln} (hw : w < 36) (hb : hl b = some ln) (hk : sgN σ 3 = k + 1)
    (hT : ∀ a, gT M' a = gT M a) (hI : ∀ a j, ¬ (a = A 2 ∧ j = 2) → gI M' a j = gI M a j) (hI2 : gI M' (A 2) 2 = gI M (A 2) 2 + 1) (hb7 : gR M' b 7 = none) (h1 : gR M' (A (60 + w)) 1 = some b)
    (hc : (gR M (A (60 + w)) 1 = none ∧ gR M' (A (60 + w)) 0 = some b ∧ ∀ a j, a ≠ b → a ≠ A (60 + w) → gR M' a j = gR M a j) ∨ (∃ c, gR M (A (60 + w)) 1 = some c ∧ gR M' c 7 = some b ∧ gR M' (A (60 + w)) 0 = gR M (A (60 + w)) 0 ∧ ∀ a j, a ≠ b → a ≠ c → a ≠ A (60 + w) → gR M' a j = gR M a j)) : QC A Fo M' (uN (uQ σ w (sgQ σ w ++ [ln])) 3 k) (fset hl b none) := by
  obtain ⟨La, Sp, ow, q1, ⟨a1, a2, a3, a4⟩, q3, q4⟩ := h
  have hob := q3 b ln hb
  have hok : ∀ a, okA Fo M a → okA Fo M' a := fun a h => ⟨(hT a).trans h.1, h.2⟩
  have n2 : ∀ a, gT M a = some (1, 0) → a ≠ A 2 := fun a h1 e => by rw [e, hw4] at h1; cases h1
  have nq : ∀ a v, v < 36 → gT M a = some (1, 0) → a ≠ A (60 + v) := fun a v hv h1 e => by rw [e, hqt v hv] at h1; cases h1
  have q2 : ∀ v, v < 36 → A 2 ≠ A (60 + v) := fun v hv e => by have h9 := hqt v hv; rw [← e, hw4] at h9; cases h9
  have hnS : b ∉ Sp := fun h1 => by have := (a4 b h1).1; omega
  have hnL : ∀ v, v < 36 → b ∉ La v := fun v hv h1 => by have := ((q1 v hv).2.2.2.2.2 b h1).1; omega
  have hb2 : b ≠ A 2 := n2 b hob.2.1.1
  have hln : ∀ a x, gT M a = some (1, 0) → lnC M a x → lnC M' a x := fun a x ht hx => lnC_keep hx (fun j _ => hI a j (fun e => n2 a ht e.1))
  obtain ⟨b1, b2, b3, b4, b5, b6⟩ := q1 w hw
  -- every other reference stays
  have hR : ∀ a j, a ≠ b → (∀ c, gR M (A (60 + w)) 1 = some c → a ≠ c) → a ≠ A (60 + w) → gR M' a j = gR M a j := by
    intro a j g1 g2 g3
    rcases hc with ⟨-, -, h3⟩ | ⟨c, g4, -, -, h3⟩
    · exact h3 a j g1 g3
    · exact h3 a j g1 (g2 c g4) g3
  have hlast : ∀ c, gR M (A (60 + w)) 1 = some c → c ∈ La w := fun c hc2 => List.mem_of_getLast? (by rw [← b2]; exact hc2)
  refine ⟨fset La w (La w ++ [b]), Sp, fset ow b w, fun v hv => ?_, ⟨?_, ?_, a3, ?_⟩, ?_, ?_⟩
  · by_cases e : v = w
    · subst e
      rw [fs_s]
      have hQ : sgQ (uN (uQ σ v (sgQ σ v ++ [ln])) 3 k) v = sgQ σ v ++ [ln] := by rw [sgQ_uN, sgQ_uQ, if_pos rfl]
      rw [hQ]
      refine ⟨?_, ?_, ?_, ?_, ?_, ?_⟩
      · rcases hc with ⟨g1, g2, -⟩ | ⟨c, g1, -, g2, -⟩
        · have e0 : La v = [] := by
            rw [b2] at g1
            exact List.getLast?_eq_none_iff.mp g1
          rw [e0, g2]; rfl
        · rw [g2, b1]
          cases e0 : La v with
          | nil => rw [b2, e0] at g1; cases g1
          | cons x l => rfl
      · rw [h1, List.getLast?_concat]
      · rcases hc with ⟨g1, -, g3⟩ | ⟨c, g1, g2, -, g3⟩
        · have e0 : La v = [] := by
            rw [b2] at g1
            exact List.getLast?_eq_none_iff.mp g1
          rw [e0]
          exact ⟨hb7, trivial⟩
        · refine chn_snoc (La v) b3 (b2 ▸ g1) b4 (fun a ha hac => g3 a 7 (fun e => hnL v hv (e ▸ ha)) hac (nq a v hv (b6 a ha).2.1)) g2 hb7
      · rw [List.nodup_append]
        refine ⟨b4, by simp, fun x hx y hy e => ?_⟩
        rw [List.mem_singleton.mp hy] at e
        exact hnL v hv (e ▸ hx)
      · exact FA2_app _ _ (FA2_mono _ _ (fun a ha x hx => hln a x (b6 a ha).2.1 hx) b5) (hln b ln hob.2.1.1 hob.2.2)
      · intro a ha
        rcases List.mem_append.mp ha with ha | ha
        · rw [fs_n _ _ (fun (e : a = b) => hnL v hv (e ▸ ha))]
          exact ⟨(b6 a ha).1, hok a (b6 a ha).2⟩
        · rw [List.mem_singleton.mp ha, fs_s]
          exact ⟨rfl, hok b hob.2.1⟩
    · obtain ⟨c1, c2, c3, c4, c5, c6⟩ := q1 v hv
      rw [fs_n _ _ e]
      have hQ : sgQ (uN (uQ σ w (sgQ σ w ++ [ln])) 3 k) v = sgQ σ v := by rw [sgQ_uN, sgQ_uQ, if_neg e]
      rw [hQ]
      have mv : A (60 + v) ≠ A (60 + w) := fun e9 => e (hqi v w hv hw e9)
      have mb : A (60 + v) ≠ b := fun e9 => nq b v hv hob.2.1.1 e9.symm
      have mc : ∀ c, gR M (A (60 + w)) 1 = some c → A (60 + v) ≠ c := fun c hc2 e9 => nq c v hv (b6 c (hlast c hc2)).2.1 e9.symm
      refine ⟨by rw [hR _ _ mb mc mv]; exact c1, by rw [hR _ _ mb mc mv]; exact c2, chn_keep _ (fun a ha => hR a 7 (fun e9 => hnL v hv (e9 ▸ ha)) (fun c hc2 e9 => ?_) (nq a w hw (c6 a ha).2.1)) c3, c4, FA2_mono _ _ (fun a ha x hx => hln a x (c6 a ha).2.1 hx) c5, fun a ha => ⟨?_, hok a (c6 a ha).2⟩⟩
      · have g1 := (b6 c (hlast c hc2)).1
        have g2 := (c6 a ha).1
        rw [e9] at g2
        exact e (g2.symm.trans g1)
      · rw [fs_n _ _ (fun (e9 : a = b) => hnL v hv (e9 ▸ ha))]
        exact (c6 a ha).1
  · have mc : ∀ c, gR M (A (60 + w)) 1 = some c → A 2 ≠ c := fun c hc2 e9 => n2 c (b6 c (hlast c hc2)).2.1 e9.symm
    rw [hR _ _ (Ne.symm hb2) mc (q2 w hw)]
    exact a1
  · refine chn_keep _ (fun a ha => hR a 7 (fun e9 => hnS (e9 ▸ ha)) (fun c hc2 e9 => ?_) (nq a w hw (a4 a ha).2.1)) a2
    have g1 := (b6 c (hlast c hc2)).1
    have g2 := (a4 a ha).1
    rw [e9] at g2
    omega
  · intro a ha
    rw [fs_n _ _ (fun (e9 : a = b) => hnS (e9 ▸ ha))]
    exact ⟨(a4 a ha).1, hok a (a4 a ha).2⟩
  · intro a l ha
    by_cases e : a = b
    · subst e
      rw [fs_s] at ha
      cases ha
    · rw [fs_n _ _ e] at ha
      obtain ⟨c1, c2, c3⟩ := q3 a l ha
      exact ⟨by rw [fs_n _ _ e]; exact c1, hok a c2, hln a l c2.1 c3⟩
  · have e5 : sgN (uN (uQ σ w (sgQ σ w ++ [ln])) 3 k) 2 = sgN σ 2 := rfl
    have e6 : sgN (uN (uQ σ w (sgQ σ w ++ [ln])) 3 k) 3 = k := rfl
    have e7 : tot (uN (uQ σ w (sgQ σ w ++ [ln])) 3 k) = tot σ + 1 := by
      rw [tot_uN]
      have h9 := tot_uQ σ hw (sgQ σ w ++ [ln])
      rw [List.length_append, List.length_singleton] at h9
      omega
    rw [e5, e6, e7, hI2, hI _ _ (fun e => absurd e.2 (by decide)), q4.1, nI_1]
    exact ⟨rfl, q4.2.1, by have := q4.2.2; omega⟩
/-- the first line of the queue w comes into the hand -/
theorem qc_take {A : Nat → Nat} {Fo : Nat → Prop} {M M' : Mem} {σ : Sg} {hl : Nat → Option Ln} (h : QC A Fo M σ hl) (hw4 : gT M (A 2) = some (4, 0)) (hqt : ∀ w, w < 36 → gT M (A (60 + w)) = some (2, 0)) (hqi : ∀ w v, w < 36 → v < 36 → A (60 + w) = A (60 + v) → w = v) {b w : Nat} (hw : w < 36) (hb : gR M (A (60 + w)) 0 = some b)
    (hT : ∀ a, gT M' a = gT M a) (hI : ∀ a j, ¬ (a = A 2 ∧ j = 2) → gI M' a j = gI M a j) (hI2 : gI M' (A 2) 2 = gI M (A 2) 2 - 1) (h0 : gR M' (A (60 + w)) 0 = gR M b 7) (h1 : gR M' (A (60 + w)) 1 = if gR M b 7 = none then none else gR M (A (60 + w)) 1) (hR : ∀ a j, a ≠ b → a ≠ A (60 + w) → gR M' a j = gR M a j) : okA Fo M b ∧ hl b = none ∧ ∃ ln rest, sgQ σ w = ln :: rest ∧ QC A Fo M' (uN (uQ σ w rest) 3 (sgN σ 3 + 1)) (fset hl b (some ln)) := by
  obtain ⟨La, Sp, ow, q1, ⟨a1, a2, a3, a4⟩, q3, q4⟩ := h
  have hok : ∀ a, okA Fo M a → okA Fo M' a := fun a h => ⟨(hT a).trans h.1, h.2⟩
  have n2 : ∀ a, gT M a = some (1, 0) → a ≠ A 2 := fun a h1 e => by rw [e, hw4] at h1; cases h1
  have nq : ∀ a v, v < 36 → gT M a = some (1, 0) → a ≠ A (60 + v) := fun a v hv h1 e => by rw [e, hqt v hv] at h1; cases h1
  have q2 : ∀ v, v < 36 → A 2 ≠ A (60 + v) := fun v hv e => by have h9 := hqt v hv; rw [← e, hw4] at h9; cases h9
  have hln : ∀ a x, gT M a = some (1, 0) → lnC M a x → lnC M' a x := fun a x ht hx => lnC_keep hx (fun j _ => hI a j (fun e => n2 a ht e.1))
  obtain ⟨b1, b2, b3, b4, b5, b6⟩ := q1 w hw
  cases hLa : La w with
  | nil => rw [hLa, hb] at b1; cases b1
  | cons c l =>
    rw [hLa] at b1 b2 b3 b4 b5 b6
    rw [hb] at b1
    have hbc : b = c := Option.some.inj b1
    subst hbc
    have hob := b6 b List.mem_cons_self
    cases hQ : sgQ σ w with
    | nil => rw [hQ] at b5; exact b5.elim
    | cons ln rest =>
      rw [hQ] at b5
      have hn : hl b = none := by
        cases e : hl b with
        | none => rfl
        | some x => have := (q3 b x e).1; omega
      have hnS : b ∉ Sp := fun h1 => by have := (a4 b h1).1; omega
      have hnl : b ∉ l := (List.nodup_cons.mp b4).1
      have hnL : ∀ v, v < 36 → v ≠ w → b ∉ La v := fun v hv hne h1 => by have := ((q1 v hv).2.2.2.2.2 b h1).1; omega
      refine ⟨hob.2, hn, ln, rest, rfl, fset La w l, Sp, fset ow b 37, fun v hv => ?_, ⟨?_, ?_, a3, ?_⟩, ?_, ?_⟩
      · by_cases e : v = w
        · subst e
          rw [fs_s]
          have hQ2 : sgQ (uN (uQ σ v rest) 3 (sgN σ 3 + 1)) v = rest := by rw [sgQ_uN, sgQ_uQ, if_pos rfl]
          rw [hQ2]
          refine ⟨by rw [h0, b3.1], ?_, chn_keep _ (fun a ha => hR a 7 (fun e9 => hnl (e9 ▸ ha)) (nq a v hv (b6 a (List.mem_cons_of_mem _ ha)).2.1)) b3.2, (List.nodup_cons.mp b4).2, FA2_mono _ _ (fun a ha x hx => hln a x (b6 a (List.mem_cons_of_mem _ ha)).2.1 hx) b5.2, fun a ha => ⟨?_, hok a (b6 a (List.mem_cons_of_mem _ ha)).2⟩⟩
          · rw [h1, b3.1, b2]
            cases l with
            | nil => rfl
            | cons x l => rw [List.getLast?_cons_cons]; rfl
          · rw [fs_n _ _ (fun (e9 : a = b) => hnl (e9 ▸ ha))]
            exact (b6 a (List.mem_cons_of_mem _ ha)).1
        · obtain ⟨c1, c2, c3, c4, c5, c6⟩ := q1 v hv
          rw [fs_n _ _ e]
          have hQ2 : sgQ (uN (uQ σ w rest) 3 (sgN σ 3 + 1)) v = sgQ σ v := by rw [sgQ_uN, sgQ_uQ, if_neg e]
          rw [hQ2]
          have mv : A (60 + v) ≠ A (60 + w) := fun e9 => e (hqi v w hv hw e9)
          have mb : A (60 + v) ≠ b := fun e9 => nq b v hv hob.2.1 e9.symm
          refine ⟨by rw [hR _ _ mb mv]; exact c1, by rw [hR _ _ mb mv]; exact c2, chn_keep _ (fun a ha => hR a 7 (fun e9 => hnL v hv e (e9 ▸ ha)) (nq a w hw (c6 a ha).2.1)) c3, c4, FA2_mono _ _ (fun a ha x hx => hln a x (c6 a ha).2.1 hx) c5, fun a ha => ⟨?_, hok a (c6 a ha).2⟩⟩
          rw [fs_n _ _ (fun (e9 : a = b) => hnL v hv e (e9 ▸ ha))]
          exact (c6 a ha).1
      · rw [hR _ _ (fun e9 => n2 b hob.2.1 e9.symm) (q2 w hw)]
        exact a1
      · exact chn_keep _ (fun a ha => hR a 7 (fun e9 => hnS (e9 ▸ ha)) (nq a w hw (a4 a ha).2.1)) a2
      · intro a ha
        rw [fs_n _ _ (fun (e9 : a = b) => hnS (e9 ▸ ha))]
        exact ⟨(a4 a ha).1, hok a (a4 a ha).2⟩
      · intro a x ha
        by_cases e : a = b
        · subst e
          rw [fs_s] at ha
          cases ha
          exact ⟨by rw [fs_s]; omega, hok a hob.2, hln a _ hob.2.1 b5.1⟩
        · rw [fs_n _ _ e] at ha
          obtain ⟨c1, c2, c3⟩ := q3 a x ha
          exact ⟨by rw [fs_n _ _ e]; exact c1, hok a c2, hln a x c2.1 c3⟩
      · have e5 : sgN (uN (uQ σ w rest) 3 (sgN σ 3 + 1)) 2 = sgN σ 2 := rfl
        have e6 : sgN (uN (uQ σ w rest) 3 (sgN σ 3 + 1)) 3 = sgN σ 3 + 1 := rfl
        have e7 : tot σ = tot (uN (uQ σ w rest) 3 (sgN σ 3 + 1)) + 1 := by
          rw [tot_uN]
          have h9 := tot_uQ σ hw rest
          rw [hQ, List.length_cons] at h9
          omega
        rw [e5, e6, hI2, hI _ _ (fun e => absurd e.2 (by decide)), q4.1, e7, nI_pred]
        exact ⟨rfl, q4.2.1, by have := q4.2.2; omega⟩
theorem qc_empty {A : Nat → Nat} {Fo : Nat → Prop} {M : Mem} {σ : Sg} {hl : Nat → Option Ln} (h : QC A Fo M σ hl) {w : Nat} (hw : w < 36) : gR M (A (60 + w)) 0 = none ↔ sgQ σ w = [] := by
  obtain ⟨La, Sp, ow, q1, -⟩ := h
  obtain ⟨b1, -, -, -, b5, -⟩ := q1 w hw
  have hlen := FA2_len _ _ b5
  rw [b1]
  cases e : La w with
  | nil =>
    rw [e] at hlen
    have : sgQ σ w = [] := List.length_eq_zero_iff.mp hlen.symm
    simp [this]
  | cons x l =>
    rw [e] at hlen
    constructor
    · intro h; cases h
    · intro h; rw [h] at hlen; cases hlen
