/-! THE CLASS'S LINES: chains, spares, lines in hand -/
def lnC (M : Mem) (a : Nat) (ln : Ln) : Prop := gI M a 0 = ln.1 ∧ ((ln.1 = 0 ∨ ln.1 = 1) → gI M a 1 = ln.2.1) ∧ (¬ (ln.1 = 0 ∨ ln.1 = 1) → gI M a 2 = ln.2.1) ∧ (ln.1 = 3 → gI M a 1 = ln.2.2.1) ∧ (ln.1 = 2 → gI M a 6 = ln.2.2.1) ∧ ((ln.1 = 2 ∨ ln.1 = 4) → gI M a 3 = ln.2.2.2.1 ∧ gI M a 4 = ln.2.2.2.2.1 ∧ gI M a 5 = ln.2.2.2.2.2)
theorem lnC_keep {M M' : Mem} {a b : Nat} {ln : Ln} (h : lnC M a ln) (hk : ∀ k, k < 7 → gI M' b k = gI M a k) : lnC M' b ln := by
  unfold lnC
  rw [hk 0 (by omega), hk 1 (by omega), hk 2 (by omega), hk 3 (by omega), hk 4 (by omega), hk 5 (by omega), hk 6 (by omega)]
  exact h
/-- any line's fields are some line -/
theorem lnC_any (M : Mem) (a : Nat) : ∃ ln : Ln, lnC M a ln := by
  by_cases h : gI M a 0 = 0 ∨ gI M a 0 = 1
  · refine ⟨(gI M a 0, gI M a 1, 0, 0, 0, 0), rfl, fun _ => rfl, fun h2 => absurd h h2, fun (h2 : gI M a 0 = 3) => ?_, fun (h2 : gI M a 0 = 2) => ?_, fun (h2 : gI M a 0 = 2 ∨ gI M a 0 = 4) => ?_⟩
    · exfalso
      rcases h with h | h <;> (rw [h] at h2; exact absurd h2 (by decide))
    · exfalso
      rcases h with h | h <;> (rw [h] at h2; exact absurd h2 (by decide))
    · exfalso
      rcases h with h | h <;> (rw [h] at h2; exact absurd h2 (by decide))
  · by_cases h3 : gI M a 0 = 3
    · exact ⟨(gI M a 0, gI M a 2, gI M a 1, gI M a 3, gI M a 4, gI M a 5), rfl, fun h2 => absurd h2 h, fun _ => rfl, fun _ => rfl, fun (h2 : gI M a 0 = 2) => (by rw [h3] at h2; exact absurd h2 (by decide)), fun _ => ⟨rfl, rfl, rfl⟩⟩
    · exact ⟨(gI M a 0, gI M a 2, gI M a 6, gI M a 3, gI M a 4, gI M a 5), rfl, fun h2 => absurd h2 h, fun _ => rfl, fun h2 => absurd h2 h3, fun _ => rfl, fun _ => ⟨rfl, rfl, rfl⟩⟩
def chn (M : Mem) : List Nat → Prop
  | [] => True
  | a :: l => gR M a 7 = l.head? ∧ chn M l
def FA2 (P : Nat → Ln → Prop) : List Nat → List Ln → Prop
  | [], [] => True
  | a :: l, x :: m => P a x ∧ FA2 P l m
  | [], _ :: _ => False
  | _ :: _, [] => False
theorem FA2_mono {P Q : Nat → Ln → Prop} : ∀ (l : List Nat) (m : List Ln), (∀ a ∈ l, ∀ x, P a x → Q a x) → FA2 P l m → FA2 Q l m
  | [], [], _, _ => trivial
  | a :: l, x :: m, h, ⟨h1, h2⟩ => ⟨h a List.mem_cons_self x h1, FA2_mono l m (fun b hb => h b (List.mem_cons_of_mem _ hb)) h2⟩
  | [], _ :: _, _, h => h
  | _ :: _, [], _, h => h
theorem FA2_app {P : Nat → Ln → Prop} {b : Nat} {y : Ln} : ∀ (l : List Nat) (m : List Ln), FA2 P l m → P b y → FA2 P (l ++ [b]) (m ++ [y])
  | [], [], _, h => ⟨h, trivial⟩
  | a :: l, x :: m, ⟨h1, h2⟩, h => ⟨h1, FA2_app l m h2 h⟩
  | [], _ :: _, h, _ => h.elim
  | _ :: _, [], h, _ => h.elim
theorem FA2_len {P : Nat → Ln → Prop} : ∀ (l : List Nat) (m : List Ln), FA2 P l m → l.length = m.length
  | [], [], _ => rfl
  | _ :: l, _ :: m, ⟨_, h2⟩ => by rw [List.length_cons, List.length_cons, FA2_len l m h2]
  | [], _ :: _, h => h.elim
  | _ :: _, [], h => h.elim
theorem chn_keep {M M' : Mem} : ∀ (l : List Nat), (∀ a ∈ l, gR M' a 7 = gR M a 7) → chn M l → chn M' l
  | [], _, _ => trivial
  | a :: l, h, ⟨h1, h2⟩ => ⟨(h a List.mem_cons_self).trans h1, chn_keep l (fun b hb => h b (List.mem_cons_of_mem _ hb)) h2⟩
theorem chn_app {M : Mem} {b : Nat} (hb : gR M b 7 = none) : ∀ (l : List Nat), (∀ a ∈ l, l.getLast? = some a → gR M a 7 = some b) → (∀ a l2 l3, l = l2 ++ a :: l3 → l3 ≠ [] → gR M a 7 = l3.head?) → chn M (l ++ [b])
  | [], _, _ => ⟨hb, trivial⟩
  | [a], h, _ => ⟨h a List.mem_cons_self rfl, hb, trivial⟩
  | a :: c :: l, h, h2 => ⟨h2 a [] (c :: l) rfl (by simp), chn_app hb (c :: l) (fun x hx hl => h x (List.mem_cons_of_mem _ hx) (by rw [List.getLast?_cons_cons]; exact hl)) (fun x l2 l3 e hn => h2 x (a :: l2) l3 (by rw [e]; rfl) hn)⟩
theorem chn_get {M : Mem} : ∀ (l : List Nat) (a : Nat) (l2 l3 : List Nat), chn M l → l = l2 ++ a :: l3 → gR M a 7 = l3.head?
  | _, a, [], l3, h, e => by subst e; exact h.1
  | _, a, x :: l2, l3, h, e => by subst e; exact chn_get (l2 ++ a :: l3) a l2 l3 h.2 rfl
def fset {α : Type} (f : Nat → α) (b : Nat) (v : α) : Nat → α := fun a => if a = b then v else f a
theorem fs_s {α : Type} (f : Nat → α) (b : Nat) (v : α) : fset f b v b = v := if_pos rfl
theorem fs_n {α : Type} (f : Nat → α) {a b : Nat} (v : α) (h : a ≠ b) : fset f b v a = f a := if_neg h
def okA (Fo : Nat → Prop) (M : Mem) (a : Nat) : Prop := gT M a = some (1, 0) ∧ ¬ Fo a
/-- the lines: La the queues' lines, Sp the spare ones, ow where a line is: w < 36 a queue, 36 spare, 37 and on in hand (hl); sgN 2 lines are made, sgN 3 of them in hand beside the draft -/
def QCx (A : Nat → Nat) (Fo : Nat → Prop) (M : Mem) (σ : Sg) (hl : Nat → Option Ln) (La : Nat → List Nat) (Sp : List Nat) (ow : Nat → Nat) : Prop :=
  (∀ w, w < 36 → gR M (A (60 + w)) 0 = (La w).head? ∧ gR M (A (60 + w)) 1 = (La w).getLast? ∧ chn M (La w) ∧ (La w).Nodup ∧ FA2 (lnC M) (La w) (sgQ σ w) ∧ ∀ a ∈ La w, ow a = w ∧ okA Fo M a) ∧
  (gR M (A 2) 3 = Sp.head? ∧ chn M Sp ∧ Sp.Nodup ∧ ∀ a ∈ Sp, ow a = 36 ∧ okA Fo M a) ∧
  (∀ a ln, hl a = some ln → 37 ≤ ow a ∧ okA Fo M a ∧ lnC M a ln) ∧
  (gI M (A 2) 2 = nI (tot σ) ∧ gI M (A 2) 4 = nI (sgN σ 2) ∧ sgN σ 2 = tot σ + Sp.length + sgN σ 3)
def QC (A : Nat → Nat) (Fo : Nat → Prop) (M : Mem) (σ : Sg) (hl : Nat → Option Ln) : Prop := ∃ (La : Nat → List Nat) (Sp : List Nat) (ow : Nat → Nat), QCx A Fo M σ hl La Sp ow
/-- writes that touch no line, no queue, no wires -/
theorem qc_oth {A : Nat → Nat} {Fo : Nat → Prop} {M M' : Mem} {σ σ' : Sg} {hl : Nat → Option Ln} (h : QC A Fo M σ hl) (hT : ∀ b, gT M' b = gT M b) (hR : ∀ b j, gR M' b j = gR M b j) (hI : ∀ b j, gT M b = some (1, 0) ∨ b = A 2 → gI M' b j = gI M b j) (hq : ∀ w, sgQ σ' w = sgQ σ w) (h2 : sgN σ' 2 = sgN σ 2) (h3 : sgN σ' 3 = sgN σ 3) : QC A Fo M' σ' hl := by
  obtain ⟨La, Sp, ow, q1, q2, q3, q4⟩ := h
  have ht : tot σ' = tot σ := by
    unfold tot
    rw [show sgQ σ' = sgQ σ from funext hq]
  have hok : ∀ a, okA Fo M a → okA Fo M' a := fun a h => ⟨(hT a).trans h.1, h.2⟩
  refine ⟨La, Sp, ow, fun w hw => ?_, ?_, fun a ln ha => ?_, ?_⟩
  · obtain ⟨a1, a2, a3, a4, a5, a6⟩ := q1 w hw
    refine ⟨by rw [hR]; exact a1, by rw [hR]; exact a2, chn_keep _ (fun a _ => hR a 7) a3, a4, ?_, fun a ha => ⟨(a6 a ha).1, hok a (a6 a ha).2⟩⟩
    rw [hq]
    exact FA2_mono _ _ (fun a ha x hx => lnC_keep hx (fun k _ => hI a k (Or.inl (a6 a ha).2.1))) a5
  · obtain ⟨a1, a2, a3, a4⟩ := q2
    exact ⟨by rw [hR]; exact a1, chn_keep _ (fun a _ => hR a 7) a2, a3, fun a ha => ⟨(a4 a ha).1, hok a (a4 a ha).2⟩⟩
  · obtain ⟨a1, a2, a3⟩ := q3 a ln ha
    exact ⟨a1, hok a a2, lnC_keep a3 (fun k _ => hI a k (Or.inl a2.1))⟩
  · rw [hI _ _ (Or.inr rfl), hI _ _ (Or.inr rfl), ht, h2, h3]
    exact q4
/-- a line in hand gets other contents -/
theorem qc_set {A : Nat → Nat} {Fo : Nat → Prop} {M M' : Mem} {σ : Sg} {hl : Nat → Option Ln} (h : QC A Fo M σ hl) (hw4 : gT M (A 2) = some (4, 0)) {b : Nat} {l0 ln : Ln} (hb : hl b = some l0) (hT : ∀ b, gT M' b = gT M b) (hR : ∀ b j, gR M' b j = gR M b j) (hI : ∀ c j, c ≠ b → gI M' c j = gI M c j) (hc : lnC M' b ln) : QC A Fo M' σ (fset hl b (some ln)) := by
  obtain ⟨La, Sp, ow, q1, q2, q3, q4⟩ := h
  have hob := q3 b l0 hb
  have hok : ∀ a, okA Fo M a → okA Fo M' a := fun a h => ⟨(hT a).trans h.1, h.2⟩
  have hA2 : A 2 ≠ b := fun e => by
    have h1 := hob.2.1.1
    rw [← e, hw4] at h1
    cases h1
  refine ⟨La, Sp, ow, fun w hw => ?_, ?_, fun a l ha => ?_, ?_⟩
  · obtain ⟨a1, a2, a3, a4, a5, a6⟩ := q1 w hw
    refine ⟨by rw [hR]; exact a1, by rw [hR]; exact a2, chn_keep _ (fun a _ => hR a 7) a3, a4, ?_, fun a ha => ⟨(a6 a ha).1, hok a (a6 a ha).2⟩⟩
    exact FA2_mono _ _ (fun a ha x hx => lnC_keep hx (fun k _ => hI a k (fun e => by have := (a6 a ha).1; rw [e] at this; omega))) a5
  · obtain ⟨a1, a2, a3, a4⟩ := q2
    exact ⟨by rw [hR]; exact a1, chn_keep _ (fun a _ => hR a 7) a2, a3, fun a ha => ⟨(a4 a ha).1, hok a (a4 a ha).2⟩⟩
  · by_cases e : a = b
    · subst e
      rw [fs_s] at ha
      cases ha
      exact ⟨hob.1, hok _ hob.2.1, hc⟩
    · rw [fs_n _ _ e] at ha
      obtain ⟨a1, a2, a3⟩ := q3 a l ha
      exact ⟨a1, hok a a2, lnC_keep a3 (fun k _ => hI a k e)⟩
  · rw [hI _ _ hA2, hI _ _ hA2]
    exact q4
/-- a spare line is taken into the hand -/
theorem qc_grab {A : Nat → Nat} {Fo : Nat → Prop} {M : Mem} {σ : Sg} {hl : Nat → Option Ln} (h : QC A Fo M σ hl) (hw4 : gT M (A 2) = some (4, 0)) (hqt : ∀ w, w < 36 → gT M (A (60 + w)) = some (2, 0)) {b : Nat} (hb : gR M (A 2) 3 = some b) : okA Fo M b ∧ hl b = none ∧ ∃ ln, QC A Fo (sR M (A 2) 3 (gR M b 7)) (uN σ 3 (sgN σ 3 + 1)) (fset hl b (some ln)) := by
  obtain ⟨La, Sp, ow, q1, ⟨a1, a2, a3, a4⟩, q3, q4⟩ := h
  cases hSp : Sp with
  | nil => rw [hSp, hb] at a1; cases a1
  | cons c Sp' =>
    rw [hSp] at a1 a2 a3 a4
    rw [hb] at a1
    have hbc : b = c := Option.some.inj a1
    subst hbc
    have hob := a4 b List.mem_cons_self
    obtain ⟨ln, hln⟩ := lnC_any M b
    have hn : hl b = none := by
      cases e : hl b with
      | none => rfl
      | some l => have := (q3 b l e).1; omega
    refine ⟨hob.2, hn, ln, La, Sp', (fset ow b 37), fun w hw => ?_, ⟨?_, ?_, ?_, ?_⟩, ?_, ?_⟩
    · obtain ⟨b1, b2, b3, b4, b5, b6⟩ := q1 w hw
      have hne : A (60 + w) ≠ A 2 := fun e => by
        have h1 := hqt w hw
        rw [e, hw4] at h1
        cases h1
      refine ⟨?_, ?_, chn_keep _ (fun a ha => ?_) b3, b4, FA2_mono _ _ (fun a ha x hx => lnC_keep hx (fun k _ => rfl)) b5, fun a ha => ⟨?_, (b6 a ha).2⟩⟩
      · rw [gR_sR, if_neg (fun e => hne e.1)]; exact b1
      · rw [gR_sR, if_neg (fun e => hne e.1)]; exact b2
      · rw [gR_sR, if_neg (fun e => by have h1 := (b6 a ha).2.1; rw [e.1, hw4] at h1; cases h1)]
      · have h1 := (b6 a ha).1
        rw [fs_n _ _ (fun e => by rw [e] at h1; omega)]
        exact h1
    · rw [gR_sR, if_pos ⟨rfl, rfl⟩, a2.1]
    · refine chn_keep _ (fun a ha => ?_) a2.2
      rw [gR_sR, if_neg (fun e => by have h1 := (a4 a (List.mem_cons_of_mem _ ha)).2.1; rw [e.1, hw4] at h1; cases h1)]
    · exact (List.nodup_cons.mp a3).2
    · intro a ha
      have h1 := a4 a (List.mem_cons_of_mem _ ha)
      refine ⟨?_, h1.2⟩
      rw [fs_n _ _ (fun e => (List.nodup_cons.mp a3).1 (by rw [← e]; exact ha))]
      exact h1.1
    · intro a l ha
      by_cases e : a = b
      · subst e
        rw [fs_s] at ha
        cases ha
        refine ⟨by rw [fs_s]; omega, hob.2, hln⟩
      · rw [fs_n _ _ e] at ha
        obtain ⟨c1, c2, c3⟩ := q3 a l ha
        exact ⟨by rw [fs_n _ _ e]; exact c1, c2, c3⟩
    · rw [sgN_uN, sgN_uN, if_neg (by decide), if_pos rfl, tot_uN, gI_sR, gI_sR]
      refine ⟨q4.1, q4.2.1, ?_⟩
      have h1 := q4.2.2
      rw [hSp, List.length_cons] at h1
      omega
/-- a line is made and taken into the hand -/
theorem qc_new {A : Nat → Nat} {Fo : Nat → Prop} {M : Mem} {σ : Sg} {hl : Nat → Option Ln} (h : QC A Fo M σ hl) (hw4 : gT M (A 2) = some (4, 0)) (hqt : ∀ w, w < 36 → gT M (A (60 + w)) = some (2, 0)) {q : Nat} (hq : gT M q = none) (hF : ¬ Fo q) : hl q = none ∧ ∃ ln, QC A Fo (sN (sI M (A 2) 4 (gI M (A 2) 4 + 1)) q (1, 0)) (uN (uN σ 3 (sgN σ 3 + 1)) 2 (sgN σ 2 + 1)) (fset hl q (some ln)) := by
  obtain ⟨La, Sp, ow, q1, q2, q3, q4⟩ := h
  have ne : ∀ a t, gT M a = some t → a ≠ q := fun a t ht e => by rw [e, hq] at ht; cases ht
  have hn : hl q = none := by
    cases e : hl q with
    | none => rfl
    | some l => exact absurd rfl (ne q _ (q3 q l e).2.1.1)
  have hok : ∀ a, okA Fo M a → okA Fo (sN (sI M (A 2) 4 (gI M (A 2) 4 + 1)) q (1, 0)) a := fun a h => ⟨by rw [gT_sN, if_neg (ne a _ h.1)]; exact h.1, h.2⟩
  have hRk : ∀ a t, gT M a = some t → ∀ j, gR (sN (sI M (A 2) 4 (gI M (A 2) 4 + 1)) q (1, 0)) a j = gR M a j := fun a t ht j => by rw [gR_sN, if_neg (ne a t ht), gR_sI]
  have hIk : ∀ a, gT M a = some (1, 0) → ∀ j, gI (sN (sI M (A 2) 4 (gI M (A 2) 4 + 1)) q (1, 0)) a j = gI M a j := fun a ht j => by rw [gI_sN, if_neg (ne a _ ht), gI_sI, if_neg (fun e => by rw [e.1, hw4] at ht; cases ht)]
  obtain ⟨ln, hln⟩ := lnC_any (sN (sI M (A 2) 4 (gI M (A 2) 4 + 1)) q (1, 0)) q
  refine ⟨hn, ln, La, Sp, (fset ow q 37), fun w hw => ?_, ?_, fun a l ha => ?_, ?_⟩
  · obtain ⟨b1, b2, b3, b4, b5, b6⟩ := q1 w hw
    refine ⟨by rw [hRk _ _ (hqt w hw)]; exact b1, by rw [hRk _ _ (hqt w hw)]; exact b2, chn_keep _ (fun a ha => hRk a _ (b6 a ha).2.1 7) b3, b4, FA2_mono _ _ (fun a ha x hx => lnC_keep hx (fun k _ => hIk a (b6 a ha).2.1 k)) b5, fun a ha => ⟨?_, hok a (b6 a ha).2⟩⟩
    rw [fs_n _ _ (ne a _ (b6 a ha).2.1)]
    exact (b6 a ha).1
  · obtain ⟨a1, a2, a3, a4⟩ := q2
    refine ⟨by rw [hRk _ _ hw4]; exact a1, chn_keep _ (fun a ha => hRk a _ (a4 a ha).2.1 7) a2, a3, fun a ha => ⟨?_, hok a (a4 a ha).2⟩⟩
    rw [fs_n _ _ (ne a _ (a4 a ha).2.1)]
    exact (a4 a ha).1
  · by_cases e : a = q
    · subst e
      rw [fs_s] at ha
      cases ha
      exact ⟨by rw [fs_s]; omega, ⟨by rw [gT_sN, if_pos rfl], hF⟩, hln⟩
    · rw [fs_n _ _ e] at ha
      obtain ⟨a1, a2, a3⟩ := q3 a l ha
      exact ⟨by rw [fs_n _ _ e]; exact a1, hok a a2, lnC_keep a3 (fun k _ => hIk a a2.1 k)⟩
  · have e2 : gI (sN (sI M (A 2) 4 (gI M (A 2) 4 + 1)) q (1, 0)) (A 2) 2 = gI M (A 2) 2 := by rw [gI_sN, if_neg (ne _ _ hw4), gI_sI, if_neg (fun e => absurd e.2 (by decide))]
    have e4 : gI (sN (sI M (A 2) 4 (gI M (A 2) 4 + 1)) q (1, 0)) (A 2) 4 = gI M (A 2) 4 + 1 := by rw [gI_sN, if_neg (ne _ _ hw4), gI_sI, if_pos ⟨rfl, rfl⟩]
    have e5 : sgN (uN (uN σ 3 (sgN σ 3 + 1)) 2 (sgN σ 2 + 1)) 2 = sgN σ 2 + 1 := rfl
    have e6 : sgN (uN (uN σ 3 (sgN σ 3 + 1)) 2 (sgN σ 2 + 1)) 3 = sgN σ 3 + 1 := rfl
    rw [e2, e4, e5, e6, q4.2.1, nI_1]
    exact ⟨q4.1, rfl, by have := q4.2.2; show _ = tot σ + _ + _; omega⟩
