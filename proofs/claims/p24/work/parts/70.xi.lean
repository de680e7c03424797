/-! MORE THAT HOLDS: who is known lives in the tree; a channel that is there has modes and bans, and lines that tell of one do -/
def ng (x : Int32) : Prop := bt x 31 = false
def hmu (σ : Sg) (u : Nat) : Nat := (sgI σ 7 u).toNatClampNeg
def TI (σ : Sg) : Prop := ∀ s u, s < 6 → bt (sgI σ 1 s) u = true → bt (clo (sgI σ 0) s) (hmu σ u) = true
def ME (σ : Sg) : Prop := ∀ i, i < 24 → ¬ sgI σ 5 i = 0 → ng (sgI σ 3 i) ∧ ng (sgI σ 4 i)
def lnM (ln : Ln) : Prop := (ln.1 = 2 ∨ ln.1 = 4) → ng ln.2.2.2.2.1 ∧ ng ln.2.2.2.2.2
def MQl (σ : Sg) : Prop := ∀ w ln, w < 36 → ln ∈ sgQ σ w → lnM ln
def XI (σ : Sg) : Prop := TI σ ∧ ME σ ∧ MQl σ
theorem ng_settle {a x b y : Int32} (h : a = -1 ∨ ng x) (hy : ng y) : ng (settle a x b y) := by
  unfold settle
  split
  · exact hy
  · rename_i ha
    have hx := h.resolve_left ha
    split
    · exact hx
    · split
      · have h1 : bt x 31 = false := hx
        have h2 : bt y 31 = false := hy
        show bt (x ||| y) 31 = false
        rw [b_or, h1, h2]
        rfl
      · split
        · exact hy
        · exact hx
theorem cb_sub {m u : Int32} {i : Nat} (h : bt (cb m u) i = true) : bt m i = true := by
  unfold cb at h
  rw [b_and, Bool.and_eq_true] at h
  exact h.1
theorem ti_sub {σ τ : Sg} (h : TI σ) (h0 : sgI τ 0 = sgI σ 0) (h7 : ∀ u, sgI τ 7 u = sgI σ 7 u) (h1 : ∀ s u, s < 6 → bt (sgI τ 1 s) u = true → bt (sgI σ 1 s) u = true) : TI τ := fun s u hs hb => by
  unfold hmu
  rw [h0, h7]
  exact h s u hs (h1 s u hs hb)
theorem ti_forget {σ : Sg} (h : TI σ) (s : Nat) (u : Int32) : TI (forgetL σ s u) := ti_sub h (fg_lk σ s u) (fun v => forget_I σ s u 7 v (Or.inr (by decide))) (fun t v _ hb => by
  rw [fg_1] at hb
  split at hb
  · rename_i e; rw [e]; exact cb_sub hb
  · exact hb)
theorem ti_learn {σ : Sg} (h : TI σ) {s u : Nat} (hs : s < 6) (hu : u < 32) (hh : bt (clo (sgI σ 0) s) (hmu σ u) = true) : TI (uI σ 1 s (sb (sgI σ 1 s) (nI u))) := fun t v ht hb => by
  have lk : sgI (uI σ 1 s (sb (sgI σ 1 s) (nI u))) 0 = sgI σ 0 := funext (fun i => by rw [sgI_uI, if_neg (by omega)])
  have h7 : sgI (uI σ 1 s (sb (sgI σ 1 s) (nI u))) 7 v = sgI σ 7 v := by rw [sgI_uI, if_neg (by omega)]
  unfold hmu
  rw [lk, h7]
  rw [sgI_uI] at hb
  split at hb
  · rename_i e
    rw [sb_iff _ hu] at hb
    rw [e.2]
    rcases hb with g | g
    · exact h s v hs g
    · rw [g]; exact hh
  · exact h t v ht hb
theorem me_at {σ τ : Sg} {i : Nat} (h : ME σ) (ho : ∀ f j, 3 ≤ f → f ≤ 5 → j ≠ i → sgI τ f j = sgI σ f j) (hi : ¬ sgI τ 5 i = 0 → ng (sgI τ 3 i) ∧ ng (sgI τ 4 i)) : ME τ := fun j hj hn => by
  by_cases e : j = i
  · rw [e] at hn ⊢; exact hi hn
  · rw [ho 3 j (by omega) (by omega) e, ho 4 j (by omega) (by omega) e]
    rw [ho 5 j (by omega) (by omega) e] at hn
    exact h j hj hn
theorem me_eq {σ τ : Sg} (h : ME σ) (ho : ∀ f j, 3 ≤ f → f ≤ 5 → sgI τ f j = sgI σ f j) : ME τ := fun j hj hn => by
  rw [ho 3 j (by omega) (by omega), ho 4 j (by omega) (by omega)]
  rw [ho 5 j (by omega) (by omega)] at hn
  exact h j hj hn
theorem me_drop {σ : Sg} (h : ME σ) (i : Nat) (u : Int32) : ME (dropL σ i u) := fun j hj hn => by
  rw [dr_5] at hn
  rw [dr_234 σ i u (Or.inr (Or.inl rfl)), dr_234 σ i u (Or.inr (Or.inr rfl))]
  by_cases e : j = i
  · rw [if_pos e] at hn
    rw [if_neg (fun z => hn z.2), if_neg (fun z => hn z.2)]
    refine h j hj (fun z => hn ?_)
    rw [← e, z]
    exact cb_z u
  · rw [if_neg e] at hn
    rw [if_neg (fun z => e z.1), if_neg (fun z => e z.1)]
    exact h j hj hn
theorem me_forgetN {σ : Sg} (h : ME σ) (s : Nat) (u : Int32) : ∀ c, ME (forgetN σ s u c) := by
  intro c
  induction c with
  | zero => exact me_eq h (fun f i h1 h2 => by show sgI (uI σ 1 s _) f i = _; rw [sgI_uI, if_neg (by omega)])
  | succ c ih => exact me_drop ih _ _
theorem mq_put {σ : Sg} (h : MQl σ) {w : Nat} {ln : Ln} (hl : lnM ln) : MQl (putL σ w ln) := fun v l hv hm => by
  have hq : sgQ (putL σ w ln) v = if v = w then sgQ σ w ++ [ln] else sgQ σ v := rfl
  rw [hq] at hm
  split at hm
  · rename_i e
    rcases List.mem_append.mp hm with g | g
    · exact h w l (by omega) g
    · rw [List.mem_singleton] at g; rw [g]; exact hl
  · exact h v l hv hm
theorem mq_spread {σ : Sg} (h : MQl σ) (s : Nat) (but : Int32) {ln : Ln} (hl : lnM ln) : MQl (spreadL σ s but ln) := by
  have : ∀ o, MQl (spreadN σ s but ln o) := by
    intro o
    induction o with
    | zero => exact h
    | succ o ih =>
      show MQl (if _ then putL (spreadN σ s but ln o) (s * 6 + o) ln else spreadN σ s but ln o)
      split
      · exact mq_put ih hl
      · exact ih
  exact this 6
theorem xi_spread {ρ : Sg} (h : XI ρ) (s : Nat) (but : Int32) {ln : Ln} (hl : lnM ln) : XI (spreadL ρ s but ln) := ⟨ti_sub h.1 (sp_I ρ s but ln 0) (fun u => spread_I ρ s but ln 7 u) (fun t v _ hb => by rw [spread_I] at hb; exact hb), me_eq h.2.1 (fun f j _ _ => spread_I ρ s but ln f j), mq_spread h.2.2 s but hl⟩
theorem xi_put {ρ : Sg} (h : XI ρ) {w : Nat} {ln : Ln} (hl : lnM ln) : XI (putL ρ w ln) := ⟨h.1, h.2.1, mq_put h.2.2 hl⟩
theorem xi_tick {ρ : Sg} (h : XI ρ) : XI (tickL ρ) := h
theorem lnM_n {ln : Ln} (h2 : ¬ ln.1 = 2) (h4 : ¬ ln.1 = 4) : lnM ln := fun e => e.elim (fun z => absurd z h2) (fun z => absurd z h4)
theorem lnM_u {k : Int32} (hk : k = 0 ∨ k = 1) (a : Int32) : lnM (k, a, 0, 0, 0, 0) := by
  refine lnM_n (fun (e : k = 2) => ?_) (fun (e : k = 4) => ?_)
  · rcases hk with h | h <;> (rw [h] at e; exact absurd e (by decide))
  · rcases hk with h | h <;> (rw [h] at e; exact absurd e (by decide))
theorem xi_forget {σ : Sg} (h : XI σ) (s : Nat) (u : Int32) : XI (forgetL σ s u) := ⟨ti_forget h.1 s u, me_forgetN h.2.1 s u 4, fun w l hw hm => h.2.2 w l hw (by rw [fg_q] at hm; exact hm)⟩
theorem xi_drop {σ : Sg} (h : XI σ) (i : Nat) (u : Int32) : XI (dropL σ i u) := ⟨ti_sub h.1 (funext (fun v => dr_I σ i u 0 v (by omega))) (fun v => dr_I σ i u 7 v (by omega)) (fun t v _ hb => by rw [dr_I σ i u 1 t (by omega)] at hb; exact hb), me_drop h.2.1 i u, fun w l hw hm => h.2.2 w l hw (by rw [drop_Q] at hm; exact hm)⟩
theorem take_3 (σ : Sg) (i : Nat) (ag md bn pr : Int32) : sgI (takeInL σ i ag md bn pr) 3 i = settle (sgI σ 2 i) (sgI σ 3 i) ag md := by
  show sgI (uI (uI (uI (uI σ 3 i (settle (sgI σ 2 i) (sgI σ 3 i) ag md)) 4 i _) 2 i _) 5 i _) 3 i = _
  rw [sgI_uI, if_neg (by omega), sgI_uI, if_neg (by omega), sgI_uI, if_neg (by omega), sgI_uI, if_pos ⟨rfl, rfl⟩]
theorem take_4 (σ : Sg) (i : Nat) (ag md bn pr : Int32) : sgI (takeInL σ i ag md bn pr) 4 i = settle (sgI σ 2 i) (sgI σ 4 i) ag bn := by
  show sgI (uI (uI (uI (uI σ 3 i _) 4 i (settle (sgI σ 2 i) (sgI σ 4 i) ag bn)) 2 i _) 5 i _) 4 i = _
  rw [sgI_uI, if_neg (by omega), sgI_uI, if_neg (by omega), sgI_uI, if_pos ⟨rfl, rfl⟩]
theorem xi_chanSet {σ : Sg} (hV : VI σ) (h : XI σ) {s d : Nat} (hs : s < 6) (hd : d < 4) {ln : Ln} (hlc : ln.2.1 = nI d) (hk : ln.1 = 2) (hm : lnM ln) : XI (chanSet σ s ln) := by
  have hcl : ln.2.1.toNatClampNeg = d := by rw [hlc, clN (by omega)]
  have hg := hm (Or.inl hk)
  unfold chanSet
  split
  · exact h
  · rw [hcl]
    refine ⟨ti_sub h.1 (funext (fun v => take_I σ _ _ _ _ _ 0 v (by omega))) (fun v => take_I σ _ _ _ _ _ 7 v (by omega)) (fun t v _ hb => by rw [take_I σ _ _ _ _ _ 1 t (by omega)] at hb; exact hb), me_at (i := s * 4 + d) h.2.1 (fun f j h1 h2 hj => take_I σ _ _ _ _ _ f j (fun z => hj z.2.2)) (fun _ => ?_), fun w l hw hm => h.2.2 w l hw hm⟩
    have hx : sgI σ 2 (s * 4 + d) = -1 ∨ (ng (sgI σ 3 (s * 4 + d)) ∧ ng (sgI σ 4 (s * 4 + d))) := by
      by_cases e : sgI σ 5 (s * 4 + d) = 0
      · exact Or.inl ((hV.1 _ (by omega)).1.mp e)
      · exact Or.inr (h.2.1 _ (by omega) e)
    rw [take_3, take_4]
    exact ⟨ng_settle (hx.imp id (fun z => z.1)) hg.1, ng_settle (hx.imp id (fun z => z.2)) hg.2⟩
theorem xi_set {σ : Sg} (h : XI σ) (i : Nat) {m b : Int32} (hm : ng m) (hb : ng b) : XI (uI (uI σ 3 i m) 4 i b) := by
  have o : ∀ f j, ¬ ((f = 3 ∨ f = 4) ∧ j = i) → sgI (uI (uI σ 3 i m) 4 i b) f j = sgI σ f j := fun f j hf => by rw [sgI_uI, if_neg (by omega), sgI_uI, if_neg (by omega)]
  refine ⟨ti_sub h.1 (funext (fun v => o 0 v (by omega))) (fun v => o 7 v (by omega)) (fun t v _ hb => by rw [o 1 t (by omega)] at hb; exact hb), me_at (i := i) h.2.1 (fun f j _ _ hj => o f j (fun z => hj z.2)) (fun _ => ⟨?_, ?_⟩), fun w l hw hm => h.2.2 w l hw hm⟩
  · rw [sgI_uI, if_neg (by omega), sgI_uI, if_pos ⟨rfl, rfl⟩]; exact hm
  · rw [sgI_uI, if_pos ⟨rfl, rfl⟩]; exact hb
theorem xi_mode {σ : Sg} (h : XI σ) (i : Nat) (ag : Int32) {md bn : Int32} (hm : ng md) (hb : ng bn) : XI (modeSet σ i ag md bn) := by
  unfold modeSet
  split
  · exact xi_set h i hm hb
  · exact h
theorem xi_recv {τ : Sg} (hV : VI τ) (h : XI τ) (hW : WFu τ) {x y : Nat} (hy : y < 6) {ln : Ln} (hwl : WFln τ ln) (hm : lnM ln) : XI (recvL τ y x ln) := by
  unfold recvL
  rcases hwl with ⟨u, hu, hl⟩ | ⟨d, hd4, hlc, hkk⟩
  · have hu' : u < 20 := by have := hW.1; omega
    rcases hl with hl | hl
    · subst hl
      have a1 : (qln 0 u).1 = 0 := rfl
      have a2 : (qln 0 u).2.1.toNatClampNeg = u := clN (by omega)
      rw [if_pos a1, a2]
      unfold recvUser
      split
      · rename_i htr
        have htr : bt (clo (sgI τ 0) y) (hmu τ u) = true := by rw [← tree_clo]; exact htr
        have nw : ∀ ρ, XI ρ → sgI ρ 0 = sgI τ 0 → sgI ρ 7 u = sgI τ 7 u → XI (spreadL (uI ρ 1 y (sb (sgI ρ 1 y) (nI u))) y (nI x) (qln 0 u)) := fun ρ hρ l0 l7 => by
          refine xi_spread ⟨ti_learn hρ.1 hy (by omega) ?_, me_eq hρ.2.1 (fun f j h1 h2 => by rw [sgI_uI, if_neg (by omega)]), hρ.2.2⟩ y _ (lnM_u (Or.inl rfl) _)
          unfold hmu
          rw [l0, l7]
          exact htr
        split
        · exact nw τ h rfl rfl
        · split
          · dsimp only
            refine nw _ (xi_spread (xi_forget h y _) y (-1) (lnM_u (Or.inr rfl) _)) ?_ ?_
            · rw [sp_I, fg_lk]
            · rw [spread_I, forget_I _ _ _ 7 _ (Or.inr (by decide))]
          · exact xi_put h (lnM_u (Or.inr rfl) _)
      · exact h
    · subst hl
      have a0 : ¬ (qln 1 u).1 = 0 := by show ¬ (1 : Int32) = 0; decide
      have a1 : (qln 1 u).1 = 1 := rfl
      rw [if_neg a0, if_pos a1]
      unfold recvQuit
      split
      · exact xi_spread (xi_forget h y _) _ _ (lnM_u (Or.inr rfl) _)
      · exact h
  · have n0 : ¬ ln.1 = 0 := by rcases hkk with e | e | e <;> (rw [e]; decide)
    have n1 : ¬ ln.1 = 1 := by rcases hkk with e | e | e <;> (rw [e]; decide)
    rw [if_neg n0, if_neg n1]
    rcases hkk with hk | hk | hk
    · rw [if_pos hk]
      exact xi_spread (xi_chanSet hV h hy hd4 hlc hk hm) _ _ hm
    · have n2 : ¬ ln.1 = 2 := by rw [hk]; decide
      rw [if_neg n2, if_pos hk]
      unfold recvLeave
      exact xi_spread (xi_drop h _ _) _ _ hm
    · have n2 : ¬ ln.1 = 2 := by rw [hk]; decide
      have n3 : ¬ ln.1 = 3 := by rw [hk]; decide
      have hg := hm (Or.inr hk)
      rw [if_neg n2, if_neg n3]
      unfold recvModes
      exact xi_spread (xi_mode h _ _ hg.1 hg.2) _ _ hm
theorem xi_dlv {σ : Sg} (hP : PI σ) (h : XI σ) {x y : Nat} (hx : x < 6) (hy : y < 6) : XI (dlvL σ x y) := by
  obtain ⟨p1, p2, p3, p4, p5, p6, p7, p8⟩ := id hP
  cases hq2 : sgQ σ (x * 6 + y) with
  | nil => rw [dlv_e hq2]; exact h
  | cons ln rest =>
    have e : dlvL σ x y = uN (recvL (uN (uQ σ (x * 6 + y) rest) 3 (sgN σ 3 + 1)) y x ln) 3 (sgN σ 3) := by
      unfold dlvL
      rw [hq2]
    have hmem : ln ∈ sgQ σ (x * 6 + y) := by rw [hq2]; exact List.mem_cons_self
    have hwl : WFln (uN (uQ σ (x * 6 + y) rest) 3 (sgN σ 3 + 1)) ln := wf_congr (p3 _ ln hmem) rfl
    have hlm := h.2.2 _ ln (by omega) hmem
    have qq : ∀ v, sgQ (uN (uQ σ (x * 6 + y) rest) 3 (sgN σ 3 + 1)) v = if v = x * 6 + y then rest else sgQ σ v := fun v => rfl
    have q1 : MQl (uN (uQ σ (x * 6 + y) rest) 3 (sgN σ 3 + 1)) := fun w l hw hm => by
      rw [qq] at hm
      split at hm
      · exact h.2.2 _ l (show x * 6 + y < 36 by omega) (by rw [hq2]; exact List.mem_cons_of_mem _ hm)
      · exact h.2.2 w l hw hm
    have v1 : VI (uN (uQ σ (x * 6 + y) rest) 3 (sgN σ 3 + 1)) := vi_congr p6 (fun _ _ _ => rfl) rfl
    rw [e]
    exact xi_recv (x := x) v1 ⟨h.1, h.2.1, q1⟩ p1 hy hwl hlm
theorem xi_quit {σ : Sg} (h : XI σ) (u hm : Nat) : XI (quitL σ u hm) := xi_tick (xi_spread (xi_forget h hm _) hm _ (lnM_u (Or.inr rfl) _))
theorem xi_leave {σ : Sg} (h : XI σ) (u hm c : Nat) : XI (leaveL σ u hm c) := xi_tick (xi_spread (xi_drop h _ _) hm _ (lnM_n (by show ¬ (3 : Int32) = 2; decide) (by show ¬ (3 : Int32) = 4; decide)))
theorem xi_mod {σ : Sg} (h : XI σ) (hm c : Nat) {m b : Int32} (h1 : ng m) (h2 : ng b) : XI (modL σ hm c m b) := xi_tick (xi_spread (xi_set h _ h1 h2) hm _ (fun _ => ⟨h1, h2⟩))
theorem en_3 (σ : Sg) (u hm d : Nat) : sgI (enL σ u hm d) 3 (hm * 4 + d) = if sgI σ 5 (hm * 4 + d) = 0 then 0 else sgI σ 3 (hm * 4 + d) := by
  unfold enL enterL
  dsimp only
  split
  · rw [sgI_uI, if_neg (by omega), sgI_uI, if_neg (by omega), sgI_uI, if_pos ⟨rfl, rfl⟩]
  · rw [sgI_uI, if_neg (by omega)]
theorem en_4 (σ : Sg) (u hm d : Nat) : sgI (enL σ u hm d) 4 (hm * 4 + d) = if sgI σ 5 (hm * 4 + d) = 0 then 0 else sgI σ 4 (hm * 4 + d) := by
  unfold enL enterL
  dsimp only
  split
  · rw [sgI_uI, if_neg (by omega), sgI_uI, if_pos ⟨rfl, rfl⟩]
  · rw [sgI_uI, if_neg (by omega)]
theorem xi_join {σ : Sg} (h : XI σ) (u : Nat) {hm d : Nat} (hs : hm < 6) (hd : d < 4) : XI (joinL σ u hm d) := by
  have hg : ng (sgI (enL σ u hm d) 3 (hm * 4 + d)) ∧ ng (sgI (enL σ u hm d) 4 (hm * 4 + d)) := by
    rw [en_3, en_4]
    by_cases e : sgI σ 5 (hm * 4 + d) = 0
    · rw [if_pos e, if_pos e]; exact ⟨b_0 31, b_0 31⟩
    · rw [if_neg e, if_neg e]; exact h.2.1 _ (by omega) e
  have o := en_o σ u hm d
  refine xi_tick (xi_spread (ρ := enL σ u hm d) ⟨ti_sub h.1 (funext (fun v => o 0 v (by omega))) (fun v => o 7 v (by omega)) (fun t v _ hb => by rw [o 1 t (by omega)] at hb; exact hb), me_at (i := hm * 4 + d) h.2.1 (fun f j h1 h2 hj => o f j (fun z => hj z.2.2)) (fun _ => hg), fun w l hw hm2 => h.2.2 w l hw (by rw [show sgQ (enL σ u hm d) w = sgQ σ w from enter_Q σ _ _ _ w] at hm2; exact hm2)⟩ hm _ (fun _ => hg))
theorem xi_sign {σ : Sg} (hV : VI σ) (h : XI σ) {s : Nat} (hs : s < 6) (hu : sgN σ 0 < 20) (l : Int32) : XI (signL σ s l) := by
  have o := book_o σ s l
  have lb : sgI (bookL σ s l) 0 = sgI σ 0 := funext (fun i => o 0 i (by omega))
  have b7 : ∀ u, sgI (bookL σ s l) 7 u = if u = sgN σ 0 then nI s else sgI σ 7 u := fun u => by
    show sgI (uI (uI (uI σ 7 (sgN σ 0) (nI s)) 6 (sgN σ 0) l) 8 (sgN σ 0) (nI (sgN σ 1))) 7 u = _
    rw [sgI_uI, if_neg (by omega), sgI_uI, if_neg (by omega), sgI_uI]
    by_cases e : u = sgN σ 0
    · rw [if_pos ⟨rfl, e⟩, if_pos e]
    · rw [if_neg (fun z => e z.2), if_neg e]
  have tb : TI (bookL σ s l) := fun t v ht hb => by
    rw [o 1 t (by omega)] at hb
    have := hV.2.2.1 t v ht hb
    unfold hmu
    rw [lb, b7, if_neg (by omega)]
    exact h.1 t v ht hb
  have hb : XI (bookL σ s l) := ⟨tb, me_eq h.2.1 (fun f j _ _ => o f j (by omega)), h.2.2⟩
  refine xi_tick (xi_spread (ρ := learnL (bookL σ s l) s (sgN σ 0)) ⟨ti_learn hb.1 hs (by omega) ?_, me_eq hb.2.1 (fun f j h1 h2 => by show sgI (uI _ 1 s _) f j = _; rw [sgI_uI, if_neg (by omega)]), hb.2.2⟩ s _ (lnM_u (Or.inl rfl) _))
  unfold hmu
  rw [lb, b7, if_pos rfl, clN (by omega)]
  exact clo_self _ hs
theorem clo_mono {lk lk' : Nat → Int32} (hb : b66 lk') (h : ∀ p q, p < 6 → bt (lk p) q = true → bt (lk' p) q = true) {s v : Nat} (hs : s < 6) (hv : bt (clo lk s) v = true) : bt (clo lk' s) v = true := clo_in (S := fun v => bt (clo lk' s) v = true) hs (clo_self _ hs) (fun p q hp hS hq => tr_step hb hs hS (h p q hp hq)) hv
theorem xi_burst {σ : Sg} (h : XI σ) {s d : Nat} (hs : s < 6) : XI (burstL σ s d) := by
  have h1 : ∀ u, XI (bu1 σ s d u) := by
    intro u
    induction u with
    | zero => exact h
    | succ u ih =>
      show XI (if _ then putL (bu1 σ s d u) (s * 6 + d) (qln 0 u) else bu1 σ s d u)
      split
      · exact xi_put ih (lnM_u (Or.inl rfl) _)
      · exact ih
  have h2 : ∀ c, c ≤ 4 → XI (bu2 σ s d c) := by
    intro c
    induction c with
    | zero => intro _; exact h1 _
    | succ c ih =>
      intro hc
      show XI (if ¬ sgI σ 5 (s * 4 + c) = 0 then putL (bu2 σ s d c) (s * 6 + d) (chLn σ s c) else bu2 σ s d c)
      split
      · rename_i hn
        exact xi_put (ih (by omega)) (fun _ => h.2.1 _ (by omega) hn)
      · exact ih (by omega)
  exact h2 4 (Nat.le_refl _)
theorem xi_link {σ : Sg} (hP : PI σ) (h : XI σ) {s t : Nat} (hs : s < 6) (ht : t < 6) (hn : ¬ bt (treeL σ s) t = true) : XI (linkL σ s t) := by
  have hst : s ≠ t := fun e => hn (by rw [← e, tree_clo]; exact clo_self _ hs)
  have hG := gr_connect hP.2.2.2.1 hs ht hn
  have hc : XI (connectL σ s t) := ⟨fun p u hp hb => by
    rw [connect_ne σ s t 1 p (by decide)] at hb
    unfold hmu
    rw [connect_ne σ s t 7 u (by decide)]
    exact clo_mono hG.1 (fun a b _ e => (connect_lk σ hs ht hst a b).mpr (Or.inl e)) hp (h.1 p u hp hb), me_eq h.2.1 (fun f j h1 h2 => connect_ne σ s t f j (by omega)), h.2.2⟩
  exact xi_tick (xi_burst (xi_burst hc hs) ht)
theorem fu_1 {σ : Sg} (hu20 : sgN σ 0 ≤ 20) {s : Nat} (hs : s < 6) : ∀ u, u ≤ sgN σ 0 → (∀ t v, bt (sgI (fuN σ s u) 1 t) v = true → bt (sgI σ 1 t) v = true) ∧ ∀ v, v < u → bt (sgI (fuN σ s u) 1 s) v = true → bt (treeL σ s) (hmu σ v) = true := by
  intro u
  induction u with
  | zero => intro _; exact ⟨fun _ _ h => h, fun v hv => by omega⟩
  | succ u ih =>
    intro hu
    obtain ⟨i1, i2⟩ := ih (by omega)
    by_cases hc : bt (sgI (fuN σ s u) 1 s) u = true ∧ ¬ bt (treeL σ s) (sgI σ 7 u).toNatClampNeg = true
    · have e : fuN σ s (u + 1) = forgetL (fuN σ s u) s (nI u) := if_pos hc
      rw [e]
      refine ⟨fun t v hb => ?_, fun v hv hb => ?_⟩
      · rw [fg_1] at hb
        split at hb
        · rename_i et; rw [et]; exact i1 s v (cb_sub hb)
        · exact i1 t v hb
      · rw [fg_1, if_pos rfl, cb_iff _ (by omega)] at hb
        exact i2 v (by omega) hb.1
    · have e : fuN σ s (u + 1) = fuN σ s u := if_neg hc
      rw [e]
      refine ⟨i1, fun v hv hb => ?_⟩
      by_cases ev : v = u
      · rw [ev] at hb ⊢
        exact Classical.byContradiction (fun z => hc ⟨hb, z⟩)
      · exact i2 v (by omega) hb
theorem xm_fuN {σ : Sg} (h : ME σ) (s : Nat) : ∀ u, ME (fuN σ s u) := by
  intro u
  induction u with
  | zero => exact h
  | succ u ih =>
    show ME (if _ then forgetL (fuN σ s u) s (nI u) else fuN σ s u)
    split
    · exact me_forgetN ih s _ 4
    · exact ih
theorem xm_fsN {σ : Sg} (h : ME σ) : ∀ s, ME (fsN σ s) := by
  intro s
  induction s with
  | zero => exact h
  | succ s ih => exact xm_fuN ih s _
theorem fs_1 {σ : Sg} (hu20 : sgN σ 0 ≤ 20) (hk : ∀ t v, t < 6 → bt (sgI σ 1 t) v = true → v < sgN σ 0) : ∀ c, c ≤ 6 → (∀ t v, bt (sgI (fsN σ c) 1 t) v = true → bt (sgI σ 1 t) v = true) ∧ ∀ t v, t < c → bt (sgI (fsN σ c) 1 t) v = true → bt (clo (sgI σ 0) t) (hmu σ v) = true := by
  intro c
  induction c with
  | zero => intro _; exact ⟨fun _ _ h => h, fun t v ht => by omega⟩
  | succ c ih =>
    intro hc
    obtain ⟨i1, i2⟩ := ih (by omega)
    have hN : sgN (fsN σ c) 0 = sgN σ 0 := fs_N σ 0 c
    obtain ⟨f1, f2⟩ := fu_1 (σ := fsN σ c) (by rw [hN]; exact hu20) (show c < 6 by omega) (sgN (fsN σ c) 0) (Nat.le_refl _)
    have lk : sgI (fsN σ c) 0 = sgI σ 0 := funext (fun i => fs_I σ 0 i (Or.inl rfl) c)
    refine ⟨fun t v hb => i1 t v (f1 t v hb), fun t v ht hb => ?_⟩
    by_cases e : t = c
    · rw [e] at hb ⊢
      have hv := hk c v (by omega) (i1 c v (f1 c v hb))
      have := f2 v (by rw [hN]; exact hv) hb
      rw [tree_clo, lk] at this
      unfold hmu at this ⊢
      rw [fs_I σ 7 v (Or.inr (by decide)) c] at this
      exact this
    · exact i2 t v (by omega) (f1 t v hb)
theorem xi_split {σ : Sg} (hP : PI σ) (h : XI σ) {s t : Nat} (hs : s < 6) (ht : t < 6) : XI (splitL σ s t) := by
  have hk : ∀ a v, a < 6 → bt (sgI (cutL σ s t) 1 a) v = true → v < sgN (cutL σ s t) 0 := fun a v ha hb => by
    rw [cut_7 σ s t a 1 (by decide)] at hb
    exact hP.2.2.2.2.2.1.2.2.1 a v ha hb
  obtain ⟨g1, g2⟩ := fs_1 (σ := cutL σ s t) hP.1.1 hk 6 (Nat.le_refl _)
  have lk : sgI (fsN (cutL σ s t) 6) 0 = sgI (cutL σ s t) 0 := funext (fun i => fs_I (cutL σ s t) 0 i (Or.inl rfl) 6)
  have qc : ∀ w, sgQ (cutL σ s t) w = if w = t * 6 + s then [] else if w = s * 6 + t then [] else sgQ σ w := fun w => rfl
  refine xi_tick (ρ := fsN (cutL σ s t) 6) ⟨fun a u ha hb => ?_, xm_fsN (me_eq h.2.1 (fun f j h1 h2 => cut_7 σ s t j f (by omega))) 6, fun w l hw hm => ?_⟩
  · unfold hmu
    rw [lk, fs_I (cutL σ s t) 7 u (Or.inr (by decide)) 6]
    exact g2 a u ha hb
  · rw [fs_Q, qc] at hm
    split at hm
    · cases hm
    · split at hm
      · cases hm
      · exact h.2.2 w l hw hm
theorem pd_XI (k : Nat) : OKd (fun σ => PD k σ ∧ XI σ) := fun τ h => by
  obtain ⟨a, b, c, d⟩ := pd_OK k τ h.1
  exact ⟨a, b, c, fun x y hx hy => ⟨d x y hx hy, xi_dlv h.1.1 h.2 hx hy⟩⟩
theorem xi_all {σ : Sg} {k : Nat} (hI : Inv σ k) (hk : k ≤ 512) (h : XI σ) (R : Nat) : XI (tickL (daN σ R).1) := xi_tick (da_P (pd_XI k) (σ := σ) ⟨inv_PD hI hk, h⟩ R).2
theorem xi_0 : XI σ0 := by
  have hI : ∀ f i, sgI σ0 f i = if f = 2 ∨ f = 3 ∨ f = 4 then -1 else 0 := fun f i => rfl
  refine ⟨fun s u _ hb => ?_, fun i _ hn => ?_, fun w l _ hm => (by cases hm)⟩
  · rw [hI, if_neg (by omega), b_0] at hb; cases hb
  · rw [hI, if_neg (by omega)] at hn; exact absurd rfl hn
