/-! THE LAW'S WORLD: the relay, and its book of 48 cells -/
def WB (A : Nat → Nat) (cc : Nat) (M : Mem) (σ : Sg) : Prop := (∃ hl, RepC A (fun b => b = cc) M M σ hl) ∧ gT M cc = some (10, 48)
/-- the book tells of σ -/
def Mir (M : Mem) (cc : Nat) (σ : Sg) : Prop := gI M cc 0 = nI (sgN σ 1) ∧ gI M cc 1 = nI (sgN σ 0) ∧ (∀ s, s < 6 → gI M cc (2 + s) = sgI σ 0 s) ∧ ∀ u, u < sgN σ 0 → gI M cc (8 + u) = sgI σ 6 u ∧ gI M cc (28 + u) = sgI σ 7 u
def cK (σ σ' : Sg) : Nat := sgN σ' 2 - sgN σ 2 + 2
def cS (σ σ' : Sg) : Nat := 8 * (sgN σ' 2 - sgN σ 2) + 12
/-- a call or two on -/
def Nx (σ : Sg) (k : Nat) (σ' : Sg) : Prop := Inv σ' (k + 2) ∧ XI σ' ∧ sgN σ 2 ≤ sgN σ' 2
theorem nx_rf {σ : Sg} {k : Nat} (hI : Inv σ k) (hX : XI σ) : Nx σ k σ := ⟨inv_up hI (by omega), hX, Nat.le_refl _⟩
theorem inv_lim {σ : Sg} {k n : Nat} (h : Inv σ k) (hk : k ≤ 512) (hn : 20000 ≤ n) : lim σ n := by
  have h1 := inv_tot h
  have h2 : sgN σ 3 = 0 := h.1.2.2.2.2.2.2.2
  have h3 := h.2.2.2
  exact ⟨by omega, by omega⟩
theorem inv_u {σ : Sg} {k : Nat} (h : Inv σ k) : sgN σ 0 ≤ 20 := h.1.1.1
theorem inv_V {σ : Sg} {k : Nat} (h : Inv σ k) : VI σ := h.1.2.2.2.2.2.1
theorem inv_G {σ : Sg} {k : Nat} (h : Inv σ k) : GR (sgI σ 0) := h.1.2.2.2.1
theorem ix_0 : Int32.toNatClampNeg 0 = 0 := by decide
theorem ix_1 : Int32.toNatClampNeg 1 = 1 := by decide
theorem ix_2 {s : Nat} (h : s < 48) : Int32.toNatClampNeg (2 + nI s) = 2 + s := by rw [show (2 : Int32) + nI s = nI (2 + s) from nI_add 2 s, clN (by omega)]
theorem ix_8 {s : Nat} (h : s < 48) : Int32.toNatClampNeg (8 + nI s) = 8 + s := by rw [show (8 : Int32) + nI s = nI (8 + s) from nI_add 8 s, clN (by omega)]
theorem ix_28 {s : Nat} (h : s < 48) : Int32.toNatClampNeg (28 + nI s) = 28 + s := by rw [show (28 : Int32) + nI s = nI (28 + s) from nI_add 28 s, clN (by omega)]
theorem b2i_nI (b : Bool) : b2i b = nI (if b = true then 1 else 0) := by cases b <;> rfl
theorem sh1 (m : Int32) {k : Nat} (hk : k < 32) : (m >>> (nI k &&& 31)) &&& 1 = nI (if bt m k = true then 1 else 0) := by
  by_cases e : bt m k = true
  · rw [if_pos e]; exact (hs_one m hk).mpr e
  · rw [if_neg e]; exact (hs_ex m hk).mpr (bt_false e)
theorem rd_w (M : Mem) (cc k : Nat) (x : Int32) (j : Nat) : gI (sI M cc k x) cc j = if j = k then x else gI M cc j := by
  rw [gI_sI]
  by_cases e : j = k
  · rw [if_pos ⟨rfl, e⟩, if_pos e]
  · rw [if_neg (fun z => e z.2), if_neg e]
section WD
variable {A : Nat → Nat} {cc : Nat} {M : Mem} {σ : Sg} {k : Nat}
theorem wb_w (h : WB A cc M σ) (i : Nat) (x : Int32) : WB A cc (sI M cc i x) σ := by
  obtain ⟨⟨hl, hC⟩, hT⟩ := h
  exact ⟨⟨hl, rp_frame hC (fun b hb _ => agr_sI agr_rf hb) (fun b hb => by
    have hb : b = cc := hb
    rw [gT_sI, hb, hT]; exact fun z => by cases z)⟩, hT⟩
theorem wb_c {M' : Mem} {σ' : Sg} {hl' : Nat → Option Ln} (h : WB A cc M σ) (h' : RepC A (fun b => b = cc) M M' σ' hl') : WB A cc M' σ' ∧ ∀ j, gI M' cc j = gI M cc j := by
  have g := (rp_for h' (b := cc) rfl).2
  exact ⟨⟨⟨hl', rp_base h'⟩, g.1.trans h.2⟩, g.2.1⟩
theorem wb_0 (h : WB A cc M σ) : gT M (A 0) = some (5, 0) := by
  obtain ⟨⟨hl, hC⟩, hT⟩ := h
  exact rp_0 hC
theorem in_b (h : WB A cc M σ) {i : Nat} (hi : i < 48) : inA M cc 10 (nI i) := in_nI h.2 hi (by omega)
theorem in_0 (h : WB A cc M σ) : inA M cc 10 0 := in_b (i := 0) h (by omega)
theorem in_1 (h : WB A cc M σ) : inA M cc 10 1 := in_b (i := 1) h (by omega)
theorem in_2 (h : WB A cc M σ) {s : Nat} (hs : s < 6) : inA M cc 10 (2 + nI s) := by rw [show (2 : Int32) + nI s = nI (2 + s) from nI_add 2 s]; exact in_b h (by omega)
theorem in_8 (h : WB A cc M σ) {s : Nat} (hs : s < 20) : inA M cc 10 (8 + nI s) := by rw [show (8 : Int32) + nI s = nI (8 + s) from nI_add 8 s]; exact in_b h (by omega)
theorem in_28 (h : WB A cc M σ) {s : Nat} (hs : s < 20) : inA M cc 10 (28 + nI s) := by rw [show (28 : Int32) + nI s = nI (28 + s) from nI_add 28 s]; exact in_b h (by omega)
theorem mir_eq {M' : Mem} (h : Mir M cc σ) (hj : ∀ j, gI M' cc j = gI M cc j) : Mir M' cc σ := ⟨(hj 0).trans h.1, (hj 1).trans h.2.1, fun s hs => (hj _).trans (h.2.2.1 s hs), fun u hu => ⟨(hj _).trans (h.2.2.2 u hu).1, (hj _).trans (h.2.2.2 u hu).2⟩⟩
theorem mir_call {M' : Mem} {σ' : Sg} (h : Mir M cc σ) (h0 : gI M' cc 0 = gI M cc 0 + 1) (hj : ∀ j, 0 < j → gI M' cc j = gI M cc j) (hk : kp σ σ') (hc : sgN σ' 1 = sgN σ 1 + 1) (hl : ∀ s, s < 6 → sgI σ' 0 s = sgI σ 0 s) : Mir M' cc σ' := by
  obtain ⟨m0, m1, m2, m3⟩ := h
  refine ⟨by rw [h0, m0, nI_1, hc], by rw [hj 1 (by omega), m1, hk.1], fun s hs => by rw [hj _ (by omega), m2 s hs, hl s hs], fun u hu => ?_⟩
  rw [hk.1] at hu
  rw [hj _ (by omega), hj _ (by omega), hk.2 6 u (by omega), hk.2 7 u (by omega)]
  exact m3 u hu
/-- the book's clock goes on, and a call of the relay is made that leaves the books -/
theorem mir_tick {M' : Mem} {σ' : Sg} (h : Mir M cc σ) (hj : ∀ j, gI M' cc j = gI (sI M cc (Int32.toNatClampNeg 0) (gI M cc (Int32.toNatClampNeg 0) + 1)) cc j) (hk : kp σ σ') (hc : sgN σ' 1 = sgN σ 1 + 1) (hl : ∀ s, s < 6 → sgI σ' 0 s = sgI σ 0 s) : Mir M' cc σ' := by
  rw [ix_0] at hj
  refine mir_call h (by rw [hj, rd_w, if_pos rfl]) (fun j hj0 => by rw [hj, rd_w, if_neg (by omega)]) hk hc hl
theorem hm_ex (hI : Inv σ k) {u : Nat} (hu : u < sgN σ 0) : ∃ h, h < 6 ∧ sgI σ 7 u = nI h ∧ hmu σ u = h := by
  obtain ⟨h, h1, h2⟩ := hI.1.1.2 u hu
  exact ⟨h, h1, h2, by unfold hmu; rw [h2, clN (by omega)]⟩
theorem lt_ex (hI : Inv σ k) {u : Nat} (hu : u < sgN σ 0) : ∃ l, l < 26 ∧ sgI σ 6 u = nI l := hI.1.2.1 u hu
/-! the relay's calls, in range -/
theorem eN {a b n : Nat} (ha : a < n) (hb : b < n) (hn : n ≤ 2 ^ 31) (e : nI a = nI b) : b = a := ((nI_eq (by omega) (by omega)).mp e).symm
theorem inN {u n : Nat} (hu : u < n) (hn : n < 2 ^ 31) : 0 ≤ nI u ∧ nI u < nI n := ⟨nI_pos' (by omega), nI_lt hu hn⟩
theorem nr2 {s t : Nat} (hs : s < 6) (ht : t < 6) : ¬ (¬ (0 ≤ nI s ∧ nI s < 6) ∨ ¬ (0 ≤ nI t ∧ nI t < 6)) := fun z => z.elim (fun z => z (in6 hs)) (fun z => z (in6 ht))
theorem nr2u {u c n : Nat} (hu : u < n) (hn : n < 2 ^ 31) (hc : c < 4) : ¬ (¬ (0 ≤ nI u ∧ nI u < nI n) ∨ ¬ (0 ≤ nI c ∧ nI c < 4)) := fun z => z.elim (fun z => z (inN hu hn)) (fun z => z (in4 hc))
theorem c_link (h : WB A cc M σ) (hI : Inv σ k) (hk : k ≤ 500) {s t : Nat} (hs : s < 6) (ht : t < 6) (hn : ¬ bt (treeL σ s) t = true) {mc ms : Nat} (hb : sgN (linkL σ s t) 2 - sgN σ 2 + 1 ≤ mc ∧ 8 * (sgN (linkL σ s t) 2 - sgN σ 2) + 6 ≤ ms) {xp : String → Mem → Prop} {post : Mem → Int32 → Prop} (hp : ∀ M', WB A cc M' (linkL σ s t) → (∀ j, gI M' cc j = gI M cc j) → post M' (nI (tot (linkL σ s t)) - nI (tot σ))) : w_X5_link mc ms M (A 0) (nI s) (nI t) xp post := by
  obtain ⟨⟨hl, hC⟩, hT⟩ := id h
  refine p_link hC hI.1.1 (inv_lim hI (by omega) (by omega)) ⟨by omega, by omega⟩ (fun z => absurd z (nr2 hs ht)) (fun s' t' hs' ht' e1 e2 hE => ?_) (fun s' t' hs' ht' e1 e2 hE => ?_)
  · rw [eN hs hs' (by omega) e1, eN ht ht' (by omega) e2] at hE
    exact absurd hE hn
  · rw [eN hs hs' (by omega) e1, eN ht ht' (by omega) e2]
    exact ⟨⟨by omega, by omega⟩, fun M' hl' h' => hp M' (wb_c h h').1 (wb_c h h').2⟩
theorem c_split (h : WB A cc M σ) (hI : Inv σ k) (hk : k ≤ 500) {s t : Nat} (hs : s < 6) (ht : t < 6) (hn : bt (sgI σ 0 s) t = true) {mc ms : Nat} (hb : 1 ≤ mc ∧ 6 ≤ ms) {xp : String → Mem → Prop} {post : Mem → Int32 → Prop} (hp : ∀ M', WB A cc M' (splitL σ s t) → (∀ j, gI M' cc j = gI M cc j) → post M' (nI (tot σ) - nI (tot (splitL σ s t)))) : w_X5_split mc ms M (A 0) (nI s) (nI t) xp post := by
  obtain ⟨⟨hl, hC⟩, hT⟩ := id h
  have ht0 := inv_tot hI
  refine p_split hC hI.1.1 (by omega) hb (fun z => absurd z (nr2 hs ht)) (fun s' t' hs' ht' e1 e2 hE => ?_) (fun s' t' hs' ht' e1 e2 hE => ?_)
  · rw [eN hs hs' (by omega) e1, eN ht ht' (by omega) e2] at hE
    exact absurd hn hE
  · rw [eN hs hs' (by omega) e1, eN ht ht' (by omega) e2]
    exact fun M' h' => hp M' (wb_c h h').1 (wb_c h h').2
theorem c_deliver (h : WB A cc M σ) (hI : Inv σ k) (hk : k ≤ 500) {s t : Nat} (hs : s < 6) (ht : t < 6) (hn : bt (sgI σ 0 s) t = true) (hq : sgQ σ (s * 6 + t) ≠ []) {mc ms : Nat} (hb : sgN (dlvL σ s t) 2 - sgN σ 2 + 1 ≤ mc ∧ 8 * (sgN (dlvL σ s t) 2 - sgN σ 2) + 6 ≤ ms) {xp : String → Mem → Prop} {post : Mem → Int32 → Prop} (hp : ∀ M', WB A cc M' (tickL (dlvL σ s t)) → (∀ j, gI M' cc j = gI M cc j) → post M' (nI (tot (dlvL σ s t)))) : w_X5_deliver mc ms M (A 0) (nI s) (nI t) xp post := by
  obtain ⟨⟨hl, hC⟩, hT⟩ := id h
  refine p_deliver hC (pd_OK k) (inv_PD hI (by omega)) ⟨by omega, by omega⟩ (fun z => absurd z (nr2 hs ht)) (fun s' t' hs' ht' e1 e2 hE => ?_) (fun s' t' hs' ht' e1 e2 hE1 hE2 => ?_)
  · rw [eN hs hs' (by omega) e1, eN ht ht' (by omega) e2] at hE
    exact absurd hE (fun z => z.elim (fun z => z hn) hq)
  · rw [eN hs hs' (by omega) e1, eN ht ht' (by omega) e2]
    exact ⟨⟨by omega, by omega⟩, fun M' hl' h' => hp M' (wb_c h h').1 (wb_c h h').2⟩
theorem c_sign (h : WB A cc M σ) (hI : Inv σ k) (hk : k ≤ 500) {s : Nat} (hs : s < 6) {q l : Int32} (hq : letL q = l) (hl0 : l ≠ -1) (hu : sgN σ 0 < 20) (hns : nsL σ s l (-1) = -1) {mc ms : Nat} (hb : sgN (signL σ s l) 2 - sgN σ 2 + 1 ≤ mc ∧ 8 * (sgN (signL σ s l) 2 - sgN σ 2) + 6 ≤ ms) {xp : String → Mem → Prop} {post : Mem → Int32 → Prop} (hp : ∀ M', WB A cc M' (signL σ s l) → (∀ j, gI M' cc j = gI M cc j) → post M' (nI (sgN σ 0))) : w_X5_signOn mc ms M (A 0) (nI s) q xp post := by
  obtain ⟨⟨hl, hC⟩, hT⟩ := id h
  subst hq
  refine p_signOn hC hI.1.1 (inv_lim hI (by omega) (by omega)) ⟨by omega, by omega⟩ (fun z => absurd (in6 hs) z) (fun s' hs' e1 hE => absurd hE hl0) (fun s' hs' e1 _ hE => ?_) (fun s' hs' e1 _ _ _ => ?_)
  · rw [eN hs hs' (by omega) e1] at hE
    exact absurd hE (fun z => z.elim (fun z => by omega) (fun z => z hns))
  · rw [eN hs hs' (by omega) e1]
    exact ⟨⟨by omega, by omega⟩, fun M' hl' h' => hp M' (wb_c h h').1 (wb_c h h').2⟩
theorem c_quit (h : WB A cc M σ) (hI : Inv σ k) (hk : k ≤ 500) {u hm : Nat} (hu : u < sgN σ 0) (he : sgI σ 7 u = nI hm) (hh : hm < 6) (hg : bt (sgI σ 1 hm) u = true) {mc ms : Nat} (hb : sgN (quitL σ u hm) 2 - sgN σ 2 + 1 ≤ mc ∧ 8 * (sgN (quitL σ u hm) 2 - sgN σ 2) + 6 ≤ ms) {xp : String → Mem → Prop} {post : Mem → Prop} (hp : ∀ M', WB A cc M' (quitL σ u hm) → (∀ j, gI M' cc j = gI M cc j) → post M') : w_X5_quit mc ms M (A 0) (nI u) xp post := by
  obtain ⟨⟨hl, hC⟩, hT⟩ := id h
  have h20 := inv_u hI
  refine p_quit hC hI.1.1 (inv_lim hI (by omega) (by omega)) ⟨by omega, by omega⟩ (fun z => absurd (inN hu (by omega)) z) (fun u' hm' hu' hh' e1 e2 hE => ?_) (fun u' hm' hu' hh' e1 e2 hE => ?_)
  · rw [eN hu hu' (by omega) e1] at e2 hE
    rw [he] at e2
    rw [eN hh hh' (by omega) e2] at hE
    unfold goneL at hE
    rw [hg] at hE
    cases hE
  · rw [eN hu hu' (by omega) e1] at e2 ⊢
    rw [he] at e2
    rw [eN hh hh' (by omega) e2]
    exact ⟨⟨by omega, by omega⟩, fun M' hl' h' => hp M' (wb_c h h').1 (wb_c h h').2⟩
theorem c_leave (h : WB A cc M σ) (hI : Inv σ k) (hk : k ≤ 500) {u hm c : Nat} (hu : u < sgN σ 0) (hc : c < 4) (he : sgI σ 7 u = nI hm) (hh : hm < 6) (hg : bt (sgI σ 1 hm) u = true) (hmb : bt (sgI σ 5 (hm * 4 + c)) u = true) {mc ms : Nat} (hb : sgN (leaveL σ u hm c) 2 - sgN σ 2 + 1 ≤ mc ∧ 8 * (sgN (leaveL σ u hm c) 2 - sgN σ 2) + 6 ≤ ms) {xp : String → Mem → Prop} {post : Mem → Prop} (hp : ∀ M', WB A cc M' (leaveL σ u hm c) → (∀ j, gI M' cc j = gI M cc j) → post M') : w_X5_leave mc ms M (A 0) (nI u) (nI c) xp post := by
  obtain ⟨⟨hl, hC⟩, hT⟩ := id h
  have h20 := inv_u hI
  refine p_leave hC hI.1.1 (inv_lim hI (by omega) (by omega)) ⟨by omega, by omega⟩ (fun z => absurd z (nr2u hu (by omega) hc)) (fun u' hm' c' hu' hh' hc' e1 e3 e2 hE => ?_) (fun u' hm' c' hu' hh' hc' e1 e3 e2 _ _ => ?_)
  · rw [eN hu hu' (by omega) e1] at e2 hE
    rw [he] at e2
    rw [eN hh hh' (by omega) e2, eN hc hc' (by omega) e3] at hE
    unfold goneL at hE
    rw [hg] at hE
    exact absurd hE (fun z => z.elim (fun z => by cases z) (fun z => z hmb))
  · rw [eN hu hu' (by omega) e1] at e2 ⊢
    rw [he] at e2
    rw [eN hh hh' (by omega) e2, eN hc hc' (by omega) e3]
    exact ⟨⟨by omega, by omega⟩, fun M' hl' h' => hp M' (wb_c h h').1 (wb_c h h').2⟩
theorem c_join (h : WB A cc M σ) (hI : Inv σ k) (hk : k ≤ 500) {u hm c : Nat} (hu : u < sgN σ 0) (hc : c < 4) (he : sgI σ 7 u = nI hm) (hh : hm < 6) (hg : bt (sgI σ 1 hm) u = true) (hbr : ¬ barL σ u hm c) {mc ms : Nat} (hb : sgN (joinL σ u hm c) 2 - sgN σ 2 + 1 ≤ mc ∧ 8 * (sgN (joinL σ u hm c) 2 - sgN σ 2) + 6 ≤ ms) {xp : String → Mem → Prop} {post : Mem → Int32 → Prop} (hp : ∀ M', WB A cc M' (joinL σ u hm c) → (∀ j, gI M' cc j = gI M cc j) → post M' (bcL (sgI (joinL σ u hm c) 5 (hm * 4 + c)))) : w_X5_join mc ms M (A 0) (nI u) (nI c) xp post := by
  obtain ⟨⟨hl, hC⟩, hT⟩ := id h
  have h20 := inv_u hI
  refine p_join hC hI.1.1 hI.1.2.1 (inv_lim hI (by omega) (by omega)) ⟨by omega, by omega⟩ (fun z => absurd z (nr2u hu (by omega) hc)) (fun u' hm' c' hu' hh' hc' e1 e3 e2 hE => ?_) (fun u' hm' c' hu' hh' hc' e1 e3 e2 _ _ => ?_)
  · rw [eN hu hu' (by omega) e1] at e2 hE
    rw [he] at e2
    rw [eN hh hh' (by omega) e2, eN hc hc' (by omega) e3] at hE
    unfold goneL at hE
    rw [hg] at hE
    exact absurd hE (fun z => z.elim (fun z => by cases z) (fun z => hbr z))
  · rw [eN hu hu' (by omega) e1] at e2 ⊢
    rw [he] at e2
    rw [eN hh hh' (by omega) e2, eN hc hc' (by omega) e3]
    exact ⟨⟨by omega, by omega⟩, fun M' hl' h' => hp M' (wb_c h h').1 (wb_c h h').2⟩
theorem c_modes (h : WB A cc M σ) (hI : Inv σ k) (hk : k ≤ 500) {u hm c : Nat} (hu : u < sgN σ 0) (hc : c < 4) (he : sgI σ 7 u = nI hm) (hh : hm < 6) (hg : bt (sgI σ 1 hm) u = true) (hmb : bt (sgI σ 5 (hm * 4 + c)) u = true) {r v : Int32} (hr : 0 ≤ r ∧ r ≤ 15 ∧ 0 ≤ v ∧ v ≤ 67108863) {mc ms : Nat} (hb : sgN (modL σ hm c r v) 2 - sgN σ 2 + 1 ≤ mc ∧ 8 * (sgN (modL σ hm c r v) 2 - sgN σ 2) + 6 ≤ ms) {xp : String → Mem → Prop} {post : Mem → Int32 → Prop} (hp : ∀ M', WB A cc M' (modL σ hm c r v) → (∀ j, gI M' cc j = gI M cc j) → post M' (sgI σ 3 (hm * 4 + c))) : w_X5_setModes mc ms M (A 0) (nI u) (nI c) r v xp post := by
  obtain ⟨⟨hl, hC⟩, hT⟩ := id h
  have h20 := inv_u hI
  refine p_setModes hC hI.1.1 (inv_lim hI (by omega) (by omega)) ⟨by omega, by omega⟩ (fun z => absurd z (nr2u hu (by omega) hc)) (fun _ _ z => absurd hr z) (fun u' hm' c' hu' hh' hc' e1 e3 e2 _ hE => ?_) (fun u' hm' c' hu' hh' hc' e1 e3 e2 _ _ _ => ?_)
  · rw [eN hu hu' (by omega) e1] at e2 hE
    rw [he] at e2
    rw [eN hh hh' (by omega) e2, eN hc hc' (by omega) e3] at hE
    unfold goneL at hE
    rw [hg] at hE
    exact absurd hE (fun z => z.elim (fun z => by cases z) (fun z => z hmb))
  · rw [eN hu hu' (by omega) e1] at e2
    rw [he] at e2
    rw [eN hh hh' (by omega) e2, eN hc hc' (by omega) e3]
    exact ⟨⟨by omega, by omega⟩, fun M' hl' h' => hp M' (wb_c h h').1 (wb_c h h').2⟩
theorem c_say (h : WB A cc M σ) (hI : Inv σ k) {u hm c : Nat} (hu : u < sgN σ 0) (hc : c < 4) (he : sgI σ 7 u = nI hm) (hh : hm < 6) {mc ms : Nat} (hb : 1 ≤ mc ∧ 6 ≤ ms) {xp : String → Mem → Prop} {post : Int32 → Prop} (hp : post (sayL σ u hm c)) : w_X5_say mc ms M (A 0) (nI u) (nI c) xp post := by
  obtain ⟨⟨hl, hC⟩, hT⟩ := id h
  have h20 := inv_u hI
  refine p_say hC hI.1.1 hI.1.2.1 hb (fun z => absurd z (nr2u hu (by omega) hc)) (fun u' hm' c' hu' hh' hc' e1 e3 e2 => ?_)
  rw [eN hu hu' (by omega) e1] at e2 ⊢
  rw [he] at e2
  rw [eN hh hh' (by omega) e2, eN hc hc' (by omega) e3]
  exact hp
theorem a_tree (h : WB A cc M σ) {s : Nat} (hs : s < 6) {k n mc ms : Nat} (hk : k ≤ mc ∧ n ≤ ms) {R : Nat → Nat → Int32 → Prop} (hp : R 0 0 (treeL σ s)) : gT M (A 0) = some (5, 0) ∧ ∃ c d, (k + c ≤ mc ∧ n + d ≤ ms) ∧ w_X5_tree c d M (A 0) (nI s) (fun _ _ => False) (R c d) := by
  obtain ⟨⟨hl, hC⟩, hT⟩ := h
  exact ⟨rp_0 hC, 0, 0, hk, q_tree hC hs hp⟩
theorem a_known (h : WB A cc M σ) {s : Nat} (hs : s < 6) {k n mc ms : Nat} (hk : k ≤ mc ∧ n ≤ ms) {R : Nat → Nat → Int32 → Prop} (hp : R 0 0 (sgI σ 1 s)) : gT M (A 0) = some (5, 0) ∧ ∃ c d, (k + c ≤ mc ∧ n + d ≤ ms) ∧ w_X5_known c d M (A 0) (nI s) (fun _ _ => False) (R c d) := by
  obtain ⟨⟨hl, hC⟩, hT⟩ := h
  exact ⟨rp_0 hC, 0, 0, hk, q_known hC hs hp⟩
theorem a_members (h : WB A cc M σ) {s e : Nat} (hs : s < 6) (he : e < 4) {k n mc ms : Nat} (hk : k ≤ mc ∧ n ≤ ms) {R : Nat → Nat → Int32 → Prop} (hp : R 0 0 (sgI σ 5 (s * 4 + e))) : gT M (A 0) = some (5, 0) ∧ ∃ c d, (k + c ≤ mc ∧ n + d ≤ ms) ∧ w_X5_members c d M (A 0) (nI s) (nI e) (fun _ _ => False) (R c d) := by
  obtain ⟨⟨hl, hC⟩, hT⟩ := h
  exact ⟨rp_0 hC, 0, 0, hk, q_members hC hs he hp⟩
theorem a_age (h : WB A cc M σ) {s e : Nat} (hs : s < 6) (he : e < 4) {k n mc ms : Nat} (hk : k ≤ mc ∧ n ≤ ms) {R : Nat → Nat → Int32 → Prop} (hp : R 0 0 (sgI σ 2 (s * 4 + e))) : gT M (A 0) = some (5, 0) ∧ ∃ c d, (k + c ≤ mc ∧ n + d ≤ ms) ∧ w_X5_age c d M (A 0) (nI s) (nI e) (fun _ _ => False) (R c d) := by
  obtain ⟨⟨hl, hC⟩, hT⟩ := h
  exact ⟨rp_0 hC, 0, 0, hk, q_age hC hs he hp⟩
theorem a_modes (h : WB A cc M σ) {s e : Nat} (hs : s < 6) (he : e < 4) {k n mc ms : Nat} (hk : k ≤ mc ∧ n ≤ ms) {R : Nat → Nat → Int32 → Prop} (hp : R 0 0 (sgI σ 3 (s * 4 + e))) : gT M (A 0) = some (5, 0) ∧ ∃ c d, (k + c ≤ mc ∧ n + d ≤ ms) ∧ w_X5_modes c d M (A 0) (nI s) (nI e) (fun _ _ => False) (R c d) := by
  obtain ⟨⟨hl, hC⟩, hT⟩ := h
  exact ⟨rp_0 hC, 0, 0, hk, q_modes hC hs he hp⟩
theorem a_bans (h : WB A cc M σ) {s e : Nat} (hs : s < 6) (he : e < 4) {k n mc ms : Nat} (hk : k ≤ mc ∧ n ≤ ms) {R : Nat → Nat → Int32 → Prop} (hp : R 0 0 (sgI σ 4 (s * 4 + e))) : gT M (A 0) = some (5, 0) ∧ ∃ c d, (k + c ≤ mc ∧ n + d ≤ ms) ∧ w_X5_bans c d M (A 0) (nI s) (nI e) (fun _ _ => False) (R c d) := by
  obtain ⟨⟨hl, hC⟩, hT⟩ := h
  exact ⟨rp_0 hC, 0, 0, hk, q_bans hC hs he hp⟩
theorem a_same (h : WB A cc M σ) {s t : Nat} (hs : s < 6) (ht : t < 6) {k n mc ms : Nat} (hk : k ≤ mc ∧ n ≤ ms) {R : Nat → Nat → Int32 → Prop} (h1 : (sgI σ 1 s = sgI σ 1 t ∧ ∀ c, c < 4 → chEq σ (s * 4 + c) (t * 4 + c)) → R 0 0 1) (h2 : ¬ (sgI σ 1 s = sgI σ 1 t ∧ ∀ c, c < 4 → chEq σ (s * 4 + c) (t * 4 + c)) → R 0 0 0) : gT M (A 0) = some (5, 0) ∧ ∃ c d, (k + c ≤ mc ∧ n + d ≤ ms) ∧ w_X5_areSame c d M (A 0) (nI s) (nI t) (fun _ _ => False) (R c d) := by
  obtain ⟨⟨hl, hC⟩, hT⟩ := h
  exact ⟨rp_0 hC, 0, 0, hk, q_same hC hs ht h1 h2⟩
theorem a_joined (h : WB A cc M σ) {s t e : Nat} (hs : s < 6) (ht : t < 6) (he : e < 4) {k n mc ms : Nat} (hk : k ≤ mc ∧ n ≤ ms) {R : Nat → Nat → Int32 → Prop} (hp : R 0 0 (settle (sgI σ 2 (s * 4 + e)) (sgI σ 3 (s * 4 + e)) (sgI σ 2 (t * 4 + e)) (sgI σ 3 (t * 4 + e)))) : gT M (A 0) = some (5, 0) ∧ ∃ c d, (k + c ≤ mc ∧ n + d ≤ ms) ∧ w_X5_joinedModes c d M (A 0) (nI s) (nI t) (nI e) (fun _ _ => False) (R c d) := by
  obtain ⟨⟨hl, hC⟩, hT⟩ := h
  exact ⟨rp_0 hC, 0, 0, hk, q_joined hC hs ht he hp⟩
theorem a_lines (h : WB A cc M σ) {post : Int32 → Prop} (hp : post (nI (tot σ))) : gT M (A 0) = some (5, 0) ∧ w_X5_lines M (A 0) post := by
  obtain ⟨⟨hl, hC⟩, hT⟩ := h
  exact ⟨rp_0 hC, p_lines hC hp⟩
theorem a_users (h : WB A cc M σ) {post : Int32 → Prop} (hp : post (nI (sgN σ 0))) : gT M (A 0) = some (5, 0) ∧ w_X5_users M (A 0) post := by
  obtain ⟨⟨hl, hC⟩, hT⟩ := h
  exact ⟨rp_0 hC, p_users hC hp⟩
theorem a_clock (h : WB A cc M σ) {post : Int32 → Prop} (hp : post (nI (sgN σ 1))) : gT M (A 0) = some (5, 0) ∧ w_X5_clock M (A 0) post := by
  obtain ⟨⟨hl, hC⟩, hT⟩ := h
  exact ⟨rp_0 hC, p_clock hC hp⟩
theorem a_say (h : WB A cc M σ) (hI : Inv σ k) {u hm e : Nat} (hu : u < sgN σ 0) (hc : e < 4) (he : sgI σ 7 u = nI hm) (hh : hm < 6) {k9 n mc ms : Nat} (hk : k9 + 1 ≤ mc ∧ n + 6 ≤ ms) {R : Nat → Nat → Int32 → Prop} (hp : R 1 6 (sayL σ u hm e)) : gT M (A 0) = some (5, 0) ∧ ∃ c d, (k9 + c ≤ mc ∧ n + d ≤ ms) ∧ w_X5_say c d M (A 0) (nI u) (nI e) (fun _ _ => False) (R c d) := ⟨wb_0 h, 1, 6, hk, c_say h hI hu hc he hh ⟨by omega, by omega⟩ hp⟩
/-! the law's helpers -/
theorem m_count (M : Mem) (m : Int32) {post : Int32 → Prop} (hp : post (nI (cN m 20))) : w_L_count M m post := by
  refine Lp_forX 20 (fun c => (nI (cN m c), nI c)) (fun z => z.2.toNatClampNeg) (fun c hc => clN (by omega)) rfl ?_
  intro c K hc hK x1 x2 ez
  cases ez
  refine ⟨fun e => ?_, fun e x4 e4 x5 e5 => ?_⟩
  · have h1 : 20 ≤ c := (le_nI (a := 20) (by omega) (by omega)).mp e
    have h2 : c = 20 := by omega
    rw [h2]; exact hp
  · have h1 : c < 20 := Nat.not_le.mp (fun z => e ((le_nI (a := 20) (by omega) (by omega)).mpr z))
    have e6 : (x4, x5) = (nI (cN m (c + 1)), nI (c + 1)) := by
      rw [e4, e5, sh1 m (by omega), nI_add, nI_1]
      rfl
    rw [e6]
    exact hK h1
def hoN (σ : Sg) (p : Int32) : Nat → Int32
  | 0 => 0
  | c + 1 => hoN σ p c ||| (((p >>> (sgI σ 7 c &&& 31)) &&& 1) <<< (nI c &&& 31))
theorem ho_bt (hI : Inv σ k) (p : Int32) : ∀ c, c ≤ sgN σ 0 → ∀ i, i < 32 → bt (hoN σ p c) i = (decide (i < c) && bt p (hmu σ i)) := by
  intro c
  induction c with
  | zero => intro _ i _; rw [show hoN σ p 0 = 0 from rfl, b_0]; simp
  | succ c ih =>
    intro hc i hi
    have h20 := inv_u hI
    obtain ⟨h, h1, h2, h3⟩ := hm_ex hI (show c < sgN σ 0 by omega)
    show bt (hoN σ p c ||| _) i = _
    rw [b_or, ih (by omega) i hi, h2]
    have e1 : bt (((p >>> (nI h &&& 31)) &&& 1) <<< (nI c &&& 31)) i = (decide (i = c) && bt p h) := by
      cases hb : bt p h with
      | true => rw [(hs_one p (by omega)).mpr hb, b_pow (by omega) hi, Bool.and_true]
      | false => rw [(hs_ex p (by omega)).mpr hb, b_shl c (by omega) 0 hi, b_0, Bool.and_false, Bool.and_false]
    rw [e1]
    by_cases ei : i = c
    · rw [ei, h3]
      simp
    · have d1 : decide (i = c) = false := decide_eq_false ei
      have d2 : decide (i < c + 1) = decide (i < c) := by
        by_cases e : i < c
        · rw [decide_eq_true e, decide_eq_true (by omega)]
        · rw [decide_eq_false e, decide_eq_false (by omega)]
      rw [d1, d2, Bool.false_and, Bool.or_false]
theorem m_homes (hW : WB A cc M σ) (hM : Mir M cc σ) (hI : Inv σ k) (p : Int32) {post : Int32 → Prop} (hp : post (hoN σ p (sgN σ 0))) : w_L_homesIn M cc p post := by
  have h20 := inv_u hI
  refine Lp_forX (sgN σ 0) (fun c => (hoN σ p c, nI c)) (fun z => z.2.toNatClampNeg) (fun c hc => clN (by omega)) rfl ?_
  intro c K hc hK x1 x2 ez
  cases ez
  refine ⟨in_1 hW, fun e => ?_, fun e => ?_⟩
  · rw [ix_1, hM.2.1] at e
    have h1 : sgN σ 0 ≤ c := (le_nI (by omega) (by omega)).mp e
    have h2 : c = sgN σ 0 := by omega
    rw [h2]; exact hp
  · rw [ix_1, hM.2.1] at e
    have h1 : c < sgN σ 0 := Nat.not_le.mp (fun z => e ((le_nI (by omega) (by omega)).mpr z))
    refine ⟨in_28 hW (by omega), fun x6 e6 x7 e7 => ?_⟩
    rw [ix_28 (by omega), (hM.2.2.2 c h1).2] at e6
    have e9 : (x6, x7) = (hoN σ p (c + 1), nI (c + 1)) := by
      rw [e6, e7, nI_1]
      rfl
    rw [e9]
    exact hK h1
theorem m_there (hW : WB A cc M σ) (hM : Mir M cc σ) (hI : Inv σ k) {u hm : Nat} (hu : u < sgN σ 0) (he : sgI σ 7 u = nI hm) (hh : hm < 6) {mc ms : Nat} {post : Int32 → Prop} (h1 : bt (sgI σ 1 hm) u = true → post 1) (h0 : ¬ bt (sgI σ 1 hm) u = true → post 0) : w_L_isThere mc ms M (A 0) cc (nI u) post := by
  have h20 := inv_u hI
  refine ⟨in_28 hW (by omega), ?_⟩
  rw [ix_28 (by omega), (hM.2.2.2 u hu).2, he]
  exact a_known hW hh ⟨Nat.zero_le _, Nat.zero_le _⟩ (fun J hJ => ⟨fun e => hJ 1 ⟨Or.inr rfl, h1 ((hs_one _ (by omega)).mp e)⟩, fun e => hJ 0 ⟨Or.inl rfl, h0 (fun z => e ((hs_one _ (by omega)).mpr z))⟩⟩)
end WD
