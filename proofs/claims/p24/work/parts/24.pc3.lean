def chEq (σ : Sg) (i j : Nat) : Prop := sgI σ 2 i = sgI σ 2 j ∧ sgI σ 3 i = sgI σ 3 j ∧ sgI σ 4 i = sgI σ 4 j ∧ sgI σ 5 i = sgI σ 5 j
theorem Lp_forX {σ : Type} {F : (σ → Prop) → σ → Prop} {x0 : σ} (N : Nat) (v : Nat → σ) (cnt : σ → Nat) (hc : ∀ c, c ≤ N → cnt (v c) = c) (h0 : x0 = v 0) (hs : ∀ (c : Nat) (K : σ → Prop), c ≤ N → (c < N → K (v (c + 1))) → F K (v c)) : Lp F x0 :=
  Lp_for N (fun c x => x = v c) cnt (fun c x h e => by rw [e]; exact hc c h) h0 (fun c x K h e hK => by subst e; exact hs c K h (fun hlt => hK _ hlt rfl))
section PC3
variable {A : Nat → Nat} {Fo : Nat → Prop} {M0 M : Mem} {σ : Sg} {hl : Nat → Option Ln}
theorem rp_ch (h : RepC A Fo M0 M σ hl) {s : Nat} (hs : s < 6) : gR M (A (10 + s)) 1 = some (A (20 + s)) ∧ gT M (A (20 + s)) = some (13, 4) := ⟨h.1.2.2.1.2.2.2.1 s hs, by rw [h.1.1 _ (by unfold vid; omega), ty_c s hs]⟩
theorem rp_chi (h : RepC A Fo M0 M σ hl) {s c : Nat} (hs : s < 6) (hc : c < 4) : gR M (A (20 + s)) (nI c).toNatClampNeg = some (A (30 + (s * 4 + c))) := by rw [clN (by omega)]; exact h.1.2.2.1.2.2.2.2.1 s c hs hc
theorem p_vLooks (h : RepC A Fo M0 M σ hl) {s t : Nat} (hs : s < 6) (ht : t < 6) {post : Int32 → Prop} (h1 : (sgI σ 1 s = sgI σ 1 t ∧ ∀ c, c < 4 → chEq σ (s * 4 + c) (t * 4 + c)) → post 1) (h2 : ¬ (sgI σ 1 s = sgI σ 1 t ∧ ∀ c, c < 4 → chEq σ (s * 4 + c) (t * 4 + c)) → post 0) : w_X3_looksLike M (A (10 + s)) (A (10 + t)) post := by
  have r1 : gI M (A (10 + s)) 0 = sgI σ 1 s := rp_rd h 1 s hs
  have r2 : gI M (A (10 + t)) 0 = sgI σ 1 t := rp_rd h 1 t ht
  refine ⟨rp_v h hs, rp_v h ht, fun e => ?_, fun e => ?_⟩
  · rw [r1, r2] at e
    refine Lp_for 4 (fun c z => z = nI c ∧ ∀ d, d < c → chEq σ (s * 4 + d) (t * 4 + d)) (fun z => z.toNatClampNeg) (fun c z hc hz => by rw [hz.1]; exact clN (by omega)) ⟨rfl, fun d hd => by omega⟩ ?_
    intro c z K hc hz hK x3 ez
    obtain ⟨hz1, hz2⟩ := hz
    subst ez
    subst hz1
    refine ⟨fun e4 => ⟨Or.inr rfl, h1 ⟨e, fun d hd => hz2 d ?_⟩⟩, fun e4 => ?_⟩
    · have : 4 ≤ c := (le_nI (a := 4) (by omega) (by omega)).mp e4
      omega
    · have hlt : c < 4 := Nat.not_le.mp (fun h9 => e4 ((le_nI (a := 4) (by omega) (by omega)).mpr h9))
      refine ⟨rp_v h hs, _, (rp_ch h hs).1, in_nI (rp_ch h hs).2 hlt (by omega), _, rp_chi h hs hlt, rp_v h ht, _, (rp_ch h ht).1, in_nI (rp_ch h ht).2 hlt (by omega), _, rp_chi h ht hlt, rp_i h (by omega), p_chLooks h (by omega) (by omega) ?_⟩
      by_cases e5 : chEq σ (s * 4 + c) (t * 4 + c)
      · have e5' := e5
        unfold chEq at e5'
        rw [decide_eq_true e5']
        refine ⟨fun e6 => absurd e6 (by decide), fun _ x15 e15 => hK _ hlt ⟨by rw [e15, nI_1], fun d hd => ?_⟩⟩
        by_cases e7 : d = c
        · rw [e7]; exact e5
        · exact hz2 d (by omega)
      · have e5' := e5
        unfold chEq at e5'
        rw [decide_eq_false e5']
        exact ⟨fun _ => ⟨Or.inl rfl, h2 (fun h9 => e5 (h9.2 c hlt))⟩, fun e6 => absurd rfl e6⟩
  · rw [r1, r2] at e
    exact ⟨Or.inl rfl, h2 (fun h9 => e h9.1)⟩
theorem rp_lk (h : RepC A Fo M0 M σ hl) : gR M (A 2) 0 = some (A 7) ∧ gT M (A 7) = some (10, 6) := ⟨h.1.2.2.1.2.2.1.1, h.1.1 7 (by unfold vid; omega)⟩
theorem rp_lki (h : RepC A Fo M0 M σ hl) {s : Nat} (hs : s < 6) : gI M (A 7) (nI s).toNatClampNeg = sgI σ 0 s := by rw [clN (by omega)]; exact rp_rd h 0 s hs
theorem p_haveLink (h : RepC A Fo M0 M σ hl) {s t : Nat} (hs : s < 6) (ht : t < 6) {post : Int32 → Prop} (hp : post (b2i (bt (sgI σ 0 s) t))) : w_X4_haveLink M (A 2) (nI s) (nI t) post := by
  refine ⟨rp_w4 h, _, (rp_lk h).1, in_nI (rp_lk h).2 hs (by omega), ?_⟩
  rw [rp_lki h hs]
  exact p_has M _ (by omega) ⟨b2i_01 _, hp⟩
def connectL (σ : Sg) (s t : Nat) : Sg :=
  let τ := uI σ 0 s (sb (sgI σ 0 s) (nI t))
  uI τ 0 t (sb (sgI τ 0 t) (nI s))
theorem p_connect (h : RepC A Fo M0 M σ hl) {s t : Nat} (hs : s < 6) (ht : t < 6) {post : Mem → Prop} (hp : ∀ M', RepC A Fo M0 M' (connectL σ s t) hl → post M') : w_X4_connect M (A 2) (nI s) (nI t) post := by
  refine ⟨rp_w4 h, _, (rp_lk h).1, in_nI (rp_lk h).2 hs (by omega), in_nI (rp_lk h).2 hs (by omega), fun M4 e4 => ?_⟩
  have h4 : RepC A Fo M0 M4 (uI σ 0 s (sb (sgI σ 0 s) (nI t))) hl := by
    rw [e4, rp_lki h hs, clN (by omega)]
    exact rp_own h 0 s hs _
  refine ⟨rp_w4 h4, _, (rp_lk h4).1, in_nI (rp_lk h4).2 ht (by omega), in_nI (rp_lk h4).2 ht (by omega), fun M9 e9 => hp _ ?_⟩
  rw [e9, rp_lki h4 ht, clN (by omega)]
  exact rp_own h4 0 t ht _
def tpN (σ : Sg) (R : Int32) : Nat → Int32
  | 0 => R
  | k + 1 => if bt (tpN σ R k) k = true then tpN σ R k ||| sgI σ 0 k else tpN σ R k
def trN (σ : Sg) (s : Nat) : Nat → Int32
  | 0 => 1 <<< (nI s &&& 31)
  | p + 1 => tpN σ (trN σ s p) 6
def treeL (σ : Sg) (s : Nat) : Int32 := trN σ s 5
theorem p_tree (h : RepC A Fo M0 M σ hl) {s : Nat} {post : Int32 → Prop} (hp : post (treeL σ s)) : w_X4_treeOf M (A 2) (nI s) post := by
  intro x1 e1
  subst e1
  refine Lp_forX 5 (fun p => (trN σ s p, nI (p + 1))) (fun z => z.2.toNatClampNeg - 1) (fun c hc => by show (nI (c + 1)).toNatClampNeg - 1 = c; rw [clN (by omega)]; omega) rfl ?_
  intro p K hp5 hK x2 x3 ez
  cases ez
  refine ⟨fun e => ?_, fun e => ?_⟩
  · have : 6 ≤ p + 1 := (le_nI (a := 6) (by omega) (by omega)).mp e
    have e5 : p = 5 := by omega
    subst e5
    exact hp
  · have hlt : p + 1 < 6 := Nat.not_le.mp (fun h9 => e ((le_nI (a := 6) (by omega) (by omega)).mpr h9))
    refine Lp_forX 6 (fun k => (tpN σ (trN σ s p) k, nI k)) (fun z => z.2.toNatClampNeg) (fun c hc => clN (by omega)) rfl ?_
    intro k K2 hk6 hK2 x5 x6 ez
    cases ez
    refine ⟨fun e6 x8 e8 => ?_, fun e6 => ?_⟩
    · have : 6 ≤ k := (le_nI (a := 6) (by omega) (by omega)).mp e6
      have e5 : k = 6 := by omega
      subst e5
      rw [e8, nI_1]
      exact hK (by omega)
    · have hlt2 : k < 6 := Nat.not_le.mp (fun h9 => e6 ((le_nI (a := 6) (by omega) (by omega)).mpr h9))
      have hK2 := hK2 hlt2
      refine p_has M _ (by omega) (fun J hJ => ?_)
      have key : ∀ y, y = tpN σ (trN σ s p) (k + 1) → J y := fun y ey => hJ y (fun x12 e12 => by rw [e12, nI_1, ey]; exact hK2)
      refine ⟨fun e9 => key _ ?_, fun e9 => ⟨rp_w4 h, _, (rp_lk h).1, in_nI (rp_lk h).2 hlt2 (by omega), fun x16 e16 => key _ ?_⟩⟩
      · have hb := (b2i_z _).mp e9
        show _ = if bt (tpN σ (trN σ s p) k) k = true then _ else _
        rw [hb]; rfl
      · have hb : bt (tpN σ (trN σ s p) k) k = true := by
          cases hb : bt (tpN σ (trN σ s p) k) k with
          | true => rfl
          | false => exact absurd ((b2i_z _).mpr hb) e9
        rw [e16, rp_lki h hlt2]
        show _ = if bt (tpN σ (trN σ s p) k) k = true then _ else _
        rw [if_pos hb]
/-! lines -/
theorem rp_set (h : RepC A Fo M0 M σ hl) {b : Nat} {l0 ln : Ln} (hb : hl b = some l0) {M' : Mem} (hT : ∀ b, gT M' b = gT M b) (hR : ∀ b j, gR M' b j = gR M b j) (hL : ∀ b j, gL M' b j = gL M b j) (hI : ∀ c j, c ≠ b → gI M' c j = gI M c j) (hc : lnC M' b ln) : RepC A Fo M0 M' σ (fset hl b (some ln)) := by
  obtain ⟨La, Sp, ow, -, -, q3, -⟩ := id h.2.2.1
  have hob := (q3 b l0 hb).2.1
  refine ⟨⟨fun i hi => (hT _).trans (h.1.1 i hi), h.1.2.1, ?_, h.1.2.2.2.1, fun c hcF => ⟨(h.1.2.2.2.2 c hcF).1, ?_⟩⟩, va_oth h.1 h.2.1 (Or.inl hob.1) hI, qc_set h.2.2.1 (rp_w4 h) hb hT hR hI hc, ?_⟩
  · have r := h.1.2.2.1
    unfold refC at r ⊢
    simp only [hR]
    exact r
  · have hne : c ≠ b := fun e => hob.2 (e ▸ hcF)
    obtain ⟨g1, g2, g3, g4⟩ := (h.1.2.2.2.2 c hcF).2
    exact ⟨(hT c).trans g1, fun j => (hI c j hne).trans (g2 j), fun j => (hR c j).trans (g3 j), fun j => (hL c j).trans (g4 j)⟩
  · by_cases e : A 6 = b
    · rw [← e, fs_s]; exact fun h => by cases h
    · rw [fs_n _ _ e]; exact h.2.2.2
theorem p_ofUser (h : RepC A Fo M0 M σ hl) {k : Int32} (hk : k = 0 ∨ k = 1) (u : Int32) {post : Mem → Option Nat → Prop} (hp : ∀ M', RepC A Fo M0 M' σ (fset hl (A 6) (some (k, u, 0, 0, 0, 0))) → post M' (some (A 6))) : w_X1_ofUser M (A 6) k u post := by
  have t6 : gT M (A 6) = some (1, 0) := h.1.1 6 (by unfold vid; omega)
  refine ⟨t6, fun M2 e2 => ⟨by rw [e2]; exact t6, fun M4 e4 => hp _ ?_⟩⟩
  cases h6 : hl (A 6) with
  | none => exact absurd h6 h.2.2.2
  | some l0 =>
    refine rp_set h h6 (fun b => by rw [e4, e2]; rfl) (fun b j => by rw [e4, e2]; rfl) (fun b j => by rw [e4, e2]; rfl) (fun c j hc => by rw [e4, e2, gI_sI, if_neg (fun e => hc e.1), gI_sI, if_neg (fun e => hc e.1)]) ?_
    have g0 : gI M4 (A 6) 0 = k := by rw [e4, e2, gI_sI, if_neg (fun e => absurd e.2 (by decide)), gI_sI, if_pos ⟨rfl, rfl⟩]
    have g1 : gI M4 (A 6) 1 = u := by rw [e4, gI_sI, if_pos ⟨rfl, rfl⟩]
    refine ⟨g0, fun _ => g1, fun h9 => absurd hk h9, fun (h9 : k = 3) => ?_, fun (h9 : k = 2) => ?_, fun (h9 : k = 2 ∨ k = 4) => ?_⟩
    all_goals
      exfalso
      rcases hk with rfl | rfl <;> revert h9 <;> decide
theorem p_ofLeave (h : RepC A Fo M0 M σ hl) (c u : Int32) {post : Mem → Option Nat → Prop} (hp : ∀ M', RepC A Fo M0 M' σ (fset hl (A 6) (some (3, c, u, 0, 0, 0))) → post M' (some (A 6))) : w_X1_ofLeave M (A 6) c u post := by
  have t6 : gT M (A 6) = some (1, 0) := h.1.1 6 (by unfold vid; omega)
  refine ⟨t6, fun M2 e2 => ⟨by rw [e2]; exact t6, fun M4 e4 => ⟨by rw [e4, e2]; exact t6, fun M6 e6 => hp _ ?_⟩⟩⟩
  cases h6 : hl (A 6) with
  | none => exact absurd h6 h.2.2.2
  | some l0 =>
    refine rp_set h h6 (fun b => by rw [e6, e4, e2]; rfl) (fun b j => by rw [e6, e4, e2]; rfl) (fun b j => by rw [e6, e4, e2]; rfl) (fun c j hc => by rw [e6, e4, e2, gI_sI, if_neg (fun e => hc e.1), gI_sI, if_neg (fun e => hc e.1), gI_sI, if_neg (fun e => hc e.1)]) ?_
    have g0 : gI M6 (A 6) 0 = 3 := by rw [e6, e4, e2, gI_sI, if_neg (fun e => absurd e.2 (by decide)), gI_sI, if_neg (fun e => absurd e.2 (by decide)), gI_sI, if_pos ⟨rfl, rfl⟩]
    have g2 : gI M6 (A 6) 2 = c := by rw [e6, e4, gI_sI, if_neg (fun e => absurd e.2 (by decide)), gI_sI, if_pos ⟨rfl, rfl⟩]
    have g1 : gI M6 (A 6) 1 = u := by rw [e6, gI_sI, if_pos ⟨rfl, rfl⟩]
    exact ⟨g0, fun (h9 : (3 : Int32) = 0 ∨ (3 : Int32) = 1) => absurd h9 (by decide), fun _ => g2, fun _ => g1, fun (h9 : (3 : Int32) = 2) => absurd h9 (by decide), fun (h9 : (3 : Int32) = 2 ∨ (3 : Int32) = 4) => absurd h9 (by decide)⟩
theorem p_ofChannel (h : RepC A Fo M0 M σ hl) {k : Int32} (hk : k = 2 ∨ k = 4) {i : Nat} (hi : i < 24) (c mb : Int32) {post : Mem → Option Nat → Prop} (hp : ∀ M', RepC A Fo M0 M' σ (fset hl (A 6) (some (k, c, (if k = 2 then mb else 0), sgI σ 2 i, sgI σ 3 i, sgI σ 4 i))) → post M' (some (A 6))) : w_X1_ofChannel M (A 6) k c (A (30 + i)) mb post := by
  have t6 : gT M (A 6) = some (1, 0) := h.1.1 6 (by unfold vid; omega)
  have ti : gT M (A (30 + i)) = some (0, 0) := rp_i h hi
  have ne : A (30 + i) ≠ A 6 := sh_inj h.1 (by unfold vid; omega) (by unfold vid; omega) (by omega)
  have a2 : gI M (A (30 + i)) 0 = sgI σ 2 i := rp_rd h 2 i hi
  have a3 : gI M (A (30 + i)) 1 = sgI σ 3 i := rp_rd h 3 i hi
  have a4 : gI M (A (30 + i)) 2 = sgI σ 4 i := rp_rd h 4 i hi
  have sk : ∀ (N : Mem) (j : Nat) (x : Int32) (f : Nat), gI (sI N (A 6) j x) (A (30 + i)) f = gI N (A (30 + i)) f := fun N j x f => by rw [gI_sI, if_neg (fun e => ne e.1)]
  refine ⟨t6, fun M2 e2 => ⟨by rw [e2]; exact t6, fun M4 e4 => ⟨by rw [e4, e2]; exact ti, by rw [e4, e2]; exact t6, fun M7 e7 => ⟨by rw [e7, e4, e2]; exact ti, by rw [e7, e4, e2]; exact t6, fun M10 e10 => ⟨by rw [e10, e7, e4, e2]; exact ti, by rw [e10, e7, e4, e2]; exact t6, fun M13 e13 => ⟨by rw [e13, e10, e7, e4, e2]; exact t6, fun M15 e15 => hp _ ?_⟩⟩⟩⟩⟩⟩
  have c7 : gI M4 (A (30 + i)) 0 = sgI σ 2 i := by rw [e4, sk, e2, sk, a2]
  have c10 : gI M7 (A (30 + i)) 1 = sgI σ 3 i := by rw [e7, sk, e4, sk, e2, sk, a3]
  have c13 : gI M10 (A (30 + i)) 2 = sgI σ 4 i := by rw [e10, sk, e7, sk, e4, sk, e2, sk, a4]
  rw [c7] at e7
  rw [c10] at e10
  rw [c13] at e13
  cases h6 : hl (A 6) with
  | none => exact absurd h6 h.2.2.2
  | some l0 =>
    have own : ∀ f : Nat, gI M15 (A 6) f = if f = 6 then mb else if f = 5 then sgI σ 4 i else if f = 4 then sgI σ 3 i else if f = 3 then sgI σ 2 i else if f = 2 then c else if f = 0 then k else gI M (A 6) f := fun f => by
      rw [e15, e13, e10, e7, e4, e2]
      simp only [gI_sI, true_and]
    refine rp_set h h6 (fun b => by rw [e15, e13, e10, e7, e4, e2]; rfl) (fun b j => by rw [e15, e13, e10, e7, e4, e2]; rfl) (fun b j => by rw [e15, e13, e10, e7, e4, e2]; rfl) (fun c j hc => by rw [e15, e13, e10, e7, e4, e2]; simp only [gI_sI, hc, false_and, if_false]) ?_
    have g0 : gI M15 (A 6) 0 = k := by rw [own]; rfl
    have g2 : gI M15 (A 6) 2 = c := by rw [own]; rfl
    have g3 : gI M15 (A 6) 3 = sgI σ 2 i := by rw [own]; rfl
    have g4 : gI M15 (A 6) 4 = sgI σ 3 i := by rw [own]; rfl
    have g5 : gI M15 (A 6) 5 = sgI σ 4 i := by rw [own]; rfl
    have g6 : gI M15 (A 6) 6 = mb := by rw [own]; rfl
    refine ⟨g0, fun (h9 : k = 0 ∨ k = 1) => ?_, fun _ => g2, fun (h9 : k = 3) => ?_, fun (h9 : k = 2) => ?_, fun _ => ⟨g3, g4, g5⟩⟩
    · exfalso
      rcases hk with rfl | rfl <;> revert h9 <;> decide
    · exfalso
      rcases hk with rfl | rfl <;> revert h9 <;> decide
    · show gI M15 (A 6) 6 = if k = 2 then mb else 0
      rw [if_pos h9]; exact g6
end PC3
