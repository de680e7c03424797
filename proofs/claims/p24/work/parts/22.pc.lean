/-! THE CLASS'S METHODS: from the formulas to the abstract state -/
def b2i (b : Bool) : Int32 := if b then 1 else 0
theorem b2i_z (b : Bool) : b2i b = 0 ↔ b = false := by cases b <;> decide
theorem b2i_01 (b : Bool) : b2i b = 0 ∨ b2i b = 1 := by cases b <;> decide
/-- a loop that counts -/
theorem Lp_for {σ : Type} {F : (σ → Prop) → σ → Prop} {x0 : σ} (N : Nat) (Q : Nat → σ → Prop) (cnt : σ → Nat) (hc : ∀ c x, c ≤ N → Q c x → cnt x = c) (h0 : Q 0 x0) (hs : ∀ (c : Nat) (x : σ) (K : σ → Prop), c ≤ N → Q c x → (∀ y, c < N → Q (c + 1) y → K y) → F K x) : Lp F x0 := by
  refine ⟨fun x => ∃ c, c ≤ N ∧ Q c x, fun x => N - cnt x, ⟨0, Nat.zero_le _, h0⟩, ?_⟩
  rintro x ⟨c, hcN, hQ⟩
  refine hs c x _ hcN hQ (fun y hlt hy => ⟨⟨c + 1, hlt, hy⟩, ?_⟩)
  show N - cnt y < N - cnt x
  rw [hc c x hcN hQ, hc (c + 1) y hlt hy]
  omega
def RepC (A : Nat → Nat) (Fo : Nat → Prop) (M0 M : Mem) (σ : Sg) (hl : Nat → Option Ln) : Prop := ShC A Fo M0 M ∧ VaC A M σ ∧ QC A Fo M σ hl ∧ hl (A 6) ≠ none
section PC
variable {A : Nat → Nat} {Fo : Nat → Prop} {M0 M : Mem} {σ : Sg} {hl : Nat → Option Ln}
theorem rp_ty (h : RepC A Fo M0 M σ hl) {i : Nat} (hi : vid i) : gT M (A i) = some (tyO i) := h.1.1 i hi
theorem rp_w4 (h : RepC A Fo M0 M σ hl) : gT M (A 2) = some (4, 0) := h.1.1 2 (by unfold vid; omega)
theorem rp_0 (h : RepC A Fo M0 M σ hl) : gT M (A 0) = some (5, 0) := h.1.1 0 (by unfold vid; omega)
theorem rp_v (h : RepC A Fo M0 M σ hl) {s : Nat} (hs : s < 6) : gT M (A (10 + s)) = some (3, 0) := by rw [h.1.1 _ (by unfold vid; omega), ty_v s hs]
theorem rp_i (h : RepC A Fo M0 M σ hl) {i : Nat} (hi : i < 24) : gT M (A (30 + i)) = some (0, 0) := by rw [h.1.1 _ (by unfold vid; omega), ty_i i hi]
theorem rp_q (h : RepC A Fo M0 M σ hl) {w : Nat} (hw : w < 36) : gT M (A (60 + w)) = some (2, 0) := by rw [h.1.1 _ (by unfold vid; omega), ty_q w hw]
theorem rp_qi (h : RepC A Fo M0 M σ hl) : ∀ w v, w < 36 → v < 36 → A (60 + w) = A (60 + v) → w = v := fun w v hw hv e => by
  have := h.1.2.1 _ _ (by unfold vid; omega) (by unfold vid; omega) e
  omega
theorem rp_rd (h : RepC A Fo M0 M σ hl) (f i : Nat) (hd : dmn f i) : gI M (A (lid f i)) (lsl f i) = sgI σ f i := h.2.1.1 f i hd
theorem rp_own (h : RepC A Fo M0 M σ hl) (f i : Nat) (hd : dmn f i) (x : Int32) : RepC A Fo M0 (sI M (A (lid f i)) (lsl f i) x) (uI σ f i x) hl := by
  have hv := dmn_vid hd
  refine ⟨sh_sI h.1 (h.1.2.2.2.1 _ hv.1), va_own h.1 h.2.1 hd x, qc_oth h.2.2.1 (fun _ => rfl) (fun _ _ => rfl) (fun b j hb => ?_) (fun _ => rfl) rfl rfl, h.2.2.2⟩
  rw [gI_sI, if_neg]
  rintro ⟨e, -⟩
  rcases hb with hb | hb
  · exact sh_ne h.1 hb hv.1 hv.2.1 e.symm
  · rw [hb] at e
    exact hv.2.2.2.2 (h.1.2.1 _ _ (by unfold vid; omega) hv.1 e).symm
theorem rp_users (h : RepC A Fo M0 M σ hl) : gI M (A 0) 6 = nI (sgN σ 0) := h.2.1.2.1
theorem rp_clock (h : RepC A Fo M0 M σ hl) : gI M (A 0) 7 = nI (sgN σ 1) := h.2.1.2.2
theorem rp_setN (h : RepC A Fo M0 M σ hl) {f : Nat} (hf : f = 0 ∨ f = 1) (v : Nat) : RepC A Fo M0 (sI M (A 0) (6 + f) (nI v)) (uN σ f v) hl := by
  refine ⟨sh_sI h.1 (h.1.2.2.2.1 0 (by unfold vid; omega)), ⟨fun g i hd => ?_, ?_, ?_⟩, qc_oth h.2.2.1 (fun _ => rfl) (fun _ _ => rfl) (fun b j hb => ?_) (fun _ => rfl) ?_ ?_, h.2.2.2⟩
  · rw [gI_sI, if_neg]
    · exact h.2.1.1 g i hd
    · rintro ⟨e, -⟩
      exact (dmn_vid hd).2.2.2.1 (h.1.2.1 _ _ (dmn_vid hd).1 (by unfold vid; omega) e)
  · rw [gI_sI, sgN_uN]
    rcases hf with rfl | rfl
    · rw [if_pos ⟨rfl, rfl⟩, if_pos rfl]
    · rw [if_neg (fun e => absurd e.2 (by decide)), if_neg (by decide)]; exact h.2.1.2.1
  · rw [gI_sI, sgN_uN]
    rcases hf with rfl | rfl
    · rw [if_neg (fun e => absurd e.2 (by decide)), if_neg (by decide)]; exact h.2.1.2.2
    · rw [if_pos ⟨rfl, rfl⟩, if_pos rfl]
  · rw [gI_sI, if_neg]
    rintro ⟨e, -⟩
    rcases hb with hb | hb
    · exact sh_ne h.1 hb (i := 0) (by unfold vid; omega) (by decide) e.symm
    · rw [hb] at e
      exact absurd (h.1.2.1 2 0 (by unfold vid; omega) (by unfold vid; omega) e) (by decide)
  · rw [sgN_uN, if_neg (by rcases hf with rfl | rfl <;> decide)]
  · rw [sgN_uN, if_neg (by rcases hf with rfl | rfl <;> decide)]
theorem in_nI {M : Mem} {a c N i : Nat} (ht : gT M a = some (c, N)) (hi : i < N) (hN : N < 2 ^ 31) : inA M a c (nI i) := ⟨N, ht, vp_in_nI hi hN⟩
theorem p_has (M : Mem) (m : Int32) {k : Nat} (hk : k < 32) {post : Int32 → Prop} (h : post (b2i (bt m k))) : w_X5_has M m (nI k) post := by
  intro J hJ
  refine ⟨fun e => hJ 0 ⟨Or.inl rfl, ?_⟩, fun e => hJ 1 ⟨Or.inr rfl, ?_⟩⟩
  · rw [(hs_ex m hk).mp e] at h; exact h
  · cases hb : bt m k with
    | false => exact absurd ((hs_ex m hk).mpr hb) e
    | true => rw [hb] at h; exact h
theorem p_settled (M : Mem) (a x b y : Int32) {post : Int32 → Prop} (h : post (settle a x b y)) : w_X5_settledSet M a x b y post := by
  unfold settle at h
  refine ⟨fun e => by rw [if_pos e] at h; exact h, fun e => ⟨fun e2 => by rw [if_neg e, if_pos e2] at h; exact h, fun e2 => ⟨fun e3 => by rw [if_neg e, if_neg e2, if_pos e3] at h; exact h, fun e3 J hJ => ⟨fun e4 => hJ _ ?_, fun e4 => hJ _ ?_⟩⟩⟩⟩
  · rw [if_neg e, if_neg e2, if_neg e3, if_pos e4] at h; exact h
  · rw [if_neg e, if_neg e2, if_neg e3, if_neg e4] at h; exact h
theorem p_drop (h : RepC A Fo M0 M σ hl) {i : Nat} (hi : i < 24) (u : Int32) {post : Mem → Prop} (hp : ∀ M', RepC A Fo M0 M' (dropL σ i u) hl → post M') : w_X0_drop M (A (30 + i)) u post := by
  have r5 := rp_rd h 5 i hi
  refine ⟨rp_i h hi, rp_i h hi, fun M3 e3 => ?_⟩
  have h3 : RepC A Fo M0 M3 (uI σ 5 i (cb (sgI σ 5 i) u)) hl := by
    rw [e3]
    have := rp_own h 5 i hi (cb (sgI σ 5 i) u)
    rw [← r5] at this ⊢
    exact this
  have v3 : gI M3 (A (30 + i)) 3 = cb (sgI σ 5 i) u := by
    have := rp_rd h3 5 i hi
    rw [sgI_uI, if_pos ⟨rfl, rfl⟩] at this
    exact this
  refine ⟨rp_i h3 hi, fun J hJ => ⟨fun e => ?_, fun e => ?_⟩⟩
  · rw [v3] at e
    refine ⟨rp_i h3 hi, fun M8 e8 => ?_⟩
    have h8 := rp_own h3 2 i hi (-1)
    refine ⟨by rw [e8]; exact rp_i h8 hi, fun M10 e10 => ?_⟩
    have h10 := rp_own h8 3 i hi (-1)
    refine ⟨by rw [e10, e8]; exact rp_i h10 hi, fun M12 e12 => hJ _ (hp _ ?_)⟩
    have h12 := rp_own h10 4 i hi (-1)
    rw [e12, e10, e8]
    unfold dropL
    rw [if_pos e]
    exact h12
  · rw [v3] at e
    refine hJ _ (hp _ ?_)
    unfold dropL
    rw [if_neg e]
    exact h3
end PC
