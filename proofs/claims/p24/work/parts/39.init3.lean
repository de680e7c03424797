def ex (M M' : Mem) (a : Nat) : Prop := ∀ b, b ≠ a → gT M b ≠ none → agr M M' b
theorem ex_tr {M M' M'' : Mem} {a : Nat} (h : ex M M' a) (h2 : ex M' M'' a) : ex M M'' a := fun b n1 n2 => agr_tr (h b n1 n2) (h2 b n1 (by rw [(h b n1 n2).1]; exact n2))
theorem nn {M : Mem} {a q : Nat} {t : Nat × Nat} (h : gT M a = some t) (hq : gT M q = none) : a ≠ q := fun e => by rw [e, hq] at h; cases h
theorem sm {M : Mem} {a : Nat} {t : Nat × Nat} (h : gT M a = some t) : gT M a ≠ none := by rw [h]; exact fun z => by cases z
/-- a new cell, and the object's reference to it -/
theorem al {M M2 M5 : Mem} {a q k : Nat} {t t0 : Nat × Nat} (h : gT M a = some t0) (hq : gT M q = none) (e2 : M2 = sN M q t) (e5 : M5 = sR M2 a k (some q)) : ex M M5 a ∧ gT M2 a = some t0 ∧ gT M5 a = some t0 ∧ gT M5 q = some t ∧ (∀ j, gI M5 q j = 0) ∧ gR M5 a k = some q ∧ (∀ j, j ≠ k → gR M5 a j = gR M a j) ∧ a ≠ q := by
  have ne := nn h hq
  subst e2
  subst e5
  have t2 : gT (sN M q t) a = some t0 := by rw [gT_sN, if_neg ne]; exact h
  refine ⟨fun b n1 n2 => agr_sR (agr_sN agr_rf (fun e => n2 (e ▸ hq))) n1, t2, t2, ?_, fun j => ?_, by rw [gR_sR, if_pos ⟨rfl, rfl⟩], fun j hj => ?_, ne⟩
  · show gT (sN M q t) q = _
    rw [gT_sN, if_pos rfl]
  · show gI (sN M q t) q j = 0
    rw [gI_sN, if_pos rfl]
  · rw [gR_sR, if_neg (fun e => hj e.2), gR_sN, if_neg ne]
def d0 (M : Mem) (a : Nat) : Mem := sR (sI (sI (sI (sI (sI (sI (sI M a 0 1) a 1 0) a 2 0) a 3 0) a 4 0) a 5 0) a 6 0) a 7 none
theorem agr_d0 {M0 M : Mem} {a b : Nat} (h : agr M0 M b) (hne : b ≠ a) : agr M0 (d0 M a) b := agr_sR (agr_sI (agr_sI (agr_sI (agr_sI (agr_sI (agr_sI (agr_sI h hne) hne) hne) hne) hne) hne) hne) hne
theorem d0_0 (M : Mem) (a : Nat) : gI (d0 M a) a 0 = 1 ∧ gI (d0 M a) a 1 = 0 := by
  refine ⟨?_, ?_⟩
  · show gI (sI (sI (sI (sI (sI (sI (sI M a 0 1) a 1 0) a 2 0) a 3 0) a 4 0) a 5 0) a 6 0) a 0 = 1
    rw [gI_sI, if_neg (by omega), gI_sI, if_neg (by omega), gI_sI, if_neg (by omega), gI_sI, if_neg (by omega), gI_sI, if_neg (by omega), gI_sI, if_neg (by omega), gI_sI, if_pos ⟨rfl, rfl⟩]
  · show gI (sI (sI (sI (sI (sI (sI (sI M a 0 1) a 1 0) a 2 0) a 3 0) a 4 0) a 5 0) a 6 0) a 1 = 0
    rw [gI_sI, if_neg (by omega), gI_sI, if_neg (by omega), gI_sI, if_neg (by omega), gI_sI, if_neg (by omega), gI_sI, if_neg (by omega), gI_sI, if_pos ⟨rfl, rfl⟩]
theorem p_x1init {M : Mem} {a : Nat} (h : gT M a = some (1, 0)) {post : Mem → Prop} (hp : post (d0 M a)) : w_X1_init M a post := by
  refine ⟨h, fun M2 e2 => ?_⟩
  subst e2
  refine ⟨h, fun M4 e4 => ?_⟩
  subst e4
  refine ⟨h, fun M6 e6 => ?_⟩
  subst e6
  refine ⟨h, fun M8 e8 => ?_⟩
  subst e8
  refine ⟨h, fun M10 e10 => ?_⟩
  subst e10
  refine ⟨h, fun M12 e12 => ?_⟩
  subst e12
  refine ⟨h, fun M14 e14 => ?_⟩
  subst e14
  refine ⟨h, fun M16 e16 => ?_⟩
  subst e16
  exact hp
/-- what the constructor of the relay leaves, cell by cell: N k the memory after stage k -/
def rawC (M M' : Mem) (a0 va wi a3 a4 a5 dr la qa : Nat) (g fq : Nat → Nat) : Prop :=
  ∃ M5 M13 M18 M23 M28 M38 : Mem, (gT M5 a0 = some (5, 0) ∧ gT M13 a0 = some (5, 0) ∧ gT M18 a0 = some (5, 0) ∧ gT M23 a0 = some (5, 0) ∧ gT M28 a0 = some (5, 0)) ∧ (ex M M5 a0 ∧ ex M5 M13 a0 ∧ ex M13 M18 a0 ∧ ex M18 M23 a0 ∧ ex M23 M28 a0 ∧ ex M28 M38 a0) ∧
  (gT M va = none ∧ gT M5 va ≠ none) ∧
  (gT M5 wi = none ∧ ∃ M11, wr0 (sN M5 wi (4, 0)) wi la qa M11 fq 36 ∧ ∀ b, b ≠ a0 → agr M11 M13 b) ∧
  (gT M13 a3 = none ∧ gT M18 a3 = some (10, 20) ∧ ∀ j, gI M18 a3 j = 0) ∧
  (gT M18 a4 = none ∧ gT M23 a4 = some (10, 20) ∧ ∀ j, gI M23 a4 j = 0) ∧
  (gT M23 a5 = none ∧ gT M28 a5 = some (10, 20) ∧ ∀ j, gI M28 a5 j = 0) ∧
  (gT M28 dr = none ∧ gT M38 dr = some (1, 0) ∧ gI M38 dr 0 = 1 ∧ gI M38 dr 1 = 0) ∧
  (gT M38 a0 = some (5, 0) ∧ gR M38 a0 0 = some va ∧ gR M38 a0 1 = some wi ∧ gR M38 a0 2 = some a3 ∧ gR M38 a0 3 = some a4 ∧ gR M38 a0 4 = some a5 ∧ gR M38 a0 5 = some dr ∧ gI M38 a0 6 = 0 ∧ gI M38 a0 7 = 0) ∧
  vv0 M38 va M' g 6
theorem p_x5raw {M : Mem} {a0 : Nat} (h : gT M a0 = some (5, 0)) {mc ms : Nat} (hb : 80 ≤ mc ∧ 325 ≤ ms) {post : Mem → Prop} (hp : ∀ M' va wi a3 a4 a5 dr la qa g fq, rawC M M' a0 va wi a3 a4 a5 dr la qa g fq → post M') : w_X5_init mc ms M a0 post := by
  refine ⟨⟨by omega, by omega⟩, fun va hva M2 e2 => ⟨by rw [e2, gT_sN, if_neg (nn h hva)]; exact h, fun M5 e5 => ?_⟩⟩
  obtain ⟨x5, -, t5, y5, -, r5, -, n5⟩ := al h hva e2 e5
  refine ⟨⟨by omega, by omega⟩, fun wi hwi M7 e7 => ?_⟩
  have nw := nn t5 hwi
  have t7w : gT M7 wi = some (4, 0) := by rw [e7, gT_sN, if_pos rfl]
  refine ⟨38, 114, ⟨by omega, by omega⟩, p_x4init t7w ⟨by omega, by omega⟩ (fun M11 la qa fq hw => ?_)⟩
  rw [e7] at hw
  have x11 : ∀ b, gT M5 b ≠ none → agr M5 M11 b := fun b n2 => by
    have nb : b ≠ wi := fun e => n2 (e ▸ hwi)
    exact agr_tr (agr_sN agr_rf nb) (hw.1 b nb (by rw [gT_sN, if_neg nb]; exact n2))
  have g11 := x11 a0 (sm t5)
  have t11 : gT M11 a0 = some (5, 0) := g11.1.trans t5
  refine ⟨t11, fun M13 e13 => ?_⟩
  have t13 : gT M13 a0 = some (5, 0) := by rw [e13]; exact t11
  have x13 : ex M5 M13 a0 := fun b n1 n2 => by rw [e13]; exact agr_sR (x11 b n2) n1
  have w13 : ∀ b, b ≠ a0 → agr M11 M13 b := fun b n1 => by rw [e13]; exact agr_sR agr_rf n1
  have r13a : gR M13 a0 0 = some va := by
    rw [e13, gR_sR, if_neg (by omega)]
    exact (g11.2.2.1 0).trans r5
  have r13b : gR M13 a0 1 = some wi := by rw [e13, gR_sR, if_pos ⟨rfl, rfl⟩]
  refine ⟨⟨by omega, by omega⟩, fun a3 h3 M15 e15 => ⟨by rw [e15, gT_sN, if_neg (nn t13 h3)]; exact t13, fun M18 e18 => ?_⟩⟩
  obtain ⟨x18, -, t18, y18, z18, r18, o18, -⟩ := al t13 h3 e15 e18
  refine ⟨⟨by omega, by omega⟩, fun a4 h4 M20 e20 => ⟨by rw [e20, gT_sN, if_neg (nn t18 h4)]; exact t18, fun M23 e23 => ?_⟩⟩
  obtain ⟨x23, -, t23, y23, z23, r23, o23, -⟩ := al t18 h4 e20 e23
  refine ⟨⟨by omega, by omega⟩, fun a5 h5 M25 e25 => ⟨by rw [e25, gT_sN, if_neg (nn t23 h5)]; exact t23, fun M28 e28 => ?_⟩⟩
  obtain ⟨x28, -, t28, y28, z28, r28, o28, -⟩ := al t23 h5 e25 e28
  refine ⟨⟨by omega, by omega⟩, fun dr hdr M30 e30 => ?_⟩
  have nd := nn t28 hdr
  have t30 : gT M30 dr = some (1, 0) := by rw [e30, gT_sN, if_pos rfl]
  refine p_x1init t30 ?_
  have g32 : ∀ b, gT M28 b ≠ none → agr M28 (d0 M30 dr) b := fun b n2 => by
    have nb : b ≠ dr := fun e => n2 (e ▸ hdr)
    rw [e30]
    exact agr_d0 (agr_sN agr_rf nb) nb
  have a32 := g32 a0 (sm t28)
  have d32 := d0_0 M30 dr
  have td32 : gT (d0 M30 dr) dr = some (1, 0) := t30
  generalize d0 M30 dr = M32 at g32 a32 d32 td32
  have t32 : gT M32 a0 = some (5, 0) := a32.1.trans t28
  refine ⟨t32, fun M34 e34 => ?_⟩
  have t34 : gT M34 a0 = some (5, 0) := by rw [e34]; exact t32
  refine ⟨t34, fun M36 e36 => ?_⟩
  have t36 : gT M36 a0 = some (5, 0) := by rw [e36]; exact t34
  refine ⟨t36, fun M38 e38 => ?_⟩
  have t38 : gT M38 a0 = some (5, 0) := by rw [e38]; exact t36
  have s38 : ∀ b, b ≠ a0 → agr M32 M38 b := fun b n1 => by rw [e38, e36, e34]; exact agr_sI (agr_sI (agr_sR agr_rf n1) n1) n1
  have x38 : ex M28 M38 a0 := fun b n1 n2 => agr_tr (g32 b n2) (s38 b n1)
  have rr : ∀ k, k ≠ 5 → gR M38 a0 k = gR M28 a0 k := fun k hk => by
    rw [e38, gR_sI, e36, gR_sI, e34, gR_sR, if_neg (fun z => hk z.2)]
    exact a32.2.2.1 k
  have rr5 : gR M38 a0 5 = some dr := by rw [e38, gR_sI, e36, gR_sI, e34, gR_sR, if_pos ⟨rfl, rfl⟩]
  have sd := s38 dr nd.symm
  have hA : gR M38 a0 0 = some va := by rw [rr 0 (by omega), o28 0 (by omega), o23 0 (by omega), o18 0 (by omega)]; exact r13a
  have tva5 : gT M38 va = some (12, 6) := by
    have n0 := n5.symm
    have q1 := (x13 va n0 (sm y5)).1.trans y5
    have q2 := (x18 va n0 (sm q1)).1.trans q1
    have q3 := (x23 va n0 (sm q2)).1.trans q2
    have q4 := (x28 va n0 (sm q3)).1.trans q3
    exact (x38 va n0 (sm q4)).1.trans q4
  have start : vv0 M38 va M38 (fun _ => 0) 0 := ⟨fun b _ _ => agr_rf, tva5, fun s hs => by omega, fun i hi => by unfold sS at hi; omega, fun i j hi => by unfold sS at hi; omega⟩
  refine Lp_for 6 (fun c z => z.1 = nI c ∧ z.2.2.1 = 44 + 6 * c ∧ z.2.2.2 = 193 + 22 * c ∧ ∃ g, vv0 M38 va z.2.1 g c) (fun z => z.1.toNatClampNeg) (fun c z hc hz => by rw [hz.1]; exact clN (by omega)) ⟨rfl, rfl, rfl, _, start⟩ ?_
  intro c z K hc hz hK x39 M40 k41 n42 ez
  subst ez
  obtain ⟨z1, z2, z3, g, z4⟩ := hz
  have z1' : x39 = nI c := z1
  have z2 : k41 = 44 + 6 * c := z2
  have z3 : n42 = 193 + 22 * c := z3
  have z4 : vv0 M38 va M40 g c := z4
  subst z1'
  refine ⟨fun e => ?_, fun e => ?_⟩
  · have : 6 ≤ c := (le_nI (a := 6) (by omega) (by omega)).mp e
    have e6 : c = 6 := by omega
    subst e6
    refine hp M40 va wi a3 a4 a5 dr la qa g fq ⟨M5, M13, M18, M23, M28, M38, ⟨t5, t13, t18, t23, t28⟩, ⟨x5, x13, x18, x23, x28, x38⟩, ⟨hva, sm y5⟩, ⟨hwi, M11, hw, w13⟩, ⟨h3, y18, z18⟩, ⟨h4, y23, z23⟩, ⟨h5, y28, z28⟩, ⟨hdr, sd.1.trans td32, (sd.2.1 0).trans d32.1, (sd.2.1 1).trans d32.2⟩, ⟨t38, hA, ?_, ?_, ?_, ?_, rr5, ?_, ?_⟩, z4⟩
    · rw [rr 1 (by omega), o28 1 (by omega), o23 1 (by omega), o18 1 (by omega)]; exact r13b
    · rw [rr 2 (by omega), o28 2 (by omega), o23 2 (by omega)]; exact r18
    · rw [rr 3 (by omega), o28 3 (by omega)]; exact r23
    · rw [rr 4 (by omega)]; exact r28
    · rw [e38, gI_sI, if_neg (by omega), e36, gI_sI, if_pos ⟨rfl, rfl⟩]
    · rw [e38, gI_sI, if_pos ⟨rfl, rfl⟩]
  have hlt : c < 6 := Nat.not_le.mp (fun h9 => e ((le_nI (a := 6) (by omega) (by omega)).mpr h9))
  have a40 := z4.1 a0 n5 (sm t38)
  refine ⟨a40.1.trans t38, va, (a40.2.2.1 0).trans hA, ⟨by omega, by omega⟩, fun q46 hq46 M47 e47 => ?_⟩
  have t47 : gT M47 q46 = some (3, 0) := by rw [e47, gT_sN, if_pos rfl]
  refine ⟨5, 20, ⟨by omega, by omega⟩, p_x3init t47 ⟨by omega, by omega⟩ (fun M51 ca fc hv => ⟨hv.2.1, in_nI (N := 6) ?_ hlt (by omega), fun M52 e52 x54 e54 => hK _ hlt ⟨by show x54 = _; rw [e54, nI_1], by show k41 + 1 + 5 = _; omega, by show n42 + 2 + 20 = _; omega, gst g c q46 ca fc, ?_⟩⟩)⟩
  · have nvq := nn z4.2.1 hq46
    have tv : gT M47 va = some (12, 6) := by rw [e47, gT_sN, if_neg nvq]; exact z4.2.1
    exact (hv.1 va nvq (sm tv)).1.trans tv
  · show vv0 M38 va M52 _ (c + 1)
    rw [e52, clN (by omega)]
    rw [e47] at hv
    exact vv0_step hlt z4 hq46 hv
