/-! methods that throw -/
def xnm : List String := ["java/lang/RuntimeException", "java/lang/Exception"]
def ioob : String := "java/lang/IndexOutOfBoundsException"
def ise : String := "java/lang/IllegalStateException"
def iae : String := "java/lang/IllegalArgumentException"
/-- the words of 'throw new E(text)' in the class ChatRelay -/
def tw (ik ic : Nat) (E : String) : Prop := Bundle.fit E = true ∧ Cond.classLink RX5 ik E ∈ lwg ∧ Cond.initialized E ∈ lwg ∧ (∀ w ∈ (vx_atS RX5 ic E xnm).filter goodWord, w ∈ lwg) ∧ (∀ w ∈ (vx_atS RX5 ic E xnm).filter (fun w => !goodWord w), w ∈ xwN ∧ w.onTables = true) ∧ (∀ w ∈ Cond.classLink RX5 ik E :: Cond.initialized E :: vx_atS RX5 ic E xnm, vx_ot w = true)
set_option maxRecDepth 100000 in
theorem tw_ioob : tw 210 214 ioob := ⟨by decide +kernel, by decide +kernel, by decide +kernel, by decide +kernel, by decide +kernel, by decide +kernel⟩
set_option maxRecDepth 100000 in
theorem tw_ise : tw 59 63 ise := ⟨by decide +kernel, by decide +kernel, by decide +kernel, by decide +kernel, by decide +kernel, by decide +kernel⟩
set_option maxRecDepth 100000 in
theorem tw_iae : tw 101 105 iae := ⟨by decide +kernel, by decide +kernel, by decide +kernel, by decide +kernel, by decide +kernel, by decide +kernel⟩
def Throws (X : XT) (cc : ByteArray) (nL mc ms : Nat) (xp : String → Mem → Prop) : Prop :=
  ∀ (M : Mem) (k n pc : Nat) (lv : List (Nat × Value)) (st : List Value) (ik is ic : Nat) (E text : String), decode cc pc = .ok (.new ik, 3) → decode cc (pc + 3) = .ok (.dup, 1) → decode cc (pc + 4) = .ok (.ldc is, 2) → decode cc (pc + 6) = .ok (.invokespecial ic, 3) → decode cc (pc + 9) = .ok (.athrow, 1) → tw ik ic E → (is, text) ∈ xwS → (st.map fun v => v.category).sum ≤ 8 → k + 1 ≤ mc ∧ n + 6 ≤ ms → xp E M → G X nL M k n pc lv st
def Outs (X : XT) (nL : Nat) (xp : String → Mem → Prop) : Prop := ∀ (M : Mem) (k n pc : Nat) (lv : List (Nat × Value)) (st : List Value) (E : String), xp E M → GX X nL M k n pc lv st E
theorem ct_ofX {l : Launch} {D : va_G} {dA : Nat → ClassId} {y : MethodName} {cc : ByteArray} {maxL : Nat} {ret : Option FieldType} {d : Nat} {argv : List Value} {M : Mem} {mc ms : Nat} {xp : String → Mem → Prop} {post : Mem → Option Value → Prop} (htr : l.stackTraces = false) (hy : plainName y.cls = true) (hlen : (lg_sl argv).length ≤ maxL) (hd6 : 6 ≤ d) (hy5 : y.cls = RX5)
    (body : ∀ X : XT, Cx X d cc maxL y.cls mc ms → Rets X cc maxL mc ms ret post → Throws X cc maxL mc ms xp → Outs X maxL xp → G X maxL M 0 0 0 (lv_args 0 argv) []) : CtX l D dA y cc maxL ret d argv M mc ms xp post := by
  intro sz
  refine vx_ofW (cc := cc) (maxL := maxL) (ret := ret) hy rfl ?_
  intro p e s m args below meth c s₁ B hml hno hv
  obtain ⟨rfl, hsz, hP, hK, hz⟩ := hv
  have hts0 := atoms_spec (ws := Cond.code y cc maxL ret :: lwg) B.pre
  subst hsz
  have hlocks := B.notSynchronized
  have hA0 : ∀ q, s.heap.size ≤ q → own M s.heap.size q := fun q h => Or.inr h
  have hts : ∀ w ∈ lwg, w.before argv.toArray s = true := fun w hw => hts0 w (List.mem_cons_of_mem _ hw)
  have hown := findClass_of_methodNamed B.named
  have hC : Cx (p, l, e, (headSpec (Cond.code y cc maxL ret :: lwg) (rmd d mc ms)).room, s, m, argv.toArray, below, meth, c, D, dA, own M s.heap.size, vx_MQ below (QcN D dA M s.heap.size post) (XcN D dA M s.heap.size xp) argv.toArray s mc ms (own M s.heap.size)) d cc maxL y.cls mc ms :=
    ⟨B.exec, B.bytes, hml, hown, hts, hK, hz, hA0, ⟨Nat.le_refl _, Nat.le_refl _⟩, ⟨rfl, rfl⟩, hlocks, htr⟩
  have hl := lv_entry argv (n := maxL) hlen
  rw [lg_entry_eq]
  refine body _ hC ⟨?_, ?_, ?_, ?_⟩ ?_ ?_ s.heap [] _ hP (fun a h => Or.inl h) va_S.rf hl ⟨Nat.zero_le _, Nat.zero_le _⟩
  · intro hr M' k n pc lv hd hp H locs ls hP hA hS hl hk
    exact vx_ret (W.widen hk.1 hk.2 (W.vret B.exec B.bytes (B.returns.trans hr) (fun t ht hW => ⟨none, M', rfl, hp, by rw [ht]; exact hP, hA, hS.F ht⟩) hS.2.2 hd hlocks))
  · intro hr M' k n pc lv x hd hp H locs ls hP hA hS hl hk
    exact vx_ret (W.widen hk.1 hk.2 (W.zret (ty := .int) B.exec B.bytes (B.returns.trans hr) rfl (fun t ht hW => ⟨_, M', rfl, hp, by rw [ht]; exact hP, hA, hS.F ht⟩) hS.2.2 hd hlocks))
  · intro hr M' k n pc lv x hd hp H locs ls hP hA hS hl hk
    exact vx_ret (W.widen hk.1 hk.2 (W.zret (ty := .boolean) B.exec B.bytes (B.returns.trans hr) (by rcases hp.1 with rfl | rfl <;> rfl) (fun t ht hW => ⟨_, M', rfl, hp.2, by rw [ht]; exact hP, hA, hS.F ht⟩) hS.2.2 hd hlocks))
  · intro nm hr M' k n pc lv r hd hp H locs ls hP hA hS hl hk
    exact vx_ret (W.widen hk.1 hk.2 (W.aret (v := va_rf r) B.exec B.bytes (B.returns.trans hr) (Or.inl ⟨nm, rfl⟩) (by cases r with | none => exact Or.inl rfl | some a => exact Or.inr ⟨a, rfl⟩) (fun t ht hW => ⟨_, M', rfl, hp, by rw [ht]; exact hP, hA, hS.F ht⟩) hS.2.2 hd hlocks))
  · intro M' k n pc lv st ik is ic E text d0 d3 d4 d6 d9 ht htx hst hkm hxp H locs ls hP hA hS hl hk
    obtain ⟨t1, t2, t3, t4, t5, t7⟩ := ht
    obtain ⟨sa, hsa⟩ := hK.2.2.2.1 (is, text) htx
    have hat : ∀ w ∈ vx_atS RX5 ic E xnm, w.before argv.toArray s = true := by
      intro w hw
      by_cases g : goodWord w = true
      · exact hts w (t4 w (List.mem_filter.mpr ⟨hw, g⟩))
      · have h9 := t5 w (List.mem_filter.mpr ⟨hw, by simp [g]⟩)
        exact va_Nw.use h9.2 (hK.2.1 _ h9.1)
    exact vx_throwS (names := xnm) B.exec B.bytes htr (hy5 ▸ hown) t1 (by decide +kernel) (hts _ t2) (hts _ t3) hsa hat t7 hz.1 hz.2 hS (by rw [hl.1, hml]) d0 d3 d4 d6 d9 (fun x hx => (hno x hx).elim) (by show 5 < d; omega) (by show _ + (13 * 3 + 43) ≤ 36 * d; omega) hkm.1 hkm.2 hlocks
      (fun t ht2 hz2 hkp => ⟨M', hxp, fun a c0 n0 h0 => pcell_kept (hP a c0 n0 h0) (fun _ => rfl) (fun _ => rfl) (fun _ => rfl) (hkp a (pcell_lt (hP a c0 n0 h0))), hA, Nat.le_trans hS.1 hz2, fun q h1 h2 => (hkp q (Nat.lt_of_lt_of_le h1 hS.1)).trans (hS.2.1 q h1 h2)⟩) hS.2.2 hkm.1 hkm.2
  · intro M' k n pc lv st E hxp H locs ls q ce hP hA hS hl hk hce hcv hcl
    exact vx_out (fun x hx => (hno x hx).elim) hlocks hce hcv hcl (fun t ht hW => ⟨M', hxp, by rw [ht]; exact hP, hA, hS.F ht⟩) hS.2.2 hk.1 hk.2
