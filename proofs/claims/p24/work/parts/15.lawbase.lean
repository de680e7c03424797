/-! THE LAW'S OWN SCRIPT, and the method that reads it -/
/-- the law's script: L ints xs at b, not among its own cells -/
def Scr (X : XT) (b L : Nat) (xs : Nat → Int32) : Prop := match X with
  | (p, l, e, R, s, m, args, below, meth, c, D, dA, A, Q) => va_X b L xs s s.heap ∧ b < s.heap.size ∧ ¬ A b
section GW
variable {X : XT} {d d' nL mc ms mc' ms' maxL' idx : Nat} {cc cy : ByteArray} {ow : String} {M : Mem} {k n pc : Nat} {lv : List (Nat × Value)} {st : List Value} {y : MethodName} {ret' : Option FieldType} {post : Mem → Option Value → Prop}
theorem g_sld (C : Cx X d cc nL ow mc ms) {b L : Nat} {xs : Nat → Int32} (hX : Scr X b L xs) {i : Int32} (hd : decode cc pc = .ok (.iaload, 1)) (hi : vp_in i L) (kk : G X nL M k n (pc + 1) lv (.int (xs i.toNatClampNeg) :: st)) : G X nL M k n pc lv (.int i :: .ref b :: st) := by
  obtain ⟨p, l, e, R, s, m, args, below, meth, c, D, dA, A, Q⟩ := X
  obtain ⟨hx, hb, -⟩ := C
  obtain ⟨h1, h2, h3⟩ := hX
  intro H locs ls hP hA hS hl hr
  exact va_sld hx hb h1 h2 h3 hS hi hd (kk H locs ls hP hA hS hl hr)
theorem g_slen (C : Cx X d cc nL ow mc ms) {b L : Nat} {xs : Nat → Int32} (hX : Scr X b L xs) (hd : decode cc pc = .ok (.arraylength, 1)) (kk : G X nL M k n (pc + 1) lv (.int (nI L) :: st)) : G X nL M k n pc lv (.ref b :: st) := by
  obtain ⟨p, l, e, R, s, m, args, below, meth, c, D, dA, A, Q⟩ := X
  obtain ⟨hx, hb, -⟩ := C
  obtain ⟨h1, h2, h3⟩ := hX
  intro H locs ls hP hA hS hl hr
  exact va_slen hx hb h1 h2 h3 hS hd (kk H locs ls hP hA hS hl hr)
end GW
def PreD1 (D : va_G) (dA : Nat → ClassId) (M : Mem) (sz b L : Nat) (xs : Nat → Int32) (U : State) : Prop := Pre D dA M sz U ∧ va_X b L xs U U.heap ∧ b < sz ∧ ¬ own M sz b
/-- a method that reads the script: it makes nothing -/
def CtS (l : Launch) (D : va_G) (dA : Nat → ClassId) (y : MethodName) (cc : ByteArray) (maxL : Nat) (ret : Option FieldType) (d : Nat) (argv : List Value) (M : Mem) (b L : Nat) (xs : Nat → Int32) (post : Mem → Option Value → Prop) : Prop :=
  ∀ sz : Nat, Met l y (Cond.code y cc maxL ret :: lwg) (rmd d 0 0) (va_Pc argv (PreD1 D dA M sz b L xs)) (QcN D dA M sz post) 0 0 (own M sz)
theorem preD1_blind {D : va_G} {dA : Nat → ClassId} {M : Mem} {sz b L : Nat} {xs : Nat → Int32} {argv : List Value} : FrameBlind (va_Pc argv (PreD1 D dA M sz b L xs)) := by
  intro a U g mk q
  obtain ⟨q0, ⟨q1, q2, q3, q4⟩, q5, q6, q7⟩ := q
  exact ⟨q0, ⟨q1, q2, kx_warm (s := U) (U := U.calling g mk a) (State.WarmedH.refl U) q3, zx_moved (u := U) (U := U.calling g mk a) (Vm.Alike.refl U.vm) q4⟩, va_X.moved (u := U) (U := U.calling g mk a) (Vm.Alike.refl U.vm) q5, q6, q7⟩
theorem ct_ofS {l : Launch} {D : va_G} {dA : Nat → ClassId} {y : MethodName} {cc : ByteArray} {maxL : Nat} {ret : Option FieldType} {d : Nat} {argv : List Value} {M : Mem} {b L : Nat} {xs : Nat → Int32} {post : Mem → Option Value → Prop} (htr : l.stackTraces = false) (hy : plainName y.cls = true) (hlen : (lg_sl argv).length ≤ maxL)
    (body : ∀ X : XT, Cx X d cc maxL y.cls 0 0 → Scr X b L xs → Rets X cc maxL 0 0 ret post → G X maxL M 0 0 0 (lv_args 0 argv) []) : CtS l D dA y cc maxL ret d argv M b L xs post := by
  intro sz
  refine Met.ofW (cc := cc) (maxL := maxL) (ret := ret) hy rfl ?_
  intro p e s m args below meth c s₁ B hml hv
  obtain ⟨rfl, ⟨hsz, hP, hK, hz⟩, hX, hbl, hbo⟩ := hv
  have hts0 := atoms_spec (ws := Cond.code y cc maxL ret :: lwg) B.pre
  subst hsz
  have hlocks := B.notSynchronized
  have hA0 : ∀ q, s.heap.size ≤ q → own M s.heap.size q := fun q h => Or.inr h
  have hC : Cx (p, l, e, (headSpec (Cond.code y cc maxL ret :: lwg) (rmd d 0 0)).room, s, m, argv.toArray, below, meth, c, D, dA, own M s.heap.size, MQ below (QcN D dA M s.heap.size post) argv.toArray s 0 0 (own M s.heap.size)) d cc maxL y.cls 0 0 :=
    ⟨B.exec, B.bytes, hml, findClass_of_methodNamed B.named, fun w hw => hts0 w (List.mem_cons_of_mem _ hw), hK, hz, hA0, ⟨Nat.le_refl _, Nat.le_refl _⟩, ⟨rfl, rfl⟩, hlocks, htr⟩
  have hl := lv_entry argv (n := maxL) hlen
  rw [lg_entry_eq]
  refine body _ hC ⟨hX, hbl, hbo⟩ ⟨?_, ?_, ?_, ?_⟩ s.heap [] _ hP (fun a h => Or.inl h) va_S.rf hl ⟨Nat.zero_le _, Nat.zero_le _⟩
  · intro hr M' k n pc lv hd hp H locs ls hP hA hS hl hk
    exact W.widen hk.1 hk.2 (W.vret B.exec B.bytes (B.returns.trans hr) (fun t ht hW => ⟨none, M', rfl, hp, by rw [ht]; exact hP, hA, hS.F ht⟩) hS.2.2 hd hlocks)
  · intro hr M' k n pc lv x hd hp H locs ls hP hA hS hl hk
    exact W.widen hk.1 hk.2 (W.zret (ty := .int) B.exec B.bytes (B.returns.trans hr) rfl (fun t ht hW => ⟨_, M', rfl, hp, by rw [ht]; exact hP, hA, hS.F ht⟩) hS.2.2 hd hlocks)
  · intro hr M' k n pc lv x hd hp H locs ls hP hA hS hl hk
    exact W.widen hk.1 hk.2 (W.zret (ty := .boolean) B.exec B.bytes (B.returns.trans hr) (by rcases hp.1 with rfl | rfl <;> rfl) (fun t ht hW => ⟨_, M', rfl, hp.2, by rw [ht]; exact hP, hA, hS.F ht⟩) hS.2.2 hd hlocks)
  · intro nm hr M' k n pc lv r hd hp H locs ls hP hA hS hl hk
    exact W.widen hk.1 hk.2 (W.aret (v := va_rf r) B.exec B.bytes (B.returns.trans hr) (Or.inl ⟨nm, rfl⟩) (by cases r with | none => exact Or.inl rfl | some a => exact Or.inr ⟨a, rfl⟩) (fun t ht hW => ⟨_, M', rfl, hp, by rw [ht]; exact hP, hA, hS.F ht⟩) hS.2.2 hd hlocks)
section GD
variable {X : XT} {d d' nL mc ms maxL' idx : Nat} {cc cy : ByteArray} {ow : String} {M : Mem} {k n pc : Nat} {lv : List (Nat × Value)} {st : List Value} {y : MethodName} {ret' : Option FieldType} {post : Mem → Option Value → Prop}
theorem g_callD (C : Cx X d cc nL ow mc ms) {b L : Nat} {xs : Nat → Int32} (hX : Scr X b L xs) {As : List Value} (hct : ∀ l D dA, l.stackTraces = false → CtS l D dA y cy maxL' ret' d' As M b L xs post) (hw0 : Cond.code y cy maxL' ret' ∈ lwg) (hw1 : Cond.methodLink ow idx y ∈ lwg) (hw2 : Cond.static y ∈ lwg) (hw4 : Cond.initialized y.cls ∈ lwg) (hy : plainY y As.length) (hd : decode cc pc = .ok (.invokestatic idx, 3)) (hdd : d' + 1 ≤ d ∧ maxL' ≤ 17) (hst : (st.map fun v => v.category).sum ≤ 8)
    (kk : ∀ M' v, post M' v → G X nL M' k n (pc + 3) lv (v.toList ++ st)) : G X nL M k n pc lv (As.reverse ++ st) := by
  obtain ⟨p, l, e, R, s, m, args, below, meth, c, D, dA, A, Q⟩ := X
  obtain ⟨hx, hb, hml, hown, hts, hK, hz, hA0, hR, hRc, hlk, htr⟩ := C
  obtain ⟨g1, g2, g3⟩ := hX
  intro H locs ls hP hA hS hl hr
  have hkR : k + 0 ≤ R.cells ∧ n + 0 ≤ R.slots := hr
  have hXH : va_X b L xs s H := va_X.kept g1 (hS.2.1 b g2 g3)
  exact g_after hA hA0 hS hl hkR (va_runS ⟨hx, hb, hml, hown, hts⟩ (hct l D dA htr H.size) ⟨callB_of As.length hts (wt_inL y cy maxL' ret' hw0) rfl rfl rfl (hts _ hw4) (hts _ hw1) hy ⟨by show d' + 1 ≤ _; omega, by show 8 + (maxL' + 11) + 36 * d' ≤ _; omega⟩, hts _ hw2⟩ ⟨preD1_blind, fun U hU hW => ⟨rfl, pre_at hP hA hA0 hS hK hz hU hW, by rw [hU]; exact va_X.moved hW.alike hXH, Nat.lt_of_lt_of_le g2 hS.1, fun z => g3 (own_in hA hA0 hS b z)⟩⟩ rfl rfl hl.1 rfl (lv_room hst) hd hkR) kk
end GD
theorem sw_out12 {x : Int32} (h0 : ¬ x = 0) (h1 : ¬ x = 1) (h2 : ¬ x = 2) (h3 : ¬ x = 3) (h4 : ¬ x = 4) (h5 : ¬ x = 5) (h6 : ¬ x = 6) (h7 : ¬ x = 7) (h8 : ¬ x = 8) (h9 : ¬ x = 9) (h10 : ¬ x = 10) (h11 : ¬ x = 11) : x.toInt < 0 ∨ 11 < x.toInt := sw_o (N := 11) (by decide) (fun j hj => by
  rcases (show j = 0 ∨ j = 1 ∨ j = 2 ∨ j = 3 ∨ j = 4 ∨ j = 5 ∨ j = 6 ∨ j = 7 ∨ j = 8 ∨ j = 9 ∨ j = 10 ∨ j = 11 by omega) with rfl | rfl | rfl | rfl | rfl | rfl | rfl | rfl | rfl | rfl | rfl | rfl
  · exact h0
  · exact h1
  · exact h2
  · exact h3
  · exact h4
  · exact h5
  · exact h6
  · exact h7
  · exact h8
  · exact h9
  · exact h10
  · exact h11)
