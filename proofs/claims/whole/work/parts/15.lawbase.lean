/-! methods with handlers, and the law's own script -/
theorem met_ofWH {l : Launch} {y : MethodName} {ws ws' : List Cond} {rm : Room} {Pc : Array Value → State → Prop} {Qc : Array Value → State → Outcome → State → Prop} {mc ms : Nat} {free : Addr → Prop} {cc : ByteArray} {maxL : Nat} {ret : Option FieldType} {hh : List (Nat × Nat × Nat × Nat)}
    (hy : plainName y.cls = true) (hw : ws = Cond.codeWith y cc maxL ret hh :: ws')
    (body : ∀ p e s m args below meth c s₁, BodyLoose p l y (headSpec ws rm) cc maxL ret e s m args below meth c s₁ → c.maxLocals = maxL → Pc args s →
      W p l e (headSpec ws rm).room s m args below meth c s.heap [] 0 0 (MQ below Qc args s mc ms free) (entryFrame m args maxL)) : Met l y ws rm Pc Qc mc ms free := by
  refine MetFree.of_bodyS (code := cc) (maxLocals := maxL) (ret := ret) hy ?_ ?_
  · intro args s m h hn
    obtain ⟨m9, meth, c, hn9, h1, h2, h3, h4, -, h5, h6, -⟩ := Cond.codeWith_spec (atoms_spec (ws := ws) h _ (by rw [hw]; exact List.mem_cons_self))
    cases hn.symm.trans hn9
    exact ⟨meth, c, h1, h2, h3, h4, h5, h6⟩
  · intro p e s m args below meth c s₁ B hml hP _
    have hh0 : s₁.heap = s.heap := by rw [B.state]; rfl
    obtain ⟨t, a1, o, b1, b2, b3⟩ := body p e s m args below meth c s₁ B hml hP s₁ hh0 (Stand.of_body B)
    exact ⟨t, o, a1, b1, b2, ⟨b3.1, b3.2⟩⟩
def CtW (l : Launch) (D : va_G) (dA : Nat → ClassId) (y : MethodName) (cc : ByteArray) (maxL : Nat) (ret : Option FieldType) (hh : List (Nat × Nat × Nat × Nat)) (d : Nat) (argv : List Value) (M : Mem) (mc ms : Nat) (post : Mem → Option Value → Prop) : Prop :=
  ∀ sz : Nat, Met l y (Cond.codeWith y cc maxL ret hh :: lwg) (rmd d mc ms) (va_Pc argv (Pre D dA M sz)) (QcN D dA M sz post) mc ms (own M sz)
def Tab (X : XT) (hh : List (Nat × Nat × Nat × Nat)) : Prop := ∀ c0 : Code, X.2.2.2.2.2.2.2.2.2.1 = c0 → c0.exceptionTable.toList = tableOf hh
theorem ct_ofW {l : Launch} {D : va_G} {dA : Nat → ClassId} {y : MethodName} {cc : ByteArray} {maxL : Nat} {ret : Option FieldType} {hh : List (Nat × Nat × Nat × Nat)} {d : Nat} {argv : List Value} {M : Mem} {mc ms : Nat} {post : Mem → Option Value → Prop} (htr : l.stackTraces = false) (hy : plainName y.cls = true) (hlen : (lg_sl argv).length ≤ maxL)
    (body : ∀ X : XT, Cx X d cc maxL y.cls mc ms → Tab X hh → Rets X cc maxL mc ms ret post → G X maxL M 0 0 0 (lv_args 0 argv) []) : CtW l D dA y cc maxL ret hh d argv M mc ms post := by
  intro sz
  refine met_ofWH (cc := cc) (maxL := maxL) (ret := ret) (hh := hh) hy rfl ?_
  intro p e s m args below meth c s₁ B hml hv
  obtain ⟨rfl, hsz, hP, hK, hz⟩ := hv
  have hts0 := atoms_spec (ws := Cond.codeWith y cc maxL ret hh :: lwg) B.pre
  have htab := vx_table (x := y) B (hts0 _ List.mem_cons_self)
  subst hsz
  have hlocks := B.notSynchronized
  have hA0 : ∀ q, s.heap.size ≤ q → own M s.heap.size q := fun q h => Or.inr h
  have hC : Cx (p, l, e, (headSpec (Cond.codeWith y cc maxL ret hh :: lwg) (rmd d mc ms)).room, s, m, argv.toArray, below, meth, c, D, dA, own M s.heap.size, MQ below (QcN D dA M s.heap.size post) argv.toArray s mc ms (own M s.heap.size)) d cc maxL y.cls mc ms :=
    ⟨B.exec, B.bytes, hml, findClass_of_methodNamed B.named, fun w hw => hts0 w (List.mem_cons_of_mem _ hw), hK, hz, hA0, ⟨Nat.le_refl _, Nat.le_refl _⟩, ⟨rfl, rfl⟩, hlocks, htr⟩
  have hl := lv_entry argv (n := maxL) hlen
  rw [lg_entry_eq]
  refine body _ hC (fun c0 h0 => by cases h0; exact htab) ⟨?_, ?_, ?_, ?_⟩ s.heap [] _ hP (fun a h => Or.inl h) va_S.rf hl ⟨Nat.zero_le _, Nat.zero_le _⟩
  · intro hr M' k n pc lv hd hp H locs ls hP hA hS hl hk
    exact W.widen hk.1 hk.2 (W.vret B.exec B.bytes (B.returns.trans hr) (fun t ht hW => ⟨none, M', rfl, hp, by rw [ht]; exact hP, hA, hS.F ht⟩) hS.2.2 hd hlocks)
  · intro hr M' k n pc lv x hd hp H locs ls hP hA hS hl hk
    exact W.widen hk.1 hk.2 (W.zret (ty := .int) B.exec B.bytes (B.returns.trans hr) rfl (fun t ht hW => ⟨_, M', rfl, hp, by rw [ht]; exact hP, hA, hS.F ht⟩) hS.2.2 hd hlocks)
  · intro hr M' k n pc lv x hd hp H locs ls hP hA hS hl hk
    exact W.widen hk.1 hk.2 (W.zret (ty := .boolean) B.exec B.bytes (B.returns.trans hr) (by rcases hp.1 with rfl | rfl <;> rfl) (fun t ht hW => ⟨_, M', rfl, hp.2, by rw [ht]; exact hP, hA, hS.F ht⟩) hS.2.2 hd hlocks)
  · intro nm hr M' k n pc lv r hd hp H locs ls hP hA hS hl hk
    exact W.widen hk.1 hk.2 (W.aret (v := va_rf r) B.exec B.bytes (B.returns.trans hr) (Or.inl ⟨nm, rfl⟩) (by cases r with | none => exact Or.inl rfl | some a => exact Or.inr ⟨a, rfl⟩) (fun t ht hW => ⟨_, M', rfl, hp, by rw [ht]; exact hP, hA, hS.F ht⟩) hS.2.2 hd hlocks)
section GW
variable {X : XT} {d d' nL mc ms mc' ms' maxL' idx : Nat} {cc cy : ByteArray} {ow : String} {M : Mem} {k n pc : Nat} {lv : List (Nat × Value)} {st : List Value} {y : MethodName} {ret' : Option FieldType} {post : Mem → Option Value → Prop} {hh : List (Nat × Nat × Nat × Nat)}
theorem g_catch (C : Cx X d cc nL ow mc ms) (hTab : Tab X hh) {E : String} (pre : List (Nat × Nat × Nat × Nat)) (x : Nat × Nat × Nat × Nat) (suf : List (Nat × Nat × Nat × Nat)) (hsplit : hh = pre ++ x :: suf) (hpass : ∀ z ∈ pre, z.2.2.2 ≠ 0 ∧ ∃ nm : String, Cond.classLink ow z.2.2.2 nm ∈ lwg ∧ (E, nm) ∈ xwC) (hcov : covers ⟨x.1, x.2.1, x.2.2.1, x.2.2.2⟩ pc = true) (h0 : x.2.2.2 ≠ 0) (hl : Cond.classLink ow x.2.2.2 E ∈ lwg) (hca : Cond.castable E E ∈ xwN)
    (kk : ∀ q9, G X nL M k n x.2.2.1 lv [.ref q9]) : GX X nL M k n pc lv st E := by
  obtain ⟨p, l, e, R, s, m, args, below, meth, c, D, dA, A, Q⟩ := X
  obtain ⟨hx, hb, hml, hown, hts, hK, hz, hA0, hR, hRc, hlk, htr⟩ := C
  intro H locs ls q ce hP hA hS hl2 hr hce hcv hcl
  refine vx_catch (own := ow) (name := E) hown (tableOf pre) ⟨x.1, x.2.1, x.2.2.1, x.2.2.2⟩ (tableOf suf) ?_ (fun z hz2 => ?_) hcov h0 (hts _ hl) (va_Nw.use rfl (hK.2.1 _ hca)) hce hcv hcl (kk q H locs ls hP hA hS hl2 hr)
  · rw [hTab c rfl, hsplit]
    simp [tableOf]
  · unfold tableOf at hz2
    obtain ⟨w, hw1, hw2⟩ := List.mem_map.mp hz2
    obtain ⟨g1, nm, g2, g3⟩ := hpass w hw1
    subst hw2
    exact Or.inr ⟨g1, nm, hts _ g2, hK.2.2.2.2 _ g3⟩
theorem g_callW (C : Cx X d cc nL ow mc ms) {As : List Value} (hct : ∀ l D dA, l.stackTraces = false → CtW l D dA y cy maxL' ret' hh d' As M mc' ms' post) (hw0 : Cond.codeWith y cy maxL' ret' hh ∈ lwg) (hw1 : Cond.methodLink ow idx y ∈ lwg) (hw2 : Cond.static y ∈ lwg) (hw4 : Cond.initialized y.cls ∈ lwg) (hy : plainY y As.length) (hd : decode cc pc = .ok (.invokestatic idx, 3)) (hdd : d' + 1 ≤ d ∧ maxL' ≤ 17) (hst : (st.map fun v => v.category).sum ≤ 8) (hk : (mc' = 0 ∧ ms' = 0) ∨ (k + mc' ≤ mc ∧ n + ms' ≤ ms))
    (kk : ∀ M' v, post M' v → G X nL M' (k + mc') (n + ms') (pc + 3) lv (v.toList ++ st)) : G X nL M k n pc lv (As.reverse ++ st) := by
  obtain ⟨p, l, e, R, s, m, args, below, meth, c, D, dA, A, Q⟩ := X
  obtain ⟨hx, hb, hml, hown, hts, hK, hz, hA0, hR, hRc, hlk, htr⟩ := C
  intro H locs ls hP hA hS hl hr
  have hkR : k + mc' ≤ R.cells ∧ n + ms' ≤ R.slots := hkz hk hRc hr
  have hG : GoodIn lwg (va_wsS ow idx y (Cond.codeWith y cy maxL' ret' hh :: lwg)) := by
    intro w hw
    rcases List.mem_append.mp hw with h | h
    · rcases List.mem_cons.mp h with h | h
      · rw [h]; exact ⟨hw1, wt_good _ hw1⟩
      · rcases List.mem_cons.mp h with h | h
        · rw [h]; exact ⟨hw2, wt_good _ hw2⟩
        · rcases List.mem_cons.mp h with h | h
          · rw [h]; exact ⟨hw4, wt_good _ hw4⟩
          · cases h
    · rcases List.mem_cons.mp h with h | h
      · rw [h]; exact ⟨hw0, wt_good _ hw0⟩
      · exact ⟨h, wt_good _ h⟩
  exact g_after hA hA0 hS hl hkR (vx_runSW (hh := hh) (ws := Cond.codeWith y cy maxL' ret' hh :: lwg) ⟨hx, hb, hml, hown, hts⟩ (hct l D dA htr H.size) (vx_cwSW As.length hts hG rfl rfl rfl hy ⟨by show d' + 1 ≤ _; omega, by show 8 + (maxL' + 11) + 36 * d' ≤ _; omega⟩) ⟨pre_blind, fun U hU hW => ⟨rfl, pre_at hP hA hA0 hS hK hz hU hW⟩⟩ rfl rfl hl.1 rfl (lv_room hst) hd hkR) kk
/-- the law's script: L ints xs at b, not among its own cells -/
def Scr (X : XT) (b L : Nat) (xs : Nat → Int32) : Prop := match X with
  | (p, l, e, R, s, m, args, below, meth, c, D, dA, A, Q) => va_X b L xs s s.heap ∧ b < s.heap.size ∧ ¬ A b
theorem g_sld (C : Cx X d cc nL ow mc ms) {b L : Nat} {xs : Nat → Int32} (hX : Scr X b L xs) {i : Int32} (hd : decode cc pc = .ok (.iaload, 1)) (hi : vp_in i L) (kk : G X nL M k n (pc + 1) lv (.int (xs i.toNatClampNeg) :: st)) : G X nL M k n pc lv (.int i :: .ref b :: st) := by
  obtain ⟨p, l, e, R, s, m, args, below, meth, c, D, dA, A, Q⟩ := X
  obtain ⟨hx, hb, -⟩ := C
  obtain ⟨h1, h2, h3⟩ := hX
  intro H locs ls hP hA hS hl hr
  exact va_sld hx hb h1 h2 h3 hS hi hd (kk H locs ls hP hA hS hl hr)
theorem g_slen (C : Cx X d cc nL ow mc ms) {b L : Nat} {xs : Nat → Int32} (hX : Scr X b L xs) (hd : decode cc pc = .ok (.arraylength, 1)) (kk : G X nL M k n (pc + 1) lv (.int (nI L) :: st)) : G X nL M k n pc lv (.ref b :: st) := by
  obtain ⟨p, l, e, R, s, m, args, below, meth, c, D, dA, A, Q⟩ := X
  obtain ⟨hx, hb, -⟩ := C
  obtain ⟨h1, h2, h3⟩ := hX
  intro H locs ls hP hA hS hl hr
  exact va_slen hx hb h1 h2 h3 hS hd (kk H locs ls hP hA hS hl hr)
end GW
