/-! CONTRACTS over the memory, and calls -/
def rmd (d mc ms : Nat) : Room := { frames := d, cells := mc, slots := ms, locals := 36 * d }
def Pre (D : va_G) (dA : Nat → ClassId) (M : Mem) (sz : Nat) (U : State) : Prop := U.heap.size = sz ∧ pic D dA M U.heap ∧ kx D dA U ∧ zx (own M sz) U U.heap
def QcN (D : va_G) (dA : Nat → ClassId) (M : Mem) (sz : Nat) (post : Mem → Option Value → Prop) : Array Value → State → Outcome → State → Prop := fun _ st o t => ∃ (v : Option Value) (M' : Mem), o = .returned v ∧ post M' v ∧ pic D dA M' t.heap ∧ (∀ q, gT M' q ≠ none → own M sz q) ∧ va_F (own M sz) st t
def XcN (D : va_G) (dA : Nat → ClassId) (M : Mem) (sz : Nat) (xp : String → Mem → Prop) : String → State → State → Prop := fun E st t => ∃ M' : Mem, xp E M' ∧ pic D dA M' t.heap ∧ (∀ q, gT M' q ≠ none → own M sz q) ∧ va_F (own M sz) st t
/-- a method that returns: from the memory M, with the arguments argv, in at most mc new cells of ms slots, it returns with post -/
def CtN (l : Launch) (D : va_G) (dA : Nat → ClassId) (y : MethodName) (cc : ByteArray) (maxL : Nat) (ret : Option FieldType) (d : Nat) (argv : List Value) (M : Mem) (mc ms : Nat) (post : Mem → Option Value → Prop) : Prop :=
  ∀ sz : Nat, Met l y (Cond.code y cc maxL ret :: lwg) (rmd d mc ms) (va_Pc argv (Pre D dA M sz)) (QcN D dA M sz post) mc ms (own M sz)
/-- .. or throws, with xp -/
def CtX (l : Launch) (D : va_G) (dA : Nat → ClassId) (y : MethodName) (cc : ByteArray) (maxL : Nat) (ret : Option FieldType) (d : Nat) (argv : List Value) (M : Mem) (mc ms : Nat) (xp : String → Mem → Prop) (post : Mem → Option Value → Prop) : Prop :=
  ∀ sz : Nat, vx_Met l y (Cond.code y cc maxL ret :: lwg) (rmd d mc ms) (va_Pc argv (Pre D dA M sz)) (QcN D dA M sz post) (XcN D dA M sz xp) mc ms (own M sz)
theorem zx_kept {A : Nat → Prop} {s : State} {H : Heap} {locs : List Loc} (h : zx A s s.heap) (hS : va_S A s.heap H locs) : zx A s H := ⟨h.1.kept hS.2.1, h.2.kept hS.2.1⟩
theorem zx_narrow {A B : Nat → Prop} {s : State} {H : Heap} (h : zx A s H) (hAB : ∀ q, B q → A q) : zx B s H := ⟨h.1.narrow hAB, h.2.narrow hAB⟩
theorem zx_moved {A : Nat → Prop} {u U : State} {H : Heap} (hvm : u.vm.Alike U.vm) (h : zx A u H) : zx A U H := ⟨h.1.moved hvm, h.2.moved hvm⟩
theorem pre_blind {D : va_G} {dA : Nat → ClassId} {M : Mem} {sz : Nat} {argv : List Value} : FrameBlind (va_Pc argv (Pre D dA M sz)) := by
  intro a U g mk q
  obtain ⟨q0, q1, q2, q3, q4⟩ := q
  exact ⟨q0, q1, q2, kx_warm (s := U) (U := U.calling g mk a) (State.WarmedH.refl U) q3, zx_moved (u := U) (U := U.calling g mk a) (Vm.Alike.refl U.vm) q4⟩
theorem own_in {M : Mem} {A : Nat → Prop} {s : State} {H : Heap} {locs : List Loc} (hA : ∀ a, gT M a ≠ none → A a) (hA0 : ∀ q, s.heap.size ≤ q → A q) (hS : va_S A s.heap H locs) : ∀ q, own M H.size q → A q := by
  intro q hq
  rcases hq with h | h
  · exact hA q h
  · exact hA0 q (Nat.le_trans hS.1 h)
theorem pre_at {D : va_G} {dA : Nat → ClassId} {M : Mem} {A : Nat → Prop} {s U : State} {H : Heap} {locs : List Loc} (hP : pic D dA M H) (hA : ∀ a, gT M a ≠ none → A a) (hA0 : ∀ q, s.heap.size ≤ q → A q) (hS : va_S A s.heap H locs) (hK : kx D dA s) (hz : zx A s s.heap) (hU : U.heap = H) (hW : s.WarmedH U.vm) : Pre D dA M H.size U := by
  refine ⟨by rw [hU], by rw [hU]; exact hP, kx_warm hW hK, ?_⟩
  rw [hU]
  exact zx_moved hW.alike (zx_narrow (zx_kept hz hS) (own_in hA hA0 hS))
section GC
variable {X : XT} {d d' nL mc ms mc' ms' maxL' idx : Nat} {cc cy : ByteArray} {ow : String} {M : Mem} {k n pc : Nat} {lv : List (Nat × Value)} {st : List Value} {y : MethodName} {ret' : Option FieldType} {post : Mem → Option Value → Prop} {xp : String → Mem → Prop}
/-- behind a call that returns -/
theorem g_after {p : Program} {l : Launch} {e : Env} {R : Room} {s : State} {m : MethodId} {args : Array Value} {below : List Frame} {meth : Method} {c : Code} {D : va_G} {dA : Nat → ClassId} {A : Nat → Prop} {Q : State → Prop} {H : Heap} {locs : List Loc} {ls : Array Slot} {st0 rest : List Value} {a : Array Value}
    (hA : ∀ a, gT M a ≠ none → A a) (hA0 : ∀ q, s.heap.size ≤ q → A q) (hS : va_S A s.heap H locs) (hl : lv_has ls nL lv) (hk : k + mc' ≤ R.cells ∧ n + ms' ≤ R.slots)
    (hr : va_Run p l e R s m args below meth c H locs k n mc' ms' (F0 m pc ls st0) rest (QcN D dA M H.size post a) (own M H.size))
    (kk : ∀ M' v, post M' v → G (p, l, e, R, s, m, args, below, meth, c, D, dA, A, Q) nL M' (k + mc') (n + ms') (pc + 3) lv (v.toList ++ rest)) : W p l e R s m args below meth c H locs k n Q (F0 m pc ls st0) := by
  intro T hT X0
  obtain ⟨v, st₀, t, T', L, h0, X', hL, e1, e2, ⟨v', M', hv, hp, hpic, how, hF⟩, hst⟩ := hr T hT X0
  cases hv
  have ho := own_in hA hA0 hS
  obtain ⟨hz, hkp⟩ := hF
  rw [h0] at hz hkp
  obtain ⟨t2, a1, b1⟩ := kk M' v hp T'.heap (locs ++ L) ls (by rw [e1]; exact hpic) (fun q hq => ho q (how q hq)) ⟨Nat.le_trans hS.1 (by rw [e1]; exact hz), fun q h1 h2 => by rw [e1, hkp q (Nat.lt_of_lt_of_le h1 hS.1) (fun z => h2 (ho q z))]; exact hS.2.1 q h1 h2, fun q hq => by
    rcases List.mem_append.mp hq with h | h
    · exact hS.2.2 q h
    · exact ho _ (hL q h)⟩ hl hk T' rfl X'
  exact ⟨t2, hst t2 a1, b1⟩
/-- behind a call that returns or throws -/
theorem gx_after {p : Program} {l : Launch} {e : Env} {R : Room} {s : State} {m : MethodId} {args : Array Value} {below : List Frame} {meth : Method} {c : Code} {D : va_G} {dA : Nat → ClassId} {A : Nat → Prop} {Q : State → Prop} {H : Heap} {locs : List Loc} {ls : Array Slot} {st0 rest : List Value} {a : Array Value}
    (hA : ∀ a, gT M a ≠ none → A a) (hA0 : ∀ q, s.heap.size ≤ q → A q) (hS : va_S A s.heap H locs) (hl : lv_has ls nL lv) (hk : k + mc' ≤ R.cells ∧ n + ms' ≤ R.slots)
    (hr : vx_Run p l e R s m args below meth c H locs k n mc' ms' (F0 m pc ls st0) rest (QcN D dA M H.size post a) (XcN D dA M H.size xp) (own M H.size))
    (kx9 : ∀ M' E, xp E M' → GX (p, l, e, R, s, m, args, below, meth, c, D, dA, A, Q) nL M' (k + mc') (n + ms') pc lv rest E)
    (kk : ∀ M' v, post M' v → G (p, l, e, R, s, m, args, below, meth, c, D, dA, A, Q) nL M' (k + mc') (n + ms') (pc + 3) lv (v.toList ++ rest)) : W p l e R s m args below meth c H locs k n Q (F0 m pc ls st0) := by
  intro T hT X0
  have ho := own_in hA hA0 hS
  rcases hr T hT X0 with ⟨v, st₀, t, T', L, h0, X', hL, e1, e2, ⟨v', M', hv, hp, hpic, how, hF⟩, hst⟩ | ⟨q, st₀, t, T', L, E, ce, h0, X', hL, e1, e2, ⟨M', hp, hpic, how, hF⟩, hce, hcv, hcl, hst⟩
  · cases hv
    obtain ⟨hz, hkp⟩ := hF
    rw [h0] at hz hkp
    obtain ⟨t2, a1, b1⟩ := kk M' v hp T'.heap (locs ++ L) ls (by rw [e1]; exact hpic) (fun q hq => ho q (how q hq)) ⟨Nat.le_trans hS.1 (by rw [e1]; exact hz), fun q h1 h2 => by rw [e1, hkp q (Nat.lt_of_lt_of_le h1 hS.1) (fun z => h2 (ho q z))]; exact hS.2.1 q h1 h2, fun q hq => by
      rcases List.mem_append.mp hq with h | h
      · exact hS.2.2 q h
      · exact ho _ (hL q h)⟩ hl hk T' rfl X'
    exact ⟨t2, hst t2 a1, b1⟩
  · obtain ⟨hz, hkp⟩ := hF
    rw [h0] at hz hkp
    obtain ⟨t2, a1, b1⟩ := kx9 M' E hp T'.heap (locs ++ L) ls q ce (by rw [e1]; exact hpic) (fun q hq => ho q (how q hq)) ⟨Nat.le_trans hS.1 (by rw [e1]; exact hz), fun q h1 h2 => by rw [e1, hkp q (Nat.lt_of_lt_of_le h1 hS.1) (fun z => h2 (ho q z))]; exact hS.2.1 q h1 h2, fun q hq => by
      rcases List.mem_append.mp hq with h | h
      · exact hS.2.2 q h
      · exact ho _ (hL q h)⟩ hl hk (by rw [e1]; exact hce) hcv hcl T' rfl X'
    exact ⟨t2, hst.trans a1, b1⟩
theorem hkz {R : Room} {k n mc ms mc' ms' : Nat} (hk : (mc' = 0 ∧ ms' = 0) ∨ (k + mc' ≤ mc ∧ n + ms' ≤ ms)) (hRc : R.cells = mc ∧ R.slots = ms) (hr : k ≤ R.cells ∧ n ≤ R.slots) : k + mc' ≤ R.cells ∧ n + ms' ≤ R.slots := by
  rw [hRc.1, hRc.2] at hr ⊢
  rcases hk with ⟨rfl, rfl⟩ | h
  · exact hr
  · exact h
abbrev plainY (y : MethodName) (a : Nat) : Prop := y.cls ≠ "java/lang/invoke/MethodHandle" ∧ y.cls ≠ "java/lang/invoke/VarHandle" ∧ (parseMethodDescriptor y.desc).map (fun d => d.parameters.length) = some a
theorem g_recv {D : va_G} {dA : Nat → ClassId} {s : State} {H : Heap} {ci a N : Nat} {CN : String} {T : u_T} (hK : kx D dA s) (hP : pic D dA M H) (hc : vwCl[ci]? = some (CN, T, N)) (hc7 : ci < 7) (hT : gT M a = some (ci, 0)) : ∃ cell : Cell, H[a]? = some cell ∧ cell.vm.isStatics = false ∧ s.vm.findClass CN = some cell.cls := by
  have h1 := hP a ci 0 hT
  unfold pcell at h1
  rw [if_pos hc7] at h1
  obtain ⟨cell, q1, q2, q3, -⟩ := h1
  exact ⟨cell, q1, by rw [q3]; rfl, by rw [q2]; exact (hK.1.1 ci _ hc).2.1⟩
theorem g_callV (C : Cx X d cc nL ow mc ms) {a ci N : Nat} {CN : String} {T : u_T} {As : List Value} (hct : ∀ l D dA, l.stackTraces = false → CtN l D dA y cy maxL' ret' d' (.ref a :: As) M mc' ms' post) (hw0 : Cond.code y cy maxL' ret' ∈ lwg) (hw1 : Cond.methodLink ow idx y ∈ lwg) (hw2 : Cond.instanceMethod y ∈ lwg) (hw3 : Cond.selects CN y y ∈ lwg) (hw4 : Cond.initialized y.cls ∈ lwg) (hy : plainY y As.length) (hc : vwCl[ci]? = some (CN, T, N)) (hc7 : ci < 7) (hd : decode cc pc = .ok (.invokevirtual idx, 3)) (hdd : d' + 1 ≤ d ∧ maxL' ≤ 17) (hst : (st.map fun v => v.category).sum ≤ 8) (hT : gT M a = some (ci, 0)) (hk : (mc' = 0 ∧ ms' = 0) ∨ (k + mc' ≤ mc ∧ n + ms' ≤ ms))
    (kk : ∀ M' v, post M' v → G X nL M' (k + mc') (n + ms') (pc + 3) lv (v.toList ++ st)) : G X nL M k n pc lv (As.reverse ++ .ref a :: st) := by
  obtain ⟨p, l, e, R, s, m, args, below, meth, c, D, dA, A, Q⟩ := X
  obtain ⟨hx, hb, hml, hown, hts, hK, hz, hA0, hR, hRc, hlk, htr⟩ := C
  intro H locs ls hP hA hS hl hr
  have hkR : k + mc' ≤ R.cells ∧ n + ms' ≤ R.slots := hkz hk hRc hr
  have hcw : CallW R s args ow CN idx y cy maxL' ret' (Cond.code y cy maxL' ret' :: lwg) (rmd d' mc' ms') mc' ms' As.length := ⟨callB_of As.length hts (wt_inL y cy maxL' ret' hw0) rfl rfl rfl (hts _ hw4) (hts _ hw1) hy ⟨by show d' + 1 ≤ _; omega, by show 8 + (maxL' + 11) + 36 * d' ≤ _; omega⟩, hts _ hw2, hts _ hw3⟩
  exact g_after hA hA0 hS hl hkR (va_runV ⟨hx, hb, hml, hown, hts⟩ (hct l D dA htr H.size) hcw ⟨pre_blind, g_recv hK hP hc hc7 hT, fun U hU hW => ⟨rfl, pre_at hP hA hA0 hS hK hz hU hW⟩⟩ rfl rfl hl.1 rfl (lv_room hst) hd hkR) kk
theorem g_callS (C : Cx X d cc nL ow mc ms) {As : List Value} (hct : ∀ l D dA, l.stackTraces = false → CtN l D dA y cy maxL' ret' d' As M mc' ms' post) (hw0 : Cond.code y cy maxL' ret' ∈ lwg) (hw1 : Cond.methodLink ow idx y ∈ lwg) (hw2 : Cond.static y ∈ lwg) (hw4 : Cond.initialized y.cls ∈ lwg) (hy : plainY y As.length) (hd : decode cc pc = .ok (.invokestatic idx, 3)) (hdd : d' + 1 ≤ d ∧ maxL' ≤ 17) (hst : (st.map fun v => v.category).sum ≤ 8) (hk : (mc' = 0 ∧ ms' = 0) ∨ (k + mc' ≤ mc ∧ n + ms' ≤ ms))
    (kk : ∀ M' v, post M' v → G X nL M' (k + mc') (n + ms') (pc + 3) lv (v.toList ++ st)) : G X nL M k n pc lv (As.reverse ++ st) := by
  obtain ⟨p, l, e, R, s, m, args, below, meth, c, D, dA, A, Q⟩ := X
  obtain ⟨hx, hb, hml, hown, hts, hK, hz, hA0, hR, hRc, hlk, htr⟩ := C
  intro H locs ls hP hA hS hl hr
  have hkR : k + mc' ≤ R.cells ∧ n + ms' ≤ R.slots := hkz hk hRc hr
  exact g_after hA hA0 hS hl hkR (va_runS ⟨hx, hb, hml, hown, hts⟩ (hct l D dA htr H.size) ⟨callB_of As.length hts (wt_inL y cy maxL' ret' hw0) rfl rfl rfl (hts _ hw4) (hts _ hw1) hy ⟨by show d' + 1 ≤ _; omega, by show 8 + (maxL' + 11) + 36 * d' ≤ _; omega⟩, hts _ hw2⟩ ⟨pre_blind, fun U hU hW => ⟨rfl, pre_at hP hA hA0 hS hK hz hU hW⟩⟩ rfl rfl hl.1 rfl (lv_room hst) hd hkR) kk
theorem g_callSN (C : Cx X d cc nL ow mc ms) {As : List Value} (hct : ∀ l D dA, l.stackTraces = false → CtN l D dA y cy maxL' ret' d' As M mc' ms' post) (hw0 : Cond.code y cy maxL' ret' ∈ lwg) (hw1 : Cond.methodLinkNest ow idx y "ChatRelay" ∈ xwN) (hw2 : Cond.static y ∈ lwg) (hw4 : Cond.initialized y.cls ∈ lwg) (hy : plainY y As.length) (hd : decode cc pc = .ok (.invokestatic idx, 3)) (hdd : d' + 1 ≤ d ∧ maxL' ≤ 17) (hst : (st.map fun v => v.category).sum ≤ 8) (hk : (mc' = 0 ∧ ms' = 0) ∨ (k + mc' ≤ mc ∧ n + ms' ≤ ms))
    (kk : ∀ M' v, post M' v → G X nL M' (k + mc') (n + ms') (pc + 3) lv (v.toList ++ st)) : G X nL M k n pc lv (As.reverse ++ st) := by
  obtain ⟨p, l, e, R, s, m, args, below, meth, c, D, dA, A, Q⟩ := X
  obtain ⟨hx, hb, hml, hown, hts, hK, hz, hA0, hR, hRc, hlk, htr⟩ := C
  intro H locs ls hP hA hS hl hr
  have hkR : k + mc' ≤ R.cells ∧ n + ms' ≤ R.slots := hkz hk hRc hr
  exact g_after hA hA0 hS hl hkR (va_runSN ⟨hx, hb, hml, hown, hts⟩ (hct l D dA htr H.size) ⟨va_cnB As.length hts (wt_inL y cy maxL' ret' hw0) rfl rfl rfl (hK.2.1 _ hw1) (hts _ hw4) hy ⟨by show d' + 1 ≤ _; omega, by show 8 + (maxL' + 11) + 36 * d' ≤ _; omega⟩, hts _ hw2, trivial⟩ ⟨pre_blind, fun U hU hW => ⟨rfl, pre_at hP hA hA0 hS hK hz hU hW⟩⟩ rfl rfl hl.1 rfl (lv_room hst) hd hkR) kk
theorem g_callI (C : Cx X d cc nL ow mc ms) {a : Nat} {As : List Value} (hct : ∀ l D dA, l.stackTraces = false → CtN l D dA y cy maxL' none d' (.ref a :: As) M mc' ms' post) (hy1 : y.name = "<init>") (hw0 : Cond.code y cy maxL' none ∈ lwg) (hw1 : Cond.methodLink ow idx y ∈ lwg) (hw2 : Cond.instanceMethod y ∈ lwg) (hw4 : Cond.initialized y.cls ∈ lwg) (hy : plainY y As.length) (hd : decode cc pc = .ok (.invokespecial idx, 3)) (hdd : d' + 1 ≤ d ∧ maxL' ≤ 17) (hst : (st.map fun v => v.category).sum ≤ 8) (hk : (mc' = 0 ∧ ms' = 0) ∨ (k + mc' ≤ mc ∧ n + ms' ≤ ms))
    (kk : ∀ M' v, post M' v → G X nL M' (k + mc') (n + ms') (pc + 3) lv (v.toList ++ st)) : G X nL M k n pc lv (As.reverse ++ .ref a :: st) := by
  obtain ⟨p, l, e, R, s, m, args, below, meth, c, D, dA, A, Q⟩ := X
  obtain ⟨hx, hb, hml, hown, hts, hK, hz, hA0, hR, hRc, hlk, htr⟩ := C
  intro H locs ls hP hA hS hl hr
  have hkR : k + mc' ≤ R.cells ∧ n + ms' ≤ R.slots := hkz hk hRc hr
  exact g_after hA hA0 hS hl hkR (va_runI ⟨hx, hb, hml, hown, hts⟩ (hct l D dA htr H.size) (cwI As.length hts (wt_inL y cy maxL' none hw0) rfl rfl rfl (hts _ hw4) (hts _ hw1) (hts _ hw2) hy1 hy ⟨by show d' + 1 ≤ _; omega, by show 8 + (maxL' + 11) + 36 * d' ≤ _; omega⟩) ⟨pre_blind, fun U hU hW => ⟨rfl, pre_at hP hA hA0 hS hK hz hU hW⟩⟩ rfl rfl hl.1 rfl (lv_room hst) hd hkR) kk
theorem g_callIN (C : Cx X d cc nL ow mc ms) {a : Nat} {As : List Value} (hct : ∀ l D dA, l.stackTraces = false → CtN l D dA y cy maxL' none d' (.ref a :: As) M mc' ms' post) (hy1 : y.name = "<init>") (hw0 : Cond.code y cy maxL' none ∈ lwg) (hw1 : Cond.methodLinkNest ow idx y "ChatRelay" ∈ xwN) (hw2 : Cond.instanceMethod y ∈ lwg) (hw4 : Cond.initialized y.cls ∈ lwg) (hy : plainY y As.length) (hd : decode cc pc = .ok (.invokespecial idx, 3)) (hdd : d' + 1 ≤ d ∧ maxL' ≤ 17) (hst : (st.map fun v => v.category).sum ≤ 8) (hk : (mc' = 0 ∧ ms' = 0) ∨ (k + mc' ≤ mc ∧ n + ms' ≤ ms))
    (kk : ∀ M' v, post M' v → G X nL M' (k + mc') (n + ms') (pc + 3) lv (v.toList ++ st)) : G X nL M k n pc lv (As.reverse ++ .ref a :: st) := by
  obtain ⟨p, l, e, R, s, m, args, below, meth, c, D, dA, A, Q⟩ := X
  obtain ⟨hx, hb, hml, hown, hts, hK, hz, hA0, hR, hRc, hlk, htr⟩ := C
  intro H locs ls hP hA hS hl hr
  have hkR : k + mc' ≤ R.cells ∧ n + ms' ≤ R.slots := hkz hk hRc hr
  exact g_after hA hA0 hS hl hkR (va_runIN ⟨hx, hb, hml, hown, hts⟩ (hct l D dA htr H.size) ⟨va_cnB As.length hts (wt_inL y cy maxL' none hw0) rfl rfl rfl (hK.2.1 _ hw1) (hts _ hw4) hy ⟨by show d' + 1 ≤ _; omega, by show 8 + (maxL' + 11) + 36 * d' ≤ _; omega⟩, hy1, hts _ hw2⟩ ⟨pre_blind, fun U hU hW => ⟨rfl, pre_at hP hA hA0 hS hK hz hU hW⟩⟩ rfl rfl hl.1 rfl (lv_room hst) hd hkR) kk
theorem gx_callV (C : Cx X d cc nL ow mc ms) {a ci N : Nat} {CN : String} {T : u_T} {As : List Value} (hct : ∀ l D dA, l.stackTraces = false → CtX l D dA y cy maxL' ret' d' (.ref a :: As) M mc' ms' xp post) (hw0 : Cond.code y cy maxL' ret' ∈ lwg) (hw1 : Cond.methodLink ow idx y ∈ lwg) (hw2 : Cond.instanceMethod y ∈ lwg) (hw3 : Cond.selects CN y y ∈ lwg) (hw4 : Cond.initialized y.cls ∈ lwg) (hy : plainY y As.length) (hc : vwCl[ci]? = some (CN, T, N)) (hc7 : ci < 7) (hd : decode cc pc = .ok (.invokevirtual idx, 3)) (hdd : d' + 1 ≤ d ∧ maxL' ≤ 17) (hst : (st.map fun v => v.category).sum ≤ 8) (hT : gT M a = some (ci, 0)) (hk : (mc' = 0 ∧ ms' = 0) ∨ (k + mc' ≤ mc ∧ n + ms' ≤ ms))
    (kx9 : ∀ M' E, xp E M' → GX X nL M' (k + mc') (n + ms') pc lv st E)
    (kk : ∀ M' v, post M' v → G X nL M' (k + mc') (n + ms') (pc + 3) lv (v.toList ++ st)) : G X nL M k n pc lv (As.reverse ++ .ref a :: st) := by
  obtain ⟨p, l, e, R, s, m, args, below, meth, c, D, dA, A, Q⟩ := X
  obtain ⟨hx, hb, hml, hown, hts, hK, hz, hA0, hR, hRc, hlk, htr⟩ := C
  intro H locs ls hP hA hS hl hr
  have hkR : k + mc' ≤ R.cells ∧ n + ms' ≤ R.slots := hkz hk hRc hr
  have hcw : CallW R s args ow CN idx y cy maxL' ret' (Cond.code y cy maxL' ret' :: lwg) (rmd d' mc' ms') mc' ms' As.length := ⟨callB_of As.length hts (wt_inL y cy maxL' ret' hw0) rfl rfl rfl (hts _ hw4) (hts _ hw1) hy ⟨by show d' + 1 ≤ _; omega, by show 8 + (maxL' + 11) + 36 * d' ≤ _; omega⟩, hts _ hw2, hts _ hw3⟩
  exact gx_after hA hA0 hS hl hkR (vx_runV ⟨hx, hb, hml, hown, hts⟩ (hct l D dA htr H.size) hcw ⟨pre_blind, g_recv hK hP hc hc7 hT, fun U hU hW => ⟨rfl, pre_at hP hA hA0 hS hK hz hU hW⟩⟩ rfl rfl hl.1 rfl (lv_room hst) hd hkR) kx9 kk
theorem gx_callS (C : Cx X d cc nL ow mc ms) {As : List Value} (hct : ∀ l D dA, l.stackTraces = false → CtX l D dA y cy maxL' ret' d' As M mc' ms' xp post) (hw0 : Cond.code y cy maxL' ret' ∈ lwg) (hw1 : Cond.methodLink ow idx y ∈ lwg) (hw2 : Cond.static y ∈ lwg) (hw4 : Cond.initialized y.cls ∈ lwg) (hy : plainY y As.length) (hd : decode cc pc = .ok (.invokestatic idx, 3)) (hdd : d' + 1 ≤ d ∧ maxL' ≤ 17) (hst : (st.map fun v => v.category).sum ≤ 8) (hk : (mc' = 0 ∧ ms' = 0) ∨ (k + mc' ≤ mc ∧ n + ms' ≤ ms))
    (kx9 : ∀ M' E, xp E M' → GX X nL M' (k + mc') (n + ms') pc lv st E)
    (kk : ∀ M' v, post M' v → G X nL M' (k + mc') (n + ms') (pc + 3) lv (v.toList ++ st)) : G X nL M k n pc lv (As.reverse ++ st) := by
  obtain ⟨p, l, e, R, s, m, args, below, meth, c, D, dA, A, Q⟩ := X
  obtain ⟨hx, hb, hml, hown, hts, hK, hz, hA0, hR, hRc, hlk, htr⟩ := C
  intro H locs ls hP hA hS hl hr
  have hkR : k + mc' ≤ R.cells ∧ n + ms' ≤ R.slots := hkz hk hRc hr
  exact gx_after hA hA0 hS hl hkR (vx_runS ⟨hx, hb, hml, hown, hts⟩ (hct l D dA htr H.size) ⟨callB_of As.length hts (wt_inL y cy maxL' ret' hw0) rfl rfl rfl (hts _ hw4) (hts _ hw1) hy ⟨by show d' + 1 ≤ _; omega, by show 8 + (maxL' + 11) + 36 * d' ≤ _; omega⟩, hts _ hw2⟩ ⟨pre_blind, fun U hU hW => ⟨rfl, pre_at hP hA hA0 hS hK hz hU hW⟩⟩ rfl rfl hl.1 rfl (lv_room hst) hd hkR) kx9 kk
theorem g_min (C : Cx X (d + 1) cc nL ow mc ms) {x z : Int32} (hw1 : Cond.methodLink ow idx Lib.Math.min.name ∈ lwg) (hw2 : Cond.static Lib.Math.min.name ∈ lwg) (hw3 : Cond.initialized "java/lang/Math" ∈ lwg) (hw0 : Cond.code Lib.Math.min.name Lib.Math.min.code 2 (some .int) ∈ lwg) (hd : decode cc pc = .ok (.invokestatic idx, 3)) (hst : (st.map fun v => v.category).sum ≤ 8) (kk : G X nL M k n (pc + 3) lv (.int (if z < x then z else x) :: st)) : G X nL M k n pc lv (.int z :: .int x :: st) := by
  obtain ⟨p, l, e, R, s, m, args, below, meth, c, D, dA, A, Q⟩ := X
  obtain ⟨hx, hb, hml, hown, hts, hK, hz, hA0, hR, hRc, hlk, htr⟩ := C
  intro H locs ls hP hA hS hl hr
  exact va_mmin hx hb (by rw [hml]; exact hl.1.symm) hown (hts _ hw1) (hts _ hw2) (hts _ hw3) (hts _ hw0) (by omega) (by omega) hr.1 hr.2 hd (kk H locs ls hP hA hS hl hr)
end GC
/-! a body's ends -/
def Rets (X : XT) (cc : ByteArray) (nL mc ms : Nat) (ret : Option FieldType) (post : Mem → Option Value → Prop) : Prop :=
  (ret = none → ∀ (M : Mem) (k n pc : Nat) (lv : List (Nat × Value)), decode cc pc = .ok (.return_, 1) → post M none → G X nL M k n pc lv []) ∧
  (ret = some .int → ∀ (M : Mem) (k n pc : Nat) (lv : List (Nat × Value)) (x : Int32), decode cc pc = .ok (.ireturn, 1) → post M (some (.int x)) → G X nL M k n pc lv [.int x]) ∧
  (ret = some .boolean → ∀ (M : Mem) (k n pc : Nat) (lv : List (Nat × Value)) (x : Int32), decode cc pc = .ok (.ireturn, 1) → (x = 0 ∨ x = 1) ∧ post M (some (.int x)) → G X nL M k n pc lv [.int x]) ∧
  (∀ nm, ret = some (.object nm) → ∀ (M : Mem) (k n pc : Nat) (lv : List (Nat × Value)) (r : Option Nat), decode cc pc = .ok (.areturn, 1) → post M (some (va_rf r)) → G X nL M k n pc lv [va_rf r])
def Named (X : XT) (nm : String) : Prop := ∀ m0 : Method, X.2.2.2.2.2.2.2.2.1 = m0 → m0.name = nm
theorem ct_ofN {l : Launch} {D : va_G} {dA : Nat → ClassId} {y : MethodName} {cc : ByteArray} {maxL : Nat} {ret : Option FieldType} {d : Nat} {argv : List Value} {M : Mem} {mc ms : Nat} {post : Mem → Option Value → Prop} (htr : l.stackTraces = false) (hy : plainName y.cls = true) (hlen : (lg_sl argv).length ≤ maxL)
    (body : ∀ X : XT, Cx X d cc maxL y.cls mc ms → Named X y.name → Rets X cc maxL mc ms ret post → G X maxL M 0 0 0 (lv_args 0 argv) []) : CtN l D dA y cc maxL ret d argv M mc ms post := by
  intro sz
  refine Met.ofW (cc := cc) (maxL := maxL) (ret := ret) hy rfl ?_
  intro p e s m args below meth c s₁ B hml hv
  obtain ⟨rfl, hsz, hP, hK, hz⟩ := hv
  have hts0 := atoms_spec (ws := Cond.code y cc maxL ret :: lwg) B.pre
  subst hsz
  have hlocks := B.notSynchronized
  have hA0 : ∀ q, s.heap.size ≤ q → own M s.heap.size q := fun q h => Or.inr h
  have hC : Cx (p, l, e, (headSpec (Cond.code y cc maxL ret :: lwg) (rmd d mc ms)).room, s, m, argv.toArray, below, meth, c, D, dA, own M s.heap.size, MQ below (QcN D dA M s.heap.size post) argv.toArray s mc ms (own M s.heap.size)) d cc maxL y.cls mc ms :=
    ⟨B.exec, B.bytes, hml, findClass_of_methodNamed B.named, fun w hw => hts0 w (List.mem_cons_of_mem _ hw), hK, hz, hA0, ⟨Nat.le_refl _, Nat.le_refl _⟩, ⟨rfl, rfl⟩, hlocks, htr⟩
  have hl := lv_entry argv (n := maxL) hlen
  rw [lg_entry_eq]
  refine body _ hC (fun m0 h0 => by cases h0; exact (name_of_methodNamed B.named B.method).1) ⟨?_, ?_, ?_, ?_⟩ s.heap [] _ hP (fun a h => Or.inl h) va_S.rf hl ⟨Nat.zero_le _, Nat.zero_le _⟩
  · intro hr M' k n pc lv hd hp H locs ls hP hA hS hl hk
    exact W.widen hk.1 hk.2 (W.vret B.exec B.bytes (B.returns.trans hr) (fun t ht hW => ⟨none, M', rfl, hp, by rw [ht]; exact hP, hA, hS.F ht⟩) hS.2.2 hd hlocks)
  · intro hr M' k n pc lv x hd hp H locs ls hP hA hS hl hk
    exact W.widen hk.1 hk.2 (W.zret (ty := .int) B.exec B.bytes (B.returns.trans hr) rfl (fun t ht hW => ⟨_, M', rfl, hp, by rw [ht]; exact hP, hA, hS.F ht⟩) hS.2.2 hd hlocks)
  · intro hr M' k n pc lv x hd hp H locs ls hP hA hS hl hk
    exact W.widen hk.1 hk.2 (W.zret (ty := .boolean) B.exec B.bytes (B.returns.trans hr) (by rcases hp.1 with rfl | rfl <;> rfl) (fun t ht hW => ⟨_, M', rfl, hp.2, by rw [ht]; exact hP, hA, hS.F ht⟩) hS.2.2 hd hlocks)
  · intro nm hr M' k n pc lv r hd hp H locs ls hP hA hS hl hk
    exact W.widen hk.1 hk.2 (W.aret (v := va_rf r) B.exec B.bytes (B.returns.trans hr) (Or.inl ⟨nm, rfl⟩) (by cases r with | none => exact Or.inl rfl | some a => exact Or.inr ⟨a, rfl⟩) (fun t ht hW => ⟨_, M', rfl, hp, by rw [ht]; exact hP, hA, hS.F ht⟩) hS.2.2 hd hlocks)
