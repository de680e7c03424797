/-! MEMORY: types of addresses, whole numbers, references, longs; a picture of the heap -/
abbrev Mem : Type := (Nat → Option (Nat × Nat)) × (Nat → Nat → Int32) × (Nat → Nat → Option Nat) × (Nat → Nat → Int64)
def gT (M : Mem) (a : Nat) : Option (Nat × Nat) := M.1 a
def gI (M : Mem) (a k : Nat) : Int32 := M.2.1 a k
def gR (M : Mem) (a k : Nat) : Option Nat := M.2.2.1 a k
def gL (M : Mem) (a k : Nat) : Int64 := M.2.2.2 a k
def sI (M : Mem) (a k : Nat) (x : Int32) : Mem := (M.1, (fun b j => if b = a ∧ j = k then x else M.2.1 b j), M.2.2.1, M.2.2.2)
def sR (M : Mem) (a k : Nat) (x : Option Nat) : Mem := (M.1, M.2.1, (fun b j => if b = a ∧ j = k then x else M.2.2.1 b j), M.2.2.2)
def sL (M : Mem) (a k : Nat) (x : Int64) : Mem := (M.1, M.2.1, M.2.2.1, fun b j => if b = a ∧ j = k then x else M.2.2.2 b j)
def sN (M : Mem) (a : Nat) (ty : Nat × Nat) : Mem := ((fun b => if b = a then some ty else M.1 b), (fun b j => if b = a then 0 else M.2.1 b j), (fun b j => if b = a then none else M.2.2.1 b j), fun b j => if b = a then 0 else M.2.2.2 b j)
theorem gT_sI (M : Mem) (a k : Nat) (x : Int32) (b : Nat) : gT (sI M a k x) b = gT M b := rfl
theorem gT_sR (M : Mem) (a k : Nat) (x : Option Nat) (b : Nat) : gT (sR M a k x) b = gT M b := rfl
theorem gT_sL (M : Mem) (a k : Nat) (x : Int64) (b : Nat) : gT (sL M a k x) b = gT M b := rfl
theorem gT_sN (M : Mem) (a : Nat) (ty : Nat × Nat) (b : Nat) : gT (sN M a ty) b = if b = a then some ty else gT M b := rfl
theorem gI_sI (M : Mem) (a k : Nat) (x : Int32) (b j : Nat) : gI (sI M a k x) b j = if b = a ∧ j = k then x else gI M b j := rfl
theorem gI_sR (M : Mem) (a k : Nat) (x : Option Nat) (b j : Nat) : gI (sR M a k x) b j = gI M b j := rfl
theorem gI_sL (M : Mem) (a k : Nat) (x : Int64) (b j : Nat) : gI (sL M a k x) b j = gI M b j := rfl
theorem gI_sN (M : Mem) (a : Nat) (ty : Nat × Nat) (b j : Nat) : gI (sN M a ty) b j = if b = a then 0 else gI M b j := rfl
theorem gR_sI (M : Mem) (a k : Nat) (x : Int32) (b j : Nat) : gR (sI M a k x) b j = gR M b j := rfl
theorem gR_sR (M : Mem) (a k : Nat) (x : Option Nat) (b j : Nat) : gR (sR M a k x) b j = if b = a ∧ j = k then x else gR M b j := rfl
theorem gR_sL (M : Mem) (a k : Nat) (x : Int64) (b j : Nat) : gR (sL M a k x) b j = gR M b j := rfl
theorem gR_sN (M : Mem) (a : Nat) (ty : Nat × Nat) (b j : Nat) : gR (sN M a ty) b j = if b = a then none else gR M b j := rfl
theorem gL_sI (M : Mem) (a k : Nat) (x : Int32) (b j : Nat) : gL (sI M a k x) b j = gL M b j := rfl
theorem gL_sR (M : Mem) (a k : Nat) (x : Option Nat) (b j : Nat) : gL (sR M a k x) b j = gL M b j := rfl
theorem gL_sL (M : Mem) (a k : Nat) (x : Int64) (b j : Nat) : gL (sL M a k x) b j = if b = a ∧ j = k then x else gL M b j := rfl
theorem gL_sN (M : Mem) (a : Nat) (ty : Nat × Nat) (b j : Nat) : gL (sN M a ty) b j = if b = a then 0 else gL M b j := rfl
/-- which fields are whole numbers: Channel 0, Line 1, LineQueue 2, View 3, Wires 4, ChatRelay 5, ChatRelayModel 6 -/
def kd (c k : Nat) : Bool := match c with
  | 0 => true
  | 1 => decide (k < 7)
  | 2 => false
  | 3 => decide (k = 0)
  | 4 => decide (k = 2 ∨ k = 4)
  | 5 => decide (6 ≤ k)
  | _ => decide (k < 3 ∨ k = 14 ∨ k = 15 ∨ 23 ≤ k)
def nf (c : Nat) : Nat := match c with
  | 0 => 4
  | 1 => 8
  | 2 => 2
  | 3 => 2
  | 4 => 5
  | 5 => 8
  | _ => 29
def fV (M : Mem) (a c k : Nat) : Value := if kd c k = true then .int (gI M a k) else va_rf (gR M a k)
def aE (M : Mem) (a c n : Nat) : vp_A := (n, if c = 10 then .inl (gI M a) else if c = 11 then .inr (.inl (gL M a)) else .inr (.inr (.inr (.inr (gR M a)))))
def pcell (D : va_G) (dA : Nat → ClassId) (M : Mem) (H : Heap) (a c n : Nat) : Prop := if c < 7 then t_OB a (D.1 c) (nf c) (D.2 c) H (fV M a c) else H[a]? = some (vp_cell (dA c) (aE M a c n))
def pic (D : va_G) (dA : Nat → ClassId) (M : Mem) (H : Heap) : Prop := ∀ a c n : Nat, gT M a = some (c, n) → pcell D dA M H a c n
theorem pcell_kept {D : va_G} {dA : Nat → ClassId} {M M' : Mem} {H H1 : Heap} {a c n : Nat} (h : pcell D dA M H a c n) (hI : ∀ j, gI M' a j = gI M a j) (hR : ∀ j, gR M' a j = gR M a j) (hL : ∀ j, gL M' a j = gL M a j) (hq : H1[a]? = H[a]?) : pcell D dA M' H1 a c n := by
  unfold pcell at h ⊢
  split at h
  · rename_i hc
    rw [if_pos hc]
    refine (h.kept hq).to (fun k _ => ?_)
    unfold fV
    rw [hI, hR]
  · rename_i hc
    rw [if_neg hc, hq, h]
    unfold aE
    rw [show gI M' a = gI M a from funext hI, show gR M' a = gR M a from funext hR, show gL M' a = gL M a from funext hL]
theorem pcell_lt {D : va_G} {dA : Nat → ClassId} {M : Mem} {H : Heap} {a c n : Nat} (h : pcell D dA M H a c n) : a < H.size := by
  unfold pcell at h
  split at h
  · obtain ⟨cell, h2, -⟩ := h
    exact (Array.getElem?_eq_some_iff.mp h2).1
  · exact (Array.getElem?_eq_some_iff.mp h).1
theorem pic_lt {D : va_G} {dA : Nat → ClassId} {M : Mem} {H : Heap} (hP : pic D dA M H) {a : Nat} (h : gT M a ≠ none) : a < H.size := by
  cases e : gT M a with
  | none => exact absurd e h
  | some t => exact pcell_lt (hP a t.1 t.2 e)
/-- one cell has changed -/
theorem pic_upd {D : va_G} {dA : Nat → ClassId} {M M' : Mem} {H H1 : Heap} {a : Nat} (hP : pic D dA M H) (hT : ∀ b, gT M' b = gT M b) (hI : ∀ b j, b ≠ a → gI M' b j = gI M b j) (hR : ∀ b j, b ≠ a → gR M' b j = gR M b j) (hL : ∀ b j, b ≠ a → gL M' b j = gL M b j) (hq : ∀ q : Nat, q ≠ a → H1[q]? = H[q]?) (ha : ∀ c n, gT M a = some (c, n) → pcell D dA M' H1 a c n) : pic D dA M' H1 := by
  intro b c n hb
  rw [hT] at hb
  by_cases e : b = a
  · subst e
    exact ha c n hb
  · exact pcell_kept (hP b c n hb) (fun j => hI b j e) (fun j => hR b j e) (fun j => hL b j e) (hq b e)
/-- a cell has come -/
theorem pic_new {D : va_G} {dA : Nat → ClassId} {M : Mem} {H H1 : Heap} {a : Nat} {ty : Nat × Nat} (hP : pic D dA M H) (hz : a = H.size) (hq : ∀ q : Nat, q < H.size → H1[q]? = H[q]?) (ha : pcell D dA (sN M a ty) H1 a ty.1 ty.2) : gT M a = none ∧ pic D dA (sN M a ty) H1 := by
  have h0 : gT M a = none := by
    cases e : gT M a with
    | none => rfl
    | some t => exact absurd (pic_lt hP (a := a) (by rw [e]; exact fun h => by cases h)) (by omega)
  refine ⟨h0, fun b c n hb => ?_⟩
  rw [gT_sN] at hb
  by_cases e : b = a
  · rw [if_pos e] at hb
    cases hb
    rw [e]
    exact ha
  · rw [if_neg e] at hb
    exact pcell_kept (hP b c n hb) (fun j => by rw [gI_sN, if_neg e]) (fun j => by rw [gR_sN, if_neg e]) (fun j => by rw [gL_sN, if_neg e]) (hq b (pcell_lt (hP b c n hb)))
def tysA (dA : Nat → ClassId) : List (ClassId × FieldType) := [(dA 10, .int), (dA 11, .byte), (dA 12, .object RX3), (dA 13, .object RX0), (dA 14, .object RX2)]
/-! what the tables say beside the words that last -/
def xwN : List Cond := [.methodLinkNest RX4 32 yX2_init "ChatRelay", .methodLinkNest RX5 34 yX1_init "ChatRelay", .methodLinkNest RX3 21 yX0_init "ChatRelay", .methodLinkNest RX4 33 yX5_has "ChatRelay", .methodLinkNest RX3 22 yX5_has "ChatRelay", .methodLinkNest RX4 71 yX1_init "ChatRelay", .methodLinkNest RX0 28 yX5_settledSet "ChatRelay", .castable "java/lang/IndexOutOfBoundsException" "java/lang/IndexOutOfBoundsException", .castable "java/lang/IllegalStateException" "java/lang/IllegalStateException", .castable "java/lang/IllegalArgumentException" "java/lang/IllegalArgumentException", .declares (Bundle.initS "java/lang/RuntimeException"), .declares (Bundle.initS "java/lang/Exception"), .declares (Bundle.initS "java/lang/Throwable")]
def xwC : List (String × String) := []
def xwS : List (Nat × String) := [(212, "there is no such server"), (61, "both are in one tree"), (79, "they have no link"), (90, "there is no line"), (103, "the name is no letter"), (110, "the name is known there, or 20 users have signed on"), (217, "there is no such user"), (219, "the user is gone"), (215, "there is no such channel"), (144, "the user is a member there"), (153, "the name is banned there"), (221, "the user is no member"), (177, "the modes or bans are out of range")]
def kx (D : va_G) (dA : Nat → ClassId) (U : State) : Prop := va_K D vwCl (tysA dA) U ∧ (∀ w ∈ xwN, va_Nw w U) ∧ (∀ C ∈ [RX3, RX0, RX2], va_AO C U) ∧ (∀ q ∈ xwS, ∃ sa : Nat, vk_R RX5 q.1 q.2 sa U) ∧ ∀ q ∈ xwC, va_Nc q.1 q.2 U
theorem kx_warm {D : va_G} {dA : Nat → ClassId} {s U : State} (hW : s.WarmedH U.vm) (h : kx D dA s) : kx D dA U := by
  obtain ⟨h1, h2, h3, h4, h5⟩ := h
  refine ⟨va_K.moved hW.alike h1, fun w hw => ?_, fun C hC => va_AO.moved hW.alike (h3 C hC), fun q hq => ?_, fun q hq => va_Nc.moved hW.alike (h5 q hq)⟩
  · have h9 := h2 w hw
    unfold xwN at hw
    simp only [List.mem_cons, List.not_mem_nil, or_false] at hw
    rcases hw with rfl | rfl | rfl | rfl | rfl | rfl | rfl | rfl | rfl | rfl | rfl | rfl | rfl
    · exact va_Nw.warmM hW h9
    · exact va_Nw.warmM hW h9
    · exact va_Nw.warmM hW h9
    · exact va_Nw.warmM hW h9
    · exact va_Nw.warmM hW h9
    · exact va_Nw.warmM hW h9
    · exact va_Nw.warmM hW h9
    · exact va_Nw.warmC hW h9
    · exact va_Nw.warmC hW h9
    · exact va_Nw.warmC hW h9
    · exact va_Nw.warmD hW h9
    · exact va_Nw.warmD hW h9
    · exact va_Nw.warmD hW h9
  · obtain ⟨sa, h⟩ := h4 q hq
    exact ⟨sa, vk_R.warm hW h⟩
/-- the two statics of Throwable -/
def zx (A : Nat → Prop) (U : State) (H : Heap) : Prop := vx_Zq Bundle.tN "UNASSIGNED_STACK" Bundle.steD A U H ∧ vx_Zq Bundle.tN "SUPPRESSED_SENTINEL" Bundle.listD A U H
def own (M : Mem) (sz : Nat) : Nat → Prop := fun q => gT M q ≠ none ∨ sz ≤ q
abbrev XT : Type := Program × Launch × Env × Room × State × MethodId × Array Value × List Frame × Method × Code × va_G × (Nat → ClassId) × (Nat → Prop) × (State → Prop)
/-- the walk's place: the memory M, k cells and n slots made, at pc, locals lv, stack st -/
def G (X : XT) (nL : Nat) (M : Mem) (k n pc : Nat) (lv : List (Nat × Value)) (st : List Value) : Prop := match X with
  | (p, l, e, R, s, m, args, below, meth, c, D, dA, A, Q) => ∀ (H : Heap) (locs : List Loc) (ls : Array Slot), pic D dA M H → (∀ a, gT M a ≠ none → A a) → va_S A s.heap H locs → lv_has ls nL lv → (k ≤ R.cells ∧ n ≤ R.slots) → W p l e R s m args below meth c H locs k n Q (F0 m pc ls st)
/-- E is thrown here -/
def GX (X : XT) (nL : Nat) (M : Mem) (k n pc : Nat) (lv : List (Nat × Value)) (st : List Value) (E : String) : Prop := match X with
  | (p, l, e, R, s, m, args, below, meth, c, D, dA, A, Q) => ∀ (H : Heap) (locs : List Loc) (ls : Array Slot) (q : Addr) (ce : Cell), pic D dA M H → (∀ a, gT M a ≠ none → A a) → va_S A s.heap H locs → lv_has ls nL lv → (k ≤ R.cells ∧ n ≤ R.slots) → H[q]? = some ce → ce.vm = .none → s.vm.findClass E = some ce.cls → vx_W p l e R s m args below meth c H locs k n Q (F0 m pc ls st) q
/-- what is known of the place: d its depth, cc its code, own its class, mc and ms its room -/
def Cx (X : XT) (d : Nat) (cc : ByteArray) (nL : Nat) (own : String) (mc ms : Nat) : Prop := match X with
  | (p, l, e, R, s, m, args, below, meth, c, D, dA, A, Q) => p.tables.exec = Jvm.exec ∧ c.code = cc ∧ c.maxLocals = nL ∧ s.vm.findClass own = some m.cls ∧ (∀ w ∈ lwg, w.before args s = true) ∧ kx D dA s ∧ zx A s s.heap ∧ (∀ q, s.heap.size ≤ q → A q) ∧ (d ≤ R.frames ∧ 36 * d ≤ R.locals) ∧ (R.cells = mc ∧ R.slots = ms) ∧ meth.locks = false ∧ l.stackTraces = false
/-! rows: what touches no cell -/
section GR
variable {X : XT} {d nL mc ms : Nat} {cc : ByteArray} {ow : String} {M : Mem} {k n pc : Nat} {lv : List (Nat × Value)} {st : List Value}
theorem g_iconst (C : Cx X d cc nL ow mc ms) {i : Int} {v : Int32} (hd : decode cc pc = .ok (.iconst i, 1)) (hv : Int32.ofInt i = v) (kk : G X nL M k n (pc + 1) lv (.int v :: st)) : G X nL M k n pc lv st := by
  obtain ⟨p, l, e, R, s, m, args, below, meth, c, D, dA, A, Q⟩ := X
  obtain ⟨hx, hb, -⟩ := C
  intro H locs ls hP hA hS hl hr
  exact lv_iconst hx hb hd hv (kk H locs ls hP hA hS hl hr)
theorem g_bipush (C : Cx X d cc nL ow mc ms) {i : Int} {v : Int32} (hd : decode cc pc = .ok (.bipush i, 2)) (hv : (Int8.ofInt i).toInt32 = v) (kk : G X nL M k n (pc + 2) lv (.int v :: st)) : G X nL M k n pc lv st := by
  obtain ⟨p, l, e, R, s, m, args, below, meth, c, D, dA, A, Q⟩ := X
  obtain ⟨hx, hb, -⟩ := C
  intro H locs ls hP hA hS hl hr
  exact lv_bipush hx hb hd hv (kk H locs ls hP hA hS hl hr)
theorem g_sipush (C : Cx X d cc nL ow mc ms) {i : Int} {v : Int32} (hd : decode cc pc = .ok (.sipush i, 3)) (hv : (Int16.ofInt i).toInt32 = v) (kk : G X nL M k n (pc + 3) lv (.int v :: st)) : G X nL M k n pc lv st := by
  obtain ⟨p, l, e, R, s, m, args, below, meth, c, D, dA, A, Q⟩ := X
  obtain ⟨hx, hb, -⟩ := C
  intro H locs ls hP hA hS hl hr
  exact lv_sipush hx hb hd hv (kk H locs ls hP hA hS hl hr)
theorem g_ldc (C : Cx X d cc nL ow mc ms) {i : Nat} {v : Int32} (hw : Cond.constant ow i v ∈ lwg) (hd : decode cc pc = .ok (.ldc i, 2)) (kk : G X nL M k n (pc + 2) lv (.int v :: st)) : G X nL M k n pc lv st := by
  obtain ⟨p, l, e, R, s, m, args, below, meth, c, D, dA, A, Q⟩ := X
  obtain ⟨hx, hb, -, hown, hts, -⟩ := C
  intro H locs ls hP hA hS hl hr
  exact lv_ldc hx hb hown (hts _ hw) hd (kk H locs ls hP hA hS hl hr)
theorem g_ldcw (C : Cx X d cc nL ow mc ms) {i : Nat} {v : Int32} (hw : Cond.constant ow i v ∈ lwg) (hd : decode cc pc = .ok (.ldc_w i, 3)) (kk : G X nL M k n (pc + 3) lv (.int v :: st)) : G X nL M k n pc lv st := by
  obtain ⟨p, l, e, R, s, m, args, below, meth, c, D, dA, A, Q⟩ := X
  obtain ⟨hx, hb, -, hown, hts, -⟩ := C
  intro H locs ls hP hA hS hl hr
  exact lv_ldcw hx hb hown (hts _ hw) hd (kk H locs ls hP hA hS hl hr)
theorem g_lconst (C : Cx X d cc nL ow mc ms) {i : Fin 2} {v : Int64} (hd : decode cc pc = .ok (.lconst i, 1)) (hv : Int64.ofNat (i : Nat) = v) (kk : G X nL M k n (pc + 1) lv (.long v :: st)) : G X nL M k n pc lv st := by
  obtain ⟨p, l, e, R, s, m, args, below, meth, c, D, dA, A, Q⟩ := X
  obtain ⟨hx, hb, -⟩ := C
  intro H locs ls hP hA hS hl hr
  exact lv_lconst hx hb hd hv (kk H locs ls hP hA hS hl hr)
theorem g_null (C : Cx X d cc nL ow mc ms) (hd : decode cc pc = .ok (.aconst_null, 1)) (kk : G X nL M k n (pc + 1) lv (va_rf none :: st)) : G X nL M k n pc lv st := by
  obtain ⟨p, l, e, R, s, m, args, below, meth, c, D, dA, A, Q⟩ := X
  obtain ⟨hx, hb, -⟩ := C
  intro H locs ls hP hA hS hl hr
  exact lv_null hx hb hd (kk H locs ls hP hA hS hl hr)
theorem g_iload_n (C : Cx X d cc nL ow mc ms) (j : Nat) {i : Fin 4} {x : Int32} (hd : decode cc pc = .ok (.iload_n i, 1)) (hj : lv[j]? = some ((i : Nat), .int x)) (kk : G X nL M k n (pc + 1) lv (.int x :: st)) : G X nL M k n pc lv st := by
  obtain ⟨p, l, e, R, s, m, args, below, meth, c, D, dA, A, Q⟩ := X
  obtain ⟨hx, hb, -⟩ := C
  intro H locs ls hP hA hS hl hr
  exact lv_iload_n hx hb hd rfl (lv_at hl j hj) (kk H locs ls hP hA hS hl hr)
theorem g_iload (C : Cx X d cc nL ow mc ms) (j : Nat) {i : Nat} {x : Int32} (hd : decode cc pc = .ok (.iload i, 2)) (hj : lv[j]? = some (i, .int x)) (kk : G X nL M k n (pc + 2) lv (.int x :: st)) : G X nL M k n pc lv st := by
  obtain ⟨p, l, e, R, s, m, args, below, meth, c, D, dA, A, Q⟩ := X
  obtain ⟨hx, hb, -⟩ := C
  intro H locs ls hP hA hS hl hr
  exact lv_iload hx hb hd (lv_at hl j hj) (kk H locs ls hP hA hS hl hr)
theorem g_aload_n (C : Cx X d cc nL ow mc ms) (j : Nat) {i : Fin 4} {r : Option Nat} (hd : decode cc pc = .ok (.aload_n i, 1)) (hj : lv[j]? = some ((i : Nat), va_rf r)) (kk : G X nL M k n (pc + 1) lv (va_rf r :: st)) : G X nL M k n pc lv st := by
  obtain ⟨p, l, e, R, s, m, args, below, meth, c, D, dA, A, Q⟩ := X
  obtain ⟨hx, hb, -⟩ := C
  intro H locs ls hP hA hS hl hr
  cases r with
  | none => exact lv_aload_nN hx hb hd rfl (lv_at hl j hj) (kk H locs ls hP hA hS hl hr)
  | some a => exact lv_aload_n hx hb hd rfl (lv_at hl j hj) (kk H locs ls hP hA hS hl hr)
theorem g_aload (C : Cx X d cc nL ow mc ms) (j : Nat) {i : Nat} {r : Option Nat} (hd : decode cc pc = .ok (.aload i, 2)) (hj : lv[j]? = some (i, va_rf r)) (kk : G X nL M k n (pc + 2) lv (va_rf r :: st)) : G X nL M k n pc lv st := by
  obtain ⟨p, l, e, R, s, m, args, below, meth, c, D, dA, A, Q⟩ := X
  obtain ⟨hx, hb, -⟩ := C
  intro H locs ls hP hA hS hl hr
  cases r with
  | none => exact lv_aloadN hx hb hd (lv_at hl j hj) (kk H locs ls hP hA hS hl hr)
  | some a => exact lv_aload hx hb hd (lv_at hl j hj) (kk H locs ls hP hA hS hl hr)
/-- the locals when i holds v; all other words of them are of one place each -/
def lvs (i : Nat) (v : Value) (lv : List (Nat × Value)) : List (Nat × Value) := (i, v) :: lv.filter (fun q => !(q.1 == i) && !(q.1 + 1 == i && q.2.category == 2))
theorem g_istore_n (C : Cx X d cc nL ow mc ms) {lv' : List (Nat × Value)} {i : Fin 4} {x : Int32} (hd : decode cc pc = .ok (.istore_n i, 1)) (hi : (i : Nat) < nL) (hl' : lvs (i : Nat) (.int x) lv = lv') (kk : G X nL M k n (pc + 1) lv' st) : G X nL M k n pc lv (.int x :: st) := by
  obtain ⟨p, l, e, R, s, m, args, below, meth, c, D, dA, A, Q⟩ := X
  obtain ⟨hx, hb, -⟩ := C
  intro H locs ls hP hA hS hl hr
  exact lv_istore_n hx hb hd rfl hl hi hl' (fun ls hl => kk H locs ls hP hA hS hl hr)
theorem g_istore (C : Cx X d cc nL ow mc ms) {lv' : List (Nat × Value)} {i : Nat} {x : Int32} (hd : decode cc pc = .ok (.istore i, 2)) (hi : i < nL) (hl' : lvs i (.int x) lv = lv') (kk : G X nL M k n (pc + 2) lv' st) : G X nL M k n pc lv (.int x :: st) := by
  obtain ⟨p, l, e, R, s, m, args, below, meth, c, D, dA, A, Q⟩ := X
  obtain ⟨hx, hb, -⟩ := C
  intro H locs ls hP hA hS hl hr
  exact lv_istore hx hb hd hl hi hl' (fun ls hl => kk H locs ls hP hA hS hl hr)
theorem g_astore_n (C : Cx X d cc nL ow mc ms) {lv' : List (Nat × Value)} {i : Fin 4} {r : Option Nat} (hd : decode cc pc = .ok (.astore_n i, 1)) (hi : (i : Nat) < nL) (hl' : lvs (i : Nat) (va_rf r) lv = lv') (kk : G X nL M k n (pc + 1) lv' st) : G X nL M k n pc lv (va_rf r :: st) := by
  obtain ⟨p, l, e, R, s, m, args, below, meth, c, D, dA, A, Q⟩ := X
  obtain ⟨hx, hb, -⟩ := C
  intro H locs ls hP hA hS hl hr
  cases r with
  | none => exact lv_astore_nN hx hb hd rfl hl hi hl' (fun ls hl => kk H locs ls hP hA hS hl hr)
  | some a => exact lv_astore_n hx hb hd rfl hl hi hl' (fun ls hl => kk H locs ls hP hA hS hl hr)
theorem g_astore (C : Cx X d cc nL ow mc ms) {lv' : List (Nat × Value)} {i : Nat} {r : Option Nat} (hd : decode cc pc = .ok (.astore i, 2)) (hi : i < nL) (hl' : lvs i (va_rf r) lv = lv') (kk : G X nL M k n (pc + 2) lv' st) : G X nL M k n pc lv (va_rf r :: st) := by
  obtain ⟨p, l, e, R, s, m, args, below, meth, c, D, dA, A, Q⟩ := X
  obtain ⟨hx, hb, -⟩ := C
  intro H locs ls hP hA hS hl hr
  cases r with
  | none => exact lv_astoreN hx hb hd hl hi hl' (fun ls hl => kk H locs ls hP hA hS hl hr)
  | some a => exact lv_astore hx hb hd hl hi hl' (fun ls hl => kk H locs ls hP hA hS hl hr)
theorem g_iinc (C : Cx X d cc nL ow mc ms) (j : Nat) {lv' : List (Nat × Value)} {i : Nat} {z : Int} {x v : Int32} (hd : decode cc pc = .ok (.iinc i z, 3)) (hj : lv[j]? = some (i, .int x)) (hv : x + Int32.ofInt z = v) (hi : i < nL) (hl' : lvs i (.int v) lv = lv') (kk : G X nL M k n (pc + 3) lv' st) : G X nL M k n pc lv st := by
  obtain ⟨p, l, e, R, s, m, args, below, meth, c, D, dA, A, Q⟩ := X
  obtain ⟨hx, hb, -⟩ := C
  intro H locs ls hP hA hS hl hr
  exact lv_iinc hx hb hd hl hj hv hi hl' (fun ls hl => kk H locs ls hP hA hS hl hr)
theorem g_sub (is : List Nat) {lv' : List (Nat × Value)} (h : lv_pick lv is = lv') (kk : G X nL M k n pc lv' st) : G X nL M k n pc lv st := by
  obtain ⟨p, l, e, R, s, m, args, below, meth, c, D, dA, A, Q⟩ := X
  intro H locs ls hP hA hS hl hr
  exact kk H locs ls hP hA hS (lv_sub hl is h) hr
theorem g_dup (C : Cx X d cc nL ow mc ms) {v : Value} (hd : decode cc pc = .ok (.dup, 1)) (hv : v.category = 1) (kk : G X nL M k n (pc + 1) lv (v :: v :: st)) : G X nL M k n pc lv (v :: st) := by
  obtain ⟨p, l, e, R, s, m, args, below, meth, c, D, dA, A, Q⟩ := X
  obtain ⟨hx, hb, -⟩ := C
  intro H locs ls hP hA hS hl hr
  exact lv_dup hx hb hd hv (kk H locs ls hP hA hS hl hr)
theorem g_dup2 (C : Cx X d cc nL ow mc ms) {v w : Value} (hd : decode cc pc = .ok (.dup2, 1)) (hv : v.category = 1) (hw : w.category = 1) (kk : G X nL M k n (pc + 1) lv (v :: w :: v :: w :: st)) : G X nL M k n pc lv (v :: w :: st) := by
  obtain ⟨p, l, e, R, s, m, args, below, meth, c, D, dA, A, Q⟩ := X
  obtain ⟨hx, hb, -⟩ := C
  intro H locs ls hP hA hS hl hr
  exact lv_dup2_11 hx hb hd hv hw (kk H locs ls hP hA hS hl hr)
theorem g_pop (C : Cx X d cc nL ow mc ms) {v : Value} (hd : decode cc pc = .ok (.pop, 1)) (hv : v.category = 1) (kk : G X nL M k n (pc + 1) lv st) : G X nL M k n pc lv (v :: st) := by
  obtain ⟨p, l, e, R, s, m, args, below, meth, c, D, dA, A, Q⟩ := X
  obtain ⟨hx, hb, -⟩ := C
  intro H locs ls hP hA hS hl hr
  exact lv_pop hx hb hd hv (kk H locs ls hP hA hS hl hr)
theorem g_goto (C : Cx X d cc nL ow mc ms) {off : Int} (tgt : Nat) (hd : decode cc pc = .ok (.goto off, 3)) (ht : (pc : Int) + off = (tgt : Int)) (kk : G X nL M k n tgt lv st) : G X nL M k n pc lv st := by
  obtain ⟨p, l, e, R, s, m, args, below, meth, c, D, dA, A, Q⟩ := X
  obtain ⟨hx, hb, -⟩ := C
  intro H locs ls hP hA hS hl hr
  exact lv_goto hx hb hd ht (kk H locs ls hP hA hS hl hr)
end GR
section GR2
variable {X : XT} {d nL mc ms : Nat} {cc : ByteArray} {ow : String} {M : Mem} {k n pc : Nat} {lv : List (Nat × Value)} {st : List Value}
theorem g_iadd (C : Cx X d cc nL ow mc ms) {x y : Int32} (hd : decode cc pc = .ok (.iadd, 1)) (kk : G X nL M k n (pc + 1) lv (.int (x + y) :: st)) : G X nL M k n pc lv (.int y :: .int x :: st) := by
  obtain ⟨p, l, e, R, s, m, args, below, meth, c, D, dA, A, Q⟩ := X
  obtain ⟨hx, hb, -⟩ := C
  intro H locs ls hP hA hS hl hr
  exact lv_iadd hx hb hd (kk H locs ls hP hA hS hl hr)
theorem g_isub (C : Cx X d cc nL ow mc ms) {x y : Int32} (hd : decode cc pc = .ok (.isub, 1)) (kk : G X nL M k n (pc + 1) lv (.int (x - y) :: st)) : G X nL M k n pc lv (.int y :: .int x :: st) := by
  obtain ⟨p, l, e, R, s, m, args, below, meth, c, D, dA, A, Q⟩ := X
  obtain ⟨hx, hb, -⟩ := C
  intro H locs ls hP hA hS hl hr
  exact lv_isub hx hb hd (kk H locs ls hP hA hS hl hr)
theorem g_imul (C : Cx X d cc nL ow mc ms) {x y : Int32} (hd : decode cc pc = .ok (.imul, 1)) (kk : G X nL M k n (pc + 1) lv (.int (x * y) :: st)) : G X nL M k n pc lv (.int y :: .int x :: st) := by
  obtain ⟨p, l, e, R, s, m, args, below, meth, c, D, dA, A, Q⟩ := X
  obtain ⟨hx, hb, -⟩ := C
  intro H locs ls hP hA hS hl hr
  exact lv_imul hx hb hd (kk H locs ls hP hA hS hl hr)
theorem g_iand (C : Cx X d cc nL ow mc ms) {x y : Int32} (hd : decode cc pc = .ok (.iand, 1)) (kk : G X nL M k n (pc + 1) lv (.int (x &&& y) :: st)) : G X nL M k n pc lv (.int y :: .int x :: st) := by
  obtain ⟨p, l, e, R, s, m, args, below, meth, c, D, dA, A, Q⟩ := X
  obtain ⟨hx, hb, -⟩ := C
  intro H locs ls hP hA hS hl hr
  exact lv_iand hx hb hd (kk H locs ls hP hA hS hl hr)
theorem g_ior (C : Cx X d cc nL ow mc ms) {x y : Int32} (hd : decode cc pc = .ok (.ior, 1)) (kk : G X nL M k n (pc + 1) lv (.int (x ||| y) :: st)) : G X nL M k n pc lv (.int y :: .int x :: st) := by
  obtain ⟨p, l, e, R, s, m, args, below, meth, c, D, dA, A, Q⟩ := X
  obtain ⟨hx, hb, -⟩ := C
  intro H locs ls hP hA hS hl hr
  exact lv_ior hx hb hd (kk H locs ls hP hA hS hl hr)
theorem g_ixor (C : Cx X d cc nL ow mc ms) {x y : Int32} (hd : decode cc pc = .ok (.ixor, 1)) (kk : G X nL M k n (pc + 1) lv (.int (x ^^^ y) :: st)) : G X nL M k n pc lv (.int y :: .int x :: st) := by
  obtain ⟨p, l, e, R, s, m, args, below, meth, c, D, dA, A, Q⟩ := X
  obtain ⟨hx, hb, -⟩ := C
  intro H locs ls hP hA hS hl hr
  exact lv_ixor hx hb hd (kk H locs ls hP hA hS hl hr)
theorem g_ishl (C : Cx X d cc nL ow mc ms) {x y : Int32} (hd : decode cc pc = .ok (.ishl, 1)) (kk : G X nL M k n (pc + 1) lv (.int (x <<< (y &&& 31)) :: st)) : G X nL M k n pc lv (.int y :: .int x :: st) := by
  obtain ⟨p, l, e, R, s, m, args, below, meth, c, D, dA, A, Q⟩ := X
  obtain ⟨hx, hb, -⟩ := C
  intro H locs ls hP hA hS hl hr
  exact lv_ishl hx hb hd (kk H locs ls hP hA hS hl hr)
theorem g_ishr (C : Cx X d cc nL ow mc ms) {x y : Int32} (hd : decode cc pc = .ok (.ishr, 1)) (kk : G X nL M k n (pc + 1) lv (.int (x >>> (y &&& 31)) :: st)) : G X nL M k n pc lv (.int y :: .int x :: st) := by
  obtain ⟨p, l, e, R, s, m, args, below, meth, c, D, dA, A, Q⟩ := X
  obtain ⟨hx, hb, -⟩ := C
  intro H locs ls hP hA hS hl hr
  exact lv_ishr hx hb hd (kk H locs ls hP hA hS hl hr)
theorem g_idiv (C : Cx X d cc nL ow mc ms) {x y : Int32} (hd : decode cc pc = .ok (.idiv, 1)) (hne : ¬ y = 0) (kk : G X nL M k n (pc + 1) lv (.int (x / y) :: st)) : G X nL M k n pc lv (.int y :: .int x :: st) := by
  obtain ⟨p, l, e, R, s, m, args, below, meth, c, D, dA, A, Q⟩ := X
  obtain ⟨hx, hb, -⟩ := C
  intro H locs ls hP hA hS hl hr
  exact lv_idiv hx hb hd hne (kk H locs ls hP hA hS hl hr)
theorem g_irem (C : Cx X d cc nL ow mc ms) {x y : Int32} (hd : decode cc pc = .ok (.irem, 1)) (hne : ¬ y = 0) (kk : G X nL M k n (pc + 1) lv (.int (x - x / y * y) :: st)) : G X nL M k n pc lv (.int y :: .int x :: st) := by
  obtain ⟨p, l, e, R, s, m, args, below, meth, c, D, dA, A, Q⟩ := X
  obtain ⟨hx, hb, -⟩ := C
  intro H locs ls hP hA hS hl hr
  exact lv_irem hx hb hd hne (kk H locs ls hP hA hS hl hr)
theorem g_if_eq (C : Cx X d cc nL ow mc ms) {x : Int32} {off : Int} (tgt : Nat) (hd : decode cc pc = .ok (.ifCond .eq off, 3)) (ht : (pc : Int) + off = (tgt : Int)) (kt : x = 0 → G X nL M k n tgt lv st) (kf : ¬ x = 0 → G X nL M k n (pc + 3) lv st) : G X nL M k n pc lv (.int x :: st) := by
  obtain ⟨p, l, e, R, s, m, args, below, meth, c, D, dA, A, Q⟩ := X
  obtain ⟨hx, hb, -⟩ := C
  intro H locs ls hP hA hS hl hr
  exact lv_if_eq hx hb hd ht (fun z => kt z H locs ls hP hA hS hl hr) (fun z => kf z H locs ls hP hA hS hl hr)
theorem g_if_ne (C : Cx X d cc nL ow mc ms) {x : Int32} {off : Int} (tgt : Nat) (hd : decode cc pc = .ok (.ifCond .ne off, 3)) (ht : (pc : Int) + off = (tgt : Int)) (kt : ¬ x = 0 → G X nL M k n tgt lv st) (kf : x = 0 → G X nL M k n (pc + 3) lv st) : G X nL M k n pc lv (.int x :: st) := by
  obtain ⟨p, l, e, R, s, m, args, below, meth, c, D, dA, A, Q⟩ := X
  obtain ⟨hx, hb, -⟩ := C
  intro H locs ls hP hA hS hl hr
  exact lv_if_ne hx hb hd ht (fun z => kt z H locs ls hP hA hS hl hr) (fun z => kf z H locs ls hP hA hS hl hr)
theorem g_if_lt (C : Cx X d cc nL ow mc ms) {x : Int32} {off : Int} (tgt : Nat) (hd : decode cc pc = .ok (.ifCond .lt off, 3)) (ht : (pc : Int) + off = (tgt : Int)) (kt : x < 0 → G X nL M k n tgt lv st) (kf : ¬ x < 0 → G X nL M k n (pc + 3) lv st) : G X nL M k n pc lv (.int x :: st) := by
  obtain ⟨p, l, e, R, s, m, args, below, meth, c, D, dA, A, Q⟩ := X
  obtain ⟨hx, hb, -⟩ := C
  intro H locs ls hP hA hS hl hr
  exact lv_if_lt hx hb hd ht (fun z => kt z H locs ls hP hA hS hl hr) (fun z => kf z H locs ls hP hA hS hl hr)
theorem g_if_ge (C : Cx X d cc nL ow mc ms) {x : Int32} {off : Int} (tgt : Nat) (hd : decode cc pc = .ok (.ifCond .ge off, 3)) (ht : (pc : Int) + off = (tgt : Int)) (kt : 0 ≤ x → G X nL M k n tgt lv st) (kf : ¬ 0 ≤ x → G X nL M k n (pc + 3) lv st) : G X nL M k n pc lv (.int x :: st) := by
  obtain ⟨p, l, e, R, s, m, args, below, meth, c, D, dA, A, Q⟩ := X
  obtain ⟨hx, hb, -⟩ := C
  intro H locs ls hP hA hS hl hr
  exact lv_if_ge hx hb hd ht (fun z => kt z H locs ls hP hA hS hl hr) (fun z => kf z H locs ls hP hA hS hl hr)
theorem g_if_gt (C : Cx X d cc nL ow mc ms) {x : Int32} {off : Int} (tgt : Nat) (hd : decode cc pc = .ok (.ifCond .gt off, 3)) (ht : (pc : Int) + off = (tgt : Int)) (kt : 0 < x → G X nL M k n tgt lv st) (kf : ¬ 0 < x → G X nL M k n (pc + 3) lv st) : G X nL M k n pc lv (.int x :: st) := by
  obtain ⟨p, l, e, R, s, m, args, below, meth, c, D, dA, A, Q⟩ := X
  obtain ⟨hx, hb, -⟩ := C
  intro H locs ls hP hA hS hl hr
  exact lv_if_gt hx hb hd ht (fun z => kt z H locs ls hP hA hS hl hr) (fun z => kf z H locs ls hP hA hS hl hr)
theorem g_if_le (C : Cx X d cc nL ow mc ms) {x : Int32} {off : Int} (tgt : Nat) (hd : decode cc pc = .ok (.ifCond .le off, 3)) (ht : (pc : Int) + off = (tgt : Int)) (kt : x ≤ 0 → G X nL M k n tgt lv st) (kf : ¬ x ≤ 0 → G X nL M k n (pc + 3) lv st) : G X nL M k n pc lv (.int x :: st) := by
  obtain ⟨p, l, e, R, s, m, args, below, meth, c, D, dA, A, Q⟩ := X
  obtain ⟨hx, hb, -⟩ := C
  intro H locs ls hP hA hS hl hr
  exact lv_if_le hx hb hd ht (fun z => kt z H locs ls hP hA hS hl hr) (fun z => kf z H locs ls hP hA hS hl hr)
theorem g_icmp_eq (C : Cx X d cc nL ow mc ms) {x y : Int32} {off : Int} (tgt : Nat) (hd : decode cc pc = .ok (.if_icmp .eq off, 3)) (ht : (pc : Int) + off = (tgt : Int)) (kt : x = y → G X nL M k n tgt lv st) (kf : ¬ x = y → G X nL M k n (pc + 3) lv st) : G X nL M k n pc lv (.int y :: .int x :: st) := by
  obtain ⟨p, l, e, R, s, m, args, below, meth, c, D, dA, A, Q⟩ := X
  obtain ⟨hx, hb, -⟩ := C
  intro H locs ls hP hA hS hl hr
  exact lv_icmp_eq hx hb hd ht (fun z => kt z H locs ls hP hA hS hl hr) (fun z => kf z H locs ls hP hA hS hl hr)
theorem g_icmp_ne (C : Cx X d cc nL ow mc ms) {x y : Int32} {off : Int} (tgt : Nat) (hd : decode cc pc = .ok (.if_icmp .ne off, 3)) (ht : (pc : Int) + off = (tgt : Int)) (kt : ¬ x = y → G X nL M k n tgt lv st) (kf : x = y → G X nL M k n (pc + 3) lv st) : G X nL M k n pc lv (.int y :: .int x :: st) := by
  obtain ⟨p, l, e, R, s, m, args, below, meth, c, D, dA, A, Q⟩ := X
  obtain ⟨hx, hb, -⟩ := C
  intro H locs ls hP hA hS hl hr
  exact lv_icmp_ne hx hb hd ht (fun z => kt z H locs ls hP hA hS hl hr) (fun z => kf z H locs ls hP hA hS hl hr)
theorem g_icmp_lt (C : Cx X d cc nL ow mc ms) {x y : Int32} {off : Int} (tgt : Nat) (hd : decode cc pc = .ok (.if_icmp .lt off, 3)) (ht : (pc : Int) + off = (tgt : Int)) (kt : x < y → G X nL M k n tgt lv st) (kf : ¬ x < y → G X nL M k n (pc + 3) lv st) : G X nL M k n pc lv (.int y :: .int x :: st) := by
  obtain ⟨p, l, e, R, s, m, args, below, meth, c, D, dA, A, Q⟩ := X
  obtain ⟨hx, hb, -⟩ := C
  intro H locs ls hP hA hS hl hr
  exact lv_icmp_lt hx hb hd ht (fun z => kt z H locs ls hP hA hS hl hr) (fun z => kf z H locs ls hP hA hS hl hr)
theorem g_icmp_ge (C : Cx X d cc nL ow mc ms) {x y : Int32} {off : Int} (tgt : Nat) (hd : decode cc pc = .ok (.if_icmp .ge off, 3)) (ht : (pc : Int) + off = (tgt : Int)) (kt : y ≤ x → G X nL M k n tgt lv st) (kf : ¬ y ≤ x → G X nL M k n (pc + 3) lv st) : G X nL M k n pc lv (.int y :: .int x :: st) := by
  obtain ⟨p, l, e, R, s, m, args, below, meth, c, D, dA, A, Q⟩ := X
  obtain ⟨hx, hb, -⟩ := C
  intro H locs ls hP hA hS hl hr
  exact lv_icmp_ge hx hb hd ht (fun z => kt z H locs ls hP hA hS hl hr) (fun z => kf z H locs ls hP hA hS hl hr)
theorem g_icmp_gt (C : Cx X d cc nL ow mc ms) {x y : Int32} {off : Int} (tgt : Nat) (hd : decode cc pc = .ok (.if_icmp .gt off, 3)) (ht : (pc : Int) + off = (tgt : Int)) (kt : y < x → G X nL M k n tgt lv st) (kf : ¬ y < x → G X nL M k n (pc + 3) lv st) : G X nL M k n pc lv (.int y :: .int x :: st) := by
  obtain ⟨p, l, e, R, s, m, args, below, meth, c, D, dA, A, Q⟩ := X
  obtain ⟨hx, hb, -⟩ := C
  intro H locs ls hP hA hS hl hr
  exact lv_icmp_gt hx hb hd ht (fun z => kt z H locs ls hP hA hS hl hr) (fun z => kf z H locs ls hP hA hS hl hr)
theorem g_icmp_le (C : Cx X d cc nL ow mc ms) {x y : Int32} {off : Int} (tgt : Nat) (hd : decode cc pc = .ok (.if_icmp .le off, 3)) (ht : (pc : Int) + off = (tgt : Int)) (kt : x ≤ y → G X nL M k n tgt lv st) (kf : ¬ x ≤ y → G X nL M k n (pc + 3) lv st) : G X nL M k n pc lv (.int y :: .int x :: st) := by
  obtain ⟨p, l, e, R, s, m, args, below, meth, c, D, dA, A, Q⟩ := X
  obtain ⟨hx, hb, -⟩ := C
  intro H locs ls hP hA hS hl hr
  exact lv_icmp_le hx hb hd ht (fun z => kt z H locs ls hP hA hS hl hr) (fun z => kf z H locs ls hP hA hS hl hr)
theorem g_iushr (C : Cx X d cc nL ow mc ms) {x y : Int32} (hd : decode cc pc = .ok (.iushr, 1)) (kk : G X nL M k n (pc + 1) lv (.int ((x.toUInt32 >>> (y.toUInt32 &&& Int32.toUInt32 31)).toInt32) :: st)) : G X nL M k n pc lv (.int y :: .int x :: st) := by
  obtain ⟨p, l, e, R, s, m, args, below, meth, c, D, dA, A, Q⟩ := X
  obtain ⟨hx, hb, -⟩ := C
  intro H locs ls hP hA hS hl hr
  exact lv_iushr hx hb hd rfl (kk H locs ls hP hA hS hl hr)
theorem g_i2l (C : Cx X d cc nL ow mc ms) {x : Int32} (hd : decode cc pc = .ok (.i2l, 1)) (kk : G X nL M k n (pc + 1) lv (.long x.toInt64 :: st)) : G X nL M k n pc lv (.int x :: st) := by
  obtain ⟨p, l, e, R, s, m, args, below, meth, c, D, dA, A, Q⟩ := X
  obtain ⟨hx, hb, -⟩ := C
  intro H locs ls hP hA hS hl hr
  exact lv_i2l hx hb hd rfl (kk H locs ls hP hA hS hl hr)
theorem g_i2c (C : Cx X d cc nL ow mc ms) {x : Int32} (hd : decode cc pc = .ok (.i2c, 1)) (kk : G X nL M k n (pc + 1) lv (.int (x.toUInt32 % 65536).toInt32 :: st)) : G X nL M k n pc lv (.int x :: st) := by
  obtain ⟨p, l, e, R, s, m, args, below, meth, c, D, dA, A, Q⟩ := X
  obtain ⟨hx, hb, -⟩ := C
  intro H locs ls hP hA hS hl hr
  exact lv_i2c hx hb hd rfl (kk H locs ls hP hA hS hl hr)
theorem g_lcmp (C : Cx X d cc nL ow mc ms) {x y : Int64} (hd : decode cc pc = .ok (.lcmp, 1)) (kk : G X nL M k n (pc + 1) lv (.int (lg_cmp x y) :: st)) : G X nL M k n pc lv (.long y :: .long x :: st) := by
  obtain ⟨p, l, e, R, s, m, args, below, meth, c, D, dA, A, Q⟩ := X
  obtain ⟨hx, hb, -⟩ := C
  intro H locs ls hP hA hS hl hr
  exact W.lcmp hx hb hd (kk H locs ls hP hA hS hl hr)
theorem g_ifnull (C : Cx X d cc nL ow mc ms) {r : Option Nat} {off : Int} (tgt : Nat) (hd : decode cc pc = .ok (.ifnull off, 3)) (ht : (pc : Int) + off = (tgt : Int)) (kt : r = none → G X nL M k n tgt lv st) (kf : ∀ a, r = some a → G X nL M k n (pc + 3) lv st) : G X nL M k n pc lv (va_rf r :: st) := by
  obtain ⟨p, l, e, R, s, m, args, below, meth, c, D, dA, A, Q⟩ := X
  obtain ⟨hx, hb, -⟩ := C
  intro H locs ls hP hA hS hl hr
  cases r with
  | none => exact lv_ifnullN hx hb hd ht (kt rfl H locs ls hP hA hS hl hr)
  | some a => exact lv_ifnull hx hb hd (kf a rfl H locs ls hP hA hS hl hr)
theorem g_ifnonnull (C : Cx X d cc nL ow mc ms) {r : Option Nat} {off : Int} (tgt : Nat) (hd : decode cc pc = .ok (.ifnonnull off, 3)) (ht : (pc : Int) + off = (tgt : Int)) (kt : ∀ a, r = some a → G X nL M k n tgt lv st) (kf : r = none → G X nL M k n (pc + 3) lv st) : G X nL M k n pc lv (va_rf r :: st) := by
  obtain ⟨p, l, e, R, s, m, args, below, meth, c, D, dA, A, Q⟩ := X
  obtain ⟨hx, hb, -⟩ := C
  intro H locs ls hP hA hS hl hr
  cases r with
  | none => exact lv_ifnonnullN hx hb hd (kf rfl H locs ls hP hA hS hl hr)
  | some a => exact lv_ifnonnull hx hb hd ht (kt a rfl H locs ls hP hA hS hl hr)
theorem g_tableIn (C : Cx X d cc nL ow mc ms) {dflt lo hi : Int} {offs : Array Int} {len : Nat} {x : Int32} {off : Int} (tgt : Nat) (hd : decode cc pc = .ok (.tableswitch dflt lo hi offs, len)) (h1 : ¬ x.toInt < lo) (h2 : ¬ hi < x.toInt) (ho : offs[(x.toInt - lo).toNat]? = some off) (ht : (pc : Int) + off = (tgt : Int)) (kk : G X nL M k n tgt lv st) : G X nL M k n pc lv (.int x :: st) := by
  obtain ⟨p, l, e, R, s, m, args, below, meth, c, D, dA, A, Q⟩ := X
  obtain ⟨hx, hb, -⟩ := C
  intro H locs ls hP hA hS hl hr
  exact lv_tableIn hx hb hd h1 h2 ho ht (kk H locs ls hP hA hS hl hr)
theorem g_tableOut (C : Cx X d cc nL ow mc ms) {dflt lo hi : Int} {offs : Array Int} {len : Nat} {x : Int32} (tgt : Nat) (hd : decode cc pc = .ok (.tableswitch dflt lo hi offs, len)) (h : x.toInt < lo ∨ hi < x.toInt) (ht : (pc : Int) + dflt = (tgt : Int)) (kk : G X nL M k n tgt lv st) : G X nL M k n pc lv (.int x :: st) := by
  obtain ⟨p, l, e, R, s, m, args, below, meth, c, D, dA, A, Q⟩ := X
  obtain ⟨hx, hb, -⟩ := C
  intro H locs ls hP hA hS hl hr
  exact lv_tableOut hx hb hd h ht (kk H locs ls hP hA hS hl hr)
theorem g_pc {pc' : Nat} (h : pc = pc') (kk : G X nL M k n pc' lv st) : G X nL M k n pc lv st := h ▸ kk
theorem g_objInit (C : Cx X (d + 1) cc nL ow mc ms) {r idx : Nat} (hw1 : Cond.methodLink ow idx Lib.objectInit ∈ lwg) (hw2 : Cond.instanceMethod Lib.objectInit ∈ lwg) (hw3 : Cond.code Lib.objectInit ⟨#[0xb1]⟩ 1 none ∈ lwg) (hd : decode cc pc = .ok (.invokespecial idx, 3)) (hst : (st.map fun v => v.category).sum ≤ 8) (kk : G X nL M k n (pc + 3) lv st) : G X nL M k n pc lv (.ref r :: st) := by
  obtain ⟨p, l, e, R, s, m, args, below, meth, c, D, dA, A, Q⟩ := X
  obtain ⟨hx, hb, hml, hown, hts, -, -, -, hR, -⟩ := C
  intro H locs ls hP hA hS hl hr
  refine W.objInit hx hb hown (hts _ hw1) (hts _ hw2) (hts _ hw3) rfl (by rw [hml]; exact hl.1) rfl hd (by omega) ?_ (kk H locs ls hP hA hS hl hr)
  show 2 * 0 + _ + 12 ≤ _
  omega
end GR2
/-! rows that read and write cells -/
section GM
variable {X : XT} {d nL mc ms : Nat} {cc : ByteArray} {ow : String} {M : Mem} {k n pc : Nat} {lv : List (Nat × Value)} {st : List Value}
theorem g_get (C : Cx X d cc nL ow mc ms) {ci N : Nat} {CN : String} {T : u_T} (hc : vwCl[ci]? = some (CN, T, N)) (hc7 : ci < 7) (hN : nf ci = N) (hin : ∀ w ∈ u_ws CN T N, w ∈ lwg) {a f idx : Nat} (hf : f < N) (hw : Cond.fieldLink ow idx (T f).1 (T f).2.1 (T f).2.2.1 ∈ lwg) (hd : decode cc pc = .ok (.getfield idx, 3)) (hT : gT M a = some (ci, 0)) (kk : G X nL M k n (pc + 3) lv (fV M a ci f :: st)) : G X nL M k n pc lv (.ref a :: st) := by
  obtain ⟨p, l, e, R, s, m, args, below, meth, c, D, dA, A, Q⟩ := X
  obtain ⟨hx, hb, hml, hown, hts, hK, -⟩ := C
  intro H locs ls hP hA hS hl hr
  have h1 := hP a ci 0 hT
  unfold pcell at h1
  rw [if_pos hc7] at h1
  obtain ⟨cell, q1, q2, q3, q4⟩ := h1
  obtain ⟨hSl, hfc, kC, hkC, hkind⟩ := hK.1.1 ci _ hc
  obtain ⟨cf, kf, fi, fd, hi, hsl⟩ := hSl f hf
  refine W.getf hx hb hown (hts _ hw) hi (u_facts hfc hkC (u_lays hts hin hf) hi).1 q1 (by rw [q3]; exact fun h => by cases h) (v := fV M a ci f) ?_ rfl rfl hd (kk H locs ls hP hA hS hl hr)
  rw [hsl, q4 f (by rw [hN]; exact hf)]
theorem g_put (C : Cx X d cc nL ow mc ms) {ci N : Nat} {CN : String} {T : u_T} {tyT : Nat → FieldType} (hc : vwCl[ci]? = some (CN, T, N)) (hc7 : ci < 7) (hN : nf ci = N) (hin : ∀ w ∈ u_ws CN T N, w ∈ lwg) (hty : ∀ k, k < N → parseFieldDescriptor (T k).2.2.1 = some (tyT k)) (hnm : ∀ a, a < N → ∀ b, b < N → a ≠ b → (T a).2.1 ≠ (T b).2.1) {a f idx : Nat} {v : Value} {M' : Mem} (hf : f < N) (hw : Cond.fieldLink ow idx (T f).1 (T f).2.1 (T f).2.2.1 ∈ lwg) (hd : decode cc pc = .ok (.putfield idx, 3))
    (hfin : (T f).2.2.2 = false ∨ ((T f).2.2.2 = true ∧ (∀ (m0 : Method), X.2.2.2.2.2.2.2.2.1 = m0 → m0.name = "<init>") ∧ (T f).1 = ow)) (hn : narrow (tyT f) v = v) (hfit : fits (tyT f) v = true) (hT : gT M a = some (ci, 0))
    (hM : (∀ b, gT M' b = gT M b) ∧ (∀ b j, b ≠ a → gI M' b j = gI M b j) ∧ (∀ b j, b ≠ a → gR M' b j = gR M b j) ∧ (∀ b j, b ≠ a → gL M' b j = gL M b j) ∧ ∀ j, j < N → fV M' a ci j = if j = f then v else fV M a ci j) (kk : G X nL M' k n (pc + 3) lv st) : G X nL M k n pc lv (v :: .ref a :: st) := by
  obtain ⟨p, l, e, R, s, m, args, below, meth, c, D, dA, A, Q⟩ := X
  obtain ⟨hx, hb, hml, hown, hts, hK, -⟩ := C
  intro H locs ls hP hA hS hl hr
  have hap := va_apart (own := ow) hts hin tyT hty hnm hK.1 hc
  have h1 := hP a ci 0 hT
  unfold pcell at h1
  rw [if_pos hc7] at h1
  obtain ⟨cell, q1, q2, q3, q4⟩ := h1
  rw [hN] at q4
  obtain ⟨hSl, hfc, kC, hkC, hkind⟩ := hK.1.1 ci _ hc
  obtain ⟨cf, kf, fi, fd, hi, hsl⟩ := hSl f hf
  have hst := (u_facts hfc hkC (u_lays hts hin hf) hi).1
  have go : ∀ H' : Heap, H'[a]? = some (cell.setSlot (D.2 ci f) v) → H'.size = H.size → (∀ q : Nat, q ≠ a → H'[q]? = H[q]?) → W p l e R s m args below meth c H' (locs ++ [⟨a, D.2 ci f⟩]) k n Q (F0 m (pc + 3) ls st) := by
    intro H' e1 e2 e3
    refine kk H' _ ls (pic_upd hP hM.1 hM.2.1 hM.2.2.1 hM.2.2.2.1 e3 (fun c0 n0 h0 => ?_)) (fun b hb2 => hA b (by rw [← hM.1]; exact hb2)) (hS.put e2 e3 (hA a (by rw [hT]; exact fun z => by cases z))) hl hr
    rw [hT] at h0
    cases h0
    unfold pcell
    rw [if_pos hc7, hN]
    refine t_OB.to (V := updV (fV M a ci) f v) ⟨_, e1, q2, q3, t_set q4 hap hf v⟩ (fun j hj => ?_)
    rw [hM.2.2.2.2 j hj]
    unfold updV
    rfl
  rcases hfin with hfin | ⟨hfin, hin2, hdecl⟩
  · have hlay := hts _ (hin _ (u_in_lay hf))
    unfold u_lay at hlay
    rw [if_neg (by rw [hfin]; decide)] at hlay
    have h6 := u_store hfc hkC hkind hlay hi (hty f hf) hn hfit
    refine W.putK hx hb (f := fd) ⟨hown, hts _ hw, ⟨_, _, _, hi⟩, hst⟩ (by rw [q2]; exact h6) q1 q3 (by rw [hsl]; exact k2_hasslot (q4 f hf)) rfl rfl hd fun H' e1 e2 e3 => ?_
    rw [hsl] at e1 ⊢
    exact go H' e1 e2 e3
  · have hlay := hts _ (hin _ (u_in_lay hf))
    unfold u_lay at hlay
    rw [if_pos hfin] at hlay
    have hcf : m.cls = cf := by
      obtain ⟨_, _, c', _, _, _, -, -, hf', -, -, -, hown2, -⟩ := Cond.laysFinal_spec hlay
      have e1 : c' = cf := by have := hi.symm.trans hf'; simp at this; exact this.1.symm
      rw [hdecl] at hown2
      rw [← e1]; exact Option.some.inj (hown.symm.trans hown2)
    have h6 := u_fits hfc hkC hkind (Or.inr hlay) hi (hty f hf) hn hfit
    refine W.putFinK hx hb hown (hts _ hw) hi hst hcf (hin2 meth rfl) (by rw [q2]; exact h6) q1 q3 (by rw [hsl]; exact k2_hasslot (q4 f hf)) rfl rfl hd fun H' e1 e2 e3 => ?_
    rw [hsl] at e1 ⊢
    exact go H' e1 e2 e3
theorem g_new (C : Cx X d cc nL ow mc ms) {ci N : Nat} {CN : String} {T : u_T} {tyT : Nat → FieldType} (hc : vwCl[ci]? = some (CN, T, N)) (hc7 : ci < 7) (hN : nf ci = N) (hin : ∀ w ∈ u_ws CN T N, w ∈ lwg) (hty : ∀ k, k < N → parseFieldDescriptor (T k).2.2.1 = some (tyT k)) (hdef : ∀ j, j < N → defaultValue (tyT j) = if kd ci j = true then .int 0 else .null) {idx : Nat} (hw1 : Cond.classLink ow idx CN ∈ lwg) (hw2 : Cond.instantiable CN N ∈ lwg) (hw3 : Cond.initialized CN ∈ lwg) (hd : decode cc pc = .ok (.new idx, 3)) (hk : k + 1 ≤ mc ∧ n + N ≤ ms) (kk : ∀ q, gT M q = none → G X nL (sN M q (ci, 0)) (k + 1) (n + N) (pc + 3) lv (.ref q :: st)) : G X nL M k n pc lv st := by
  obtain ⟨p, l, e, R, s, m, args, below, meth, c, D, dA, A, Q⟩ := X
  obtain ⟨hx, hb, hml, hown, hts, hK, -, hA0, -, hRc, -⟩ := C
  intro H locs ls hP hA hS hl hr
  have hKn := hK.1.1 ci _ hc
  refine W.newcK hx hb hown (hts _ hw1) (hts _ hw2) (hts _ hw3) rfl hd (by rw [hRc.1]; exact hk.1) (by rw [hRc.2]; exact hk.2) hKn.2.1 rfl fun H1 kC hkC e1 z1 o1 => ?_
  obtain ⟨g1, g2⟩ := pic_new (H1 := H1) (ty := (ci, 0)) hP rfl o1 (by
    unfold pcell
    rw [if_pos hc7, hN]
    refine (u_born tyT hts hin hKn hkC e1 hty).to (fun j hj => ?_)
    rw [hdef j hj]
    unfold fV
    rw [gI_sN, gR_sN, if_pos rfl, if_pos rfl]
    rfl)
  exact kk H.size g1 H1 locs ls g2 (fun b hb2 => by
    rw [gT_sN] at hb2
    by_cases e9 : b = H.size
    · rw [e9]; exact hA0 _ hS.1
    · rw [if_neg e9] at hb2; exact hA b hb2) ⟨Nat.le_trans hS.1 (by omega), fun x h1 h2 => (o1 x (Nat.lt_of_lt_of_le h1 hS.1)).trans (hS.2.1 x h1 h2), hS.2.2⟩ hl ⟨by rw [hRc.1]; exact hk.1, by rw [hRc.2]; exact hk.2⟩
theorem g_newa (C : Cx X d cc nL ow mc ms) {at0 : ArrayType} {ty : FieldType} {ck : Nat} (hty : newarray.typeOf at0 = ty) (hck : ck = 10 ∧ ty = .int) (hw : Cond.arrayClass ty ∈ lwg) {x : Int32} {N' : Nat} (hn : ¬ x < 0) (hN : x.toNatClampNeg = N') (hbytes : N' * componentBytes ty ≤ 536870912) (hd : decode cc pc = .ok (.newarray at0, 2)) (hk : k + 1 ≤ mc ∧ n + N' ≤ ms) (kk : ∀ q, gT M q = none → G X nL (sN M q (ck, N')) (k + 1) (n + N') (pc + 2) lv (.ref q :: st)) : G X nL M k n pc lv (.int x :: st) := by
  obtain ⟨p, l, e, R, s, m, args, below, meth, c, D, dA, A, Q⟩ := X
  obtain ⟨hx, hb, hml, hown, hts, hK, -, hA0, -, hRc, -⟩ := C
  intro H locs ls hP hA hS hl hr
  subst hty
  refine va_newaK hx hb (hts _ hw) rfl hd rfl hn hN hbytes (by rw [hRc.1]; exact hk.1) (by rw [hRc.2]; exact hk.2) rfl fun H1 cA e1 z1 o1 hAr hNm => ?_
  obtain ⟨g1, g2⟩ := pic_new (H1 := H1) (ty := (ck, N')) hP rfl o1 (by
    obtain ⟨rfl, ht⟩ := hck
    have hcA : cA = dA 10 := by
      have h9 := (hK.1.2 0 (dA 10, .int) rfl).2
      rw [ht] at hNm
      exact Option.some.inj (hNm.symm.trans h9)
    show H1[H.size]? = some (vp_cell (dA 10) (N', .inl (gI (sN M H.size (10, N')) H.size)))
    rw [e1, hcA, ht, vp_cell_i]
    congr 2
    funext j
    show Value.int 0 = Value.int (gI (sN M H.size (10, N')) H.size j)
    rw [gI_sN, if_pos rfl])
  exact kk H.size g1 H1 locs ls g2 (fun b hb2 => by
    rw [gT_sN] at hb2
    by_cases e9 : b = H.size
    · rw [e9]; exact hA0 _ hS.1
    · rw [if_neg e9] at hb2; exact hA b hb2) ⟨Nat.le_trans hS.1 (by omega), fun x h1 h2 => (o1 x (Nat.lt_of_lt_of_le h1 hS.1)).trans (hS.2.1 x h1 h2), hS.2.2⟩ hl ⟨by rw [hRc.1]; exact hk.1, by rw [hRc.2]; exact hk.2⟩
theorem g_newq (C : Cx X d cc nL ow mc ms) {CN : String} {ck j0 idx : Nat} (hck : 11 < ck) (hj : (tysA X.2.2.2.2.2.2.2.2.2.2.2.1)[j0]? = some (X.2.2.2.2.2.2.2.2.2.2.2.1 ck, .object CN)) (hCN : CN ∈ [RX3, RX0, RX2]) (hw : Cond.classLink ow idx CN ∈ lwg) {x : Int32} {N' : Nat} (hn : ¬ x < 0) (hN : x.toNatClampNeg = N') (hbytes : N' * 4 ≤ 536870912) (hd : decode cc pc = .ok (.anewarray idx, 3)) (hk : k + 1 ≤ mc ∧ n + N' ≤ ms) (kk : ∀ q, gT M q = none → G X nL (sN M q (ck, N')) (k + 1) (n + N') (pc + 3) lv (.ref q :: st)) : G X nL M k n pc lv (.int x :: st) := by
  obtain ⟨p, l, e, R, s, m, args, below, meth, c, D, dA, A, Q⟩ := X
  obtain ⟨hx, hb, hml, hown, hts, hK, -, hA0, -, hRc, -⟩ := C
  intro H locs ls hP hA hS hl hr
  subst hN
  refine W.anew hx hb hown (hts _ hw) (va_AO.use (hK.2.2.1 CN hCN)) rfl hd rfl hn hbytes (by rw [hRc.1]; exact hk.1) (by rw [hRc.2]; exact hk.2) fun cA kA comp f1 f2 f3 f4 => ?_
  generalize hH1 : H.push ({ cls := cA, slots := Array.replicate x.toNatClampNeg .null, vm := .none } : Cell) = H1
  have z1 : H1.size = H.size + 1 := by rw [← hH1, Array.size_push]
  have e1 : H1[H.size]? = some (arrV cA x.toNatClampNeg (fun _ => .null)) := by rw [← hH1, Array.getElem?_push_size, ← arrV_new]
  have o1 : ∀ q : Nat, q < H.size → H1[q]? = H[q]? := fun q hq => by rw [← hH1, Array.getElem?_push, if_neg (Nat.ne_of_lt hq)]
  have hcA : cA = dA ck := by
    obtain ⟨kA', comp', g1, g2, g3, g4⟩ := (hK.1.2 j0 (dA ck, .object CN) hj).2
    exact Option.some.inj (f1.symm.trans g4)
  obtain ⟨g1, g2⟩ := pic_new (H1 := H1) (ty := (ck, x.toNatClampNeg)) hP rfl o1 (by
    unfold pcell
    rw [if_neg (by show ¬ ck < 7; omega), e1, hcA]
    unfold aE
    rw [if_neg (by show ¬ ck = 10; omega), if_neg (by show ¬ ck = 11; omega), vp_cell_q]
    congr 2
    funext j
    rw [gR_sN, if_pos rfl]
    rfl)
  exact kk H.size g1 H1 locs ls g2 (fun b hb2 => by
    rw [gT_sN] at hb2
    by_cases e9 : b = H.size
    · rw [e9]; exact hA0 _ hS.1
    · rw [if_neg e9] at hb2; exact hA b hb2) ⟨Nat.le_trans hS.1 (by omega), fun x h1 h2 => (o1 x (Nat.lt_of_lt_of_le h1 hS.1)).trans (hS.2.1 x h1 h2), hS.2.2⟩ hl ⟨by rw [hRc.1]; exact hk.1, by rw [hRc.2]; exact hk.2⟩
theorem g_iald (C : Cx X d cc nL ow mc ms) {a N : Nat} {i : Int32} (hd : decode cc pc = .ok (.iaload, 1)) (hT : gT M a = some (10, N)) (hi : vp_in i N) (kk : G X nL M k n (pc + 1) lv (.int (gI M a i.toNatClampNeg) :: st)) : G X nL M k n pc lv (.int i :: .ref a :: st) := by
  obtain ⟨p, l, e, R, s, m, args, below, meth, c, D, dA, A, Q⟩ := X
  obtain ⟨hx, hb, hml, hown, hts, hK, -⟩ := C
  intro H locs ls hP hA hS hl hr
  exact va_iald (ws := [(a, .inl (dA 10, N, .inl (gI M a)))]) hx hb hK.1 (fun j q hq => by
    have hz : j < 1 := (List.getElem?_eq_some_iff.mp hq).1
    rw [show j = 0 by omega] at hq
    cases hq
    exact hP a 10 N hT) 0 0 rfl rfl hi hd (kk H locs ls hP hA hS hl hr)
theorem g_aald (C : Cx X d cc nL ow mc ms) {a N ck : Nat} {i : Int32} (hck : ck = 12 ∨ ck = 13 ∨ ck = 14) (hd : decode cc pc = .ok (.aaload, 1)) (hT : gT M a = some (ck, N)) (hi : vp_in i N) (kk : G X nL M k n (pc + 1) lv (va_rf (gR M a i.toNatClampNeg) :: st)) : G X nL M k n pc lv (.int i :: .ref a :: st) := by
  obtain ⟨p, l, e, R, s, m, args, below, meth, c, D, dA, A, Q⟩ := X
  obtain ⟨hx, hb, hml, hown, hts, hK, -⟩ := C
  intro H locs ls hP hA hS hl hr
  have h1 := hP a ck N hT
  rcases hck with rfl | rfl | rfl
  · exact va_aldq (ws := [(a, .inl (dA 12, N, .inr (.inr (.inr (.inr (gR M a))))))]) hx hb hK.1 (fun j q hq => by
      have hz : j < 1 := (List.getElem?_eq_some_iff.mp hq).1
      rw [show j = 0 by omega] at hq
      cases hq
      exact h1) 0 2 rfl rfl hi hd (kk H locs ls hP hA hS hl hr)
  · exact va_aldq (ws := [(a, .inl (dA 13, N, .inr (.inr (.inr (.inr (gR M a))))))]) hx hb hK.1 (fun j q hq => by
      have hz : j < 1 := (List.getElem?_eq_some_iff.mp hq).1
      rw [show j = 0 by omega] at hq
      cases hq
      exact h1) 0 3 rfl rfl hi hd (kk H locs ls hP hA hS hl hr)
  · exact va_aldq (ws := [(a, .inl (dA 14, N, .inr (.inr (.inr (.inr (gR M a))))))]) hx hb hK.1 (fun j q hq => by
      have hz : j < 1 := (List.getElem?_eq_some_iff.mp hq).1
      rw [show j = 0 by omega] at hq
      cases hq
      exact h1) 0 4 rfl rfl hi hd (kk H locs ls hP hA hS hl hr)
theorem g_iast (C : Cx X d cc nL ow mc ms) {a N : Nat} {i x : Int32} (hd : decode cc pc = .ok (.iastore, 1)) (hT : gT M a = some (10, N)) (hi : vp_in i N) (kk : G X nL (sI M a i.toNatClampNeg x) k n (pc + 1) lv st) : G X nL M k n pc lv (.int x :: .int i :: .ref a :: st) := by
  obtain ⟨p, l, e, R, s, m, args, below, meth, c, D, dA, A, Q⟩ := X
  obtain ⟨hx, hb, hml, hown, hts, hK, -⟩ := C
  intro H locs ls hP hA hS hl hr
  have h1 : H[a]? = some (vp_cell (dA 10) (N, .inl (gI M a))) := hP a 10 N hT
  refine W.iast hx hb h1 ((hK.1.2 0 (dA 10, .int) rfl).1 N (fun j => .int (gI M a j))) (fun q => by cases q) (by show ¬ (i < 0 ∨ (arrV _ _ _).slots.size ≤ _); rw [arrV_size]; exact hi) rfl rfl hd fun H1 e1 z oq => ?_
  refine kk H1 _ ls (pic_upd (a := a) hP (fun b => rfl) (fun b j hb2 => by rw [gI_sI, if_neg (fun h => hb2 h.1)]) (fun b j _ => rfl) (fun b j _ => rfl) oq (fun c0 n0 h0 => ?_)) hA (hS.put z oq (hA a (by rw [hT]; exact fun z => by cases z))) hl hr
  rw [hT] at h0
  cases h0
  show H1[a]? = some (vp_cell (dA 10) (N, .inl (gI (sI M a i.toNatClampNeg x) a)))
  rw [e1, vp_cell_i, vp_cell_i, arrV_store]
  congr 2
  funext q
  unfold updV
  rw [gI_sI]
  by_cases hq : q = i.toNatClampNeg
  · rw [if_pos hq, if_pos ⟨rfl, hq⟩]
  · rw [if_neg hq, if_neg (fun h => hq h.2)]
/-- an object goes into an array of references: ck the array's kind, ci the object's -/
theorem g_aast (C : Cx X d cc nL ow mc ms) {a N ck ci v : Nat} {i : Int32} (hck : (ck = 12 ∧ ci = 3) ∨ (ck = 13 ∧ ci = 0) ∨ (ck = 14 ∧ ci = 2)) (hd : decode cc pc = .ok (.aastore, 1)) (hT : gT M a = some (ck, N)) (hV : gT M v = some (ci, 0)) (hi : vp_in i N) (kk : G X nL (sR M a i.toNatClampNeg (some v)) k n (pc + 1) lv st) : G X nL M k n pc lv (.ref v :: .int i :: .ref a :: st) := by
  obtain ⟨p, l, e, R, s, m, args, below, meth, c, D, dA, A, Q⟩ := X
  obtain ⟨hx, hb, hml, hown, hts, hK, -⟩ := C
  intro H locs ls hP hA hS hl hr
  have h12 : ¬ ck < 7 ∧ ¬ ck = 10 ∧ ¬ ck = 11 ∧ ci < 7 := by omega
  have h1 : H[a]? = some (vp_cell (dA ck) (N, .inr (.inr (.inr (.inr (gR M a)))))) := by
    have h9 := hP a ck N hT
    unfold pcell at h9
    rw [if_neg h12.1] at h9
    rw [h9]
    unfold aE
    rw [if_neg h12.2.1, if_neg h12.2.2.1]
  have h2 := hP v ci 0 hV
  unfold pcell at h2
  rw [if_pos h12.2.2.2] at h2
  obtain ⟨cellV, g1, g2, g3, -⟩ := h2
  obtain ⟨r, hr9, j0, ht9⟩ : ∃ r : vw_C, vwCl[ci]? = some r ∧ ∃ j0 : Nat, (tysA dA)[j0]? = some (dA ck, FieldType.object r.1) := by
    rcases hck with ⟨rfl, rfl⟩ | ⟨rfl, rfl⟩ | ⟨rfl, rfl⟩
    · exact ⟨(RX3, TX3, 2), rfl, 2, rfl⟩
    · exact ⟨(RX0, TX0, 4), rfl, 3, rfl⟩
    · exact ⟨(RX2, TX2, 2), rfl, 4, rfl⟩
  have hlt : i.toNatClampNeg < N := Nat.not_le.mp fun q => hi (Or.inr q)
  have h0 : ¬ i < 0 := fun q => hi (Or.inl q)
  have hcls := (hK.1.1 ci r hr9).2
  obtain ⟨kA, comp, k1, k2, k3, -⟩ := (hK.1.2 j0 _ ht9).2
  have hcomp : comp = D.1 ci := Option.some.inj (k3.symm.trans hcls.1)
  subst hcomp
  obtain ⟨kC, hkC, -⟩ := id hcls.2
  refine W.aast hx hb h1 (fun q h => by cases h) (fun h => by cases h) k1 k2 rfl hkC ⟨h0, by show _ < (arrV _ _ _).slots.size; rw [arrV_size]; exact hlt⟩ g1 (fun q h => by rw [g3] at h; cases h) (by rw [g2]; exact hkC) (by rw [g2]; exact va_assign hcls) rfl rfl hd fun H1 e1 z oq => ?_
  refine kk H1 _ ls (pic_upd (a := a) hP (fun b => rfl) (fun b j _ => rfl) (fun b j hb2 => by rw [gR_sR, if_neg (fun h => hb2 h.1)]) (fun b j _ => rfl) oq (fun c0 n0 h0 => ?_)) hA (hS.put z oq (hA a (by rw [hT]; exact fun z => by cases z))) hl hr
  rw [hT] at h0
  cases h0
  unfold pcell
  rw [if_neg h12.1]
  unfold aE
  rw [if_neg h12.2.1, if_neg h12.2.2.1]
  rw [e1, vp_cell_q, vp_cell_q, arrV_store]
  congr 2
  funext q
  unfold updV
  rw [gR_sR]
  by_cases hq : q = i.toNatClampNeg
  · rw [if_pos hq, if_pos ⟨rfl, hq⟩]
    rfl
  · rw [if_neg hq, if_neg (fun h => hq h.2)]
end GM
