/-! HOW MANY BITS: the machine's count -/
theorem bt_nI (a : Nat) {i : Nat} (hi : i < 32) : bt (nI a) i = a.testBit i := by
  show (BitVec.ofNat 32 a).getLsbD i = _
  rw [BitVec.getLsbD_ofNat, decide_eq_true hi, Bool.true_and]
theorem nI_and (a b : Nat) : nI a &&& nI b = nI (a &&& b) := b_ext (fun i hi => by rw [b_and, bt_nI a hi, bt_nI b hi, bt_nI _ hi, Nat.testBit_and])
theorem nI_sub {a b : Nat} (h : b ≤ a) : nI a - nI b = nI (a - b) := by
  have e : nI (a - b) + nI b = nI a := by rw [nI_add]; congr 1; omega
  rw [← e]
  exact Int32.add_sub_cancel _ _
theorem nI_shr {a n : Nat} (ha : a < 2 ^ 32) (hn : n < 32) : ((nI a).toUInt32 >>> ((nI n).toUInt32 &&& Int32.toUInt32 31)).toInt32 = nI (a / 2 ^ n) := b_ext (fun i hi => by
  rw [b_ushr n hn, bt_nI _ hi, Nat.testBit_div_two_pow]
  by_cases h : n + i < 32
  · rw [bt_nI a h, Nat.add_comm]
  · rw [b_big (by omega)]
    symm
    refine Nat.testBit_lt_two_pow (Nat.lt_of_lt_of_le ha ?_)
    exact Nat.pow_le_pow_right (by omega) (by omega))
theorem nI_of_bits (m : Int32) {n : Nat} (hn : n ≤ 32) (h : ∀ i, n ≤ i → bt m i = false) : ∃ v, v < 2 ^ n ∧ m = nI v := by
  refine ⟨m.toBitVec.toNat, Nat.lt_pow_two_of_testBit _ (fun i hi => h i hi), ?_⟩
  refine b_ext (fun i hi => ?_)
  rw [bt_nI _ hi]
  rfl
/-! the count in whole numbers -/
def pA (x : Nat) : Nat := x - (x / 2 &&& 1431655765)
def pB (a : Nat) : Nat := (a &&& 858993459) + (a / 4 &&& 858993459)
def pC (b : Nat) : Nat := (b + b / 16) &&& 252645135
def pD (c : Nat) : Nat := c + c / 256
def pE (d : Nat) : Nat := (d + d / 65536) &&& 63
theorem and_256 {l : Nat} (hl : l < 256) (h M : Nat) : (l + 256 * h) &&& M = (l &&& M % 256) + 256 * (h &&& M / 256) := by
  have h1 : ((l + 256 * h) &&& M) % 2 ^ 8 = _ := Nat.and_mod_two_pow
  have h2 : ((l + 256 * h) &&& M) / 2 ^ 8 = _ := Nat.and_div_two_pow
  have e1 : (l + 256 * h) % 2 ^ 8 = l := by show (l + 256 * h) % 256 = l; omega
  have e2 : (l + 256 * h) / 2 ^ 8 = h := by show (l + 256 * h) / 256 = h; omega
  rw [e1] at h1
  rw [e2] at h2
  have h3 := Nat.div_add_mod ((l + 256 * h) &&& M) 256
  have h1 : ((l + 256 * h) &&& M) % 256 = (l &&& M % 256) := h1
  have h2 : ((l + 256 * h) &&& M) / 256 = (h &&& M / 256) := h2
  omega
theorem and_3 {a b c : Nat} (ha : a < 256) (hb : b < 256) (M : Nat) : (a + 256 * (b + 256 * c)) &&& M = (a &&& M % 256) + 256 * ((b &&& M / 256 % 256) + 256 * (c &&& M / 256 / 256)) := by
  rw [and_256 ha, and_256 hb]
theorem by_A : ∀ l, l < 256 → ∀ e, e < 2 → ((l / 2 + 128 * e) &&& 85) = (l / 2 &&& 85) ∧ (l / 2 &&& 21845) = (l / 2 &&& 85) ∧ (l / 2 &&& 85) ≤ l := by decide +kernel
theorem by_B : ∀ l, l < 256 → ∀ e, e < 4 → ((l / 4 + 64 * e) &&& 51) = (l / 4 &&& 51) ∧ (l &&& 13107) = (l &&& 51) ∧ (l / 4 &&& 13107) = (l / 4 &&& 51) := by decide +kernel
def yA (l : Nat) : Nat := l - (l / 2 &&& 85)
def yB (l : Nat) : Nat := (yA l &&& 51) + (yA l / 4 &&& 51)
def yC (l : Nat) : Nat := (yB l + yB l / 16) &&& 15
def cT (g : Nat → Bool) : Nat → Nat
  | 0 => 0
  | n + 1 => cT g n + if g n = true then 1 else 0
theorem by_b : ∀ l, l < 256 → yB l ≤ 68 ∧ yB l % 16 ≤ 4 ∧ yC l = cT (Nat.testBit l) 8 ∧ yC l ≤ 8 := by decide +kernel
theorem by_C : ∀ s, s < 90 → ∀ e, e < 5 → ((s + 16 * e) &&& 15) = (s &&& 15) ∧ (s &&& 3855) = (s &&& 15) := by decide +kernel
theorem by_E : ∀ s, s < 64 → (s &&& 63) = s := by decide +kernel
theorem pop3 {a b c : Nat} (ha : a < 256) (hb : b < 256) (hc : c < 256) : pE (pD (pC (pB (pA (a + 256 * (b + 256 * c)))))) = yC a + (yC b + yC c) := by
  have A0 := by_A a ha (b % 2) (by omega)
  have A1 := by_A b hb (c % 2) (by omega)
  have A2 := by_A c hc 0 (by omega)
  have hA : pA (a + 256 * (b + 256 * c)) = yA a + 256 * (yA b + 256 * yA c) := by
    have e : (a + 256 * (b + 256 * c)) / 2 = (a / 2 + 128 * (b % 2)) + 256 * ((b / 2 + 128 * (c % 2)) + 256 * (c / 2)) := by omega
    unfold pA
    rw [e, and_3 (by omega) (by omega)]
    show a + 256 * (b + 256 * c) - (((a / 2 + 128 * (b % 2)) &&& 85) + 256 * (((b / 2 + 128 * (c % 2)) &&& 85) + 256 * (c / 2 &&& 21845))) = _
    rw [A0.1, A1.1, A2.2.1]
    unfold yA
    omega
  have ya : ∀ l, yA l ≤ l := fun l => Nat.sub_le _ _
  have ga : yA a < 256 := Nat.lt_of_le_of_lt (ya a) ha
  have gb : yA b < 256 := Nat.lt_of_le_of_lt (ya b) hb
  have gc : yA c < 256 := Nat.lt_of_le_of_lt (ya c) hc
  have hB : pB (yA a + 256 * (yA b + 256 * yA c)) = yB a + 256 * (yB b + 256 * yB c) := by
    have B0 := by_B (yA a) ga (yA b % 4) (by omega)
    have B1 := by_B (yA b) gb (yA c % 4) (by omega)
    have B2 := by_B (yA c) gc 0 (by omega)
    have e : (yA a + 256 * (yA b + 256 * yA c)) / 4 = (yA a / 4 + 64 * (yA b % 4)) + 256 * ((yA b / 4 + 64 * (yA c % 4)) + 256 * (yA c / 4)) := by omega
    unfold pB
    rw [e, and_3 ga gb, and_3 (by omega) (by omega)]
    show ((yA a &&& 51) + 256 * ((yA b &&& 51) + 256 * (yA c &&& 13107))) + (((yA a / 4 + 64 * (yA b % 4)) &&& 51) + 256 * (((yA b / 4 + 64 * (yA c % 4)) &&& 51) + 256 * (yA c / 4 &&& 13107))) = _
    rw [B0.1, B1.1, B2.2.1, B2.2.2]
    unfold yB
    omega
  have b0 := by_b a ha
  have b1 := by_b b hb
  have b2 := by_b c hc
  have hC : pC (yB a + 256 * (yB b + 256 * yB c)) = yC a + 256 * (yC b + 256 * yC c) := by
    have e : (yB a + 256 * (yB b + 256 * yB c)) + (yB a + 256 * (yB b + 256 * yB c)) / 16 = ((yB a + yB a / 16) + 16 * (yB b % 16)) + 256 * (((yB b + yB b / 16) + 16 * (yB c % 16)) + 256 * (yB c + yB c / 16)) := by omega
    have C0 := by_C (yB a + yB a / 16) (by omega) (yB b % 16) (by omega)
    have C1 := by_C (yB b + yB b / 16) (by omega) (yB c % 16) (by omega)
    have C2 := by_C (yB c + yB c / 16) (by omega) 0 (by omega)
    unfold pC
    rw [e, and_3 (by omega) (by omega)]
    show (((yB a + yB a / 16) + 16 * (yB b % 16)) &&& 15) + 256 * ((((yB b + yB b / 16) + 16 * (yB c % 16)) &&& 15) + 256 * ((yB c + yB c / 16) &&& 3855)) = _
    rw [C0.1, C1.1, C2.2]
    rfl
  rw [hA, hB, hC]
  have hD : pD (yC a + 256 * (yC b + 256 * yC c)) = (yC a + yC b) + 256 * ((yC b + yC c) + 256 * yC c) := by
    unfold pD
    omega
  rw [hD]
  unfold pE
  have e : (yC a + yC b) + 256 * ((yC b + yC c) + 256 * yC c) + ((yC a + yC b) + 256 * ((yC b + yC c) + 256 * yC c)) / 65536 = (yC a + (yC b + yC c)) + 256 * ((yC b + yC c) + 256 * yC c) := by omega
  rw [e, and_256 (by omega)]
  show ((yC a + (yC b + yC c)) &&& 63) + 256 * (((yC b + yC c) + 256 * yC c) &&& 0) = _
  rw [Nat.and_zero, by_E _ (by omega)]
  rfl
theorem and_le (a b : Nat) : a &&& b ≤ a := Nat.and_le_left
theorem bc_nI {x : Nat} (hx : x < 2 ^ 24) : bcL (nI x) = nI (pE (pD (pC (pB (pA x))))) := by
  have k1 : (1431655765 : Int32) = nI 1431655765 := by decide
  have k2 : (858993459 : Int32) = nI 858993459 := by decide
  have k3 : (252645135 : Int32) = nI 252645135 := by decide
  have k4 : (63 : Int32) = nI 63 := by decide
  have s1 : ∀ a, a < 2 ^ 32 → ((nI a).toUInt32 >>> (Int32.toUInt32 1 &&& Int32.toUInt32 31)).toInt32 = nI (a / 2) := fun a ha => nI_shr (n := 1) ha (by omega)
  have s2 : ∀ a, a < 2 ^ 32 → ((nI a).toUInt32 >>> (Int32.toUInt32 2 &&& Int32.toUInt32 31)).toInt32 = nI (a / 4) := fun a ha => nI_shr (n := 2) ha (by omega)
  have s4 : ∀ a, a < 2 ^ 32 → ((nI a).toUInt32 >>> (Int32.toUInt32 4 &&& Int32.toUInt32 31)).toInt32 = nI (a / 16) := fun a ha => nI_shr (n := 4) ha (by omega)
  have s8 : ∀ a, a < 2 ^ 32 → ((nI a).toUInt32 >>> (Int32.toUInt32 8 &&& Int32.toUInt32 31)).toInt32 = nI (a / 256) := fun a ha => nI_shr (n := 8) ha (by omega)
  have s16 : ∀ a, a < 2 ^ 32 → ((nI a).toUInt32 >>> (Int32.toUInt32 16 &&& Int32.toUInt32 31)).toInt32 = nI (a / 65536) := fun a ha => nI_shr (n := 16) ha (by omega)
  have lA : pA x ≤ x := Nat.sub_le _ _
  have lB : pB (pA x) ≤ 2 * pA x := by
    have h1 := and_le (pA x) 858993459
    have h2 := and_le (pA x / 4) 858993459
    unfold pB
    omega
  have lC : pC (pB (pA x)) ≤ 2 * pB (pA x) := by
    have h1 := and_le (pB (pA x) + pB (pA x) / 16) 252645135
    unfold pC
    omega
  have lD : pD (pC (pB (pA x))) ≤ 2 * pC (pB (pA x)) := by unfold pD; omega
  have eA : nI x - (((nI x).toUInt32 >>> (Int32.toUInt32 1 &&& Int32.toUInt32 31)).toInt32 &&& 1431655765) = nI (pA x) := by
    rw [s1 x (by omega), k1, nI_and, nI_sub (Nat.le_trans (and_le _ _) (Nat.div_le_self _ _))]
    rfl
  have eB : (nI (pA x) &&& 858993459) + (((nI (pA x)).toUInt32 >>> (Int32.toUInt32 2 &&& Int32.toUInt32 31)).toInt32 &&& 858993459) = nI (pB (pA x)) := by
    rw [s2 _ (by omega), k2, nI_and, nI_and, nI_add]
    rfl
  have eC : (nI (pB (pA x)) + ((nI (pB (pA x))).toUInt32 >>> (Int32.toUInt32 4 &&& Int32.toUInt32 31)).toInt32) &&& 252645135 = nI (pC (pB (pA x))) := by
    rw [s4 _ (by omega), nI_add, k3, nI_and]
    rfl
  have eD : nI (pC (pB (pA x))) + ((nI (pC (pB (pA x)))).toUInt32 >>> (Int32.toUInt32 8 &&& Int32.toUInt32 31)).toInt32 = nI (pD (pC (pB (pA x)))) := by
    rw [s8 _ (by omega), nI_add]
    rfl
  have eE : (nI (pD (pC (pB (pA x)))) + ((nI (pD (pC (pB (pA x))))).toUInt32 >>> (Int32.toUInt32 16 &&& Int32.toUInt32 31)).toInt32) &&& 63 = nI (pE (pD (pC (pB (pA x))))) := by
    rw [s16 _ (by omega), nI_add, k4, nI_and]
    rfl
  unfold bcL
  dsimp only
  rw [eA, eB, eC, eD, eE]
theorem cT_add (g : Nat → Bool) (k : Nat) : ∀ n, cT g (k + n) = cT g k + cT (fun i => g (k + i)) n := by
  intro n
  induction n with
  | zero => rfl
  | succ n ih =>
    show cT g (k + n) + (if g (k + n) = true then 1 else 0) = cT g k + (cT (fun i => g (k + i)) n + if g (k + n) = true then 1 else 0)
    rw [ih]
    omega
theorem cT_eq {g g' : Nat → Bool} : ∀ n, (∀ i, i < n → g i = g' i) → cT g n = cT g' n := by
  intro n
  induction n with
  | zero => intro _; rfl
  | succ n ih =>
    intro h
    show cT g n + (if g n = true then 1 else 0) = cT g' n + if g' n = true then 1 else 0
    rw [ih (fun i hi => h i (by omega)), h n (by omega)]
theorem cN_cT (m : Int32) : ∀ n, cN m n = cT (bt m) n := by
  intro n
  induction n with
  | zero => rfl
  | succ n ih =>
    show cN m n + _ = cT (bt m) n + _
    rw [ih]
theorem bt_256 {l : Nat} (hl : l < 256) (h i : Nat) : (l + 256 * h).testBit i = if i < 8 then l.testBit i else h.testBit (i - 8) := by
  rw [Nat.add_comm]
  exact Nat.testBit_two_pow_mul_add (i := 8) h hl i
theorem cT_256 {l : Nat} (hl : l < 256) (h n : Nat) : cT (Nat.testBit (l + 256 * h)) (8 + n) = cT (Nat.testBit l) 8 + cT (Nat.testBit h) n := by
  rw [cT_add]
  congr 1
  · exact cT_eq 8 (fun i hi => by rw [bt_256 hl, if_pos hi])
  · refine cT_eq n (fun i _ => ?_)
    show (l + 256 * h).testBit (8 + i) = _
    rw [bt_256 hl, if_neg (by omega), Nat.add_sub_cancel_left]
/-- the machine's count is the count of the bits -/
theorem bc_cN {m : Int32} (h : ∀ i, 24 ≤ i → bt m i = false) : bcL m = nI (cN m 24) := by
  obtain ⟨x, hx, e⟩ := nI_of_bits m (n := 24) (by omega) h
  have hx : x < 16777216 := hx
  have ex : x = x % 256 + 256 * (x / 256 % 256 + 256 * (x / 65536)) := by omega
  have ha : x % 256 < 256 := by omega
  have hb : x / 256 % 256 < 256 := by omega
  have hc : x / 65536 < 256 := by omega
  subst e
  rw [bc_nI hx, cN_cT, cT_eq 24 (fun i hi => bt_nI x (by omega))]
  generalize x % 256 = a at ex ha
  generalize x / 256 % 256 = b at ex hb
  generalize x / 65536 = c at ex hc
  subst ex
  rw [pop3 ha hb hc, show 24 = 8 + (8 + 8) from rfl, cT_256 ha, cT_256 hb, (by_b a ha).2.2.1, (by_b b hb).2.2.1, (by_b c hc).2.2.1]
theorem cN_more {m : Int32} {k : Nat} (h : ∀ i, k ≤ i → bt m i = false) : ∀ n, cN m (k + n) = cN m k := by
  intro n
  induction n with
  | zero => rfl
  | succ n ih =>
    show cN m (k + n) + (if bt m (k + n) = true then 1 else 0) = cN m k
    rw [ih, h (k + n) (by omega), if_neg (by decide)]
    rfl
theorem bc_20 {m : Int32} (h : ∀ i, 20 ≤ i → bt m i = false) : bcL m = nI (cN m 20) := by
  rw [bc_cN (fun i hi => h i (by omega)), show 24 = 20 + 4 from rfl, cN_more h]
theorem bc_6 {m : Int32} (h : b6 m) : bcL m = nI (cN m 6) := by
  rw [bc_cN (fun i hi => h i (by omega)), show 24 = 6 + 18 from rfl, cN_more h]
