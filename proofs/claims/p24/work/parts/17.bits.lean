/-! bits: begun with the rows given for pasting -/
def bt (x : Int32) (i : Nat) : Bool := x.toBitVec.getLsbD i
theorem b_ext {x y : Int32} (h : ∀ i, i < 32 → bt x i = bt y i) : x = y := Int32.toBitVec_inj.mp (BitVec.eq_of_getLsbD_eq (fun i hi => h i hi))
theorem b_or (x y : Int32) (i : Nat) : bt (x ||| y) i = (bt x i || bt y i) := by unfold bt; rw [Int32.toBitVec_or, BitVec.getLsbD_or]
theorem b_and (x y : Int32) (i : Nat) : bt (x &&& y) i = (bt x i && bt y i) := by unfold bt; rw [Int32.toBitVec_and, BitVec.getLsbD_and]
theorem b_xor (x y : Int32) (i : Nat) : bt (x ^^^ y) i = (bt x i ^^ bt y i) := by unfold bt; rw [Int32.toBitVec_xor, BitVec.getLsbD_xor]
theorem b_big {x : Int32} {i : Nat} (h : 32 ≤ i) : bt x i = false := BitVec.getLsbD_of_ge _ _ h
theorem b_m1 : ∀ i, i < 32 → bt (-1) i = true := by decide +kernel
theorem b_0 (i : Nat) : bt 0 i = false := BitVec.getLsbD_zero
theorem s_l : ∀ n, n < 32 → ((nI n &&& 31).toBitVec.smod 32).toNat = n := by decide +kernel
theorem s_u : ∀ n, n < 32 → (((nI n).toUInt32 &&& Int32.toUInt32 31).toBitVec % 32).toNat = n := by decide +kernel
theorem b_shl (n : Nat) (hn : n < 32) (x : Int32) {i : Nat} (hi : i < 32) : bt (x <<< (nI n &&& 31)) i = (decide (n ≤ i) && bt x (i - n)) := by
  unfold bt
  rw [Int32.toBitVec_shiftLeft]
  show (x.toBitVec <<< ((nI n &&& 31).toBitVec.smod 32).toNat).getLsbD i = _
  rw [s_l n hn, BitVec.getLsbD_shiftLeft]
  rcases Nat.lt_or_ge i n with h | h
  · simp [h, Nat.not_le.mpr h]
  · simp [hi, h, Nat.not_lt.mpr h]
theorem b_ushr (n : Nat) (hn : n < 32) (x : Int32) (i : Nat) : bt ((x.toUInt32 >>> ((nI n).toUInt32 &&& Int32.toUInt32 31)).toInt32) i = bt x (n + i) := by
  show (x.toUInt32 >>> ((nI n).toUInt32 &&& Int32.toUInt32 31)).toBitVec.getLsbD i = x.toUInt32.toBitVec.getLsbD (n + i)
  rw [UInt32.toBitVec_shiftRight]
  show (x.toUInt32.toBitVec >>> (((nI n).toUInt32 &&& Int32.toUInt32 31).toBitVec % 32).toNat).getLsbD i = _
  rw [s_u n hn, BitVec.getLsbD_ushiftRight]
theorem b_sshr (n : Nat) (hn : n < 32) (x : Int32) {i : Nat} (hi : i < 32) : bt (x >>> (nI n &&& 31)) i = if n + i < 32 then bt x (n + i) else bt x 31 := by
  unfold bt
  rw [Int32.toBitVec_shiftRight]
  show (x.toBitVec.sshiftRight ((nI n &&& 31).toBitVec.smod 32).toNat).getLsbD i = _
  rw [s_l n hn, BitVec.getLsbD_sshiftRight, BitVec.msb_eq_getLsbD_last]
  simp [hi]

theorem hs_ex (m : Int32) {k : Nat} (hk : k < 32) : ((m >>> (nI k &&& 31)) &&& 1 = 0) ↔ bt m k = false := by
  have h1 : ∀ i, i < 32 → bt ((m >>> (nI k &&& 31)) &&& 1) i = (decide (i = 0) && bt m k) := by
    intro i hi
    rw [b_and, b_sshr k hk m hi]
    by_cases h0 : i = 0
    · subst h0
      have : bt 1 0 = true := by decide
      simp [this, hk]
    · have : bt 1 i = false := (by decide +kernel : ∀ i, i < 32 → i ≠ 0 → bt 1 i = false) i hi h0
      simp [this, h0]
  constructor
  · intro h
    have h2 := h1 0 (by omega)
    rw [h, b_0] at h2
    simpa using h2.symm
  · intro h
    refine b_ext (fun i hi => ?_)
    rw [h1 i hi, h, b_0]
    simp
theorem hs_one (m : Int32) {k : Nat} (hk : k < 32) : ((m >>> (nI k &&& 31)) &&& 1 = 1) ↔ bt m k = true := by
  have h1 : ∀ i, i < 32 → bt ((m >>> (nI k &&& 31)) &&& 1) i = (decide (i = 0) && bt m k) := by
    intro i hi
    rw [b_and, b_sshr k hk m hi]
    by_cases h0 : i = 0
    · subst h0
      have : bt 1 0 = true := by decide
      simp [this, hk]
    · have : bt 1 i = false := (by decide +kernel : ∀ i, i < 32 → i ≠ 0 → bt 1 i = false) i hi h0
      simp [this, h0]
  constructor
  · intro h
    have h2 := h1 0 (by omega)
    rw [h] at h2
    have : bt 1 0 = true := by decide
    rw [this] at h2
    simpa using h2.symm
  · intro h
    refine b_ext (fun i hi => ?_)
    rw [h1 i hi, h]
    by_cases h0 : i = 0
    · subst h0; decide
    · have : bt 1 i = false := (by decide +kernel : ∀ i, i < 32 → i ≠ 0 → bt 1 i = false) i hi h0
      simp [this, h0]
/-- k comes into the set; goes out of it -/
def sb (m k : Int32) : Int32 := m ||| (1 <<< (k &&& 31))
def cb (m k : Int32) : Int32 := m &&& ((1 <<< (k &&& 31)) ^^^ (-1))
theorem b_pow {k : Nat} (hk : k < 32) {i : Nat} (hi : i < 32) : bt ((1 : Int32) <<< (nI k &&& 31)) i = decide (i = k) := by
  rw [b_shl k hk 1 hi]
  by_cases h : k ≤ i
  · by_cases h2 : i = k
    · subst h2
      have : bt 1 0 = true := by decide
      simp [this]
    · have : bt 1 (i - k) = false := (by decide +kernel : ∀ i, i < 32 → i ≠ 0 → bt 1 i = false) (i - k) (by omega) (by omega)
      simp [this, h2]
  · have : i ≠ k := by omega
    simp [h, this]
theorem hs_sb (m : Int32) {k i : Nat} (hk : k < 32) (hi : i < 32) : bt (sb m (nI k)) i = (bt m i || decide (i = k)) := by
  show bt (m ||| _) i = _
  rw [b_or, b_pow hk hi]
theorem hs_cb (m : Int32) {k i : Nat} (hk : k < 32) (hi : i < 32) : bt (cb m (nI k)) i = (bt m i && !decide (i = k)) := by
  show bt (m &&& (_ ^^^ _)) i = _
  rw [b_and, b_xor, b_pow hk hi, b_m1 i hi]
  cases decide (i = k) <;> simp
theorem hs_pow {k i : Nat} (hk : k < 32) (hi : i < 32) : bt ((1 : Int32) <<< (nI k &&& 31)) i = decide (i = k) := b_pow hk hi
