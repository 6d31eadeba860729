/-! ===== bits of longs ===== -/
def tb (x : Int64) (i : Nat) : Bool := x.toBitVec.getLsbD i
theorem tb_bit : ∀ j, j < 64 → ∀ i, i < 64 → tb (am_bit (nI j)) i = decide (i = j) := by decide +kernel
theorem tb_and (x y : Int64) (i : Nat) : tb (x &&& y) i = (tb x i && tb y i) := by
  unfold tb
  rw [Int64.toBitVec_and, BitVec.getLsbD_and]
theorem tb_or (x y : Int64) (i : Nat) : tb (x ||| y) i = (tb x i || tb y i) := by
  unfold tb
  rw [Int64.toBitVec_or, BitVec.getLsbD_or]
theorem tb_xor (x y : Int64) (i : Nat) : tb (x ^^^ y) i = (tb x i ^^ tb y i) := by
  unfold tb
  rw [Int64.toBitVec_xor, BitVec.getLsbD_xor]
theorem tb_m1 : ∀ i, i < 64 → tb (-1) i = true := by decide +kernel
theorem tb_0 (i : Nat) : tb 0 i = false := by
  unfold tb
  show (0 : BitVec 64).getLsbD i = false
  simp
theorem tb_not (x : Int64) {i : Nat} (hi : i < 64) : tb (x ^^^ (-1)) i = !tb x i := by
  rw [tb_xor, tb_m1 i hi]
  simp
theorem tb_ext {x y : Int64} (h : ∀ i, i < 64 → tb x i = tb y i) : x = y := by
  apply Int64.toBitVec_inj.mp
  apply BitVec.eq_of_getLsbD_eq
  intro i hi
  exact h i hi
theorem bit_and_0 {x : Int64} {j : Nat} (hj : j < 64) : x &&& am_bit (nI j) = 0 ↔ tb x j = false := by
  constructor
  · intro h
    have := congrArg (fun z => tb z j) h
    simp only [tb_and, tb_bit j hj j hj, tb_0] at this
    simpa using this
  · intro h
    apply tb_ext
    intro i hi
    rw [tb_and, tb_bit j hj i hi, tb_0]
    by_cases e : i = j
    · subst e; simp [h]
    · simp [e]
theorem bit_and_ne {x : Int64} {j : Nat} (hj : j < 64) : (¬ x &&& am_bit (nI j) = 0) ↔ tb x j = true := by
  rw [bit_and_0 hj]
  cases tb x j <;> simp
theorem eq0_tb {x : Int64} : x = 0 ↔ ∀ i, i < 64 → tb x i = false := by
  constructor
  · intro h i _
    rw [h, tb_0]
  · intro h
    apply tb_ext
    intro i hi
    rw [h i hi, tb_0]
theorem tb_set {x : Int64} {j i : Nat} (hj : j < 64) (hi : i < 64) : tb (x ||| am_bit (nI j)) i = if i = j then true else tb x i := by
  rw [tb_or, tb_bit j hj i hi]
  by_cases e : i = j <;> simp [e]
theorem tb_clr {x : Int64} {j i : Nat} (hj : j < 64) (hi : i < 64) : tb (x &&& (am_bit (nI j) ^^^ (-1))) i = if i = j then false else tb x i := by
  rw [tb_and, tb_not _ hi, tb_bit j hj i hi]
  by_cases e : i = j <;> simp [e]
theorem tb_shl (x : Int64) {c : Int64} (k : Nat) (hc : (c.toBitVec.smod 64).toNat = k) {i : Nat} (hi : i < 64) : tb (x <<< c) i = if i < k then false else tb x (i - k) := by
  show (x.toBitVec <<< (c.toBitVec.smod 64).toNat).getLsbD i = if i < k then false else x.toBitVec.getLsbD (i - k)
  rw [hc, BitVec.getLsbD_shiftLeft]
  by_cases e : i < k <;> simp [e, hi]
theorem tb_shr (x : Int64) {c : UInt64} (k : Nat) (hc : (c.toBitVec % 64).toNat = k) (i : Nat) : tb (x.toUInt64 >>> c).toInt64 i = tb x (k + i) := by
  show (x.toBitVec >>> (c.toBitVec % 64).toNat).getLsbD i = x.toBitVec.getLsbD (k + i)
  rw [hc, BitVec.getLsbD_ushiftRight]
theorem tb_big (x : Int64) {i : Nat} (hi : 64 ≤ i) : tb x i = false := by
  unfold tb
  exact BitVec.getLsbD_of_ge _ _ hi
