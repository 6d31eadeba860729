/-! ===== Integer.bitCount of small numbers ===== -/
def popN (n : Nat) : Nat → Nat
  | 0 => 0
  | k + 1 => popN n k + n / 2 ^ k % 2
def ibc1 (a : Int32) : Int32 := a - (((a.toUInt32 >>> ((1 : Int32).toUInt32 &&& Int32.toUInt32 31)).toInt32) &&& 1431655765)
def ibc2 (a : Int32) : Int32 := (a &&& 858993459) + (((a.toUInt32 >>> ((2 : Int32).toUInt32 &&& Int32.toUInt32 31)).toInt32) &&& 858993459)
def ibc3 (a : Int32) : Int32 := (a + ((a.toUInt32 >>> ((4 : Int32).toUInt32 &&& Int32.toUInt32 31)).toInt32)) &&& 252645135
def ibc4 (a : Int32) : Int32 := a + ((a.toUInt32 >>> ((8 : Int32).toUInt32 &&& Int32.toUInt32 31)).toInt32)
def ibc5 (a : Int32) : Int32 := a + ((a.toUInt32 >>> ((16 : Int32).toUInt32 &&& Int32.toUInt32 31)).toInt32)
def ibc (a : Int32) : Int32 := ibc5 (ibc4 (ibc3 (ibc2 (ibc1 a)))) &&& 63
theorem eq_J6_bitCount {a : Int32} {M : am_I} {N : am_N} {post : Int32 → am_I → am_N → Prop} : w_J6_bitCount_0f7a4 a M N post ↔ post (ibc a) M N := by
  unfold w_J6_bitCount_0f7a4
  constructor
  · intro h
    exact h _ rfl _ rfl _ rfl _ rfl _ rfl
  · intro h v1 h1 v2 h2 v3 h3 v4 h4 v5 h5
    subst h1; subst h2; subst h3; subst h4; subst h5
    exact h
def popAll : Bool := (List.range 4096).all (fun n => ibc (nI n) == nI (popN n 12))
theorem popAll_t : popAll = true := by decide +kernel
theorem ibc_pop {n : Nat} (h : n < 4096) : ibc (nI n) = nI (popN n 12) := by
  have h1 := List.all_eq_true.mp popAll_t n (List.mem_range.mpr h)
  exact eq_of_beq h1
