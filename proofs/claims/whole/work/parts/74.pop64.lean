/-! ===== Long.bitCount ===== -/
def mk8 (c : Nat) : Nat → Nat
  | 0 => 0
  | n + 1 => 256 * mk8 c n + c
def bc1 (n h : Nat) : Nat := h - ((h / 2) &&& mk8 85 n)
def bc2 (n h : Nat) : Nat := (h &&& mk8 51 n) + ((h / 4) &&& mk8 51 n)
def bc3 (n h : Nat) : Nat := (h + h / 16) &&& mk8 15 n
theorem land_split (x m c : Nat) (hc : c < 256) : x &&& (256 * m + c) = 256 * ((x / 256) &&& m) + ((x % 256) &&& c) := by
  have h1 : (x &&& (256 * m + c)) / 2 ^ 8 = (x / 2 ^ 8) &&& ((256 * m + c) / 2 ^ 8) := by
    rw [← Nat.shiftRight_eq_div_pow, ← Nat.shiftRight_eq_div_pow, ← Nat.shiftRight_eq_div_pow]
    exact Nat.shiftRight_and_distrib
  have h2 : (x &&& (256 * m + c)) % 2 ^ 8 = (x % 2 ^ 8) &&& ((256 * m + c) % 2 ^ 8) := Nat.and_mod_two_pow
  have e1 : (256 * m + c) / 2 ^ 8 = m := by omega
  have e2 : (256 * m + c) % 2 ^ 8 = c := by omega
  rw [e1] at h1
  rw [e2] at h2
  have h3 := Nat.div_add_mod (x &&& (256 * m + c)) (2 ^ 8)
  rw [h1, h2] at h3
  exact h3.symm
theorem b8_1 : ∀ t, t < 2 → ∀ l, l < 256 → (128 * t + l / 2) &&& 85 = (l / 2) &&& 85 := by decide +kernel
theorem b8_2 : ∀ t, t < 4 → ∀ l, l < 256 → (64 * t + l / 4) &&& 51 = (l / 4) &&& 51 := by decide +kernel
def by1 (l : Nat) : Nat := l - ((l / 2) &&& 85)
def by2 (l : Nat) : Nat := (l &&& 51) + ((l / 4) &&& 51)
def by3 (l : Nat) : Nat := (l + l / 16) &&& 15
theorem by_all : ∀ l, l < 256 → by1 l < 256 ∧ by2 (by1 l) ≤ 68 ∧ by2 (by1 l) % 16 ≤ 4 ∧ by3 (by2 (by1 l)) = popN l 8 ∧ popN l 8 ≤ 8 := by decide +kernel
theorem bc1_s (n h l : Nat) (hl : l < 256) : bc1 (n + 1) (256 * h + l) = 256 * bc1 n h + by1 l := by
  have e := land_split ((256 * h + l) / 2) (mk8 85 n) 85 (by omega)
  have e1 : (256 * h + l) / 2 / 256 = h / 2 := by omega
  have e2 : (256 * h + l) / 2 % 256 = 128 * (h % 2) + l / 2 := by omega
  rw [e1, e2, b8_1 (h % 2) (by omega) l hl] at e
  unfold bc1 by1
  have : mk8 85 (n + 1) = 256 * mk8 85 n + 85 := rfl
  rw [this, e]
  have h1 : (h / 2) &&& mk8 85 n ≤ h / 2 := Nat.and_le_left
  have h2 : (l / 2) &&& 85 ≤ l / 2 := Nat.and_le_left
  omega
theorem bc2_s (n h l : Nat) (hl : l < 256) : bc2 (n + 1) (256 * h + l) = 256 * bc2 n h + by2 l := by
  have e := land_split (256 * h + l) (mk8 51 n) 51 (by omega)
  have e1 : (256 * h + l) / 256 = h := by omega
  have e2 : (256 * h + l) % 256 = l := by omega
  rw [e1, e2] at e
  have f := land_split ((256 * h + l) / 4) (mk8 51 n) 51 (by omega)
  have f1 : (256 * h + l) / 4 / 256 = h / 4 := by omega
  have f2 : (256 * h + l) / 4 % 256 = 64 * (h % 4) + l / 4 := by omega
  rw [f1, f2, b8_2 (h % 4) (by omega) l hl] at f
  unfold bc2 by2
  have : mk8 51 (n + 1) = 256 * mk8 51 n + 51 := rfl
  rw [this, e, f]
  omega
theorem bc3_s (n h l : Nat) (hl : l ≤ 68) (hh : h % 16 ≤ 4) : bc3 (n + 1) (256 * h + l) = 256 * bc3 n h + by3 l := by
  have e := land_split (256 * h + l + (256 * h + l) / 16) (mk8 15 n) 15 (by omega)
  have e1 : (256 * h + l + (256 * h + l) / 16) / 256 = h + h / 16 := by omega
  have e2 : (256 * h + l + (256 * h + l) / 16) % 256 = l + l / 16 + 16 * (h % 16) := by omega
  rw [e1, e2] at e
  unfold bc3 by3
  have : mk8 15 (n + 1) = 256 * mk8 15 n + 15 := rfl
  rw [this, e]
  have m1 : (l + l / 16 + 16 * (h % 16)) &&& 15 = (l + l / 16 + 16 * (h % 16)) % 2 ^ 4 := Nat.and_two_pow_sub_one_eq_mod _ 4
  have m2 : (l + l / 16) &&& 15 = (l + l / 16) % 2 ^ 4 := Nat.and_two_pow_sub_one_eq_mod _ 4
  rw [m1, m2]
  omega
/-- the bytes' counts -/
def popB : Nat → Nat → Nat
  | 0, _ => 0
  | n + 1, h => 256 * popB n (h / 256) + popN (h % 256) 8
theorem bc_all : ∀ n h, h < 256 ^ n → bc3 n (bc2 n (bc1 n h)) = popB n h ∧ bc2 n (bc1 n h) % 16 ≤ 4 ∧ bc1 n h < 256 ^ n ∧ bc2 n (bc1 n h) < 256 ^ n
  | 0, h, hh => by
    have : h = 0 := by
      have : 256 ^ 0 = 1 := rfl
      omega
    subst this
    exact ⟨by decide, by decide, by decide, by decide⟩
  | n + 1, h, hh => by
    have hp : 256 ^ (n + 1) = 256 * 256 ^ n := by rw [Nat.pow_succ, Nat.mul_comm]
    obtain ⟨i1, i2, i3, i4⟩ := bc_all n (h / 256) (by omega)
    obtain ⟨a1, a2, a3, a4, a5⟩ := by_all (h % 256) (by omega)
    have e : h = 256 * (h / 256) + h % 256 := by omega
    have e1 : bc1 (n + 1) h = 256 * bc1 n (h / 256) + by1 (h % 256) := by
      conv => lhs; rw [e]
      exact bc1_s n _ _ (by omega)
    have e2 : bc2 (n + 1) (bc1 (n + 1) h) = 256 * bc2 n (bc1 n (h / 256)) + by2 (by1 (h % 256)) := by
      rw [e1]
      exact bc2_s n _ _ a1
    refine ⟨?_, ?_, ?_, ?_⟩
    · rw [e2, bc3_s n _ _ a2 i2, i1, a4]
      rfl
    · rw [e2]; omega
    · rw [e1, hp]; omega
    · rw [e2, hp]; omega
theorem popN_b (h : Nat) : popN h 8 = popN (h % 256) 8 := by
  have e : ∀ j, j < 8 → h / 2 ^ j % 2 = h % 256 / 2 ^ j % 2 := by
    intro j hj
    have : j = 0 ∨ j = 1 ∨ j = 2 ∨ j = 3 ∨ j = 4 ∨ j = 5 ∨ j = 6 ∨ j = 7 := by omega
    rcases this with r | r | r | r | r | r | r | r <;> subst r <;> omega
  show popN h 0 + h / 2 ^ 0 % 2 + h / 2 ^ 1 % 2 + h / 2 ^ 2 % 2 + h / 2 ^ 3 % 2 + h / 2 ^ 4 % 2 + h / 2 ^ 5 % 2 + h / 2 ^ 6 % 2 + h / 2 ^ 7 % 2 = popN (h % 256) 0 + h % 256 / 2 ^ 0 % 2 + h % 256 / 2 ^ 1 % 2 + h % 256 / 2 ^ 2 % 2 + h % 256 / 2 ^ 3 % 2 + h % 256 / 2 ^ 4 % 2 + h % 256 / 2 ^ 5 % 2 + h % 256 / 2 ^ 6 % 2 + h % 256 / 2 ^ 7 % 2
  rw [e 0 (by omega), e 1 (by omega), e 2 (by omega), e 3 (by omega), e 4 (by omega), e 5 (by omega), e 6 (by omega), e 7 (by omega)]
  rfl
theorem popN_split (h : Nat) : ∀ k, popN h (8 + k) = popN (h % 256) 8 + popN (h / 256) k
  | 0 => by
    show popN h 8 = popN (h % 256) 8 + 0
    rw [popN_b, Nat.add_zero]
  | k + 1 => by
    show popN h (8 + k) + h / 2 ^ (8 + k) % 2 = popN (h % 256) 8 + (popN (h / 256) k + h / 256 / 2 ^ k % 2)
    rw [popN_split h k, Nat.pow_add, ← Nat.div_div_eq_div_mul]
    show _ + h / 256 / 2 ^ k % 2 = _
    rw [Nat.add_assoc]
theorem popB8 (h : Nat) : ∃ c0 c1 c2 c3 c4 c5 c6 c7 : Nat, c0 ≤ 8 ∧ c1 ≤ 8 ∧ c2 ≤ 8 ∧ c3 ≤ 8 ∧ c4 ≤ 8 ∧ c5 ≤ 8 ∧ c6 ≤ 8 ∧ c7 ≤ 8 ∧ popB 8 h = c0 + 256 * (c1 + 256 * (c2 + 256 * (c3 + 256 * (c4 + 256 * (c5 + 256 * (c6 + 256 * c7)))))) ∧ popN h 64 = c0 + c1 + c2 + c3 + c4 + c5 + c6 + c7 := by
  have b : ∀ x, popN (x % 256) 8 ≤ 8 := fun x => (by_all (x % 256) (by omega)).2.2.2.2
  refine ⟨_, _, _, _, _, _, _, _, b h, b (h / 256), b (h / 256 / 256), b (h / 256 / 256 / 256), b (h / 256 / 256 / 256 / 256), b (h / 256 / 256 / 256 / 256 / 256), b (h / 256 / 256 / 256 / 256 / 256 / 256), b (h / 256 / 256 / 256 / 256 / 256 / 256 / 256), ?_, ?_⟩
  · have e : ∀ n x, popB (n + 1) x = 256 * popB n (x / 256) + popN (x % 256) 8 := fun _ _ => rfl
    rw [e 7, e 6, e 5, e 4, e 3, e 2, e 1, e 0]
    show 256 * (256 * (256 * (256 * (256 * (256 * (256 * (256 * 0 + _) + _) + _) + _) + _) + _) + _) + _ = _
    omega
  · rw [show 64 = 8 + 56 from rfl, popN_split, show 56 = 8 + 48 from rfl, popN_split, show 48 = 8 + 40 from rfl, popN_split, show 40 = 8 + 32 from rfl, popN_split, show 32 = 8 + 24 from rfl, popN_split, show 24 = 8 + 16 from rfl, popN_split, show 16 = 8 + 8 from rfl, popN_split]
    rw [popN_b (h / 256 / 256 / 256 / 256 / 256 / 256 / 256)]
    omega
theorem lb_bv (n : Nat) : (lN n).toBitVec = BitVec.ofNat 64 n := rfl
theorem lb_nat {n : Nat} (h : n < 2 ^ 64) : (lN n).toBitVec.toNat = n := by
  rw [lb_bv, BitVec.toNat_ofNat]
  exact Nat.mod_eq_of_lt h
theorem lN_of (x : Int64) : x = lN x.toBitVec.toNat ∧ x.toBitVec.toNat < 2 ^ 64 := by
  refine ⟨?_, x.toBitVec.isLt⟩
  apply Int64.toBitVec_inj.mp
  rw [lb_bv]
  simp
theorem lN_shr {n : Nat} (hn : n < 2 ^ 64) {c : UInt64} (k : Nat) (hc : (c.toBitVec % 64).toNat = k) : ((lN n).toUInt64 >>> c).toInt64 = lN (n / 2 ^ k) := by
  apply Int64.toBitVec_inj.mp
  show (lN n).toBitVec >>> (c.toBitVec % 64).toNat = (lN (n / 2 ^ k)).toBitVec
  rw [hc]
  apply BitVec.eq_of_toNat_eq
  rw [BitVec.toNat_ushiftRight, lb_nat hn, Nat.shiftRight_eq_div_pow, lb_nat (Nat.lt_of_le_of_lt (Nat.div_le_self _ _) hn)]
theorem lN_and {a b : Nat} (ha : a < 2 ^ 64) (hb : b < 2 ^ 64) : lN a &&& lN b = lN (a &&& b) := by
  apply Int64.toBitVec_inj.mp
  rw [Int64.toBitVec_and]
  apply BitVec.eq_of_toNat_eq
  rw [BitVec.toNat_and, lb_nat ha, lb_nat hb, lb_nat (Nat.lt_of_le_of_lt Nat.and_le_left ha)]
theorem m127 (t : Nat) : t % 2 ^ 32 % 2 ^ 7 = t % 128 := by omega
theorem and127 (t : Nat) : nI t &&& 127 = nI (t % 128) := by
  rw [pk_and (nI t) (m := 127) 7 (by decide), ← m127 t]
  rfl
theorem d256 {a k : Nat} (h : a < 256) : (a + 256 * k) / 256 = k := by omega
theorem f256 {a b j k x y : Nat} (hx : x = a + 256 * j) (hy : y = b + 256 * k) : x + y = (a + b) + 256 * (j + k) := by omega
theorem pop_end {c0 c1 c2 c3 c4 c5 c6 c7 : Nat} (h0 : c0 ≤ 8) (h1 : c1 ≤ 8) (h2 : c2 ≤ 8) (h3 : c3 ≤ 8) (h4 : c4 ≤ 8) (h5 : c5 ≤ 8) (h6 : c6 ≤ 8) (h7 : c7 ≤ 8) {qq : Nat} (hq : qq = c0 + 256 * (c1 + 256 * (c2 + 256 * (c3 + 256 * (c4 + 256 * (c5 + 256 * (c6 + 256 * c7))))))) :
    (qq + qq / 256 + (qq + qq / 256) / 65536 + (qq + qq / 256 + (qq + qq / 256) / 65536) / 4294967296) % 128 = c0 + c1 + c2 + c3 + c4 + c5 + c6 + c7 := by
  generalize e7 : c7 = R7 at hq
  have e7' : R7 = c7 + 256 * 0 := by omega
  generalize e6 : c6 + 256 * R7 = R6 at hq
  generalize e5 : c5 + 256 * R6 = R5 at hq
  generalize e4 : c4 + 256 * R5 = R4 at hq
  generalize e3 : c3 + 256 * R4 = R3 at hq
  generalize e2 : c2 + 256 * R3 = R2 at hq
  generalize e1 : c1 + 256 * R2 = R1 at hq
  have a1 : qq / 256 = R1 := by rw [hq]; exact d256 (by omega)
  have s1 : qq + R1 = (c0 + c1) + 256 * (R1 + R2) := f256 hq e1.symm
  have s2 : R1 + R2 = (c1 + c2) + 256 * (R2 + R3) := f256 e1.symm e2.symm
  have s3 : R2 + R3 = (c2 + c3) + 256 * (R3 + R4) := f256 e2.symm e3.symm
  have s4 : R3 + R4 = (c3 + c4) + 256 * (R4 + R5) := f256 e3.symm e4.symm
  have s5 : R4 + R5 = (c4 + c5) + 256 * (R5 + R6) := f256 e4.symm e5.symm
  have s6 : R5 + R6 = (c5 + c6) + 256 * (R6 + R7) := f256 e5.symm e6.symm
  have s7 : R6 + R7 = (c6 + c7) + 256 * (R7 + 0) := f256 e6.symm e7'
  have b1 : (qq + R1) / 65536 = R2 + R3 := by
    rw [show 65536 = 256 * 256 from rfl, ← Nat.div_div_eq_div_mul, s1, d256 (by clear s1 s2 s3 s4 s5 s6 s7 hq e1 e2 e3 e4 e5 e6; omega), s2]
    exact d256 (by clear s1 s2 s3 s4 s5 s6 s7 hq e1 e2 e3 e4 e5 e6; omega)
  have t1 : (qq + R1) + (R2 + R3) = (c0 + c1 + (c2 + c3)) + 256 * ((R1 + R2) + (R3 + R4)) := f256 s1 s3
  have t2 : (R1 + R2) + (R3 + R4) = (c1 + c2 + (c3 + c4)) + 256 * ((R2 + R3) + (R4 + R5)) := f256 s2 s4
  have t3 : (R2 + R3) + (R4 + R5) = (c2 + c3 + (c4 + c5)) + 256 * ((R3 + R4) + (R5 + R6)) := f256 s3 s5
  have t4 : (R3 + R4) + (R5 + R6) = (c3 + c4 + (c5 + c6)) + 256 * ((R4 + R5) + (R6 + R7)) := f256 s4 s6
  have t5 : (R4 + R5) + (R6 + R7) = (c4 + c5 + (c6 + c7)) + 256 * ((R5 + R6) + (R7 + 0)) := f256 s5 s7
  have u1 : ((qq + R1) + (R2 + R3)) / 4294967296 = (R4 + R5) + (R6 + R7) := by
    rw [show 4294967296 = 256 * 256 * 256 * 256 from rfl, ← Nat.div_div_eq_div_mul, ← Nat.div_div_eq_div_mul, ← Nat.div_div_eq_div_mul, t1, d256 (by clear s1 s2 s3 s4 s5 s6 s7 hq e1 e2 e3 e4 e5 e6 t1 t2 t3 t4 t5; omega), t2, d256 (by clear s1 s2 s3 s4 s5 s6 s7 hq e1 e2 e3 e4 e5 e6 t1 t2 t3 t4 t5; omega), t3, d256 (by clear s1 s2 s3 s4 s5 s6 s7 hq e1 e2 e3 e4 e5 e6 t1 t2 t3 t4 t5; omega), t4]
    exact d256 (by clear s1 s2 s3 s4 s5 s6 s7 hq e1 e2 e3 e4 e5 e6 t1 t2 t3 t4 t5; omega)
  rw [a1, b1, u1, f256 t1 t5]
  generalize (R1 + R2) + (R3 + R4) + ((R5 + R6) + (R7 + 0)) = K
  clear s1 s2 s3 s4 s5 s6 s7 hq e1 e2 e3 e4 e5 e6 t1 t2 t3 t4 t5 u1 b1 a1 e7'
  rw [← e7]
  omega
theorem eq_J13_bitCount {x : Int64} {M : am_I} {N : am_N} {post : Int32 → am_I → am_N → Prop} : w_J13_bitCount_95d88 x M N post ↔ post (nI (popN x.toBitVec.toNat 64)) M N := by
  obtain ⟨ex, hx⟩ := lN_of x
  generalize x.toBitVec.toNat = n at ex hx
  subst ex
  obtain ⟨b1, b2, b3, b4⟩ := bc_all 8 n hx
  obtain ⟨c0, c1, c2, c3, c4, c5, c6, c7, h0, h1, h2, h3, h4, h5, h6, h7, eB, eN⟩ := popB8 n
  have m55 : (6148914691236517205 : Int64) = lN (mk8 85 8) := by decide +kernel
  have m33 : (3689348814741910323 : Int64) = lN (mk8 51 8) := by decide +kernel
  have m0f : (1085102592571150095 : Int64) = lN (mk8 15 8) := by decide +kernel
  have g55 : mk8 85 8 < 2 ^ 64 := by decide +kernel
  have g33 : mk8 51 8 < 2 ^ 64 := by decide +kernel
  have g0f : mk8 15 8 < 2 ^ 64 := by decide +kernel
  have p64 : 256 ^ 8 = 2 ^ 64 := by decide +kernel
  rw [p64] at b3 b4
  have s1 : lN n - ((((lN n).toUInt64 >>> ((1 : Int32).toInt64.toUInt64 &&& Int64.toUInt64 63)).toInt64) &&& 6148914691236517205) = lN (bc1 8 n) := by
    rw [lN_shr hx 1 (by decide +kernel), m55, lN_and (by omega) g55]
    have hl : (n / 2 ^ 1) &&& mk8 85 8 ≤ n := Nat.le_trans Nat.and_le_left (Nat.div_le_self _ _)
    rw [lN_sub hl]
    rfl
  have s2 : ((lN (bc1 8 n)) &&& 3689348814741910323) + ((((lN (bc1 8 n)).toUInt64 >>> ((2 : Int32).toInt64.toUInt64 &&& Int64.toUInt64 63)).toInt64) &&& 3689348814741910323) = lN (bc2 8 (bc1 8 n)) := by
    rw [lN_shr b3 2 (by decide +kernel), m33, lN_and b3 g33, lN_and (by omega) g33, lN_add]
    rfl
  have hb2 : bc2 8 (bc1 8 n) + bc2 8 (bc1 8 n) / 16 < 2 ^ 64 := by
    have h1 : (bc1 8 n) &&& mk8 51 8 ≤ mk8 51 8 := Nat.and_le_right
    have h2 : (bc1 8 n / 4) &&& mk8 51 8 ≤ mk8 51 8 := Nat.and_le_right
    have h3 : mk8 51 8 = 3689348814741910323 := by decide +kernel
    have h4 : bc2 8 (bc1 8 n) = ((bc1 8 n) &&& mk8 51 8) + ((bc1 8 n / 4) &&& mk8 51 8) := rfl
    omega
  have s3 : (lN (bc2 8 (bc1 8 n)) + (((lN (bc2 8 (bc1 8 n))).toUInt64 >>> ((4 : Int32).toInt64.toUInt64 &&& Int64.toUInt64 63)).toInt64)) &&& 1085102592571150095 = lN (popB 8 n) := by
    rw [lN_shr b4 4 (by decide +kernel), m0f, lN_add, lN_and hb2 g0f, ← b1]
    rfl
  rw [eB] at s3
  generalize hq : c0 + 256 * (c1 + 256 * (c2 + 256 * (c3 + 256 * (c4 + 256 * (c5 + 256 * (c6 + 256 * c7)))))) = qq at s3
  have hq64 : qq < 2 ^ 60 := by
    rw [← hq]
    clear hq
    omega
  have s4 : lN qq + (((lN qq).toUInt64 >>> ((8 : Int32).toInt64.toUInt64 &&& Int64.toUInt64 63)).toInt64) = lN (qq + qq / 256) := by
    rw [lN_shr (by clear hq; omega) 8 (by decide +kernel), lN_add]
  have s5 : lN (qq + qq / 256) + (((lN (qq + qq / 256)).toUInt64 >>> ((16 : Int32).toInt64.toUInt64 &&& Int64.toUInt64 63)).toInt64) = lN (qq + qq / 256 + (qq + qq / 256) / 65536) := by
    rw [lN_shr (by clear hq; omega) 16 (by decide +kernel), lN_add]
  have s6 : lN (qq + qq / 256 + (qq + qq / 256) / 65536) + (((lN (qq + qq / 256 + (qq + qq / 256) / 65536)).toUInt64 >>> ((32 : Int32).toInt64.toUInt64 &&& Int64.toUInt64 63)).toInt64) = lN (qq + qq / 256 + (qq + qq / 256) / 65536 + (qq + qq / 256 + (qq + qq / 256) / 65536) / 4294967296) := by
    rw [lN_shr (by clear hq; omega) 32 (by decide +kernel), lN_add]
  have s7 : (lN (qq + qq / 256 + (qq + qq / 256) / 65536 + (qq + qq / 256 + (qq + qq / 256) / 65536) / 4294967296)).toInt32 &&& 127 = nI (popN n 64) := by
    rw [lN_i]
    rw [and127, pop_end h0 h1 h2 h3 h4 h5 h6 h7 hq.symm, eN]
  unfold w_J13_bitCount_95d88
  constructor
  · intro h
    have := h _ s1.symm _ s2.symm _ s3.symm _ s4.symm _ s5.symm _ s6.symm
    rw [s7] at this
    exact this
  · intro h v1 e1 v2 e2 v3 e3 v4 e4 v5 e5 v6 e6
    rw [s1] at e1
    subst e1
    rw [s2] at e2
    subst e2
    rw [s3] at e3
    subst e3
    rw [s4] at e4
    subst e4
    rw [s5] at e5
    subst e5
    rw [s6] at e6
    subst e6
    rw [s7]
    exact h
/-- the bits counted one by one -/
def popT (x : Int64) : Nat → Nat
  | 0 => 0
  | n + 1 => popT x n + (if tb x n = true then 1 else 0)
theorem popT_N (x : Int64) : ∀ n, n ≤ 64 → popT x n = popN x.toBitVec.toNat n
  | 0, _ => rfl
  | n + 1, h => by
    show popT x n + _ = popN x.toBitVec.toNat n + x.toBitVec.toNat / 2 ^ n % 2
    rw [popT_N x n (by omega)]
    have : tb x n = true ↔ x.toBitVec.toNat / 2 ^ n % 2 = 1 := by
      unfold tb
      rw [BitVec.getLsbD, Nat.testBit_eq_decide_div_mod_eq, decide_eq_true_eq]
    by_cases e : tb x n = true
    · rw [if_pos e, this.mp e]
    · rw [if_neg e]
      have h2 : ¬ x.toBitVec.toNat / 2 ^ n % 2 = 1 := fun z => e (this.mpr z)
      omega
theorem eq_bitCount {x : Int64} {M : am_I} {N : am_N} {post : Int32 → am_I → am_N → Prop} : w_J13_bitCount_95d88 x M N post ↔ post (nI (popT x 64)) M N := by
  rw [eq_J13_bitCount, popT_N x 64 (Nat.le_refl _)]
