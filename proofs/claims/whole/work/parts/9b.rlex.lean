/-! ===== the reference's reading of bytes ===== -/
def RT (t : Nat → Nat) (n : Nat) (M : am_I) : Prop := (M (3, 0, 0) 48 = nI n) ∧ (n ≤ 500) ∧ (∀ i, i < n → t i < 256 ∧ M (3, 0, 44) i = sbI (t i))
theorem RT.s {t : Nat → Nat} {n : Nat} {M : am_I} (h : RT t n M) : M (3, 0, 0) 48 = nI n := h.1
theorem RT.b {t : Nat → Nat} {n : Nat} {M : am_I} (h : RT t n M) : n ≤ 500 := h.2.1
theorem RT.v {t : Nat → Nat} {n : Nat} {M : am_I} (h : RT t n M) : ∀ i, i < n → t i < 256 ∧ M (3, 0, 44) i = sbI (t i) := h.2.2
def FrA (M M1 : am_I) : Prop := (∀ c : am_C, c ≠ (3, 0, 0) → M1 c = M c) ∧ ∀ j, j ≠ 49 → j ≠ 63 → j ≠ 64 → M1 (3, 0, 0) j = M (3, 0, 0) j
def WC (k : Nat) : Nat := ([0, 1952541541, 1819242347, 465557354085, 1734964837, 26982, 28530, 6385252, 7237492, 2003133796, 7824756, 482955588467, 465726040947, 1936292453, 6909036, 1918986606, 444150998382] : List Nat).getD k 0
def wE (t : Nat → Nat) (n p : Nat) : Nat := runE t n 1 (n - p) p
def wVal (t : Nat → Nat) (n p : Nat) : Nat := if wE t n p - p ≤ 7 then wN t (wE t n p - p) p else 0
theorem WC_V : ∀ k, k < 17 → 1 ≤ k → wordV (WC k) = nI k := by decide +kernel
theorem WC_pos : ∀ k, k < 17 → 1 ≤ k → 0 < WC k ∧ WC k < 2 ^ 56 := by decide +kernel
theorem lN_shl8 {a c : Nat} (ha : a < 2 ^ 48) (hc : c < 256) : (lN a <<< ((8 : Int32).toInt64 &&& 63)) ||| lN c = lN (a * 256 + c) := by
  apply Int64.toBitVec_inj.mp
  have e1 : (lN a <<< ((8 : Int32).toInt64 &&& 63)).toBitVec = (lN a).toBitVec <<< 8 := by
    show (lN a).toBitVec <<< (((8 : Int32).toInt64 &&& 63).toBitVec.smod 64).toNat = _
    have : (((8 : Int32).toInt64 &&& 63).toBitVec.smod 64).toNat = 8 := by decide
    rw [this]
  rw [Int64.toBitVec_or, e1]
  apply BitVec.eq_of_toNat_eq
  rw [BitVec.toNat_or, BitVec.toNat_shiftLeft, lb_nat (by omega), lb_nat (by omega), lb_nat (by omega)]
  have e2 : a <<< 8 % 2 ^ 64 = a <<< 8 := Nat.mod_eq_of_lt (by rw [Nat.shiftLeft_eq]; omega)
  rw [e2, ← Nat.shiftLeft_add_eq_or_of_lt (i := 8) (by omega), Nat.shiftLeft_eq]
section RL
variable {t : Nat → Nat} {n p a k : Nat} {M M1 M2 : am_I} {N : am_N} {post : am_I → am_N → Prop} {postI : Int32 → am_I → am_N → Prop} {postL : Int64 → am_I → am_N → Prop}
theorem am_uu {c : am_C} {k : Nat} {x y : Int32} : am_u (am_u M c k x) c k y = am_u M c k y := by
  unfold am_u
  rw [am_s_s, am_s_same]
  congr 1
  funext i
  by_cases e : i = k
  · subst e; rw [pk_us, pk_us]
  · rw [pk_un e, pk_un e, pk_un e]
theorem am_uid {c : am_C} {k : Nat} {x : Int32} (h : M c k = x) : am_u M c k x = M := by
  unfold am_u
  rw [upd_id h, am_s_id]
theorem FrA.rf : FrA M M := ⟨fun _ _ => rfl, fun _ _ _ _ => rfl⟩
theorem FrA.tr (h1 : FrA M M1) (h2 : FrA M1 M2) : FrA M M2 := ⟨fun c q => (h2.1 c q).trans (h1.1 c q), fun j q1 q2 q3 => (h2.2 j q1 q2 q3).trans (h1.2 j q1 q2 q3)⟩
theorem FrA.u {j : Nat} {x : Int32} (hj : j = 49 ∨ j = 63 ∨ j = 64) : FrA M (am_u M (3, 0, 0) j x) := ⟨fun c q => am_u_o _ _ _ q, fun i q1 q2 q3 => by rw [am_u_c, pk_un (by omega)]⟩
theorem RT.cg (R : RT t n M) (F : FrA M M1) : RT t n M1 := ⟨by rw [F.2 48 (by decide) (by decide) (by decide)]; exact R.s, R.b, fun i hi => by rw [F.1 _ (by simp)]; exact R.v i hi⟩
theorem wordV_inv {w : Nat} (hk : k < 2 ^ 31) (h : wordV w = nI k) : 1 ≤ k ∧ k < 17 ∧ w = WC k := by
  have one : ∀ i c, i < 17 → 1 ≤ i → WC i = c → w = c → nI i = nI k → 1 ≤ k ∧ k < 17 ∧ w = WC k := fun i c h1 h2 h3 h4 h5 => by
    have := (nI_eq (by omega) hk).mp h5
    subst this
    exact ⟨h2, h1, h4.trans h3.symm⟩
  unfold wordV at h
  by_cases e0 : w = 1952541541
  · rw [if_pos e0] at h
    exact one 1 1952541541 (by decide) (by decide) rfl e0 h
  rw [if_neg e0] at h
  by_cases e1 : w = 1819242347
  · rw [if_pos e1] at h
    exact one 2 1819242347 (by decide) (by decide) rfl e1 h
  rw [if_neg e1] at h
  by_cases e2 : w = 465557354085
  · rw [if_pos e2] at h
    exact one 3 465557354085 (by decide) (by decide) rfl e2 h
  rw [if_neg e2] at h
  by_cases e3 : w = 1734964837
  · rw [if_pos e3] at h
    exact one 4 1734964837 (by decide) (by decide) rfl e3 h
  rw [if_neg e3] at h
  by_cases e4 : w = 26982
  · rw [if_pos e4] at h
    exact one 5 26982 (by decide) (by decide) rfl e4 h
  rw [if_neg e4] at h
  by_cases e5 : w = 28530
  · rw [if_pos e5] at h
    exact one 6 28530 (by decide) (by decide) rfl e5 h
  rw [if_neg e5] at h
  by_cases e6 : w = 6385252
  · rw [if_pos e6] at h
    exact one 7 6385252 (by decide) (by decide) rfl e6 h
  rw [if_neg e6] at h
  by_cases e7 : w = 7237492
  · rw [if_pos e7] at h
    exact one 8 7237492 (by decide) (by decide) rfl e7 h
  rw [if_neg e7] at h
  by_cases e8 : w = 2003133796
  · rw [if_pos e8] at h
    exact one 9 2003133796 (by decide) (by decide) rfl e8 h
  rw [if_neg e8] at h
  by_cases e9 : w = 7824756
  · rw [if_pos e9] at h
    exact one 10 7824756 (by decide) (by decide) rfl e9 h
  rw [if_neg e9] at h
  by_cases e10 : w = 482955588467
  · rw [if_pos e10] at h
    exact one 11 482955588467 (by decide) (by decide) rfl e10 h
  rw [if_neg e10] at h
  by_cases e11 : w = 465726040947
  · rw [if_pos e11] at h
    exact one 12 465726040947 (by decide) (by decide) rfl e11 h
  rw [if_neg e11] at h
  by_cases e12 : w = 1936292453
  · rw [if_pos e12] at h
    exact one 13 1936292453 (by decide) (by decide) rfl e12 h
  rw [if_neg e12] at h
  by_cases e13 : w = 6909036
  · rw [if_pos e13] at h
    exact one 14 6909036 (by decide) (by decide) rfl e13 h
  rw [if_neg e13] at h
  by_cases e14 : w = 1918986606
  · rw [if_pos e14] at h
    exact one 15 1918986606 (by decide) (by decide) rfl e14 h
  rw [if_neg e14] at h
  by_cases e15 : w = 444150998382
  · rw [if_pos e15] at h
    exact one 16 444150998382 (by decide) (by decide) rfl e15 h
  rw [if_neg e15] at h
  exact absurd h.symm (nI_ne_m1 hk)
theorem wordV_rng (w : Nat) : wordV w = -1 ∨ ∃ k, 1 ≤ k ∧ k < 17 ∧ wordV w = nI k := by
  unfold wordV
  by_cases e0 : w = 1952541541
  · rw [if_pos e0]; exact Or.inr ⟨1, by decide, by decide, rfl⟩
  rw [if_neg e0]
  by_cases e1 : w = 1819242347
  · rw [if_pos e1]; exact Or.inr ⟨2, by decide, by decide, rfl⟩
  rw [if_neg e1]
  by_cases e2 : w = 465557354085
  · rw [if_pos e2]; exact Or.inr ⟨3, by decide, by decide, rfl⟩
  rw [if_neg e2]
  by_cases e3 : w = 1734964837
  · rw [if_pos e3]; exact Or.inr ⟨4, by decide, by decide, rfl⟩
  rw [if_neg e3]
  by_cases e4 : w = 26982
  · rw [if_pos e4]; exact Or.inr ⟨5, by decide, by decide, rfl⟩
  rw [if_neg e4]
  by_cases e5 : w = 28530
  · rw [if_pos e5]; exact Or.inr ⟨6, by decide, by decide, rfl⟩
  rw [if_neg e5]
  by_cases e6 : w = 6385252
  · rw [if_pos e6]; exact Or.inr ⟨7, by decide, by decide, rfl⟩
  rw [if_neg e6]
  by_cases e7 : w = 7237492
  · rw [if_pos e7]; exact Or.inr ⟨8, by decide, by decide, rfl⟩
  rw [if_neg e7]
  by_cases e8 : w = 2003133796
  · rw [if_pos e8]; exact Or.inr ⟨9, by decide, by decide, rfl⟩
  rw [if_neg e8]
  by_cases e9 : w = 7824756
  · rw [if_pos e9]; exact Or.inr ⟨10, by decide, by decide, rfl⟩
  rw [if_neg e9]
  by_cases e10 : w = 482955588467
  · rw [if_pos e10]; exact Or.inr ⟨11, by decide, by decide, rfl⟩
  rw [if_neg e10]
  by_cases e11 : w = 465726040947
  · rw [if_pos e11]; exact Or.inr ⟨12, by decide, by decide, rfl⟩
  rw [if_neg e11]
  by_cases e12 : w = 1936292453
  · rw [if_pos e12]; exact Or.inr ⟨13, by decide, by decide, rfl⟩
  rw [if_neg e12]
  by_cases e13 : w = 6909036
  · rw [if_pos e13]; exact Or.inr ⟨14, by decide, by decide, rfl⟩
  rw [if_neg e13]
  by_cases e14 : w = 1918986606
  · rw [if_pos e14]; exact Or.inr ⟨15, by decide, by decide, rfl⟩
  rw [if_neg e14]
  by_cases e15 : w = 444150998382
  · rw [if_pos e15]; exact Or.inr ⟨16, by decide, by decide, rfl⟩
  rw [if_neg e15]
  exact Or.inl rfl
theorem wE_sp (hp : p ≤ n) : p ≤ wE t n p ∧ wE t n p ≤ n ∧ (∀ r, p ≤ r → r < wE t n p → grp (t r) = 1) ∧ (wE t n p < n → grp (t (wE t n p)) ≠ 1) := runE_sp (n - p) p (by omega)
theorem wE_no (hp : p ≤ n) (h : p < n → grp (t p) ≠ 1) : wE t n p = p := by
  obtain ⟨h1, h2, h3, h4⟩ := wE_sp (t := t) hp
  rcases Nat.lt_or_ge p (wE t n p) with w | w
  · exact absurd (h3 p (Nat.le_refl _) w) (h (by omega))
  · omega
theorem wE_en (h : grp (t p) = 1) : wE t n p = enT t n p := by
  unfold wE enT
  rw [if_neg (by omega), h]
theorem nN_b {L : Nat} (h5 : L ≤ 5) (h : ∀ i, i < L → grp (t (p + i)) = 2) : nN t L p < 100000 := by
  have h1 := nN_lt L p h
  have h2 : 10 ^ L ≤ 10 ^ 5 := Nat.pow_le_pow_right (by decide) h5
  omega
/-- what a token can be -/
theorem tok_cases (hk : TK t n p) : (p = n ∧ tokV t n p = 0) ∨ (p < n ∧ grp (t p) = 3 ∧ sgB (t p) = true ∧ tokV t n p = nI (t p)) ∨ (p < n ∧ grp (t p) = 1 ∧ enT t n p - p ≤ 7 ∧ tokV t n p = wordV (wN t (enT t n p - p) p)) ∨ (p < n ∧ grp (t p) = 2 ∧ enT t n p - p ≤ 5 ∧ tokV t n p = nI (1000 + nN t (enT t n p - p) p) ∧ nN t (enT t n p - p) p < 100000) ∨ (p < n ∧ tokV t n p = -1 ∧ (grp (t p) = 1 → ¬ enT t n p - p ≤ 7) ∧ (grp (t p) = 2 → ¬ enT t n p - p ≤ 5) ∧ (grp (t p) = 3 → ¬ sgB (t p) = true)) := by
  by_cases hp : p < n
  · obtain ⟨h1, h2, h3, h4, h5⟩ := enT_sp hk hp
    have g0 := (stB_iff.mp (hk.2 hp)).1
    unfold tokV
    rw [if_neg (by omega)]
    rcases grp_le (t p) with g | g | g | g
    · exact absurd g g0
    · rw [if_neg (by omega), if_pos g]
      by_cases e : enT t n p - p ≤ 7
      · rw [if_pos e]; exact Or.inr (Or.inr (Or.inl ⟨hp, g, e, rfl⟩))
      · rw [if_neg e]; exact Or.inr (Or.inr (Or.inr (Or.inr ⟨hp, rfl, fun _ => e, fun z => by omega, fun z => by omega⟩)))
    · rw [if_neg (by omega), if_neg (by omega)]
      by_cases e : enT t n p - p ≤ 5
      · rw [if_pos e]
        exact Or.inr (Or.inr (Or.inr (Or.inl ⟨hp, g, e, rfl, nN_b e (fun i hi => by rw [h3 (p + i) (by omega) (by omega)]; exact g)⟩)))
      · rw [if_neg e]; exact Or.inr (Or.inr (Or.inr (Or.inr ⟨hp, rfl, fun z => by omega, fun _ => e, fun z => by omega⟩)))
    · rw [if_pos g]
      by_cases e : sgB (t p) = true
      · rw [if_pos e]; exact Or.inr (Or.inl ⟨hp, g, e, rfl⟩)
      · rw [if_neg e]; exact Or.inr (Or.inr (Or.inr (Or.inr ⟨hp, rfl, fun z => by omega, fun z => by omega, fun _ => e⟩)))
  · have hn := hk.1
    have e : p = n := by omega
    subst e
    refine Or.inl ⟨rfl, ?_⟩
    unfold tokV
    rw [if_pos (Nat.le_refl _)]
theorem sg_facts : ∀ x, x < 256 → sgB x = true → 40 ≤ x ∧ x < 128 ∧ grp x = 3 := by decide +kernel
theorem tok_word (R : RT t n M) (hk : TK t n p) (h1 : 1 ≤ k) (h2 : k < 17) : tokV t n p = nI k ↔ wVal t n p = WC k := by
  have hc := WC_pos k h2 h1
  have z0 : (p < n → grp (t p) ≠ 1) → ¬ wVal t n p = WC k := fun z => by
    unfold wVal
    rw [wE_no hk.1 z, Nat.sub_self, if_pos (by omega)]
    show ¬ 0 = WC k
    omega
  rcases tok_cases hk with ⟨e, v⟩ | ⟨hp, g, s, v⟩ | ⟨hp, g, l, v⟩ | ⟨hp, g, l, v, b⟩ | ⟨hp, v, w1, w2, w3⟩
  · rw [v]
    exact ⟨fun z => absurd z.symm (nI_ne0 h1 (by omega)), fun z => absurd z (z0 (fun y => by omega))⟩
  · rw [v]
    have := sg_facts (t p) (R.v p hp).1 s
    exact ⟨fun z => by have := (nI_eq (by omega) (by omega)).mp z; omega, fun z => absurd z (z0 (fun _ => by omega))⟩
  · rw [v]
    unfold wVal
    rw [wE_en g, if_pos l]
    exact ⟨fun z => (wordV_inv (by omega) z).2.2, fun z => by rw [z]; exact WC_V k h2 h1⟩
  · rw [v]
    exact ⟨fun z => by have := (nI_eq (by omega) (by omega)).mp z; omega, fun z => absurd z (z0 (fun _ => by omega))⟩
  · rw [v]
    refine ⟨fun z => absurd z.symm (nI_ne_m1 (by omega)), fun z => ?_⟩
    by_cases g : grp (t p) = 1
    · unfold wVal at z
      rw [wE_en g, if_neg (w1 g)] at z
      omega
    · exact absurd z (z0 (fun _ => g))
theorem tok_sign {s : Nat} (R : RT t n M) (hk : TK t n p) (hs : s < 256) (hg : sgB s = true) : tokV t n p = nI s ↔ p < n ∧ t p = s := by
  have hs2 := sg_facts s hs hg
  rcases tok_cases hk with ⟨e, v⟩ | ⟨hp, g, s1, v⟩ | ⟨hp, g, l, v⟩ | ⟨hp, g, l, v, b⟩ | ⟨hp, v, w1, w2, w3⟩
  · rw [v]
    exact ⟨fun z => absurd z.symm (nI_ne0 (by omega) (by omega)), fun z => by omega⟩
  · rw [v]
    have := (R.v p hp).1
    rw [nI_eq (by omega) (by omega)]
    exact ⟨fun z => ⟨hp, z⟩, fun z => z.2⟩
  · rw [v]
    refine ⟨fun z => ?_, fun z => by rw [z.2] at g; omega⟩
    have := wordV_inv (by omega) z
    omega
  · rw [v]
    exact ⟨fun z => by have := (nI_eq (by omega) (by omega)).mp z; omega, fun z => by rw [z.2] at g; omega⟩
  · rw [v]
    refine ⟨fun z => absurd z.symm (nI_ne_m1 (by omega)), fun z => ?_⟩
    rw [z.2] at w3
    exact absurd hg (w3 hs2.2.2)
theorem r_blanks (R : RT t n M) (ha : M (3, 0, 0) 49 = nI a) (hb : NB t n a p) (h : post (am_u M (3, 0, 0) 49 (nI p)) N) : w_X12_blanks M N post := by
  have hn := R.b
  have b1 := hb.1
  have b2 := hb.2.1
  unfold w_X12_blanks
  refine ⟨p - a + 1, ?_⟩
  have e48 : ∀ x, am_u M (3, 0, 0) 49 x (3, 0, 0) 48 = nI n := fun x => by rw [am_u_c, pk_un (by decide)]; exact R.s
  have e49 : ∀ x, am_u M (3, 0, 0) 49 x (3, 0, 0) 49 = x := fun x => by rw [am_u_c, pk_us]
  have e44 : ∀ x, am_u M (3, 0, 0) 49 x (3, 0, 44) = M (3, 0, 44) := fun x => am_u_o _ _ _ (by simp)
  have key : ∀ (j i : Nat), i + j = p → a ≤ i → w_X12_blanks_p0 post (j + 1) (am_u M (3, 0, 0) 49 (nI i)) N := by
    intro j
    induction j with
    | zero =>
      intro i hi h1
      have hi' : i = p := by omega
      subst hi'
      rw [w_X12_blanks_p0_s]
      unfold w_X12_blanks_p0_b
      rw [e48, e49, e44, nI_clamp (show i < 2 ^ 31 by omega)]
      refine ⟨fun _ => h, fun z => ?_⟩
      have hlt : i < n := Nat.lt_of_not_le fun w => z (nI_le w (by omega))
      obtain ⟨c1, c2⟩ := R.v i hlt
      have g0 := hb.2.2.2 hlt
      have vi : vp_in (nI i) 500 := vp_in_nI (by omega) (by omega)
      have q32 : sbI (t i) = 32 ↔ t i = 32 := sb_eq (s := 32) c1 (by omega)
      have q10 : sbI (t i) = 10 ↔ t i = 10 := sb_eq (s := 10) c1 (by omega)
      rw [c2, q32, q10]
      exact ⟨vi, fun z => absurd (grp_0.mpr (Or.inl z)) g0, fun _ => ⟨vi, fun _ => h, fun z => absurd (grp_0.mpr (Or.inr z)) g0⟩⟩
    | succ j ih =>
      intro i hi h1
      have ih' := ih (i + 1) (by omega) (by omega)
      rw [w_X12_blanks_p0_s]
      unfold w_X12_blanks_p0_b w_X12_blanks_p39
      rw [e48, e49, e44, nI_clamp (show i < 2 ^ 31 by omega), am_uu, nI_1]
      obtain ⟨c1, c2⟩ := R.v i (by omega)
      have g0 := hb.2.2.1 i h1 (by omega)
      have vi : vp_in (nI i) 500 := vp_in_nI (by omega) (by omega)
      have q32 : sbI (t i) = 32 ↔ t i = 32 := sb_eq (s := 32) c1 (by omega)
      have q10 : sbI (t i) = 10 ↔ t i = 10 := sb_eq (s := 10) c1 (by omega)
      rw [c2, q32, q10]
      refine ⟨fun z => absurd z (nI_ge (by omega) (by omega)), fun _ => ⟨vi, fun _ => ih', fun z1 => ⟨vi, fun z2 => ?_, fun _ => ih'⟩⟩⟩
      rcases grp_0.mp g0 with w | w
      · exact absurd w z1
      · exact absurd w z2
  have k0 := key (p - a) a (by omega) (Nat.le_refl _)
  rw [am_uid ha] at k0
  exact k0
theorem wVal_lt (R : RT t n M) (hp : p ≤ n) : wVal t n p < 2 ^ 56 := by
  unfold wVal
  obtain ⟨h1, h2, h3, h4⟩ := wE_sp (t := t) hp
  by_cases e : wE t n p - p ≤ 7
  · rw [if_pos e]
    have := wN_lt (t := t) (wE t n p - p) p (fun i hi => (R.v (p + i) (by omega)).1)
    have h7 : 256 ^ (wE t n p - p) ≤ 256 ^ 7 := Nat.pow_le_pow_right (by decide) e
    have h8 : 256 ^ 7 = 2 ^ 56 := by decide
    omega
  · rw [if_neg e]; decide
theorem r_word (R : RT t n M) (ha : M (3, 0, 0) 49 = nI a) (hb : NB t n a p) (h : ∀ M1, FrA M M1 → M1 (3, 0, 0) 49 = nI p → M1 (3, 0, 0) 63 = nI (wE t n p) → postL (lN (wVal t n p)) M1 N) : w_X12_word M N postL := by
  have hn := R.b
  have b2 := hb.2.1
  obtain ⟨h1, h2, h3, h4⟩ := wE_sp (t := t) b2
  unfold w_X12_word
  refine r_blanks R ha hb ⟨wE t n p - p + 1, ?_⟩
  have R1 := R.cg (FrA.u (M := M) (j := 49) (x := nI p) (Or.inl rfl))
  generalize hM1 : am_u M (3, 0, 0) 49 (nI p) = M1 at R1
  have F1 : FrA M M1 := by rw [← hM1]; exact FrA.u (Or.inl rfl)
  have e49 : M1 (3, 0, 0) 49 = nI p := by rw [← hM1, am_u_c, pk_us]
  rw [e49]
  have f48 : ∀ x, am_u M1 (3, 0, 0) 63 x (3, 0, 0) 48 = nI n := fun x => by rw [am_u_c, pk_un (by decide)]; exact R1.s
  have f49 : ∀ x, am_u M1 (3, 0, 0) 63 x (3, 0, 0) 49 = nI p := fun x => by rw [am_u_c, pk_un (by decide)]; exact e49
  have f63 : ∀ x, am_u M1 (3, 0, 0) 63 x (3, 0, 0) 63 = x := fun x => by rw [am_u_c, pk_us]
  have f44 : ∀ x, am_u M1 (3, 0, 0) 63 x (3, 0, 44) = M1 (3, 0, 44) := fun x => am_u_o _ _ _ (by simp)
  have last : w_X12_word_p100 postL (lN (if wE t n p - p ≤ 7 then wN t (wE t n p - p) p else 0)) (am_u M1 (3, 0, 0) 63 (nI (wE t n p))) N := by
    unfold w_X12_word_p100
    have es : nI (wE t n p) - nI p = nI (wE t n p - p) := pk_sub h1
    have e7 : nI (wE t n p - p) ≤ (7 : Int32) ↔ wE t n p - p ≤ 7 := nI_leI (b := 7) (by omega) (by omega)
    rw [f63, f49, es, e7]
    have hh := h (am_u M1 (3, 0, 0) 63 (nI (wE t n p))) (F1.tr (FrA.u (Or.inr (Or.inl rfl)))) (f49 _) (f63 _)
    unfold wVal at hh
    refine ⟨fun _ => hh, fun z => ?_⟩
    rw [if_neg z] at hh
    exact hh
  have key : ∀ (j i : Nat), i + j = wE t n p → p ≤ i → w_X12_word_p14 postL (j + 1) (lN (if i - p ≤ 7 then wN t (i - p) p else 0)) (am_u M1 (3, 0, 0) 63 (nI i)) N := by
    intro j
    induction j with
    | zero =>
      intro i hi hpi
      have hi' : i = wE t n p := by omega
      rw [w_X12_word_p14_s]
      unfold w_X12_word_p14_b
      rw [f48, f63, f44]
      refine ⟨fun _ => by rw [hi']; exact last, fun z => ?_⟩
      have hlt : i < n := Nat.lt_of_not_le fun w => z (nI_le w (by omega))
      obtain ⟨c1, c2⟩ := R1.v i hlt
      have g1 : grp (t i) ≠ 1 := by rw [hi']; exact h4 (by omega)
      have vi : vp_in (nI i) 500 := vp_in_nI (by omega) (by omega)
      rw [nI_clamp (show i < 2 ^ 31 by omega), c2]
      refine ⟨vi, fun _ => by rw [hi']; exact last, fun z1 => ⟨vi, fun _ => by rw [hi']; exact last, fun z2 => ?_⟩⟩
      have z3 := (sb_lt (s := 97) c1 (by omega)).mp z1
      rw [sb_lo _ z3.2] at z2
      have : ¬ 122 < t i := fun w => z2 (nI_lt (a := 122) w (by omega))
      exact absurd (grp_1.mpr ⟨z3.1, by omega⟩) g1
    | succ j ih =>
      intro i hi hpi
      have ih' := ih (i + 1) (by omega) (by omega)
      obtain ⟨c1, c2⟩ := R1.v i (by omega)
      have g1 := grp_1.mp (h3 i hpi (by omega))
      have vi : vp_in (nI i) 500 := vp_in_nI (by omega) (by omega)
      have es : nI i - nI p = nI (i - p) := pk_sub hpi
      have e7 : (7 : Int32) ≤ nI (i - p) ↔ 7 ≤ i - p := nI_leI (a := 7) (by omega) (by omega)
      rw [w_X12_word_p14_s]
      unfold w_X12_word_p14_b w_X12_word_p86
      rw [f48, f63, f49, f44, nI_clamp (show i < 2 ^ 31 by omega), c2, sb_lo _ (by omega), es, e7, am_uu, nI_1]
      refine ⟨fun z => absurd z (nI_ge (by omega) (by omega)), fun _ => ⟨vi, fun z => absurd z (nI_nlt (b := 97) (by omega) (by omega)), fun _ => ⟨vi, fun z => absurd z (nI_nlt (a := 122) (by omega) (by omega)), fun _ => ⟨fun z => ?_, fun z => ⟨vi, ?_⟩⟩⟩⟩⟩
      · rw [if_neg (by omega)] at ih'
        exact ih'
      · rw [if_pos (by omega), nI_l (by omega)]
        have hw := wN_lt (t := t) (i - p) p (fun x hx => (R1.v (p + x) (by omega)).1)
        have h6 : 256 ^ (i - p) ≤ 256 ^ 6 := Nat.pow_le_pow_right (by decide) (by omega)
        have h8 : 256 ^ 6 = 2 ^ 48 := by decide
        rw [lN_shl8 (by omega) (by omega)]
        rw [if_pos (by omega), show i + 1 - p = i - p + 1 by omega] at ih'
        have ew : wN t (i - p + 1) p = wN t (i - p) p * 256 + t (p + (i - p)) := rfl
        rw [ew, show p + (i - p) = i by omega] at ih'
        exact ih'
  have k0 := key (wE t n p - p) p (by omega) (Nat.le_refl _)
  rw [Nat.sub_self, if_pos (by omega)] at k0
  exact k0
theorem lN_eqI {x y : Nat} (hx : x < 2 ^ 56) (hy : y < 2 ^ 56) : lN x = lN y ↔ x = y := pk_lEQ (by omega) (by omega)
theorem r_takes (R : RT t n M) (ha : M (3, 0, 0) 49 = nI a) (hb : NB t n a p) (hk : TK t n p) (k1 : 1 ≤ k) (k2 : k < 17) (h1 : tokV t n p = nI k → p < n → ∀ M1, FrA M M1 → M1 (3, 0, 0) 49 = nI (enT t n p) → postI 1 M1 N) (h0 : ¬ tokV t n p = nI k → ∀ M1, FrA M M1 → M1 (3, 0, 0) 49 = nI p → postI 0 M1 N) : w_X12_takes (lN (WC k)) M N postI := by
  unfold w_X12_takes
  refine r_word R ha hb (fun M1 F1 e49 e63 => ?_)
  have hc := WC_pos k k2 k1
  rw [lN_eqI (wVal_lt R hk.1) hc.2, ← tok_word R hk k1 k2, e63]
  refine ⟨fun z => ?_, fun z => h0 z M1 F1 e49⟩
  have hp : p < n := by
    rcases tok_cases hk with ⟨e, v⟩ | w | w | w | w
    · rw [v] at z; exact absurd z.symm (nI_ne0 k1 (by omega))
    · exact w.1
    · exact w.1
    · exact w.1
    · exact w.1
  have g : grp (t p) = 1 := Classical.byContradiction fun g => by
    have w := (tok_word R hk k1 k2).mp z
    unfold wVal at w
    rw [wE_no hk.1 (fun _ => g), Nat.sub_self, if_pos (by omega)] at w
    have w2 : 0 = WC k := w
    omega
  refine h1 z hp _ (F1.tr (FrA.u (Or.inl rfl))) ?_
  rw [am_u_c, pk_us, wE_en g]
theorem r_takesSign {s : Nat} (R : RT t n M) (ha : M (3, 0, 0) 49 = nI a) (hb : NB t n a p) (hk : TK t n p) (hs : s < 256) (hg : sgB s = true) (h1 : tokV t n p = nI s → p < n → ∀ M1, FrA M M1 → M1 (3, 0, 0) 49 = nI (enT t n p) → postI 1 M1 N) (h0 : ¬ tokV t n p = nI s → ∀ M1, FrA M M1 → M1 (3, 0, 0) 49 = nI p → postI 0 M1 N) : w_X12_takesSign (nI s) M N postI := by
  have hn := R.b
  have hp := hk.1
  have hs2 := sg_facts s hs hg
  unfold w_X12_takesSign
  refine r_blanks R ha hb ?_
  have F1 : FrA M (am_u M (3, 0, 0) 49 (nI p)) := FrA.u (Or.inl rfl)
  have e49 : am_u M (3, 0, 0) 49 (nI p) (3, 0, 0) 49 = nI p := by rw [am_u_c, pk_us]
  have e48 : am_u M (3, 0, 0) 49 (nI p) (3, 0, 0) 48 = nI n := (R.cg F1).s
  have e44 : am_u M (3, 0, 0) 49 (nI p) (3, 0, 44) = M (3, 0, 44) := am_u_o _ _ _ (by simp)
  rw [e49, e48, e44, nI_eq (show p < 2 ^ 31 by omega) (show n < 2 ^ 31 by omega), nI_clamp (show p < 2 ^ 31 by omega), am_uu, nI_1]
  refine ⟨fun z => h0 (fun w => ?_) _ F1 e49, fun z => ?_⟩
  · have := (tok_sign R hk hs hg).mp w
    omega
  · have hlt : p < n := by omega
    obtain ⟨c1, c2⟩ := R.v p hlt
    rw [c2, sb_eq c1 hs2.2.1]
    refine ⟨vp_in_nI (by omega) (by omega), fun w => h1 ((tok_sign R hk hs hg).mpr ⟨hlt, w⟩) hlt _ (FrA.u (Or.inl rfl)) ?_, fun w => h0 (fun w2 => w ((tok_sign R hk hs hg).mp w2).2) _ F1 e49⟩
    rw [am_u_c, pk_us]
    have := (enT_sp hk hlt).2.2.2.2 (by rw [w]; exact hs2.2.2)
    rw [this]
end RL
