/-! ===== strips: both sides ===== -/
def ISt (ar cr : Nat → Nat) (k : Nat) (M : am_I) : Prop := (k ≤ 12) ∧ (tabOK M 6 2 k) ∧ (M (2, 6, 0) 2 = nI 12) ∧ (M (3, 0, 0) 42 = nI k) ∧ (∀ i, i < k → ar i ≤ 1 ∧ M (2, 6, 1) (i * 2 + 0) = nI (ar i) ∧ M (3, 0, 32) i = nI (ar i)) ∧ (∀ i, i < k → cr i ≤ 9999 ∧ M (2, 6, 1) (i * 2 + 1) = nI (cr i) ∧ M (3, 0, 33) i = nI (cr i))
theorem ISt.b {ar cr : Nat → Nat} {k : Nat} {M : am_I} (h : ISt ar cr k M) : k ≤ 12 := h.1
theorem ISt.t {ar cr : Nat → Nat} {k : Nat} {M : am_I} (h : ISt ar cr k M) : tabOK M 6 2 k := h.2.1
theorem ISt.mx {ar cr : Nat → Nat} {k : Nat} {M : am_I} (h : ISt ar cr k M) : M (2, 6, 0) 2 = nI 12 := h.2.2.1
theorem ISt.r {ar cr : Nat → Nat} {k : Nat} {M : am_I} (h : ISt ar cr k M) : M (3, 0, 0) 42 = nI k := h.2.2.2.1
theorem ISt.a {ar cr : Nat → Nat} {k : Nat} {M : am_I} (h : ISt ar cr k M) : ∀ i, i < k → ar i ≤ 1 ∧ M (2, 6, 1) (i * 2 + 0) = nI (ar i) ∧ M (3, 0, 32) i = nI (ar i) := h.2.2.2.2.1
theorem ISt.c {ar cr : Nat → Nat} {k : Nat} {M : am_I} (h : ISt ar cr k M) : ∀ i, i < k → cr i ≤ 9999 ∧ M (2, 6, 1) (i * 2 + 1) = nI (cr i) ∧ M (3, 0, 33) i = nI (cr i) := h.2.2.2.2.2
def INVS (M : am_I) : Prop := ∃ ar cr k, ISt ar cr k M
def uN (g : Nat → Nat) (k v : Nat) : Nat → Nat := fun i => if i = k then v else g i
theorem uN_s {g : Nat → Nat} {k v : Nat} : uN g k v k = v := if_pos rfl
theorem uN_o {g : Nat → Nat} {k v i : Nat} (h : i ≠ k) : uN g k v i = g i := if_neg h
def ownN (ar : Nat → Nat) : Nat → Nat
  | 0 => 0
  | i + 1 => ownN ar i + ar i * 2 ^ i
def cwN (cr : Nat → Nat) (s : Nat) : Nat → Nat
  | 0 => 0
  | i + 1 => cwN cr s i + (if s / 2 ^ i % 2 = 1 then cr i else 0)
def coN (cr : Nat → Nat) (s : Nat) : Nat → Nat
  | 0 => 0
  | i + 1 => coN cr s i + (if s / 2 ^ i % 2 = 1 then 0 else cr i)
def ldV (cr : Nat → Nat) (k s : Nat) : Int32 := nI (cwN cr s k) * (nI k - nI (popN s 12)) - nI (coN cr s k) * nI (popN s 12)
theorem orAll : ∀ i, i < 12 → ∀ a, a < 2 ^ i → nI a ||| ((1 : Int32) <<< (nI i &&& 31)) = nI (a + 2 ^ i) := by decide +kernel
theorem or0 : ∀ i, i < 12 → (0 : Int32) <<< (nI i &&& 31) = 0 := by decide +kernel
section ST
variable {M M1 : am_I} {N N1 : am_N} {ar cr : Nat → Nat} {k s : Nat} {a1 a2 a3 ls : Int32} {postI : Int32 → am_I → am_N → Prop}
theorem ownN_lt (h : ∀ i, i < k → ar i ≤ 1) : ∀ i, i ≤ k → ownN ar i < 2 ^ i
  | 0, _ => Nat.zero_lt_one
  | i + 1, hi => by
    have ih := ownN_lt h i (by omega)
    have h1 := h i (by omega)
    show ownN ar i + ar i * 2 ^ i < 2 ^ (i + 1)
    have h2 : ar i * 2 ^ i ≤ 1 * 2 ^ i := Nat.mul_le_mul_right _ h1
    rw [Nat.pow_succ]
    omega
theorem own_or {i a b : Nat} (hi : i < 12) (ha : a < 2 ^ i) (hb : b ≤ 1) : nI a ||| (nI b <<< (nI i &&& 31)) = nI (a + b * 2 ^ i) := by
  have : b = 0 ∨ b = 1 := by omega
  rcases this with r | r
  · subst r
    rw [Nat.zero_mul, Nat.add_zero]
    have h0 : nI 0 <<< (nI i &&& 31) = 0 := or0 i hi
    rw [h0]
    exact Int32.or_zero
  · subst r
    rw [Nat.one_mul]
    exact orAll i hi a ha
theorem cw_le (h : ∀ i, i < k → cr i ≤ 9999) : ∀ i, i ≤ k → cwN cr s i ≤ 9999 * i ∧ coN cr s i ≤ 9999 * i
  | 0, _ => ⟨Nat.le_refl _, Nat.le_refl _⟩
  | i + 1, hi => by
    obtain ⟨h1, h2⟩ := cw_le h i (by omega)
    have h3 := h i (by omega)
    show cwN cr s i + (if s / 2 ^ i % 2 = 1 then cr i else 0) ≤ _ ∧ coN cr s i + (if s / 2 ^ i % 2 = 1 then 0 else cr i) ≤ _
    by_cases e : s / 2 ^ i % 2 = 1
    · rw [if_pos e, if_pos e]; omega
    · rw [if_neg e, if_neg e]; omega
theorem popN_le : ∀ i, popN s i ≤ i
  | 0 => Nat.le_refl _
  | i + 1 => by
    have := popN_le i
    show popN s i + s / 2 ^ i % 2 ≤ i + 1
    omega
theorem pop12 (hk : k ≤ 12) (hs : s < 2 ^ k) : popN s 12 ≤ k := by
  have := popN_more (s := s) (i := k) (Nat.div_eq_of_lt hs) (12 - k)
  rw [show k + (12 - k) = 12 by omega] at this
  rw [this]
  exact popN_le k
theorem ldV_lo (hk : k ≤ 12) (hs : s < 2 ^ k) (h : ∀ i, i < k → cr i ≤ 9999) : ¬ ldV cr k s < -2000000000 := by
  have hp := pop12 hk hs
  obtain ⟨h1, h2⟩ := cw_le (s := s) h k (Nat.le_refl _)
  unfold ldV
  rw [pk_sub hp, pk_mul, pk_mul]
  have b1 : cwN cr s k * (k - popN s 12) ≤ 119988 * 12 := Nat.mul_le_mul (by omega) (by omega)
  have b2 : coN cr s k * popN s 12 ≤ 119988 * 12 := Nat.mul_le_mul (by omega) (by omega)
  intro z
  have e := pk_sub_toInt (a := cwN cr s k * (k - popN s 12)) (b := coN cr s k * popN s 12) (by omega) (by omega)
  have z2 := Int32.lt_iff_toInt_lt.mp z
  rw [e] at z2
  have e2 : (-2000000000 : Int32).toInt = -2000000000 := by decide
  rw [e2] at z2
  omega
theorem c_arms (I : ISt ar cr k M) (h : postI (nI (ownN ar k)) M N) : w_X8_armsAsDealt M N postI := by
  unfold w_X8_armsAsDealt
  have hb := I.b
  refine ⟨k + 1, ?_⟩
  have key : ∀ (j i : Nat), i + j = k → w_X8_armsAsDealt_p4 postI (j + 1) (nI (ownN ar i)) (nI i) M N := by
    intro j
    induction j with
    | zero =>
      intro i hi
      have hi' : i = k := by omega
      subst hi'
      rw [w_X8_armsAsDealt_p4_s]
      unfold w_X8_armsAsDealt_p4_b
      rw [I.t.2.1]
      exact ⟨fun _ => h, fun z => absurd (nI_le (Nat.le_refl _) (by omega)) z⟩
    | succ j ih =>
      intro i hi
      have ih' := ih (i + 1) (by omega)
      rw [w_X8_armsAsDealt_p4_s]
      unfold w_X8_armsAsDealt_p4_b
      rw [I.t.2.1]
      refine ⟨fun z => absurd z (nI_ge (by omega) (by omega)), fun _ => sp_at (w := 2) (c := 0) I.t (by omega) (by omega) (fun v ev => ?_)⟩
      rw [(I.a i (by omega)).2.1, own_or (by omega) (ownN_lt (fun x hx => (I.a x hx).1) i (by omega)) (I.a i (by omega)).1] at ev
      subst ev
      rw [nI_1]
      exact ih'
  exact key k 0 (by omega)
theorem c_leadOf (I : ISt ar cr k M) (hs : s < 2 ^ k) (h : postI (ldV cr k s) M N) : w_X8_leadOf (nI s) M N postI := by
  have hb := I.b
  have hs12 : s < 4096 := Nat.lt_of_lt_of_le hs (Nat.le_trans (Nat.pow_le_pow_right (by decide) hb) (by decide))
  unfold w_X8_leadOf
  refine eq_J6_bitCount.mpr ?_
  rw [ibc_pop hs12]
  refine ⟨k + 1, ?_⟩
  have key : ∀ (j i : Nat), i + j = k → w_X8_leadOf_p13 postI (j + 1) (nI s) (nI (popN s 12)) (nI (cwN cr s i)) (nI (coN cr s i)) (nI i) M N := by
    intro j
    induction j with
    | zero =>
      intro i hi
      have hi' : i = k := by omega
      subst hi'
      rw [w_X8_leadOf_p13_s]
      unfold w_X8_leadOf_p13_b
      rw [I.t.2.1]
      exact ⟨fun _ => h, fun z => absurd (nI_le (Nat.le_refl _) (by omega)) z⟩
    | succ j ih =>
      intro i hi
      have ih' := ih (i + 1) (by omega)
      have ew : cwN cr s (i + 1) = cwN cr s i + (if s / 2 ^ i % 2 = 1 then cr i else 0) := rfl
      have eo : coN cr s (i + 1) = coN cr s i + (if s / 2 ^ i % 2 = 1 then 0 else cr i) := rfl
      have hb2 : s / 2 ^ i < 2 ^ 31 := Nat.lt_of_le_of_lt (Nat.div_le_self _ _) (by omega)
      have eb : ((nI s >>> (nI i &&& 31)) &&& 1) = 1 ↔ s / 2 ^ i % 2 = 1 := by
        rw [sr_n (by omega) (by omega), an1 hb2]
        exact nI_eq (b := 1) (by omega) (by omega)
      rw [w_X8_leadOf_p13_s]
      unfold w_X8_leadOf_p13_b
      rw [I.t.2.1, eb]
      refine ⟨fun z => absurd z (nI_ge (by omega) (by omega)), fun _ => ⟨fun z => sp_at (w := 2) (c := 1) I.t (by omega) (by omega) ?_, fun z => sp_at (w := 2) (c := 1) I.t (by omega) (by omega) ?_⟩⟩
      · rw [(I.c i (by omega)).2.1, nI_add, nI_1]
        rw [ew, eo, if_neg z, if_neg z] at ih'
        exact ih'
      · rw [(I.c i (by omega)).2.1, nI_add, nI_1]
        rw [ew, eo, if_pos z, if_pos z] at ih'
        exact ih'
  exact key k 0 (by omega)
theorem r_leadOf (I : ISt ar cr k M) (hs : s < 2 ^ k) (h : postI (ldV cr k s) M N) : w_X12_leadOf (nI s) M N postI := by
  have hb := I.b
  have hs12 : s < 4096 := Nat.lt_of_lt_of_le hs (Nat.le_trans (Nat.pow_le_pow_right (by decide) hb) (by decide))
  unfold w_X12_leadOf
  refine r_bits hs12 ⟨k + 1, ?_⟩
  have key : ∀ (j i : Nat), i + j = k → w_X12_leadOf_p13 postI (j + 1) (nI s) (nI (popN s 12)) (nI (cwN cr s i)) (nI (coN cr s i)) (nI i) M N := by
    intro j
    induction j with
    | zero =>
      intro i hi
      have hi' : i = k := by omega
      subst hi'
      rw [w_X12_leadOf_p13_s]
      unfold w_X12_leadOf_p13_b
      rw [I.r]
      exact ⟨fun _ => h, fun z => absurd (nI_le (Nat.le_refl _) (by omega)) z⟩
    | succ j ih =>
      intro i hi
      have ih' := ih (i + 1) (by omega)
      have ew : cwN cr s (i + 1) = cwN cr s i + (if s / 2 ^ i % 2 = 1 then cr i else 0) := rfl
      have eo : coN cr s (i + 1) = coN cr s i + (if s / 2 ^ i % 2 = 1 then 0 else cr i) := rfl
      have hb2 : s / 2 ^ i < 2 ^ 31 := Nat.lt_of_le_of_lt (Nat.div_le_self _ _) (by omega)
      have eb : ((nI s >>> (nI i &&& 31)) &&& 1) = 1 ↔ s / 2 ^ i % 2 = 1 := by
        rw [sr_n (by omega) (by omega), an1 hb2]
        exact nI_eq (b := 1) (by omega) (by omega)
      have vi : vp_in (nI i) 12 := vp_in_nI (by omega) (by omega)
      rw [w_X12_leadOf_p13_s]
      unfold w_X12_leadOf_p13_b
      rw [I.r, eb, nI_clamp (show i < 2 ^ 31 by omega), (I.c i (by omega)).2.2, nI_add, nI_add, nI_1]
      refine ⟨fun z => absurd z (nI_ge (by omega) (by omega)), fun _ => ⟨fun z => ⟨vi, fun v ev => ?_⟩, fun z => ⟨vi, fun v ev => ?_⟩⟩⟩
      · subst ev
        rw [ew, eo, if_neg z, if_neg z] at ih'
        exact ih'
      · subst ev
        rw [ew, eo, if_pos z, if_pos z] at ih'
        exact ih'
  exact key k 0 (by omega)
theorem c_ways (I : ISt ar cr k M) (h : postI (cntI (fun s => nI (popN s 12) = nI (popN (ownN ar k) 12) ∧ ¬ ldV cr k s < ls) (2 ^ k)) M N) : w_X8_waysWithLead ls M N postI := by
  have hb := I.b
  have hp : 2 ^ k ≤ 4096 := Nat.le_trans (Nat.pow_le_pow_right (by decide) hb) (by decide)
  have ho := ownN_lt (fun x hx => (I.a x hx).1) k (Nat.le_refl _)
  unfold w_X8_waysWithLead
  refine c_arms I (eq_J6_bitCount.mpr ?_)
  rw [ibc_pop (by omega)]
  refine ⟨2 ^ k + 1, ?_⟩
  have key : ∀ (j i : Nat), i + j = 2 ^ k → w_X8_waysWithLead_p13 postI (j + 1) ls (nI (popN (ownN ar k) 12)) (cntI (fun s => nI (popN s 12) = nI (popN (ownN ar k) 12) ∧ ¬ ldV cr k s < ls) i) (nI i) M N := by
    intro j
    induction j with
    | zero =>
      intro i hi
      have hi' : i = 2 ^ k := by omega
      subst hi'
      rw [w_X8_waysWithLead_p13_s]
      unfold w_X8_waysWithLead_p13_b
      rw [I.t.2.1, sl_1 (by omega)]
      exact ⟨fun _ => h, fun z => absurd (nI_le (Nat.le_refl _) (by omega)) z⟩
    | succ j ih =>
      intro i hi
      have ih' := ih (i + 1) (by omega)
      rw [w_X8_waysWithLead_p13_s]
      unfold w_X8_waysWithLead_p13_b
      rw [I.t.2.1, sl_1 (by omega), nI_1]
      refine ⟨fun z => absurd z (nI_ge (by omega) (by omega)), fun _ => eq_J6_bitCount.mpr ?_⟩
      rw [ibc_pop (by omega)]
      refine ⟨fun z => ?_, fun z => c_leadOf I (by omega) ⟨fun z2 => ?_, fun z2 => ?_⟩⟩
      · rw [cntI_f (fun w => z w.1)] at ih'; exact ih'
      · rw [cntI_f (fun w => w.2 z2)] at ih'; exact ih'
      · rw [cntI_t ⟨z, z2⟩] at ih'; exact ih'
  exact key (2 ^ k) 0 (by omega)
theorem r_better (I : ISt ar cr k M) (h0 : a1 = 0 → postI (cntI (fun s => nI (popN s 12) = nI (popN (ownN ar k) 12) ∧ ¬ ldV cr k s < ldV cr k (ownN ar k)) (2 ^ k)) M N) (h1 : a1 = 1 → postI (cntI (fun s => nI (popN s 12) = nI (popN (ownN ar k) 12)) (2 ^ k)) M N) (h2 : a1 = 2 → postI (ldV cr k (ownN ar k)) M N) (h3 : ¬ a1 = 0 → ¬ a1 = 1 → ¬ a1 = 2 → postI (-2000000000) M N) : w_X12_better a1 M N postI := by
  have hb := I.b
  have hp : 2 ^ k ≤ 4096 := Nat.le_trans (Nat.pow_le_pow_right (by decide) hb) (by decide)
  have ho := ownN_lt (fun x hx => (I.a x hx).1) k (Nat.le_refl _)
  have key : ∀ (j i : Nat), i + j = 2 ^ k → w_X12_better_p37 postI (j + 1) a1 (nI (ownN ar k)) (cntI (fun s => nI (popN s 12) = nI (popN (ownN ar k) 12)) i) (cntI (fun s => nI (popN s 12) = nI (popN (ownN ar k) 12) ∧ ¬ ldV cr k s < ldV cr k (ownN ar k)) i) (nI i) M N := by
    intro j
    induction j with
    | zero =>
      intro i hi
      have hi' : i = 2 ^ k := by omega
      subst hi'
      rw [w_X12_better_p37_s]
      unfold w_X12_better_p37_b
      rw [I.r, sl_1 (by omega)]
      exact ⟨fun _ => ⟨fun z0 => ⟨fun z1 => ⟨fun z2 => h3 z0 z1 z2, fun z2 => r_leadOf I ho (h2 z2)⟩, fun z1 => h1 z1⟩, fun z0 => h0 z0⟩, fun z => absurd (nI_le (Nat.le_refl _) (by omega)) z⟩
    | succ j ih =>
      intro i hi
      have ih' := ih (i + 1) (by omega)
      rw [w_X12_better_p37_s]
      unfold w_X12_better_p37_b w_X12_better_p87 w_X12_one
      rw [I.r, sl_1 (by omega), nI_1]
      refine ⟨fun z => absurd z (nI_ge (by omega) (by omega)), fun _ => r_bits (by omega) (r_bits (by omega) ⟨fun z => r_leadOf I (by omega) (r_leadOf I ho ⟨fun z2 => ⟨fun _ => ?_, fun w => absurd rfl w⟩, fun z2 => ⟨fun w => absurd w (by decide), fun _ => ?_⟩⟩), fun z => ?_⟩)⟩
      · rw [cntI_t z, cntI_f (fun w => w.2 z2)] at ih'
        show w_X12_better_p37 postI (j + 1) a1 (nI (ownN ar k)) _ (cntI _ i + 0) (nI (i + 1)) M N
        rw [Int32.add_zero]
        exact ih'
      · rw [cntI_t z, cntI_t ⟨z, z2⟩] at ih'
        exact ih'
      · rw [cntI_f z, cntI_f (fun w => z w.1)] at ih'
        exact ih'
  unfold w_X12_better
  refine ⟨k + 1, ?_⟩
  have own : ∀ (j i : Nat), i + j = k → w_X12_better_p4 postI (j + 1) a1 (nI (ownN ar i)) (nI i) M N := by
    intro j
    induction j with
    | zero =>
      intro i hi
      have hi' : i = k := by omega
      subst hi'
      rw [w_X12_better_p4_s]
      unfold w_X12_better_p4_b
      rw [I.r]
      exact ⟨fun _ => ⟨2 ^ i + 1, key (2 ^ i) 0 (by omega)⟩, fun z => absurd (nI_le (Nat.le_refl _) (by omega)) z⟩
    | succ j ih =>
      intro i hi
      have ih' := ih (i + 1) (by omega)
      rw [w_X12_better_p4_s]
      unfold w_X12_better_p4_b
      rw [I.r, nI_clamp (show i < 2 ^ 31 by omega), (I.a i (by omega)).2.2, own_or (by omega) (ownN_lt (fun x hx => (I.a x hx).1) i (by omega)) (I.a i (by omega)).1, nI_1]
      refine ⟨fun z => absurd z (nI_ge (by omega) (by omega)), fun _ => ⟨vp_in_nI (by omega) (by omega), fun v ev => ?_⟩⟩
      subst ev
      exact ih'
  exact own k 0 (by omega)
theorem call_better (h : INVS M) : w_X11_better a1 M N (fun r M1 N1 => w_X12_better a1 M1 N1 (fun r2 M2 N2 => r = r2 ∧ M2 = M ∧ N2 = N)) := by
  obtain ⟨ar, cr, k, I⟩ := h
  have ho := ownN_lt (fun x hx => (I.a x hx).1) k (Nat.le_refl _)
  unfold w_X11_better w_X8_waysAsGood w_X8_allWays w_X8_lead
  refine ⟨fun z => ?_, fun z => ?_, fun z => ?_, fun z0 z1 z2 => ?_⟩
  · subst z
    exact c_arms I (c_leadOf I ho (c_ways I (r_better I (fun _ => ⟨rfl, rfl, rfl⟩) (fun z => absurd z (by decide)) (fun z => absurd z (by decide)) (fun z => absurd rfl z))))
  · subst z
    refine c_ways I (r_better I (fun z => absurd z (by decide)) (fun _ => ⟨cntI_cg (fun i hi => ⟨fun w => w.1, fun w => ⟨w, ldV_lo I.b hi (fun x hx => (I.c x hx).1)⟩⟩), rfl, rfl⟩) (fun z => absurd z (by decide)) (fun _ z => absurd rfl z))
  · subst z
    exact c_arms I (c_leadOf I ho (r_better I (fun z => absurd z (by decide)) (fun z => absurd z (by decide)) (fun _ => ⟨rfl, rfl, rfl⟩) (fun _ _ z => absurd rfl z)))
  · exact r_better I (fun z => absurd z z0) (fun z => absurd z z1) (fun z => absurd z z2) (fun _ _ _ => ⟨rfl, rfl, rfl⟩)
/-- what strip leaves alone -/
def FrT (M : am_I) (N : am_N) (M' : am_I) (N' : am_N) : Prop := N' = N ∧ (∀ c : am_C, ¬ (c.1 = 2 ∧ c.2.1 = 6) → c ≠ (3, 0, 32) → c ≠ (3, 0, 33) → c ≠ (3, 0, 0) → M' c = M c) ∧ ∀ j, j ≠ 42 → M' (3, 0, 0) j = M (3, 0, 0) j
theorem call_strip (h : INVS M) : w_X11_strip a1 a2 M N (fun r M1 N1 => w_X12_strip a1 a2 M1 N1 (fun r2 M2 N2 => r = r2 ∧ FrT M N M2 N2 ∧ INVS M2)) := by
  have h0 := h
  obtain ⟨ar, cr, k, I⟩ := h
  have hb := I.b
  have no : (-1 : Int32) = -1 ∧ FrT M N M N ∧ INVS M := ⟨rfl, ⟨rfl, fun _ _ _ _ _ => rfl, fun _ _ => rfl⟩, h0⟩
  unfold w_X11_strip
  refine eq_X11_within.mpr ?_
  by_cases y1 : 0 ≤ a1 ∧ a1 ≤ 1
  · rw [am_bt y1]
    refine ⟨fun z => absurd z (by decide), fun _ => eq_X11_within.mpr ?_⟩
    by_cases y2 : 0 ≤ a2 ∧ a2 ≤ 9999
    · rw [am_bt y2]
      obtain ⟨x, hx, rfl⟩ : ∃ x, x ≤ 1 ∧ a1 = nI x := nI_of2 (M := 1) (n := 1) rfl (Int32.not_lt.mpr y1.1) y1.2
      obtain ⟨y, hy, rfl⟩ : ∃ x, x ≤ 9999 ∧ a2 = nI x := nI_of2 (M := 9999) (n := 9999) rfl (Int32.not_lt.mpr y2.1) y2.2
      have e12 : nI k = (12 : Int32) ↔ k = 12 := nI_eq (b := 12) (by omega) (by omega)
      refine ⟨fun z => absurd z (by decide), fun _ => sp_isFull I.t I.mx (by omega) (fun hk => ⟨fun _ => sp_add I.t I.mx (by omega) hk (by show (k + 1) * 2 ≤ 24; omega) (by omega) ?_, fun z => absurd rfl z⟩) (fun hk => ⟨fun z => absurd z (by decide), fun _ => ?_⟩)⟩
      · have m30 : ∀ i, addM M 6 2 k (v6 (nI x) (nI y) 0 0 0 0) (3, 0, i) = M (3, 0, i) := fun i => addM_o (by simp) (by simp)
        generalize hM1 : addM M 6 2 k (v6 (nI x) (nI y) 0 0 0 0) = MM at m30
        have eN : MM (2, 6, 0) 3 - 1 = nI k := by rw [← hM1, addM_n, nI_pred]
        rw [eN]
        unfold w_X12_strip
        refine eq_X12_isIn.mpr ?_
        rw [am_bt y1]
        refine ⟨fun z => absurd z (by decide), fun _ => eq_X12_isIn.mpr ?_⟩
        rw [am_bt y2]
        refine ⟨fun z => absurd z (by decide), fun _ => ?_⟩
        have e42 : MM (3, 0, 0) 42 = nI k := by rw [m30]; exact I.r
        have s1 : ∀ (g : am_I) (i : Nat) (v : Int32), am_u g (3, 0, 32) i v (3, 0, 0) = g (3, 0, 0) := fun g i v => am_u_o _ _ _ (by simp)
        have s2 : ∀ (g : am_I) (i : Nat) (v : Int32), am_u g (3, 0, 33) i v (3, 0, 0) = g (3, 0, 0) := fun g i v => am_u_o _ _ _ (by simp)
        have vk : vp_in (nI k) 12 := vp_in_nI (by omega) (by omega)
        rw [am_u_c, pk_us, s2, s1, e42, e12, nI_clamp (by omega), nI_1, nI_pred]
        refine ⟨fun _ => ⟨vk, vk, rfl, ⟨rfl, fun c q1 q2 q3 q4 => ?_, fun j hj => ?_⟩, uN ar k x, uN cr k y, k + 1, ?_⟩, fun z => absurd z (by omega)⟩
        · rw [am_u_o _ _ _ q4, am_u_o _ _ _ q3, am_u_o _ _ _ q2, ← hM1]
          exact addM_o (fun e => q1 (by subst e; exact ⟨rfl, rfl⟩)) (fun e => q1 (by subst e; exact ⟨rfl, rfl⟩))
        · rw [am_u_c, pk_un hj, s2, s1, m30]
        · have o0 : ∀ i, am_u (am_u (am_u MM (3, 0, 32) k (nI x)) (3, 0, 33) k (nI y)) (3, 0, 0) 42 (nI (k + 1)) (2, 6, i) = MM (2, 6, i) := fun i => by rw [am_u_o _ _ _ (by simp), am_u_o _ _ _ (by simp), am_u_o _ _ _ (by simp)]
          have o32 : am_u (am_u (am_u MM (3, 0, 32) k (nI x)) (3, 0, 33) k (nI y)) (3, 0, 0) 42 (nI (k + 1)) (3, 0, 32) = upd (M (3, 0, 32)) k (nI x) := by rw [am_u_o _ _ _ (by simp), am_u_o _ _ _ (by simp), am_u_c, m30]
          have o33 : am_u (am_u (am_u MM (3, 0, 32) k (nI x)) (3, 0, 33) k (nI y)) (3, 0, 0) 42 (nI (k + 1)) (3, 0, 33) = upd (M (3, 0, 33)) k (nI y) := by rw [am_u_o _ _ _ (by simp), am_u_c, am_u_o _ _ _ (by simp), m30]
          refine ⟨by omega, ?_, ?_, by rw [am_u_c, pk_us], fun i hi => ?_, fun i hi => ?_⟩
          · have tk : tabOK MM 6 2 (k + 1) := by rw [← hM1]; exact addM_ok I.t (by show (k + 1) * 2 ≤ 24; omega) (by omega)
            exact tk.cg (o0 0)
          · rw [o0, ← hM1, addM_0 (by decide)]; exact I.mx
          · rw [o0, o32]
            by_cases e : i = k
            · subst e
              rw [uN_s, pk_us, ← hM1, addM_new (by omega)]
              exact ⟨hx, rfl, rfl⟩
            · rw [uN_o e, pk_un e, ← hM1, addM_oldR (by omega) (by omega)]
              exact I.a i (by omega)
          · rw [o0, o33]
            by_cases e : i = k
            · subst e
              rw [uN_s, pk_us, ← hM1, addM_new (by omega)]
              exact ⟨hy, rfl, rfl⟩
            · rw [uN_o e, pk_un e, ← hM1, addM_oldR (by omega) (by omega)]
              exact I.c i (by omega)
      · unfold w_X12_strip
        refine eq_X12_isIn.mpr ?_
        rw [am_bt y1]
        refine ⟨fun z => absurd z (by decide), fun _ => eq_X12_isIn.mpr ?_⟩
        rw [am_bt y2]
        refine ⟨fun z => absurd z (by decide), fun _ => ⟨fun z => ?_, fun _ => no⟩⟩
        rw [I.r, e12] at z
        exact absurd (by omega) z
    · rw [am_bf y2]
      refine ⟨fun _ => ?_, fun z => absurd rfl z⟩
      unfold w_X12_strip
      refine eq_X12_isIn.mpr ?_
      rw [am_bt y1]
      refine ⟨fun z => absurd z (by decide), fun _ => eq_X12_isIn.mpr ?_⟩
      rw [am_bf y2]
      exact ⟨fun _ => no, fun z => absurd rfl z⟩
  · rw [am_bf y1]
    refine ⟨fun _ => ?_, fun z => absurd rfl z⟩
    unfold w_X12_strip
    refine eq_X12_isIn.mpr ?_
    rw [am_bf y1]
    exact ⟨fun _ => no, fun z => absurd rfl z⟩
theorem INVS.cg (h : INVS M) (e1 : ∀ i, M1 (2, 6, i) = M (2, 6, i)) (e2 : M1 (3, 0, 32) = M (3, 0, 32)) (e3 : M1 (3, 0, 33) = M (3, 0, 33)) (e4 : M1 (3, 0, 0) 42 = M (3, 0, 0) 42) : INVS M1 := by
  obtain ⟨ar, cr, k, I⟩ := h
  exact ⟨ar, cr, k, I.b, I.t.cg (e1 0), by rw [e1]; exact I.mx, by rw [e4]; exact I.r, by rw [e1, e2]; exact I.a, by rw [e1, e3]; exact I.c⟩
theorem INVS.x1 (h : INVS M) (F : FrX1 M N M1 N1) : INVS M1 := h.cg (fun i => (F.1 (2, 6, i) (Or.inr (Or.inl ⟨rfl, rfl⟩))).1) (F.1 (3, 0, 32) (Or.inr (Or.inr ⟨rfl, by decide⟩))).1 (F.1 (3, 0, 33) (Or.inr (Or.inr ⟨rfl, by decide⟩))).1 (F.2 42 (by decide))
theorem ICl.cg6 {bk : Bk} {lg : Lg} {NN now : Nat} {wd : Nat → Nat} (I : ICl bk lg NN now wd M N) (e1 : ∀ x i, M1 (1, x, i) = M (1, x, i) ∧ N1 (1, x, i) = N (1, x, i)) (e2 : ∀ t i, t < 6 → M1 (2, t, i) = M (2, t, i)) : ICl bk lg NN now wd M1 N1 := by
  have pc : ∀ {b n u : Nat} {but : Nat → Nat → Prop}, PC b bk lg NN but n u M N → PC b bk lg NN but n u M1 N1 := fun {b n u but} P => ⟨⟨P.w.k.cg5 (fun t i _ h2 => e2 t i (by omega)), P.w.fb, P.w.w.mem (fun i _ _ _ => (e1 b i).1) (fun i _ => (e1 b i).2)⟩, by rw [(e1 b 0).1]; exact P.hd, P.le, P.up, P.lo⟩
  refine ⟨I.K.cg5 (fun t i _ h2 => e2 t i (by omega)), fun k hk => by rw [e2 4 1 (by omega)]; exact I.D k hk, I.L.cg (fun i => e2 0 i (by omega)), ⟨?_, ?_, ?_, ?_, ?_, ?_⟩, pc I.cl, ?_⟩
  · rw [e2 0 0 (by omega)]; exact I.mx.t0
  · rw [e2 1 0 (by omega)]; exact I.mx.t1
  · rw [e2 2 0 (by omega)]; exact I.mx.t2
  · rw [e2 3 0 (by omega)]; exact I.mx.t3
  · rw [e2 4 0 (by omega)]; exact I.mx.t4
  · rw [e2 5 0 (by omega)]; exact I.mx.t5
  · obtain ⟨n, u, h1, h2⟩ := I.gh
    refine ⟨n, u, h1, ?_⟩
    rw [(e1 1 0).1]
    exact pc h2
/-- the world's part does not see strips, rules, tapes -/
theorem INVW.cg (h : INVW M N) (e1 : ∀ x i, M1 (1, x, i) = M (1, x, i) ∧ N1 (1, x, i) = N (1, x, i)) (e2 : ∀ t i, t < 6 → M1 (2, t, i) = M (2, t, i)) (e3 : ∀ i, 1 ≤ i → i < 23 → M1 (3, 0, i) = M (3, 0, i)) (e4 : ∀ j, j < 40 → M1 (3, 0, 0) j = M (3, 0, 0) j) (e5 : N1 (3, 0, 0) = N (3, 0, 0)) : INVW M1 N1 := by
  obtain ⟨bk, lg, NN, now, wd, P, I, R⟩ := h
  exact ⟨bk, lg, NN, now, wd, P, I.cg6 e1 e2, R.cg2 e3 e4 e5⟩
theorem INVW.ft (h : INVW M N) (F : FrT M N M1 N1) : INVW M1 N1 := by
  obtain ⟨f1, f2, f3⟩ := F
  subst f1
  refine h.cg (fun x i => ⟨f2 _ (fun z => absurd z.1 (by simp)) (by simp) (by simp) (by simp), rfl⟩) (fun t i ht => f2 _ (fun z => by have := z.2; simp at this; omega) (by simp) (by simp) (by simp)) (fun i h1 h2 => f2 _ (fun z => absurd z.1 (by simp)) (fun e => ?_) (fun e => ?_) (fun e => ?_)) (fun j hj => f3 j (by omega)) rfl
  all_goals (simp only [Prod.mk.injEq] at e; omega)
end ST
