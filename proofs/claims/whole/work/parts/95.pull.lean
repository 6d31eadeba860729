/-! ===== pull: bits, what is near, what is reached ===== -/
theorem sh31 : ∀ k, k < 32 → ((nI k &&& 31).toBitVec.smod 32).toNat = k := by decide +kernel
theorem sr_n {s k : Nat} (hs : s < 2 ^ 31) (hk : k < 32) : nI s >>> (nI k &&& 31) = nI (s / 2 ^ k) := pk_shrN hs _ k (sh31 k hk)
theorem sl_1 {k : Nat} (hk : k < 31) : (1 : Int32) <<< (nI k &&& 31) = nI (2 ^ k) := by
  have h1 : (2 : Nat) ^ k ≤ 2 ^ 30 := Nat.pow_le_pow_right (by decide) (by omega)
  have h2 := pk_shlN (n := 1) (nI k &&& 31) k (sh31 k (by omega)) (by omega)
  rw [Nat.one_mul] at h2
  exact h2
theorem an1 {s : Nat} (hs : s < 2 ^ 31) : nI s &&& 1 = nI (s % 2) := pk_andN (by omega) 1 (by decide)
theorem popN_more {s i : Nat} (h : s / 2 ^ i = 0) : ∀ j, popN s (i + j) = popN s i
  | 0 => rfl
  | j + 1 => by
    show popN s (i + j) + s / 2 ^ (i + j) % 2 = popN s i
    rw [popN_more h j, Nat.pow_add, ← Nat.div_div_eq_div_mul, h, Nat.zero_div, Nat.zero_mod, Nat.add_zero]
section PL
variable {M M1 M2 : am_I} {N N1 : am_N} {cn : Cn} {f : Nat → Int32} {c n s d : Nat} {y x t : Int64} {a1 a2 : Int32} {post : am_I → am_N → Prop} {postI : Int32 → am_I → am_N → Prop}
theorem r_bits (hs : s < 4096) (h : postI (nI (popN s 12)) M N) : w_X12_bits (nI s) M N postI := by
  unfold w_X12_bits
  refine ⟨13, ?_⟩
  have key : ∀ (j i : Nat), i + j = 12 → w_X12_bits_p4 postI (j + 1) (nI (popN s i)) (nI (s / 2 ^ i)) M N := by
    intro j
    induction j with
    | zero =>
      intro i hi
      have hi' : i = 12 := by omega
      subst hi'
      rw [w_X12_bits_p4_s]
      unfold w_X12_bits_p4_b
      rw [show s / 2 ^ 12 = 0 from Nat.div_eq_of_lt hs]
      exact ⟨fun _ => h, fun z => absurd (by decide) z⟩
    | succ j ih =>
      intro i hi
      have ih' := ih (i + 1) (by omega)
      have hb : s / 2 ^ i < 2 ^ 31 := Nat.lt_of_le_of_lt (Nat.div_le_self _ _) (by omega)
      rw [w_X12_bits_p4_s]
      unfold w_X12_bits_p4_b
      refine ⟨fun z => ?_, fun _ v1 e1 v2 e2 => ?_⟩
      · have e0 : s / 2 ^ i = 0 := Nat.eq_zero_of_not_pos (fun p => nI_nle p hb z)
        have := popN_more e0 (j + 1)
        rw [hi] at this
        rw [← this]
        exact h
      · rw [an1 hb, nI_add] at e1
        have e3 : nI (s / 2 ^ i) >>> ((1 : Int32) &&& 31) = nI (s / 2 ^ (i + 1)) := by
          rw [Nat.pow_succ, ← Nat.div_div_eq_div_mul]
          exact sr_n (k := 1) hb (by decide)
        rw [e3] at e2
        subst e1
        subst e2
        exact ih'
  have k0 := key 12 0 (by omega)
  rw [Nat.pow_zero, Nat.div_one] at k0
  exact k0
/-! the numbering of set bits -/
theorem popT_s1 (h : tb y c = true) : popT y (c + 1) = popT y c + 1 := by
  show popT y c + (if tb y c = true then 1 else 0) = _
  rw [if_pos h]
theorem popT_s0 (h : ¬ tb y c = true) : popT y (c + 1) = popT y c := by
  show popT y c + (if tb y c = true then 1 else 0) = _
  rw [if_neg h]
  rfl
theorem popT_mono : ∀ j, popT y c ≤ popT y (c + j)
  | 0 => Nat.le_refl _
  | j + 1 => by
    have ih := popT_mono j
    rw [← Nat.add_assoc]
    by_cases e : tb y (c + j) = true
    · rw [popT_s1 e]; omega
    · rw [popT_s0 e]; exact ih
theorem popT_lt (h : tb y c = true) (hd : c < d) : popT y c < popT y d := by
  have h1 := popT_mono (y := y) (c := c + 1) (d - (c + 1))
  rw [show c + 1 + (d - (c + 1)) = d by omega, popT_s1 h] at h1
  omega
theorem popT_le2 (hd : c ≤ d) : popT y c ≤ popT y d := by
  have h1 := popT_mono (y := y) (c := c) (d - c)
  rw [show c + (d - c) = d by omega] at h1
  exact h1
theorem popT_inj (h1 : tb y c = true) (h2 : tb y d = true) (e : popT y c = popT y d) : c = d := by
  rcases Nat.lt_trichotomy c d with h | h | h
  · have := popT_lt h1 h; omega
  · exact h
  · have := popT_lt h2 h; omega
theorem popT_hit {k : Nat} : ∀ m, k < popT y m → ∃ d, d < m ∧ tb y d = true ∧ popT y d = k
  | 0, h => absurd h (Nat.not_lt_zero _)
  | m + 1, h => by
    by_cases e : tb y m = true
    · rw [popT_s1 e] at h
      by_cases e2 : k = popT y m
      · exact ⟨m, by omega, e, e2.symm⟩
      · obtain ⟨d, h1, h2⟩ := popT_hit m (show k < popT y m by omega)
        exact ⟨d, by omega, h2⟩
    · rw [popT_s0 e] at h
      obtain ⟨d, h1, h2⟩ := popT_hit m h
      exact ⟨d, by omega, h2⟩
theorem popT_cnt {P : Nat → Prop} : ∀ m, (∀ i, i < m → (tb y i = true ↔ P i)) → nI (popT y m) = cntI P m
  | 0, _ => rfl
  | m + 1, h => by
    have ih := popT_cnt m (fun i hi => h i (by omega))
    by_cases e : tb y m = true
    · rw [popT_s1 e, cntI_t ((h m (by omega)).mp e), ← ih, nI_1]
    · rw [popT_s0 e, cntI_f (fun z => e ((h m (by omega)).mpr z)), ih]
end PL
def NearP (f : Nat → Int32) (c : Nat) : Prop := f (192 + c) = 1 ∧ ¬ f (320 + c) = 1 ∧ ∃ k b, k < 4 ∧ besN c k = some b ∧ ilP f b
def EG (y : Int64) (c : Nat) (M1 : am_I) : Prop := (M1 (3, 0, 0) 40 = nI (min 8 (popT y c))) ∧ (∀ d, d < c → tb y d = true → popT y d < 8 → M1 (3, 0, 31) (popT y d) = nI d)
theorem EG.e {y : Int64} {c : Nat} {M1 : am_I} (h : EG y c M1) : M1 (3, 0, 0) 40 = nI (min 8 (popT y c)) := h.1
theorem EG.g {y : Int64} {c : Nat} {M1 : am_I} (h : EG y c M1) : ∀ d, d < c → tb y d = true → popT y d < 8 → M1 (3, 0, 31) (popT y d) = nI d := h.2
def FrP (M M1 : am_I) : Prop := (∀ a, a ≠ (3, 0, 0) → a ≠ (3, 0, 29) → a ≠ (3, 0, 30) → a ≠ (3, 0, 31) → M1 a = M a) ∧ ∀ j, j ≠ 40 → M1 (3, 0, 0) j = M (3, 0, 0) j
/-- the cells that are pulled -/
def Gn (y : Int64) (s d : Nat) : Prop := tb y d = true ∧ s / 2 ^ popT y d % 2 = 1
noncomputable def rcV (f : Nat → Int32) (y : Int64) (n s : Nat) : Int32 := cntI (Rch (fun d => stn f d ∧ ¬ Gn y s d) (ilP f) n) 64
section PL2
variable {M M1 M2 : am_I} {N N1 : am_N} {cn : Cn} {f : Nat → Int32} {c n s d : Nat} {y x t : Int64} {a1 a2 : Int32} {post : am_I → am_N → Prop} {postI : Int32 → am_I → am_N → Prop}
theorem FrP.rf : FrP M M := ⟨fun _ _ _ _ _ => rfl, fun _ _ => rfl⟩
theorem FrP.tr (h1 : FrP M M1) (h2 : FrP M1 M2) : FrP M M2 := ⟨fun a q1 q2 q3 q4 => (h2.1 a q1 q2 q3 q4).trans (h1.1 a q1 q2 q3 q4), fun j q => (h2.2 j q).trans (h1.2 j q)⟩
theorem FrP.ofS (h : FrS M M1) : FrP M M1 := ⟨fun a _ q2 q3 _ => h a q2 q3, fun j _ => by rw [h (3, 0, 0) (by simp) (by simp)]⟩
theorem EG.cg (E : EG y c M) (h : FrS M M1) : EG y c M1 := ⟨by rw [h (3, 0, 0) (by simp) (by simp)]; exact E.e, by rw [h (3, 0, 31) (by simp) (by simp)]; exact E.g⟩
theorem r_finds (ef : M (3, 0, 1) = f) (G : GP cn f) (hy : ∀ c, c < 64 → (tb y c = true ↔ NearP f c)) (h : ∀ M1, FrP M M1 → EG y 64 M1 → post M1 N) : w_X12_finds M N post := by
  unfold w_X12_finds
  refine ⟨65, ?_⟩
  have v1 : ∀ o, o < 64 → vp_in (192 + nI o) 1635 ∧ (192 + nI o).toNatClampNeg = 192 + o ∧ vp_in (320 + nI o) 1635 ∧ (320 + nI o).toNatClampNeg = 320 + o := fun o ho => by
    rw [ix192, ix320, nI_clamp (by omega), nI_clamp (by omega)]
    exact ⟨vp_in_nI (by omega) (by omega), rfl, vp_in_nI (by omega) (by omega), rfl⟩
  have key : ∀ (j c : Nat), c + j = 64 → ∀ M1, FrP M M1 → EG y c M1 → w_X12_finds_p7 post (j + 1) (nI c) M1 N := by
    intro j
    induction j with
    | zero =>
      intro c hc M1 F E
      have hc' : c = 64 := by omega
      subst hc'
      rw [w_X12_finds_p7_s]
      unfold w_X12_finds_p7_b
      exact ⟨fun _ => h M1 F E, fun z => absurd (nI_le (a := 64) (b := 64) (by omega) (by omega)) z⟩
    | succ j ih =>
      intro c hc M1 F E
      have hc64 : c < 64 := by omega
      have ih' := ih (c + 1) (by omega)
      obtain ⟨q1, q2, q3, q4⟩ := v1 c hc64
      have e1 : M1 (3, 0, 1) = f := by rw [F.1 _ (by simp) (by simp) (by simp) (by simp)]; exact ef
      have skip : ¬ NearP f c → w_X12_finds_p7 post (j + 1) (nI (c + 1)) M1 N := fun hn => by
        have ht : ¬ tb y c = true := fun z => hn ((hy c hc64).mp z)
        refine ih' M1 F ⟨by rw [popT_s0 ht]; exact E.e, fun d hd h1 h2 => ?_⟩
        by_cases e : d = c
        · subst e; exact absurd h1 ht
        · exact E.g d (by omega) h1 h2
      have e8 : (8 : Int32) ≤ nI (min 8 (popT y c)) ↔ 8 ≤ popT y c := by
        have := nI_leI (a := 8) (b := min 8 (popT y c)) (by omega) (by omega)
        exact this.trans (by omega)
      rw [w_X12_finds_p7_s]
      unfold w_X12_finds_p7_b
      rw [q2, q4, e1, E.e, e8, nI_1]
      refine ⟨fun z => absurd z (nI_ge (b := 64) (by omega) (by omega)), fun _ => ⟨fun z => h M1 F ⟨?_, fun d hd h1 h2 => ?_⟩, fun z8 => ⟨q1, fun z => skip (fun w => absurd (z.symm.trans w.1) (by decide)), fun z => ⟨q3, fun z2 => ⟨5, ?_⟩, fun z2 => skip (fun w => w.2.1 z2)⟩⟩⟩⟩
      · have := popT_le2 (y := y) (show c ≤ 64 by omega)
        rw [E.e]
        congr 1
        omega
      · by_cases e : d < c
        · exact E.g d e h1 h2
        · have := popT_le2 (y := y) (show c ≤ d by omega)
          omega
      · have hs1 := (G.st c hc64).resolve_left z
        have sides : ∀ (j2 k : Nat), k + j2 = 4 → ((∃ k' b, k' < k ∧ besN c k' = some b ∧ ilP f b) → w_X12_finds_p56 post (w_X12_finds_p7 post (j + 1)) (j2 + 1) (nI c) 1 (nI k) M1 N) ∧ ((¬ ∃ k' b, k' < k ∧ besN c k' = some b ∧ ilP f b) → w_X12_finds_p56 post (w_X12_finds_p7 post (j + 1)) (j2 + 1) (nI c) 0 (nI k) M1 N) := by
          intro j2
          induction j2 with
          | zero =>
            intro k hk
            have hk' : k = 4 := by omega
            subst hk'
            refine ⟨fun hA => ?_, fun hA => ?_⟩
            · have hN : NearP f c := ⟨hs1, z2, hA⟩
              have ht := (hy c hc64).mpr hN
              rw [w_X12_finds_p56_s]
              unfold w_X12_finds_p56_b
              rw [am_u_o M1 _ _ (show ((3, 0, 0) : am_C) ≠ (3, 0, 31) by simp), E.e, nI_clamp (by omega), nI_1, nI_1]
              refine ⟨fun _ => ⟨fun _ => ⟨vp_in_nI (by omega) (by omega), ih' _ ?_ ⟨?_, fun d hd h1 h2 => ?_⟩⟩, fun z => absurd z (by decide)⟩, fun z => absurd (nI_le (a := 4) (b := 4) (by omega) (by omega)) z⟩
              · refine F.tr ⟨fun a w1 w2 w3 w4 => by rw [am_u_o _ _ _ w1, am_u_o _ _ _ w4], fun j hj => ?_⟩
                rw [am_u_c, pk_un hj, am_u_o _ _ _ (by simp)]
              · rw [am_u_c, pk_us, popT_s1 ht]
                congr 1
                omega
              · rw [am_u_o _ _ _ (by simp), am_u_c]
                by_cases e : d = c
                · subst e
                  rw [show min 8 (popT y d) = popT y d by omega, pk_us]
                · have := popT_lt (y := y) h1 (show d < c by omega)
                  rw [pk_un (by omega)]
                  exact E.g d (by omega) h1 h2
            · rw [w_X12_finds_p56_s]
              unfold w_X12_finds_p56_b
              rw [nI_1]
              exact ⟨fun _ => ⟨fun z => absurd rfl z, fun _ => skip (fun w => hA w.2.2)⟩, fun z => absurd (nI_le (a := 4) (b := 4) (by omega) (by omega)) z⟩
          | succ j2 ih2 =>
            intro k hk
            obtain ⟨k1, k0⟩ := ih2 (k + 1) (by omega)
            refine ⟨fun hA => ?_, fun hA => ?_⟩
            · rw [w_X12_finds_p56_s]
              unfold w_X12_finds_p56_b
              rw [nI_1 k]
              obtain ⟨k', b, w1, w2⟩ := hA
              exact ⟨fun z => absurd z (nI_ge (b := 4) (by omega) (by omega)), fun _ => ⟨fun _ => k1 ⟨k', b, by omega, w2⟩, fun z => absurd z (by decide)⟩⟩
            · rw [w_X12_finds_p56_s]
              unfold w_X12_finds_p56_b
              rw [nI_1 k]
              refine ⟨fun z => absurd z (nI_ge (b := 4) (by omega) (by omega)), fun _ => ⟨fun z => absurd rfl z, fun _ => (eq_X12_besN hc64 (by omega)).mpr ?_⟩⟩
              have ext : (¬ ∃ b, besN c k = some b ∧ ilP f b) → ¬ ∃ k' b, k' < k + 1 ∧ besN c k' = some b ∧ ilP f b := by
                rintro hno ⟨k', b, w1, w2, w3⟩
                by_cases e : k' = k
                · subst e; exact hno ⟨b, w2, w3⟩
                · exact hA ⟨k', b, by omega, w2, w3⟩
              cases hb : besN c k with
              | none =>
                rw [besV_none hb]
                exact ⟨fun _ => k0 (ext (fun ⟨b, w, _⟩ => by rw [hb] at w; cases w)), fun z => absurd rfl z⟩
              | some b =>
                have hb64 := besN_lt c hc64 k (by omega) b hb
                obtain ⟨p1, p2, p3, p4⟩ := v1 b hb64
                have same : ∀ b', besN c k = some b' → b' = b := fun b' w => by
                  rw [hb] at w
                  simp only [Option.some.injEq] at w
                  exact w.symm
                rw [besV_some hb]
                refine ⟨fun z => absurd z (nI_ne_m1 (by omega)), fun _ => (eq_X12_besN hc64 (by omega)).mpr ?_⟩
                rw [besV_some hb, p2, e1]
                refine ⟨p1, fun z3 => k0 (ext (fun ⟨b', w, w2⟩ => z3 (by rw [← same b' w]; exact w2.1))), fun z3 => (eq_X12_besN hc64 (by omega)).mpr ?_⟩
                rw [besV_some hb, p4, e1]
                exact ⟨p3, fun z4 => k0 (ext (fun ⟨b', w, w2⟩ => z4 (by rw [← same b' w]; exact w2.2))), fun z4 => k1 ⟨k, b, by omega, hb, z3, z4⟩⟩
        exact (sides 4 0 (by omega)).2 (fun ⟨k', b, w, _⟩ => absurd w (Nat.not_lt_zero _))
  refine key 64 0 (by omega) _ ⟨fun a w1 _ _ _ => am_u_o _ _ _ w1, fun j hj => by rw [am_u_c, pk_un hj]⟩ ⟨by rw [am_u_c, pk_us]; rfl, fun d hd => absurd hd (Nat.not_lt_zero _)⟩
theorem Gn_lt {e : Nat} (hs : s < 2 ^ e) (h : Gn y s d) : popT y d < e := by
  refine Nat.lt_of_not_le fun w => ?_
  have h1 : s / 2 ^ popT y d = 0 := Nat.div_eq_of_lt (Nat.lt_of_lt_of_le hs (Nat.pow_le_pow_right (by decide) w))
  have h2 := h.2
  rw [h1] at h2
  exact absurd h2 (by decide)
theorem il_T (hy : ∀ c, c < 64 → (tb y c = true ↔ NearP f c)) : ∀ c, ilP f c → stn f c ∧ ¬ Gn y s c := fun c hc => ⟨hc.1, fun w => by
  by_cases e : c < 64
  · exact ((hy c e).mp w.1).2.1 hc.2
  · have := w.1
    rw [tb_big y (by omega)] at this
    exact absurd this (by decide)⟩
theorem r_reached (ef : M (3, 0, 1) = f) (G : GP cn f) (hy : ∀ c, c < 64 → (tb y c = true ↔ NearP f c)) (E : EG y 64 M) (hs : s < 2 ^ min 8 (popT y 64)) (hn : n ≤ 64) (h : ∀ M1, FrS M M1 → postI (rcV f y n s) M1 N) : w_X12_reached (nI s) (nI n) M N postI := by
  have hs8 : s < 256 := Nat.lt_of_lt_of_le hs (Nat.le_trans (Nat.pow_le_pow_right (by decide) (show min 8 (popT y 64) ≤ 8 by omega)) (by decide))
  have v1 : ∀ o, o < 64 → vp_in (192 + nI o) 1635 ∧ (192 + nI o).toNatClampNeg = 192 + o ∧ vp_in (320 + nI o) 1635 ∧ (320 + nI o).toNatClampNeg = 320 + o := fun o ho => by
    rw [ix192, ix320, nI_clamp (by omega), nI_clamp (by omega)]
    exact ⟨vp_in_nI (by omega) (by omega), rfl, vp_in_nI (by omega) (by omega), rfl⟩
  -- the count
  have count : ∀ Mz : am_I, FrS M Mz → (∀ o, o < 64 → (Mz (3, 0, 29) o = -1 ↔ ¬ Rch (fun d => stn f d ∧ ¬ Gn y s d) (ilP f) n o)) → ∀ (j o : Nat), o + j = 64 → w_X12_reached_p111 postI (j + 1) (cntI (Rch (fun d => stn f d ∧ ¬ Gn y s d) (ilP f) n) o) (nI o) Mz N := by
    intro Mz F hz j
    induction j with
    | zero =>
      intro o ho
      have ho' : o = 64 := by omega
      subst ho'
      rw [w_X12_reached_p111_s]
      unfold w_X12_reached_p111_b
      exact ⟨fun _ => h Mz F, fun z => absurd (nI_le (a := 64) (b := 64) (by omega) (by omega)) z⟩
    | succ j ih =>
      intro o ho
      have ih' := ih (o + 1) (by omega)
      rw [w_X12_reached_p111_s]
      unfold w_X12_reached_p111_b w_X12_reached_p135 w_X12_one
      rw [nI_clamp (show o < 2 ^ 31 by omega), nI_1]
      refine ⟨fun z => absurd z (nI_ge (b := 64) (by omega) (by omega)), fun _ => ⟨vp_in_nI (by omega) (by omega), fun z => ⟨fun _ => ?_, fun w => absurd rfl w⟩, fun z => ⟨fun w => absurd w (by decide), fun _ => ?_⟩⟩⟩
      · show w_X12_reached_p111 postI (j + 1) (cntI _ o + 0) (nI (o + 1)) Mz N
        rw [Int32.add_zero]
        rw [cntI_f ((hz o (by omega)).mp z)] at ih'
        exact ih'
      · rw [cntI_t (Classical.byContradiction fun w => z ((hz o (by omega)).mpr w))] at ih'
        exact ih'
  have e1 : ∀ st gn : Nat → Int32, am_s (am_s M (3, 0, 29) st) (3, 0, 30) gn (3, 0, 1) = f := fun st gn => by rw [am_s_other _ _ (by simp), am_s_other _ _ (by simp)]; exact ef
  have e0 : ∀ st gn : Nat → Int32, am_s (am_s M (3, 0, 29) st) (3, 0, 30) gn (3, 0, 0) 40 = nI (min 8 (popT y 64)) := fun st gn => by rw [am_s_other _ _ (by simp), am_s_other _ _ (by simp)]; exact E.e
  have e31 : ∀ st gn : Nat → Int32, am_s (am_s M (3, 0, 29) st) (3, 0, 30) gn (3, 0, 31) = M (3, 0, 31) := fun st gn => by rw [am_s_other _ _ (by simp), am_s_other _ _ (by simp)]
  -- the pulled cells
  have pulled : ∀ st : Nat → Int32, (∀ i, i < 64 → LVd (fun d => stn f d ∧ ¬ Gn y s d) (ilP f) 0 i (st i)) → ∀ (j k : Nat), k + j = min 8 (popT y 64) → ∀ gn : Nat → Int32, (∀ i, i < 64 → (gn i = 0 ↔ ¬ (Gn y s i ∧ popT y i < k))) → w_X12_reached_p62 postI (j + 1) (nI s) (nI n) (nI k) (am_s (am_s M (3, 0, 29) st) (3, 0, 30) gn) N := by
    intro st hst j
    induction j with
    | zero =>
      intro k hk gn hg
      rw [w_X12_reached_p62_s]
      unfold w_X12_reached_p62_b
      rw [e0]
      refine ⟨fun _ => r_spreads (T := fun d => stn f d ∧ ¬ Gn y s d) (S := ilP f) (gn := gn) (f := f) hn (il_T hy) (e1 st gn) (am_s_same _ _ _) (fun x hx _ => ?_) (fun x hx => by rw [am_s_other _ _ (by simp), am_s_same]; exact hst x hx) (fun st2 h2 => ⟨65, count _ (fun a q1 q2 => by rw [am_s_other _ _ q1, am_s_other _ _ q2, am_s_other _ _ q1]) (fun o ho => by rw [am_s_same]; exact (h2 o ho).ne hn) 64 0 (by omega)⟩), fun z => absurd (nI_le (by omega) (by omega)) z⟩
      rw [hg x hx]
      constructor
      · rintro ⟨w1, w2⟩
        exact ⟨fun z => absurd (z.symm.trans w1) (by decide), fun w => w2 w.1⟩
      · rintro ⟨w1, w2⟩
        exact ⟨(G.st x hx).resolve_left w1, fun w => w2 ⟨w, by have := Gn_lt hs w; omega⟩⟩
    | succ j ih =>
      intro k hk gn hg
      have hk8 : k < 8 := by omega
      rw [w_X12_reached_p62_s]
      unfold w_X12_reached_p62_b
      have hb : s / 2 ^ k < 2 ^ 31 := Nat.lt_of_le_of_lt (Nat.div_le_self _ _) (by omega)
      have eb : ((nI s >>> (nI k &&& 31)) &&& 1) = 1 ↔ s / 2 ^ k % 2 = 1 := by
        rw [sr_n (by omega) (by omega), an1 hb]
        exact nI_eq (b := 1) (by omega) (by omega)
      rw [e0, e31, eb, nI_1, nI_clamp (show k < 2 ^ 31 by omega)]
      refine ⟨fun z => absurd z (nI_ge (by omega) (by omega)), fun _ => ⟨fun z => ih (k + 1) (by omega) gn (fun i hi => ?_), fun z => ?_⟩⟩
      · rw [hg i hi]
        constructor
        · rintro w ⟨w1, w2⟩
          refine w ⟨w1, ?_⟩
          by_cases e : popT y i = k
          · exact absurd (by rw [← e]; exact w1.2) z
          · omega
        · rintro w ⟨w1, w2⟩
          exact w ⟨w1, by omega⟩
      · obtain ⟨d, hd, ht, hp⟩ := popT_hit (y := y) (k := k) 64 (by omega)
        have hE := E.g d hd ht (by omega)
        rw [hp] at hE
        rw [hE, nI_clamp (show d < 2 ^ 31 by omega), nar1, am_u_s]
        refine ⟨vp_in_nI hk8 (by omega), vp_in_nI hd (by omega), ih (k + 1) (by omega) _ (fun i hi => ?_)⟩
        by_cases e : i = d
        · subst e
          rw [pk_us]
          refine ⟨fun w => absurd w (by decide), fun w => absurd ⟨⟨ht, by rw [hp]; exact z⟩, by omega⟩ w⟩
        · rw [pk_un e, hg i hi]
          constructor
          · rintro w ⟨w1, w2⟩
            refine w ⟨w1, ?_⟩
            by_cases e2 : popT y i = k
            · exact absurd (popT_inj w1.1 ht (by omega)) e
            · omega
          · rintro w ⟨w1, w2⟩
            exact w ⟨w1, by omega⟩
  unfold w_X12_reached
  refine ⟨65, ?_⟩
  have key : ∀ (j o : Nat), o + j = 64 → ∀ st gn : Nat → Int32, (∀ i, i < o → ((ilP f i → st i = 0) ∧ (¬ ilP f i → st i = -1)) ∧ gn i = 0) → w_X12_reached_p2 postI (j + 1) (nI s) (nI n) (nI o) (am_s (am_s M (3, 0, 29) st) (3, 0, 30) gn) N := by
    intro j
    induction j with
    | zero =>
      intro o ho st gn hst
      have ho' : o = 64 := by omega
      subst ho'
      rw [w_X12_reached_p2_s]
      unfold w_X12_reached_p2_b
      refine ⟨fun _ => ⟨min 8 (popT y 64) + 1, pulled st (fun i hi => ⟨(hst i hi).1.2, fun w => ⟨0, Nat.le_refl _, (hst i hi).1.1 w, w, fun m hm => absurd hm (Nat.not_lt_zero _)⟩⟩) _ 0 (by omega) gn (fun i hi => ?_)⟩, fun z => absurd (nI_le (a := 64) (b := 64) (by omega) (by omega)) z⟩
      exact ⟨fun _ w => absurd w.2 (Nat.not_lt_zero _), fun _ => (hst i hi).2⟩
    | succ j ih =>
      intro o ho st gn hst
      have ho64 : o < 64 := by omega
      obtain ⟨q1, q2, q3, q4⟩ := v1 o ho64
      have go : ∀ x : Int32, ((ilP f o → x = 0) ∧ (¬ ilP f o → x = -1)) → w_X12_reached_p46 postI (w_X12_reached_p2 postI (j + 1)) (nI s) (nI n) (nI o) x (nI o) (am_s (am_s M (3, 0, 29) st) (3, 0, 30) gn) N := by
        intro x hx
        unfold w_X12_reached_p46
        rw [nI_clamp (show o < 2 ^ 31 by omega), nI_1, am2_u, am_u_s, nar0]
        refine ⟨vp_in_nI ho64 (by omega), vp_in_nI ho64 (by omega), ih (o + 1) (by omega) _ _ (fun i hi => ?_)⟩
        by_cases e : i = o
        · subst e
          rw [pk_us, pk_us]
          exact ⟨hx, rfl⟩
        · rw [pk_un e, pk_un e]
          exact hst i (by omega)
      rw [w_X12_reached_p2_s]
      unfold w_X12_reached_p2_b
      rw [q2, q4, e1]
      exact ⟨fun z => absurd z (nI_ge (b := 64) (by omega) (by omega)), fun _ => ⟨q1, fun z => go _ ⟨fun w => absurd w.1 z, fun _ => rfl⟩, fun z => ⟨q3, fun z2 => go _ ⟨fun w => absurd w.2 z2, fun _ => rfl⟩, fun z2 => go _ ⟨fun _ => rfl, fun w => absurd ⟨z, z2⟩ w⟩⟩⟩⟩
  have k0 := key 64 0 (by omega) (M (3, 0, 29)) (M (3, 0, 30)) (fun i hi => absurd hi (Nat.not_lt_zero _))
  rw [am_s_id, am_s_id] at k0
  exact k0
theorem c_cellsReached (hst : ∀ c, c < 64 → (tb x c = true ↔ stn f c)) (hil : ∀ c, c < 64 → (tb t c = true ↔ ilP f c)) (hs8 : s < 256) (hn : n ≤ 64) (h : postI (rcV f y n s) M N) : w_X4_cellsReached x t (nI n) y (nI s) M N postI := by
  have fin : ∀ lf, (∀ d, d < 64 → (tb lf d = true ↔ stn f d ∧ ¬ Gn y s d)) → w_X4_cellsReached_p71 postI t (nI n) lf M N := by
    intro lf hl
    unfold w_X4_cellsReached_p71
    refine c_reached (by omega) hil hl (fun z hz => eq_bitCount.mpr ?_)
    rw [popT_cnt 64 hz]
    exact h
  unfold w_X4_cellsReached
  refine ⟨65, ?_⟩
  have key : ∀ (j i : Nat), i + j = 64 → popT y i ≤ 8 → ∀ lf, (∀ d, d < 64 → (tb lf d = true ↔ stn f d ∧ ¬ (d < i ∧ Gn y s d))) → w_X4_cellsReached_p9 postI (j + 1) t (nI n) y (nI s) lf (nI (popT y i)) (nI i) M N := by
    intro j
    induction j with
    | zero =>
      intro i hi h8 lf hl
      have hi' : i = 64 := by omega
      subst hi'
      rw [w_X4_cellsReached_p9_s]
      unfold w_X4_cellsReached_p9_b
      exact ⟨fun _ => fin lf (fun d hd => (hl d hd).trans ⟨fun w => ⟨w.1, fun w2 => w.2 ⟨hd, w2⟩⟩, fun w => ⟨w.1, fun w2 => w.2 w2.2⟩⟩), fun z => absurd (nI_le (a := 64) (b := 64) (by omega) (by omega)) z⟩
    | succ j ih =>
      intro i hi h8 lf hl
      have hi64 : i < 64 := by omega
      have hb : s / 2 ^ popT y i < 2 ^ 31 := Nat.lt_of_le_of_lt (Nat.div_le_self _ _) (by omega)
      have eb : (nI (s / 2 ^ popT y i) &&& 1) = 1 ↔ s / 2 ^ popT y i % 2 = 1 := by
        rw [an1 hb]
        exact nI_eq (b := 1) (by omega) (by omega)
      have ez : nI (s / 2 ^ popT y i) = 0 ↔ s / 2 ^ popT y i = 0 := nI_eq (b := 0) hb (by omega)
      rw [w_X4_cellsReached_p9_s]
      unfold w_X4_cellsReached_p9_b
      rw [sr_n (by omega) (by omega), eb, ez, nI_1, nI_1]
      refine ⟨fun z => absurd z (nI_ge (b := 64) (by omega) (by omega)), fun _ => ⟨fun z => fin lf (fun d hd => (hl d hd).trans ⟨fun w => ⟨w.1, fun w2 => w.2 ⟨?_, w2⟩⟩, fun w => ⟨w.1, fun w2 => w.2 w2.2⟩⟩), fun z => eq_X11_bit.mpr ⟨fun z2 => ?_, fun z2 => ⟨fun z3 => ?_, fun z3 => eq_X11_bit.mpr (fun v ev => ?_)⟩⟩⟩⟩
      · refine Nat.lt_of_not_le fun w3 => ?_
        have h1 := popT_le2 (y := y) w3
        have h2 : s / 2 ^ popT y d = 0 := by
          have h4 : s < 2 ^ popT y i := by
            rcases Nat.lt_or_ge s (2 ^ popT y i) with w | w
            · exact w
            · exact absurd z (Nat.ne_of_gt (Nat.div_pos w (Nat.pow_pos (by decide))))
          exact Nat.div_eq_of_lt (Nat.lt_of_lt_of_le h4 (Nat.pow_le_pow_right (by decide) h1))
        have h3 := w2.2
        rw [h2] at h3
        exact absurd h3 (by decide)
      · have ht : ¬ tb y i = true := fun w => by
          have := (tb_nz hi64).mp z2
          rw [w] at this
          exact absurd this (by decide)
        have := ih (i + 1) (by omega) (by rw [popT_s0 ht]; exact h8) lf (fun d hd => (hl d hd).trans ⟨fun w => ⟨w.1, fun w2 => w.2 ⟨?_, w2.2⟩⟩, fun w => ⟨w.1, fun w2 => w.2 ⟨by omega, w2.2⟩⟩⟩)
        · rw [popT_s0 ht] at this
          exact this
        · by_cases e : d = i
          · subst e; exact absurd w2.2.1 ht
          · omega
      · have ht : tb y i = true := by
          cases e : tb y i
          · exact absurd ((tb_nz hi64).mpr e) z2
          · rfl
        have h7 : popT y i < 8 := by
          rcases Nat.lt_or_ge (popT y i) 8 with w | w
          · exact w
          · exact absurd (Nat.div_eq_of_lt (Nat.lt_of_lt_of_le hs8 (Nat.le_trans (show 256 ≤ 2 ^ 8 by decide) (Nat.pow_le_pow_right (by decide) w)))) z
        have := ih (i + 1) (by omega) (by rw [popT_s1 ht]; omega) lf (fun d hd => (hl d hd).trans ⟨fun w => ⟨w.1, fun w2 => w.2 ⟨?_, w2.2⟩⟩, fun w => ⟨w.1, fun w2 => w.2 ⟨by omega, w2.2⟩⟩⟩)
        · rw [popT_s1 ht] at this
          exact this
        · by_cases e : d = i
          · subst e; exact absurd w2.2.2 z3
          · omega
      · subst ev
        have ht : tb y i = true := by
          cases e : tb y i
          · exact absurd ((tb_nz hi64).mpr e) z2
          · rfl
        have h7 : popT y i < 8 := by
          rcases Nat.lt_or_ge (popT y i) 8 with w | w
          · exact w
          · exact absurd (Nat.div_eq_of_lt (Nat.lt_of_lt_of_le hs8 (Nat.le_trans (show 256 ≤ 2 ^ 8 by decide) (Nat.pow_le_pow_right (by decide) w)))) z
        have := ih (i + 1) (by omega) (by rw [popT_s1 ht]; omega) (lf &&& (am_bit (nI i) ^^^ (-1))) (fun d hd => ?_)
        · rw [popT_s1 ht] at this
          exact this
        · rw [tb_clr hi64 hd]
          by_cases e : d = i
          · subst e
            rw [if_pos rfl]
            exact ⟨fun w => absurd w (by decide), fun w => absurd ⟨by omega, ht, z3⟩ w.2⟩
          · rw [if_neg e, hl d hd]
            exact ⟨fun w => ⟨w.1, fun w2 => w.2 ⟨by omega, w2.2⟩⟩, fun w => ⟨w.1, fun w2 => w.2 ⟨by omega, w2.2⟩⟩⟩
  exact key 64 0 (by omega) (Nat.zero_le _) x (fun d hd => (hst d hd).trans ⟨fun w => ⟨w, fun w2 => absurd w2.1 (Nat.not_lt_zero _)⟩, fun w => w.1⟩)
theorem c_cellNumbered (hd : d < 64) (ht : tb y d = true) (h : postI (nI d) M N) : w_X4_cellNumbered y (nI (popT y d)) M N postI := by
  unfold w_X4_cellNumbered
  refine ⟨65, ?_⟩
  have key : ∀ (j i : Nat), i + j = 64 → i ≤ d → w_X4_cellNumbered_p5 postI (j + 1) y (nI (popT y d)) (nI (popT y i)) (nI i) M N := by
    intro j
    induction j with
    | zero => intro i h1 h2; omega
    | succ j ih =>
      intro i h1 h2
      have hi64 : i < 64 := by omega
      have b1 := popT_le (x := y) i
      have b2 := popT_le (x := y) d
      rw [w_X4_cellNumbered_p5_s]
      unfold w_X4_cellNumbered_p5_b
      rw [nI_1, nI_1, nI_eq (show popT y i < 2 ^ 31 by omega) (show popT y d < 2 ^ 31 by omega)]
      refine ⟨fun z => absurd z (nI_ge (b := 64) (by omega) (by omega)), fun _ => eq_X11_bit.mpr ⟨fun z => ?_, fun z => ⟨fun z2 => ?_, fun z2 => ?_⟩⟩⟩
      · have hf := (tb_nz hi64).mp z
        have hne : i ≠ d := fun e => by rw [e, ht] at hf; exact absurd hf (by decide)
        have := ih (i + 1) (by omega) (by omega)
        rw [popT_s0 (by rw [hf]; decide)] at this
        exact this
      · have hti : tb y i = true := by
          cases e : tb y i
          · exact absurd ((tb_nz hi64).mpr e) z
          · rfl
        have hne : i ≠ d := fun e => z2 (by rw [e])
        have := ih (i + 1) (by omega) (by omega)
        rw [popT_s1 hti] at this
        exact this
      · have hti : tb y i = true := by
          cases e : tb y i
          · exact absurd ((tb_nz hi64).mpr e) z
          · rfl
        rw [popT_inj hti ht z2]
        exact h
  exact key 64 0 (by omega) (Nat.zero_le _)
end PL2
