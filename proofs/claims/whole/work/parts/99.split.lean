/-! ===== the class's tokens ===== -/
def WL : List (List Nat) := [[116, 97, 107, 101], [108, 111, 111, 107], [108, 101, 97, 118, 101], [103, 105, 118, 101], [105, 102], [111, 114], [97, 110, 100], [110, 111, 116], [119, 101, 101, 100], [119, 101, 116], [112, 114, 101, 115, 115], [108, 111, 111, 107, 115], [115, 105, 122, 101], [105, 108, 108], [114, 97, 105, 110], [103, 105, 118, 101, 110]]
def SC : List (List Nat) → Nat → Prop
  | [], s => s = 76
  | w :: r, s => (∀ j, j < w.length → am_sc 1 (s + j) = nI (w.getD j 0) ∧ 97 ≤ w.getD j 0 ∧ w.getD j 0 ≤ 122) ∧ am_sc 1 (s + w.length) = 32 ∧ s + w.length < 76 ∧ SC r (s + w.length + 1)
theorem SC_WL : SC WL 0 := by
  unfold WL
  repeat' (first | exact (rfl : (76 : Nat) = 76) | refine ⟨by decide +kernel, by decide +kernel, by decide +kernel, ?_⟩)
def mtW (t : Nat → Nat) (p L : Nat) (w : List Nat) : Prop := w.length = L ∧ ∀ i, i < L → t (p + i) = w.getD i 0
noncomputable def fmW (t : Nat → Nat) (p L : Nat) : List (List Nat) → Nat → Int32
  | [], _ => -1
  | w :: r, k => @ite _ (mtW t p L w) (Classical.propDecidable _) (nI k) (fmW t p L r (k + 1))
section SPL
variable {t : Nat → Nat} {n p e L B : Nat} {M M1 : am_I} {N : am_N} {post : am_I → am_N → Prop} {postI : Int32 → am_I → am_N → Prop}
/-- the tape of the class -/
def TpC (t : Nat → Nat) (B : Nat) (M : am_I) : Prop := B ≤ 500 ∧ ∀ i, i < B → t i < 256 ∧ M (0, 0, 8) i = nI (t i)
theorem chr_ok : ∀ x, x < 256 → (((nI x) &&& 255).toUInt32 % 65536).toInt32 = nI x ∧ narrow .char (.int (nI x)) = .int (nI x) := by decide +kernel
theorem c_groupOf {x : Nat} (hx : x < 256) (h : postI (nI (grp x)) M N) : w_X7_groupOf (nI x) M N postI := by
  have q32 : nI x = 32 ↔ x = 32 := nI_eq (b := 32) (by omega) (by omega)
  have q10 : nI x = 10 ↔ x = 10 := nI_eq (b := 10) (by omega) (by omega)
  have q97 : nI x < 97 ↔ x < 97 := nI_ltI (b := 97) (by omega) (by omega)
  have q122 : 122 < nI x ↔ 122 < x := nI_ltI (a := 122) (by omega) (by omega)
  have q48 : nI x < 48 ↔ x < 48 := nI_ltI (b := 48) (by omega) (by omega)
  have q57 : 57 < nI x ↔ 57 < x := nI_ltI (a := 57) (by omega) (by omega)
  unfold w_X7_groupOf w_X7_groupOf_p28
  rw [q32, q10, q97, q122, q48, q57]
  have g0 : (x = 32 ∨ x = 10) → postI 0 M N := fun z => by rw [grp_0.mpr z] at h; exact h
  have g1 : (97 ≤ x ∧ x ≤ 122) → postI 1 M N := fun z => by rw [grp_1.mpr z] at h; exact h
  have g2 : (48 ≤ x ∧ x ≤ 57) → postI 2 M N := fun z => by rw [grp_2.mpr z] at h; exact h
  have g3 : ¬ (x = 32 ∨ x = 10) → ¬ (97 ≤ x ∧ x ≤ 122) → ¬ (48 ≤ x ∧ x ≤ 57) → postI 3 M N := fun z0 z1 z2 => by
    have : grp x = 3 := by
      rcases grp_le x with w | w | w | w
      · exact absurd (grp_0.mp w) z0
      · exact absurd (grp_1.mp w) z1
      · exact absurd (grp_2.mp w) z2
      · exact w
    rw [this] at h
    exact h
  refine ⟨fun z => g0 (Or.inl z), fun z1 => ⟨fun z2 => ⟨fun z3 => ⟨fun z4 => g3 (by omega) (by omega) (by omega), fun z4 => ⟨fun z5 => g3 (by omega) (by omega) (by omega), fun z5 => g2 (by omega)⟩⟩, fun z3 => ⟨fun z4 => ⟨fun z5 => g3 (by omega) (by omega) (by omega), fun z5 => ⟨fun z6 => g3 (by omega) (by omega) (by omega), fun z6 => g2 (by omega)⟩⟩, fun z4 => g1 (by omega)⟩⟩, fun z2 => g0 (Or.inr z2)⟩⟩
theorem c_charAt {i : Nat} (hi : i < 76) {x : Nat} (hx : x < 256) (hc : am_sc 1 i = nI x) (h : postI (nI x) M N) : w_J0_charAt_5068e 1 (nI i) M N postI := by
  unfold w_J0_charAt_5068e w_J0_isLatin1_aae02 w_J1_charAt_3b067
  rw [nI_clamp (show i < 2 ^ 31 by omega), hc, (chr_ok x hx).1]
  have hin : vp_in (nI i) 76 := vp_in_nI hi (by omega)
  exact ⟨fun z => absurd z (by decide), fun _ => ⟨fun z => absurd rfl z, fun _ => ⟨fun z => absurd z (by decide), fun _ => ⟨⟨nI_pos (by omega), nI_lt (b := 76) hi (by omega)⟩, hin, (chr_ok x hx).2, (chr_ok x hx).2, h⟩⟩⟩⟩
theorem c_slen (h : postI (nI 76) M N) : w_J0_length_8abf5 1 M N postI := by
  unfold w_J0_length_8abf5 w_J0_coder_7d493
  exact ⟨fun z => absurd z (by decide), fun _ => ⟨by decide, h⟩⟩
theorem fm_t {w : List Nat} {r : List (List Nat)} {k : Nat} (h : mtW t p L w) : fmW t p L (w :: r) k = nI k := by
  show @ite _ (mtW t p L w) (Classical.propDecidable _) (nI k) (fmW t p L r (k + 1)) = _
  exact if_pos h
theorem fm_f {w : List Nat} {r : List (List Nat)} {k : Nat} (h : ¬ mtW t p L w) : fmW t p L (w :: r) k = fmW t p L r (k + 1) := by
  show @ite _ (mtW t p L w) (Classical.propDecidable _) (nI k) (fmW t p L r (k + 1)) = _
  exact if_neg h
theorem c_words (T : TpC t B M) (hpe : p ≤ e) (he : e ≤ B) (h : ∀ r, r = fmW t p (e - p) WL 1 → postI r M N) : w_X7_wordBetween (nI p) (nI e) M N postI := by
  have hB := T.1
  have key : ∀ (ws : List (List Nat)) (s k : Nat), SC ws s → (∀ r, r = fmW t p (e - p) ws k → postI r M N) → ∀ j, 77 < s + j → w_X7_wordBetween_p8 postI j (nI p) (nI e) (nI k) 0 (nI s) M N := by
    intro ws
    induction ws with
    | nil =>
      intro s k hs h j hj
      have hs' : s = 76 := hs
      subst hs'
      obtain ⟨j, rfl⟩ : ∃ i, j = i + 1 := ⟨j - 1, by omega⟩
      rw [w_X7_wordBetween_p8_s]
      unfold w_X7_wordBetween_p8_b
      exact c_slen ⟨fun _ => h _ rfl, fun z => absurd (nI_le (Nat.le_refl _) (by omega)) z⟩
    | cons w r ih =>
      intro s k hs h j hj
      obtain ⟨h1, h2, h3, h4⟩ := hs
      -- the letters of one word
      have lett : ∀ (m i : Nat), i + m = w.length → ∀ j, 77 < s + i + j → ∀ f : Int32, ((i ≤ e - p ∧ ∀ x, x < i → t (p + x) = w.getD x 0) → f = nI i) → ((¬ (i ≤ e - p ∧ ∀ x, x < i → t (p + x) = w.getD x 0)) → f = -1) → w_X7_wordBetween_p8 postI j (nI p) (nI e) (nI k) f (nI (s + i)) M N := by
        intro m
        induction m with
        | zero =>
          intro i hi j hj f f1 f0
          have hi' : i = w.length := by omega
          subst hi'
          obtain ⟨j, rfl⟩ : ∃ i, j = i + 1 := ⟨j - 1, by omega⟩
          have e1 : nI e - nI p = nI (e - p) := pk_sub hpe
          rw [w_X7_wordBetween_p8_s]
          unfold w_X7_wordBetween_p8_b
          rw [e1]
          refine c_slen ⟨fun z => absurd z (nI_ge (by omega) (by omega)), fun _ => c_charAt (x := 32) h3 (by omega) h2 ⟨fun z => absurd rfl z, fun _ => ⟨fun z => ?_, fun z => ?_⟩⟩⟩
          · rw [nI_1, nI_1]
            refine ih (s + w.length + 1) (k + 1) h4 (fun r' hr => h r' ?_) j (by omega)
            rw [hr, fm_f (fun mt => z ?_)]
            have m1 := mt.1
            rw [f1 ⟨by omega, fun x hx => mt.2 x (by omega)⟩, m1]
          · refine h _ ?_
            by_cases mk : w.length ≤ e - p ∧ ∀ x, x < w.length → t (p + x) = w.getD x 0
            · have f2 := f1 mk
              rw [f2] at z
              have hl := (nI_eq (by omega) (by omega)).mp z
              rw [fm_t ⟨hl, fun x hx => mk.2 x (by omega)⟩]
            · have f2 := f0 mk
              rw [f2] at z
              exact absurd z.symm (nI_ne_m1 (by omega))
        | succ m ihm =>
          intro i hi j hj f f1 f0
          obtain ⟨j, rfl⟩ : ∃ i, j = i + 1 := ⟨j - 1, by omega⟩
          obtain ⟨c1, c2, c3⟩ := h1 i (by omega)
          have n32 : ¬ nI (w.getD i 0) = 32 := fun z => by
            have := (nI_eq (b := 32) (by omega) (by omega)).mp z
            omega
          have no : (¬ (i + 1 ≤ e - p ∧ ∀ x, x < i + 1 → t (p + x) = w.getD x 0)) → w_X7_wordBetween_p8 postI j (nI p) (nI e) (nI k) (-1) (nI (s + i + 1)) M N := fun hno => ihm (i + 1) (by omega) j (by omega) (-1) (fun z => absurd z hno) (fun _ => rfl)
          rw [w_X7_wordBetween_p8_s]
          unfold w_X7_wordBetween_p8_b
          rw [nI_1]
          refine c_slen ⟨fun z => absurd z (nI_ge (by omega) (by omega)), fun _ => c_charAt (x := w.getD i 0) (by omega) (by omega) c1 ⟨fun _ => ?_, fun z => absurd z n32⟩⟩
          by_cases mk : i ≤ e - p ∧ ∀ x, x < i → t (p + x) = w.getD x 0
          · have f2 := f1 mk
            subst f2
            rw [nI_add, nI_clamp (show p + i < 2 ^ 31 by omega), nI_1]
            refine ⟨fun z => absurd z (nI_pos (by omega)), fun _ => ⟨fun z => no (fun w2 => absurd z (nI_ge (by omega) (by omega))), fun z => ?_⟩⟩
            have hlt : p + i < e := Nat.lt_of_not_le fun w2 => z (nI_le w2 (by omega))
            obtain ⟨b1, b2⟩ := T.2 (p + i) (by omega)
            rw [b2]
            refine ⟨vp_in_nI (by omega) (by omega), fun z2 => no (fun w2 => z2 (by rw [w2.2 i (by omega)])), fun z2 => ihm (i + 1) (by omega) j (by omega) _ (fun _ => rfl) (fun w2 => absurd ⟨by omega, fun x hx => ?_⟩ w2)⟩
            by_cases ex : x = i
            · subst ex; exact (nI_eq (by omega) (by omega)).mp z2
            · exact mk.2 x (by omega)
          · have f2 := f0 mk
            subst f2
            exact ⟨fun _ => no (fun w2 => mk ⟨by omega, fun x hx => w2.2 x (by omega)⟩), fun z => absurd (by decide) z⟩
      exact lett w.length 0 (by omega) j (by omega) 0 (fun _ => rfl) (fun z => absurd ⟨Nat.zero_le _, fun x hx => absurd hx (Nat.not_lt_zero _)⟩ z)
  unfold w_X7_wordBetween
  exact ⟨78, key WL 0 1 SC_WL h 78 (by omega)⟩
theorem mt_iff {w : List Nat} {c : Nat} (hl : ∀ i, i < L → grp (t (p + i)) = 1) (hw : ∀ i, i < w.length → 0 < w.getD i 0 ∧ w.getD i 0 < 256) (hc : wN (fun i => w.getD i 0) w.length 0 = c) : mtW t p L w ↔ wN t L p = c := by
  rw [← hc]
  constructor
  · rintro ⟨h1, h2⟩
    rw [h1]
    exact wN_cg L h2
  · intro h
    obtain ⟨h1, h2⟩ := wN_inj L w.length (fun i hi => by have := grp_1.mp (hl i hi); omega) hw h
    exact ⟨h1.symm, h2⟩
theorem fmW_V (hl : ∀ i, i < L → grp (t (p + i)) = 1) : fmW t p L WL 1 = if L ≤ 7 then wordV (wN t L p) else -1 := by
  by_cases h7 : L ≤ 7
  · rw [if_pos h7]
    unfold WL wordV
    have m0 := mt_iff (t := t) (p := p) (L := L) (w := [116, 97, 107, 101]) (c := 1952541541) hl (by decide) (by decide +kernel)
    have m1 := mt_iff (t := t) (p := p) (L := L) (w := [108, 111, 111, 107]) (c := 1819242347) hl (by decide) (by decide +kernel)
    have m2 := mt_iff (t := t) (p := p) (L := L) (w := [108, 101, 97, 118, 101]) (c := 465557354085) hl (by decide) (by decide +kernel)
    have m3 := mt_iff (t := t) (p := p) (L := L) (w := [103, 105, 118, 101]) (c := 1734964837) hl (by decide) (by decide +kernel)
    have m4 := mt_iff (t := t) (p := p) (L := L) (w := [105, 102]) (c := 26982) hl (by decide) (by decide +kernel)
    have m5 := mt_iff (t := t) (p := p) (L := L) (w := [111, 114]) (c := 28530) hl (by decide) (by decide +kernel)
    have m6 := mt_iff (t := t) (p := p) (L := L) (w := [97, 110, 100]) (c := 6385252) hl (by decide) (by decide +kernel)
    have m7 := mt_iff (t := t) (p := p) (L := L) (w := [110, 111, 116]) (c := 7237492) hl (by decide) (by decide +kernel)
    have m8 := mt_iff (t := t) (p := p) (L := L) (w := [119, 101, 101, 100]) (c := 2003133796) hl (by decide) (by decide +kernel)
    have m9 := mt_iff (t := t) (p := p) (L := L) (w := [119, 101, 116]) (c := 7824756) hl (by decide) (by decide +kernel)
    have m10 := mt_iff (t := t) (p := p) (L := L) (w := [112, 114, 101, 115, 115]) (c := 482955588467) hl (by decide) (by decide +kernel)
    have m11 := mt_iff (t := t) (p := p) (L := L) (w := [108, 111, 111, 107, 115]) (c := 465726040947) hl (by decide) (by decide +kernel)
    have m12 := mt_iff (t := t) (p := p) (L := L) (w := [115, 105, 122, 101]) (c := 1936292453) hl (by decide) (by decide +kernel)
    have m13 := mt_iff (t := t) (p := p) (L := L) (w := [105, 108, 108]) (c := 6909036) hl (by decide) (by decide +kernel)
    have m14 := mt_iff (t := t) (p := p) (L := L) (w := [114, 97, 105, 110]) (c := 1918986606) hl (by decide) (by decide +kernel)
    have m15 := mt_iff (t := t) (p := p) (L := L) (w := [103, 105, 118, 101, 110]) (c := 444150998382) hl (by decide) (by decide +kernel)
    by_cases e0 : wN t L p = 1952541541
    · rw [if_pos e0, fm_t (m0.mpr e0)]; rfl
    rw [if_neg e0, fm_f (fun z => e0 (m0.mp z))]
    by_cases e1 : wN t L p = 1819242347
    · rw [if_pos e1, fm_t (m1.mpr e1)]; rfl
    rw [if_neg e1, fm_f (fun z => e1 (m1.mp z))]
    by_cases e2 : wN t L p = 465557354085
    · rw [if_pos e2, fm_t (m2.mpr e2)]; rfl
    rw [if_neg e2, fm_f (fun z => e2 (m2.mp z))]
    by_cases e3 : wN t L p = 1734964837
    · rw [if_pos e3, fm_t (m3.mpr e3)]; rfl
    rw [if_neg e3, fm_f (fun z => e3 (m3.mp z))]
    by_cases e4 : wN t L p = 26982
    · rw [if_pos e4, fm_t (m4.mpr e4)]; rfl
    rw [if_neg e4, fm_f (fun z => e4 (m4.mp z))]
    by_cases e5 : wN t L p = 28530
    · rw [if_pos e5, fm_t (m5.mpr e5)]; rfl
    rw [if_neg e5, fm_f (fun z => e5 (m5.mp z))]
    by_cases e6 : wN t L p = 6385252
    · rw [if_pos e6, fm_t (m6.mpr e6)]; rfl
    rw [if_neg e6, fm_f (fun z => e6 (m6.mp z))]
    by_cases e7 : wN t L p = 7237492
    · rw [if_pos e7, fm_t (m7.mpr e7)]; rfl
    rw [if_neg e7, fm_f (fun z => e7 (m7.mp z))]
    by_cases e8 : wN t L p = 2003133796
    · rw [if_pos e8, fm_t (m8.mpr e8)]; rfl
    rw [if_neg e8, fm_f (fun z => e8 (m8.mp z))]
    by_cases e9 : wN t L p = 7824756
    · rw [if_pos e9, fm_t (m9.mpr e9)]; rfl
    rw [if_neg e9, fm_f (fun z => e9 (m9.mp z))]
    by_cases e10 : wN t L p = 482955588467
    · rw [if_pos e10, fm_t (m10.mpr e10)]; rfl
    rw [if_neg e10, fm_f (fun z => e10 (m10.mp z))]
    by_cases e11 : wN t L p = 465726040947
    · rw [if_pos e11, fm_t (m11.mpr e11)]; rfl
    rw [if_neg e11, fm_f (fun z => e11 (m11.mp z))]
    by_cases e12 : wN t L p = 1936292453
    · rw [if_pos e12, fm_t (m12.mpr e12)]; rfl
    rw [if_neg e12, fm_f (fun z => e12 (m12.mp z))]
    by_cases e13 : wN t L p = 6909036
    · rw [if_pos e13, fm_t (m13.mpr e13)]; rfl
    rw [if_neg e13, fm_f (fun z => e13 (m13.mp z))]
    by_cases e14 : wN t L p = 1918986606
    · rw [if_pos e14, fm_t (m14.mpr e14)]; rfl
    rw [if_neg e14, fm_f (fun z => e14 (m14.mp z))]
    by_cases e15 : wN t L p = 444150998382
    · rw [if_pos e15, fm_t (m15.mpr e15)]; rfl
    rw [if_neg e15, fm_f (fun z => e15 (m15.mp z))]
    rfl
  · rw [if_neg h7]
    unfold WL
    rw [fm_f (fun z => h7 (by have h1 := z.1; have h2 : 4 = L := h1; omega))]
    rw [fm_f (fun z => h7 (by have h1 := z.1; have h2 : 4 = L := h1; omega))]
    rw [fm_f (fun z => h7 (by have h1 := z.1; have h2 : 5 = L := h1; omega))]
    rw [fm_f (fun z => h7 (by have h1 := z.1; have h2 : 4 = L := h1; omega))]
    rw [fm_f (fun z => h7 (by have h1 := z.1; have h2 : 2 = L := h1; omega))]
    rw [fm_f (fun z => h7 (by have h1 := z.1; have h2 : 2 = L := h1; omega))]
    rw [fm_f (fun z => h7 (by have h1 := z.1; have h2 : 3 = L := h1; omega))]
    rw [fm_f (fun z => h7 (by have h1 := z.1; have h2 : 3 = L := h1; omega))]
    rw [fm_f (fun z => h7 (by have h1 := z.1; have h2 : 4 = L := h1; omega))]
    rw [fm_f (fun z => h7 (by have h1 := z.1; have h2 : 3 = L := h1; omega))]
    rw [fm_f (fun z => h7 (by have h1 := z.1; have h2 : 5 = L := h1; omega))]
    rw [fm_f (fun z => h7 (by have h1 := z.1; have h2 : 5 = L := h1; omega))]
    rw [fm_f (fun z => h7 (by have h1 := z.1; have h2 : 4 = L := h1; omega))]
    rw [fm_f (fun z => h7 (by have h1 := z.1; have h2 : 3 = L := h1; omega))]
    rw [fm_f (fun z => h7 (by have h1 := z.1; have h2 : 4 = L := h1; omega))]
    rw [fm_f (fun z => h7 (by have h1 := z.1; have h2 : 5 = L := h1; omega))]
    rfl
theorem sg_any : ∀ x, x < 256 → (sgB x = true ↔ ∃ i, i < 12 ∧ am_sc 0 i = sbI x) := by
  have h : ∀ x, x < 256 → sgB x = (List.range 12).any (fun i => am_sc 0 i == sbI x) := by decide +kernel
  intro x hx
  rw [h x hx, List.any_eq_true]
  constructor
  · rintro ⟨i, h1, h2⟩
    exact ⟨i, List.mem_range.mp h1, eq_of_beq h2⟩
  · rintro ⟨i, h1, h2⟩
    exact ⟨i, List.mem_range.mpr h1, by rw [h2]; exact beq_self_eq_true _⟩
theorem c_sign {x : Nat} (hx : x < 256) (h1 : sgB x = true → ∀ r : Int32, ¬ r < 0 → postI r M N) (h0 : ¬ sgB x = true → postI (-1) M N) : w_J0_indexOf_0f7a4 0 (nI x) M N postI := by
  have key : ∀ (j i : Nat), i + j = 12 → (∀ k, k < i → ¬ am_sc 0 k = sbI x) → w_J1_indexOfChar_4cfef_p7 0 postI (j + 1) 12 (sbI x) (nI i) M N := by
    intro j
    induction j with
    | zero =>
      intro i hi hk
      have hi' : i = 12 := by omega
      subst hi'
      rw [w_J1_indexOfChar_4cfef_p7_s]
      unfold w_J1_indexOfChar_4cfef_p7_b
      exact ⟨fun _ => h0 (fun z => by obtain ⟨k, k1, k2⟩ := (sg_any x hx).mp z; exact hk k k1 k2), fun z => absurd (nI_le (a := 12) (b := 12) (by omega) (by omega)) z⟩
    | succ j ih =>
      intro i hi hk
      rw [w_J1_indexOfChar_4cfef_p7_s]
      unfold w_J1_indexOfChar_4cfef_p7_b
      rw [nI_clamp (show i < 2 ^ 31 by omega), nI_1]
      refine ⟨fun z => absurd z (nI_ge (b := 12) (by omega) (by omega)), fun _ => ⟨vp_in_nI (N := 12) (by omega) (by omega), fun z => ih (i + 1) (by omega) (fun k hk2 => ?_), fun z => h1 ((sg_any x hx).mpr ⟨i, by omega, z⟩) _ (nI_pos (by omega))⟩⟩
      by_cases e : k = i
      · subst e; exact z
      · exact hk k (by omega)
  have k0 := key 12 0 (by omega) (fun k hk => absurd hk (Nat.not_lt_zero _))
  unfold w_J0_indexOf_0f7a4 w_J0_indexOf_7cf53 w_J0_isLatin1_aae02 w_J0_length_8abf5 w_J0_coder_7d493 w_J1_indexOf_4cfef w_J1_canEncode_9a6ad w_J1_indexOfChar_4cfef
  refine ⟨fun z => absurd z (by decide), fun _ => ⟨fun z => absurd rfl z, fun _ => ⟨fun z => absurd z (by decide), fun _ => ⟨fun z => absurd z (by decide), fun _ => ⟨by decide, ⟨fun z => absurd z (nI_pos (by omega)), fun _ => ⟨fun z => absurd z (nI_nlt (a := 255) (by omega) (by omega)), fun _ => ⟨fun _ => ?_, fun z => absurd z (by decide)⟩⟩⟩⟩⟩⟩⟩⟩
  refine eq_J9_max.mpr (eq_J9_min.mpr ⟨fun _ v ev => ⟨13, ?_⟩, fun z => absurd (by decide) z⟩)
  subst ev
  exact k0
end SPL
