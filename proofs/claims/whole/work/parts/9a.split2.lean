/-! ===== the class's tokens: split ===== -/
def TKS (t : Nat → Nat) (n i : Nat) (M : am_I) : Prop := (M (0, 0, 7) 5 = nI (cs t i)) ∧ (∀ p, p < i → stB t p = true → M (0, 0, 9) (cs t p) = tokV t n p ∧ M (0, 0, 10) (cs t p) = nI p)
theorem TKS.k {t : Nat → Nat} {n i : Nat} {M : am_I} (h : TKS t n i M) : M (0, 0, 7) 5 = nI (cs t i) := h.1
theorem TKS.v {t : Nat → Nat} {n i : Nat} {M : am_I} (h : TKS t n i M) : ∀ p, p < i → stB t p = true → M (0, 0, 9) (cs t p) = tokV t n p ∧ M (0, 0, 10) (cs t p) = nI p := h.2
def TKA (t : Nat → Nat) (n : Nat) (M : am_I) : Prop := (M (0, 0, 7) 5 = nI (cs t n + 1)) ∧ (∀ p, TK t n p → M (0, 0, 9) (cs t p) = tokV t n p ∧ M (0, 0, 10) (cs t p) = nI p)
theorem TKA.k {t : Nat → Nat} {n : Nat} {M : am_I} (h : TKA t n M) : M (0, 0, 7) 5 = nI (cs t n + 1) := h.1
theorem TKA.v {t : Nat → Nat} {n : Nat} {M : am_I} (h : TKA t n M) : ∀ p, TK t n p → M (0, 0, 9) (cs t p) = tokV t n p ∧ M (0, 0, 10) (cs t p) = nI p := h.2
def FrK (M M1 : am_I) : Prop := (∀ c : am_C, c ≠ (0, 0, 7) → c ≠ (0, 0, 9) → c ≠ (0, 0, 10) → M1 c = M c) ∧ ∀ j, j ≠ 5 → M1 (0, 0, 7) j = M (0, 0, 7) j
section SPM
variable {t : Nat → Nat} {n p e L B : Nat} {M M1 M2 : am_I} {N : am_N} {post : am_I → am_N → Prop} {postI : Int32 → am_I → am_N → Prop}
theorem FrK.rf : FrK M M := ⟨fun _ _ _ _ => rfl, fun _ _ => rfl⟩
theorem FrK.tr (h1 : FrK M M1) (h2 : FrK M1 M2) : FrK M M2 := ⟨fun c q1 q2 q3 => (h2.1 c q1 q2 q3).trans (h1.1 c q1 q2 q3), fun j q => (h2.2 j q).trans (h1.2 j q)⟩
theorem TpC.cg (T : TpC t B M) (F : FrK M M1) : TpC t B M1 := ⟨T.1, fun i hi => by rw [F.1 _ (by simp) (by simp) (by simp)]; exact T.2 i hi⟩
theorem chr2 : ∀ x, x < 256 → ((nI x).toUInt32 % 65536).toInt32 = nI x := by decide +kernel
theorem c_number (T : TpC t B M) (hpe : p ≤ e) (he : e ≤ B) (hd : ∀ r, p ≤ r → r < e → grp (t r) = 2) (h : postI (if e - p ≤ 5 then nI (1000 + nN t (e - p) p) else -1) M N) : w_X7_numberBetween (nI p) (nI e) M N postI := by
  have hB := T.1
  have e1 : nI e - nI p = nI (e - p) := pk_sub hpe
  have e5 : nI (e - p) ≤ (5 : Int32) ↔ e - p ≤ 5 := nI_leI (b := 5) (by omega) (by omega)
  unfold w_X7_numberBetween
  rw [e1, e5]
  refine ⟨fun z => ⟨e - p + 1, ?_⟩, fun z => by rw [if_neg z] at h; exact h⟩
  rw [if_pos z] at h
  have key : ∀ (j k : Nat), k + j = e - p → w_X7_numberBetween_p14 postI (j + 1) (nI e) (nI (nN t k p)) (nI (p + k)) M N := by
    intro j
    induction j with
    | zero =>
      intro k hk
      have hk' : k = e - p := by omega
      subst hk'
      rw [w_X7_numberBetween_p14_s]
      unfold w_X7_numberBetween_p14_b
      have e2 : (1000 : Int32) + nI (nN t (e - p) p) = nI (1000 + nN t (e - p) p) := nI_add 1000 _
      rw [e2]
      exact ⟨fun _ => h, fun z => absurd (nI_le (by omega) (by omega)) z⟩
    | succ j ih =>
      intro k hk
      have ih' := ih (k + 1) (by omega)
      obtain ⟨b1, b2⟩ := T.2 (p + k) (by omega)
      have g := grp_2.mp (hd (p + k) (by omega) (by omega))
      rw [w_X7_numberBetween_p14_s]
      unfold w_X7_numberBetween_p14_b
      rw [nI_clamp (show p + k < 2 ^ 31 by omega), b2, nI_1]
      refine ⟨fun z => absurd z (nI_ge (by omega) (by omega)), fun _ => ⟨vp_in_nI (by omega) (by omega), fun v ev => ?_⟩⟩
      have e3 : nI (nN t k p) * 10 + nI (t (p + k)) - 48 = nI (nN t (k + 1) p) := by
        have q1 : nI (nN t k p) * (10 : Int32) = nI (nN t k p * 10) := pk_mul _ 10
        rw [q1, nI_add]
        have q2 : nI (nN t k p * 10 + t (p + k)) - (48 : Int32) = nI (nN t k p * 10 + t (p + k) - 48) := pk_sub (b := 48) (by omega)
        rw [q2]
        show _ = nI (nN t k p * 10 + (t (p + k) - 48))
        congr 1
        omega
      rw [e3] at ev
      subst ev
      exact ih'
  exact key (e - p) 0 (by omega)
theorem c_tokenFrom (T : TpC t B M) (hn : n ≤ B) (hk : TK t n p) (hp : p < n) (h : postI (tokV t n p) M N) : w_X7_tokenFrom (nI p) (nI n) (nI (grp (t p))) M N postI := by
  have hB := T.1
  obtain ⟨b1, b2⟩ := T.2 p (by omega)
  have g0 := (stB_iff.mp (hk.2 hp)).1
  obtain ⟨h1, h2, h3, h4, h5⟩ := enT_sp hk hp
  have g3 : nI (grp (t p)) = (3 : Int32) ↔ grp (t p) = 3 := nI_eq (b := 3) (by have := grp_le (t p); omega) (by omega)
  have g1 : nI (grp (t p)) = (1 : Int32) ↔ grp (t p) = 1 := nI_eq (b := 1) (by have := grp_le (t p); omega) (by omega)
  unfold tokV at h
  rw [if_neg (by omega)] at h
  unfold w_X7_tokenFrom
  rw [g3, nI_clamp (show p < 2 ^ 31 by omega), b2, chr2 _ b1]
  refine ⟨fun z => ⟨n - p + 1, ?_⟩, fun z => ⟨vp_in_nI (by omega) (by omega), c_sign b1 (fun w r hr => ⟨fun z2 => absurd z2 hr, fun _ => ⟨vp_in_nI (by omega) (by omega), ?_⟩⟩) (fun w => ⟨fun _ => ?_, fun z2 => absurd (by decide) z2⟩)⟩⟩
  · rw [if_neg z] at h
    have last : w_X7_tokenFrom_p60 postI (nI p) (nI (grp (t p))) (nI (enT t n p)) M N := by
      unfold w_X7_tokenFrom_p60
      rw [g1]
      refine ⟨fun w => c_number T (by omega) (by omega) (fun r r1 r2 => ?_) ?_, fun w => c_words T (by omega) (by omega) (fun r hr => ?_)⟩
      · rw [h3 r r1 r2]
        have := grp_le (t p)
        omega
      · rw [if_neg w] at h; exact h
      · rw [if_pos w] at h
        rw [hr, fmW_V (fun i hi => by rw [h3 (p + i) (by omega) (by omega)]; exact w)]
        exact h
    have key : ∀ (j i : Nat), i + j = n → p ≤ i → i ≤ enT t n p → w_X7_tokenFrom_p34 postI (j + 1) (nI p) (nI n) (nI (grp (t p))) (nI i) M N := by
      intro j
      induction j with
      | zero =>
        intro i hi q1 q2
        have ei : i = enT t n p := by omega
        rw [w_X7_tokenFrom_p34_s]
        unfold w_X7_tokenFrom_p34_b
        refine ⟨fun _ => by rw [ei]; exact last, fun w => absurd (nI_le (by omega) (by omega)) w⟩
      | succ j ih =>
        intro i hi q1 q2
        obtain ⟨c1, c2⟩ := T.2 i (by omega)
        have gg : nI (grp (t i)) = nI (grp (t p)) ↔ grp (t i) = grp (t p) := nI_eq (by have := grp_le (t i); omega) (by have := grp_le (t p); omega)
        rw [w_X7_tokenFrom_p34_s]
        unfold w_X7_tokenFrom_p34_b
        rw [nI_clamp (show i < 2 ^ 31 by omega), c2, nI_1]
        refine ⟨fun w => absurd w (nI_ge (by omega) (by omega)), fun _ => ⟨vp_in_nI (by omega) (by omega), c_groupOf c1 ?_⟩⟩
        rw [gg]
        refine ⟨fun w => ?_, fun w => ih (i + 1) (by omega) (by omega) ?_⟩
        · have ei : i = enT t n p := by
            by_cases ee : i < enT t n p
            · exact absurd (h3 i q1 ee) w
            · omega
          rw [ei]
          exact last
        · by_cases ee : i < enT t n p
          · omega
          · have ei : i = enT t n p := by omega
            rw [ei] at w
            exact absurd w (h4 z (by omega))
    have k0 := key (n - p) p (by omega) (Nat.le_refl _) (by omega)
    exact k0
  · rw [b2]
    rw [if_pos z, if_pos w] at h
    exact h
  · rw [if_pos z, if_neg w] at h
    exact h
theorem c_addToken {a b : Int32} {k : Nat} (hk : k ≤ 500) (ek : M (0, 0, 7) 5 = nI k) (h : ∀ M1, FrK M M1 → M1 (0, 0, 7) 5 = nI (k + 1) → M1 (0, 0, 9) = upd (M (0, 0, 9)) k a → M1 (0, 0, 10) = upd (M (0, 0, 10)) k b → post M1 N) : w_X7_addToken a b M N post := by
  have s9 : ∀ (g : am_I) (i : Nat) (v : Int32), am_u g (0, 0, 9) i v (0, 0, 7) = g (0, 0, 7) := fun g i v => am_u_o _ _ _ (by simp)
  have s10 : ∀ (g : am_I) (i : Nat) (v : Int32), am_u g (0, 0, 10) i v (0, 0, 7) = g (0, 0, 7) := fun g i v => am_u_o _ _ _ (by simp)
  unfold w_X7_addToken
  rw [s10, s9, ek, nI_clamp (show k < 2 ^ 31 by omega), nI_1]
  have vk : vp_in (nI k) 501 := vp_in_nI (by omega) (by omega)
  refine ⟨fun z => absurd z (nI_ge (b := 501) (by omega) (by omega)), fun _ => ⟨vk, vk, h _ ⟨fun c q1 q2 q3 => ?_, fun j hj => ?_⟩ ?_ ?_ ?_⟩⟩
  · rw [am_u_o _ _ _ q1, am_u_o _ _ _ q3, am_u_o _ _ _ q2]
  · rw [am_u_c, pk_un hj, s10, s9]
  · rw [am_u_c, pk_us]
  · rw [am_u_o _ _ _ (by simp), am_u_o _ _ _ (by simp), am_u_c]
  · rw [am_u_o _ _ _ (by simp), am_u_c, am_u_o _ _ _ (by simp)]
theorem c_split (T : TpC t B M) (hn : n ≤ B) (h : ∀ M1, FrK M M1 → TKA t n M1 → post M1 N) : w_X7_split (nI n) M N post := by
  have hB := T.1
  unfold w_X7_split
  refine ⟨n + 1, ?_⟩
  have key : ∀ (j i : Nat), i + j = n → ∀ M1, FrK M M1 → TKS t n i M1 → w_X7_split_p9 post (j + 1) (nI n) (nI (if i = 0 then 0 else grp (t (i - 1)))) (nI i) M1 N := by
    intro j
    induction j with
    | zero =>
      intro i hi M1 F S
      have hi' : i = n := by omega
      subst hi'
      rw [w_X7_split_p9_s]
      unfold w_X7_split_p9_b
      refine ⟨fun _ => c_addToken (by have := cs_le (t := t) i; omega) S.k (fun M2 F2 e5 e9 e10 => h M2 (F.tr F2) ⟨e5, fun p hp => ?_⟩), fun z => absurd (nI_le (Nat.le_refl _) (by omega)) z⟩
      rw [e9, e10]
      by_cases e : p = i
      · subst e
        rw [pk_us, pk_us]
        refine ⟨?_, rfl⟩
        unfold tokV
        rw [if_pos (Nat.le_refl _)]
      · have hp1 := hp.1
        have hst := hp.2 (by omega)
        have hc : cs t p < cs t i := by
          have := cs_mono (t := t) (show p + 1 ≤ i by omega)
          rw [cs_s1 hst] at this
          omega
        rw [pk_un (by omega), pk_un (by omega)]
        exact S.v p (by omega) hst
    | succ j ih =>
      intro i hi M1 F S
      have T1 := T.cg F
      obtain ⟨b1, b2⟩ := T1.2 i (by omega)
      have ih' := ih (i + 1) (by omega)
      have eb : (if i + 1 = 0 then 0 else grp (t (i + 1 - 1))) = grp (t i) := by rw [if_neg (by omega)]; rfl
      rw [eb] at ih'
      have skip : ¬ stB t i = true → w_X7_split_p9 post (j + 1) (nI n) (nI (grp (t i))) (nI (i + 1)) M1 N := fun hs => ih' M1 F ⟨by rw [cs_s0 hs]; exact S.k, fun p hp h1 => by
        by_cases e : p = i
        · subst e; exact absurd h1 hs
        · exact S.v p (by omega) h1⟩
      have take : stB t i = true → w_X7_split_p42 post (w_X7_split_p9 post (j + 1)) (nI n) (nI i) (nI (grp (t i))) M1 N := fun hs => by
        unfold w_X7_split_p42 w_X7_split_p55
        refine c_tokenFrom T1 hn ⟨by omega, fun _ => hs⟩ (by omega) (c_addToken (by have := cs_le (t := t) i; omega) S.k (fun M2 F2 e5 e9 e10 => ?_))
        rw [nI_1]
        refine ih' M2 (F.tr F2) ⟨by rw [cs_s1 hs]; exact e5, fun p hp h1 => ?_⟩
        rw [e9, e10]
        by_cases e : p = i
        · subst e; rw [pk_us, pk_us]; exact ⟨rfl, rfl⟩
        · have hc : cs t p < cs t i := by
            have := cs_mono (t := t) (show p + 1 ≤ i by omega)
            rw [cs_s1 h1] at this
            omega
          rw [pk_un (by omega), pk_un (by omega)]
          exact S.v p (by omega) h1
      have gl := grp_le (t i)
      have q0 : nI (grp (t i)) = (0 : Int32) ↔ grp (t i) = 0 := nI_eq (b := 0) (by omega) (by omega)
      have q3 : nI (grp (t i)) = (3 : Int32) ↔ grp (t i) = 3 := nI_eq (b := 3) (by omega) (by omega)
      have qb : nI (grp (t i)) = nI (if i = 0 then 0 else grp (t (i - 1))) ↔ grp (t i) = (if i = 0 then 0 else grp (t (i - 1))) := nI_eq (by omega) (by
        have := grp_le (t (i - 1))
        by_cases e : i = 0
        · rw [if_pos e]; omega
        · rw [if_neg e]; omega)
      rw [w_X7_split_p9_s]
      unfold w_X7_split_p9_b
      rw [nI_clamp (show i < 2 ^ 31 by omega), b2]
      refine ⟨fun z => absurd z (nI_ge (by omega) (by omega)), fun _ => ⟨vp_in_nI (by omega) (by omega), c_groupOf b1 ?_⟩⟩
      rw [q0, q3, qb]
      unfold w_X7_split_p55
      rw [nI_1]
      refine ⟨fun z => skip (fun w => (stB_iff.mp w).1 z), fun z0 => ⟨fun z => take (stB_iff.mpr ⟨z0, Or.inl z⟩), fun z3 => ⟨fun z => skip (fun w => ?_), fun z => take (stB_iff.mpr ⟨z0, ?_⟩)⟩⟩⟩
      · rcases (stB_iff.mp w).2 with w | w | w
        · exact z3 w
        · rw [if_pos w] at z; exact z0 z
        · by_cases e : i = 0
          · rw [if_pos e] at z; exact z0 z
          · rw [if_neg e] at z; exact w z.symm
      · by_cases e : i = 0
        · exact Or.inr (Or.inl e)
        · rw [if_neg e] at z
          exact Or.inr (Or.inr fun w => z w.symm)
  refine key n 0 (by omega) _ ⟨fun c q1 q2 q3 => am_u_o _ _ _ q1, fun j hj => by rw [am_u_c, pk_un hj]⟩ ⟨by rw [am_u_c, pk_us]; rfl, fun p hp => absurd hp (Nat.not_lt_zero _)⟩
end SPM
