/-! ===== told, way, and what is counted: both sides ===== -/
section Q3
variable {M : am_I} {N : am_N} {b : Nat} {bk : Bk} {cn full : Cn} {f : Nat → Int32} {fe lo : Int64} {W q c w n t wi : Nat} {a a1 a2 a3 : Int32} {post : Int32 → am_I → am_N → Prop} {but : Nat → Nat → Prop}
theorem pop_nI {x : Int64} {g : Nat → Int32} (h01 : ∀ c, c < 64 → g c = 0 ∨ g c = 1) (hg : ∀ c, c < 64 → (tb x c = true ↔ g c = 1)) {k : Nat} (hk : k < 64) : nI (popT x k) + g k = nI (popT x (k + 1)) := by
  show _ = nI (popT x k + (if tb x k = true then 1 else 0))
  by_cases e : tb x k = true
  · rw [if_pos e, (hg k hk).mp e, nI_1]
  · rw [if_neg e, (h01 k hk).resolve_right (fun z => e ((hg k hk).mpr z)), Int32.add_zero, Nat.add_zero]
theorem r_told5 (T : StM bk cn but M N f fe lo) (hq : q < 8) {x : Int64} (h01 : ∀ c, c < 64 → f (992 + 64 * q + c) = 0 ∨ f (992 + 64 * q + c) = 1) (hg : ∀ c, c < 64 → (tb x c = true ↔ f (992 + 64 * q + c) = 1)) (h : post (nI (popT x 64)) M N) : ∃ n, w_X12_told_p106 post n (nI q) 0 0 M N := by
  refine ⟨65, ?_⟩
  have key : ∀ (j c : Nat), c + j = 64 → w_X12_told_p106 post (j + 1) (nI q) (nI (popT x c)) (nI c) M N := by
    intro j
    induction j with
    | zero =>
      intro c hc
      have hc' : c = 64 := by omega
      subst hc'
      rw [w_X12_told_p106_s]
      unfold w_X12_told_p106_b
      exact ⟨fun _ => h, fun z => absurd (nI_le (a := 64) (b := 64) (by omega) (by omega)) z⟩
    | succ j ih =>
      intro c hc
      have e : 992 + 64 * nI q + nI c = nI (992 + 64 * q + c) := by rw [xm64, ix992, nI_add]
      rw [w_X12_told_p106_s]
      unfold w_X12_told_p106_b
      rw [e, nI_clamp (by omega), T.f, nI_1, pop_nI h01 hg (by omega)]
      refine ⟨fun z => absurd z (nI_ge (b := 64) (by omega) (by omega)), fun _ => ⟨vp_in_nI (by omega) (by omega), fun v ev => ?_⟩⟩
      subst ev
      exact ih (c + 1) (by omega)
  exact key 64 0 (by omega)
theorem q_told (S : StC 0 bk cn cn but M N f fe lo) (T : StM bk cn but M N f fe lo) (G : GoodF W cn f) (hnb : ∀ q, ¬ but 1 q) (hk : M (3, 0, 0) 11 = nI cn.c) : ∃ v, (∀ post, post v M N → w_X11_told a1 a2 M N post) ∧ ∀ post, post v M N → w_X12_told a1 a2 M N post := by
  have h8 := S.fb.2.1
  by_cases e : ∃ j, j < cn.c ∧ a1 = nI j
  · obtain ⟨q, hq, e1⟩ := e
    subst e1
    have v0 : vp_in (nI q) 8 := vp_in_nI (by omega) (by omega)
    have j1 : (960 + nI q).toNatClampNeg = 960 + q := by rw [ix960, nI_clamp (by omega)]
    have u1 : vp_in (960 + nI q) 1635 := by rw [ix960]; exact vp_in_nI (by omega) (by omega)
    have j2 : (968 + nI q).toNatClampNeg = 968 + q := by rw [ix968, nI_clamp (by omega)]
    have u2 : vp_in (968 + nI q) 1635 := by rw [ix968]; exact vp_in_nI (by omega) (by omega)
    have j3 : (976 + nI q).toNatClampNeg = 976 + q := by rw [ix976, nI_clamp (by omega)]
    have u3 : vp_in (976 + nI q) 1635 := by rw [ix976]; exact vp_in_nI (by omega) (by omega)
    have j4 : (984 + nI q).toNatClampNeg = 984 + q := by rw [ix984, nI_clamp (by omega)]
    have u4 : vp_in (984 + nI q) 1635 := by rw [ix984]; exact vp_in_nI (by omega) (by omega)
    have hon := S.w.c.on q hq (hnb q)
    have hmp := S.w.c.mp q hq (hnb q)
    have h01 := G.c.mp q (by omega)
    by_cases e2 : 100 ≤ a2 ∧ a2 ≤ 163
    · obtain ⟨d, hd, ed⟩ : ∃ d, d < 64 ∧ a2 = nI (100 + d) := by
        obtain ⟨k, hk, ek⟩ := nI_of2 (M := 163) (n := 163) rfl (Int32.not_lt.mpr (Int32.le_trans (by decide) e2.1)) e2.2
        have : 100 ≤ k := (nI_leI (a := 100) (by omega) (by omega)).mp (by rw [← ek]; exact e2.1)
        exact ⟨k - 100, by omega, by rw [ek]; congr 1; omega⟩
      subst ed
      have ne : ∀ k, k < 100 → ¬ nI (100 + d) = nI k := fun k hk => nI_ne (by omega) (by omega) (by omega)
      refine ⟨f (992 + 64 * q + d), fun post h => ?_, fun post h => ?_⟩
      · unfold w_X11_told w_X1_factOfCart
        refine c_has S.k.t2 (fun _ _ _ => ⟨fun _ => (eq_isPlace (by omega)).mpr ⟨fun _ => ⟨fun z => absurd z (ne 0 (by omega)), fun z => absurd z (ne 1 (by omega)), fun z => absurd z (ne 2 (by omega)), fun z => absurd z (ne 3 (by omega)), fun z => absurd z (ne 4 (by omega)), fun z => absurd z (ne 5 (by omega)), fun _ _ _ _ _ _ => eq_X11_within.mpr ?_⟩, fun z => absurd z (by decide)⟩, fun z => absurd z (by decide)⟩) (fun z => absurd ⟨q, hq, rfl⟩ z)
        have ed : nI (100 + d) - 100 = nI d := by
          show nI (100 + d) - nI 100 = nI d
          rw [pk_sub (by omega)]
          congr 1
          omega
        rw [am_bt e2, ed, nI_clamp (show q < 2 ^ 31 by omega)]
        refine ⟨fun _ => ⟨v0, eq_X11_bit.mpr ?_⟩, fun z => absurd z (by decide)⟩
        rw [bit_and_0 hd]
        refine ⟨fun z => ?_, fun z => ?_⟩
        · rw [(h01 d hd).resolve_right (fun y => by rw [(hmp d hd).mpr y] at z; cases z)] at h; exact h
        · rw [(hmp d hd).mp (by cases hh : tb (N (1, 0, 19) q) d with | true => rfl | false => exact absurd hh z)] at h; exact h
      · unfold w_X12_told w_X12_isCart
        rw [hk]
        have ee : 992 + 64 * nI q + nI (100 + d) - 100 = nI (992 + 64 * q + d) := by
          rw [xm64, ix992, nI_add]
          show nI (992 + 64 * q + (100 + d)) - nI 100 = _
          rw [pk_sub (by omega)]
          congr 1
          omega
        refine r_isIn (by omega) (fun _ _ _ => ⟨Or.inr rfl, ⟨fun _ => ⟨fun z => absurd z (ne 0 (by omega)), fun z => absurd z (ne 1 (by omega)), fun z => absurd z (ne 2 (by omega)), fun z => absurd z (ne 3 (by omega)), fun z => absurd z (ne 4 (by omega)), fun z => absurd z (ne 5 (by omega)), fun _ _ _ _ _ _ => eq_X12_isIn.mpr ?_⟩, fun z => absurd z (by decide)⟩⟩) (fun z => absurd ⟨q, hq, rfl⟩ z)
        rw [am_bt e2, ee, nI_clamp (by omega), T.f]
        exact ⟨fun z => absurd z (by decide), fun _ => ⟨vp_in_nI (by omega) (by omega), h⟩⟩
    · refine ⟨if a2 = 0 then nI (bk.cK q) else if a2 = 1 then f (960 + q) else if a2 = 2 then f (968 + q) else if a2 = 3 then f (976 + q) else if a2 = 4 then f (984 + q) else if a2 = 5 then nI (popT (N (1, 0, 19) q) 64) else -2, fun post h => ?_, fun post h => ?_⟩
      · unfold w_X11_told w_X1_factOfCart
        rw [nI_clamp (show q < 2 ^ 31 by omega)]
        refine c_has S.k.t2 (fun _ _ _ => ⟨fun _ => (eq_isPlace (by omega)).mpr ⟨fun _ => ⟨fun z => sp_at (w := 5) (c := 0) S.k.t2 hq (by omega) ?_, fun z => ⟨v0, ?_⟩, fun z => ⟨v0, ?_⟩, fun z => ⟨v0, ?_⟩, fun z => ⟨v0, ?_⟩, fun z => ⟨v0, eq_bitCount.mpr ?_⟩, fun n0 n1 n2 n3 n4 n5 => eq_X11_within.mpr ?_⟩, fun z => absurd z (by decide)⟩, fun z => absurd z (by decide)⟩) (fun z => absurd ⟨q, hq, rfl⟩ z)
        · rw [(S.k.c q hq).1]; rw [if_pos z] at h; exact h
        · rw [hon.1]; subst z; exact h
        · rw [hon.2.1]; subst z; exact h
        · rw [hon.2.2.1]; subst z; exact h
        · rw [hon.2.2.2]; subst z; exact h
        · subst z; exact h
        · rw [am_bf e2]
          rw [if_neg n0, if_neg n1, if_neg n2, if_neg n3, if_neg n4, if_neg n5] at h
          exact ⟨fun z => absurd rfl z, fun _ => h⟩
      · unfold w_X12_told w_X12_isCart
        rw [hk]
        refine r_isIn (by omega) (fun _ _ _ => ⟨Or.inr rfl, ⟨fun _ => ?_, fun z => absurd z (by decide)⟩⟩) (fun z => absurd ⟨q, hq, rfl⟩ z)
        rw [nI_clamp (show q < 2 ^ 31 by omega), j1, j2, j3, j4, T.f, (T.k.c q hq).1]
        refine ⟨fun z => ⟨v0, ?_⟩, fun z => ⟨u1, ?_⟩, fun z => ⟨u2, ?_⟩, fun z => ⟨u3, ?_⟩, fun z => ⟨u4, ?_⟩, fun z => r_told5 T (by omega) h01 hmp ?_, fun n0 n1 n2 n3 n4 n5 => eq_X12_isIn.mpr ?_⟩
        · rw [if_pos z] at h; exact h
        · subst z; exact h
        · subst z; exact h
        · subst z; exact h
        · subst z; exact h
        · subst z; exact h
        · rw [am_bf e2]
          rw [if_neg n0, if_neg n1, if_neg n2, if_neg n3, if_neg n4, if_neg n5] at h
          exact ⟨fun _ => h, fun z => absurd rfl z⟩
  · refine ⟨-2, fun post h => ?_, fun post h => ?_⟩
    · unfold w_X11_told
      exact c_has S.k.t2 (fun j hj ej => absurd ⟨j, hj, ej⟩ e) (fun _ => ⟨fun z => absurd rfl z, fun _ => h⟩)
    · unfold w_X12_told w_X12_isCart
      rw [hk]
      exact r_isIn (by omega) (fun j hj ej => absurd ⟨j, hj, ej⟩ e) (fun _ => ⟨Or.inl rfl, fun z => absurd rfl z, fun _ => h⟩)
/-- the way of a cart -/
theorem c_stepsTo {r : Int32} {v : Option (Nat × Nat × Nat)} (H : wayAt M q r v) (hq : q < 8) (h1 : ∀ C k x, v = some (C, k, x) → k ≤ 64 → post (nI k) M N) (h0 : v = none → post (-1) M N) : w_X5_stepsTo (nI q) r M N post := by
  cases v with
  | none =>
    cases H with
    | inl e =>
      rw [e]
      unfold w_X5_stepsTo
      exact sp_X5_hasWayN ⟨fun _ => h0 rfl, fun z => absurd rfl z⟩ hq
    | inr e =>
      obtain ⟨c, hc, e1, R, key, fi, hS, hR⟩ := e
      rw [e1]
      exact sp_X5_stepsTo hS hq hc (fun z => absurd z hR) (fun _ => h0 rfl)
  | some v =>
    obtain ⟨C, k, x⟩ := v
    obtain ⟨c, hc, e1, ⟨R, key, fi, hS, hR, e2, e3, e4⟩, hC, hk, -⟩ := H
    rw [e1]
    exact sp_X5_stepsTo hS hq hc (fun _ => by rw [e3]; exact h1 C k x rfl hk) (fun z => absurd hR z)
theorem q_way (S : StC 0 bk cn cn but M N f fe lo) (G : GoodF W cn f) (hB : BkGood bk cn) (hnb : ∀ q, ¬ but 1 q) : ∃ v, (∀ post, (∀ M' N', Fr 0 M N M' N' → StC 0 bk cn cn but M' N' f fe lo → post v M' N') → w_X11_way a1 a2 a3 M N post) ∧ ∀ M1 N1 post, StM bk cn but M1 N1 f fe lo → M1 (3, 0, 0) 11 = nI cn.c → (∀ M' N', FrM M1 N1 M' N' → StM bk cn but M' N' f fe lo → post v M' N') → w_X12_way a1 a2 a3 M1 N1 post := by
  have h8 := S.fb.2.1
  by_cases e : ∃ j, j < cn.c ∧ a1 = nI j
  · obtain ⟨q, hq, e1⟩ := e
    subst e1
    by_cases e2 : 0 ≤ a2 ∧ a2 ≤ 63
    · obtain ⟨g, hg, eg⟩ := nI_of2 (M := 63) (n := 63) rfl (Int32.not_lt.mpr e2.1) e2.2
      subst eg
      have hg64 : g < 64 := by omega
      have j1 : (960 + nI q).toNatClampNeg = 960 + q := by rw [ix960, nI_clamp (by omega)]
      have u1 : vp_in (960 + nI q) 1635 := by rw [ix960]; exact vp_in_nI (by omega) (by omega)
      obtain ⟨s64, es⟩ := G.sp hq
      have two : (0 ≤ a3 ∧ a3 ≤ 2) ↔ a3 = 0 ∨ a3 = 1 ∨ a3 = 2 := by
        constructor
        · rintro ⟨h1, h2⟩
          obtain ⟨k, hk, ek⟩ := nI_of2 (M := 2) (n := 2) rfl (Int32.not_lt.mpr h1) h2
          have : k = 0 ∨ k = 1 ∨ k = 2 := by omega
          rcases this with h | h | h
          · exact Or.inl (by rw [ek, h]; rfl)
          · exact Or.inr (Or.inl (by rw [ek, h]; rfl))
          · exact Or.inr (Or.inr (by rw [ek, h]; rfl))
        · rintro (h | h | h) <;> rw [h] <;> decide
      refine ⟨match wayG bk f q g 0 with | none => -1 | some (C, k, x) => if a3 = 0 then nI C else if a3 = 1 then nI k else if a3 = 2 then nI x else -1, fun post h => ?_, fun M1 N1 post T hk h => ?_⟩
      · unfold w_X11_way
        refine c_has S.k.t2 (fun _ _ _ => ⟨fun z => absurd z (by decide), fun _ => eq_X11_isCell.mpr ?_⟩) (fun z => absurd ⟨q, hq, rfl⟩ z)
        rw [am_bt e2]
        refine ⟨fun _ => c_search S G hB hq (hnb q) (fun M2 N2 F2 S2 Q2 _ => ?_), fun z => absurd z (by decide)⟩
        have H := Q2.at0 hg64
        have hF := h _ _ F2 S2
        cases hw : wayG bk f q g 0 with
        | none =>
          rw [hw] at H hF
          exact c_hasWay H (by omega) (fun C k x ev => by cases ev) (fun _ => ⟨fun z => absurd rfl z, fun _ => hF⟩)
        | some v =>
          obtain ⟨C, k, x⟩ := v
          rw [hw] at H hF
          have hF : post (if a3 = 0 then nI C else if a3 = 1 then nI k else if a3 = 2 then nI x else -1) M2 N2 := hF
          refine c_hasWay H (by omega) (fun C' k' x' ev => ⟨fun _ => ⟨fun z => c_costTo H (by omega) (fun C2 k2 x2 ev2 _ => ?_) (fun ev2 => by cases ev2), fun z => c_stepsTo H (by omega) (fun C2 k2 x2 ev2 _ => ?_) (fun ev2 => by cases ev2), fun z => c_firstTo H (by omega) (fun C2 k2 x2 ev2 _ => ?_) (fun ev2 => by cases ev2), fun n0 n1 n2 => ?_⟩, fun z => absurd z (by decide)⟩) (fun ev => by cases ev)
          · simp only [Option.some.injEq, Prod.mk.injEq] at ev2
            rw [← ev2.1]; rw [if_pos z] at hF; exact hF
          · simp only [Option.some.injEq, Prod.mk.injEq] at ev2
            rw [← ev2.2.1]; subst z; exact hF
          · simp only [Option.some.injEq, Prod.mk.injEq] at ev2
            rw [← ev2.2.2]; subst z; exact hF
          · rw [if_neg n0, if_neg n1, if_neg n2] at hF; exact hF
      · unfold w_X12_way w_X12_isCart
        rw [hk]
        refine r_isIn (by omega) (fun _ _ _ => ⟨Or.inr rfl, ⟨fun z => absurd z (by decide), fun _ => eq_X12_isCell.mpr ?_⟩⟩) (fun z => absurd ⟨q, hq, rfl⟩ z)
        rw [am_bt e2]
        refine ⟨fun z => absurd z (by decide), fun _ => eq_X12_isIn.mpr ?_⟩
        by_cases e3 : 0 ≤ a3 ∧ a3 ≤ 2
        · rw [am_bt e3]
          refine ⟨fun _ => r_ways T G hB hq hg64 (fun hw M2 N2 F2 S2 hA hN => ?_) (fun C k x hw hC hk2 hx hox M2 N2 F2 S2 hA hN => ?_), fun z => absurd z (by decide)⟩
          · rw [j1, S2.f, es, nI_clamp (show spN f q < 2 ^ 31 by omega), hA]
            refine ⟨u1, vp_in_nI s64 (by omega), fun v ev => ?_⟩
            subst ev
            have hF := h _ _ F2 S2
            rw [hw] at hF
            exact ⟨fun z => absurd rfl z, fun _ => hF⟩
          · rw [j1, S2.f, es, nI_clamp (show spN f q < 2 ^ 31 by omega), hA]
            refine ⟨u1, vp_in_nI s64 (by omega), fun v ev => ?_⟩
            subst ev
            have hF := h _ _ F2 S2
            rw [hw] at hF
            have hF : post (if a3 = 0 then nI C else if a3 = 1 then nI k else if a3 = 2 then nI x else -1) M2 N2 := hF
            have ed : (lN (1000000 * C + k) / 1000000).toInt32 = nI C := by
              have : lN (1000000 * C + k) / 1000000 = lN C := by
                show lN (1000000 * C + k) / lN 1000000 = lN C
                rw [pk_lDiv (by omega) (by omega) (by omega)]
                congr 1
                omega
              rw [this, lN_i]
            have er : (am_reml (lN (1000000 * C + k)) 1000000).toInt32 = nI k := by
              have : am_reml (lN (1000000 * C + k)) 1000000 = lN k := by
                show lN (1000000 * C + k) - lN (1000000 * C + k) / lN 1000000 * lN 1000000 = lN k
                rw [pk_lRem (by omega) (by omega) (by omega)]
                congr 1
                omega
              rw [this, lN_i]
            rw [ed, er]
            refine ⟨fun _ => ⟨fun n0 => ⟨fun n1 => ⟨u1, hN _ ?_⟩, fun z => ?_⟩, fun z => ?_⟩, fun z => absurd ((pk_lEQ (a := 1000000 * C + k) (b := FARN) (by omega) (by decide)).mp z) (by unfold FARN; omega)⟩
            · have n2 : a3 = 2 := (two.mp e3).resolve_left n0 |>.resolve_left n1
              rw [if_neg n0, if_neg n1, if_pos n2] at hF; exact hF
            · subst z; exact hF
            · rw [if_pos z] at hF; exact hF
        · rw [am_bf e3]
          refine ⟨fun z => absurd rfl z, fun _ => ?_⟩
          have hF := h _ _ FrM.rf T
          have n0 : ¬ a3 = 0 := fun z => e3 (two.mpr (Or.inl z))
          have n1 : ¬ a3 = 1 := fun z => e3 (two.mpr (Or.inr (Or.inl z)))
          have n2 : ¬ a3 = 2 := fun z => e3 (two.mpr (Or.inr (Or.inr z)))
          cases hw : wayG bk f q g 0 with
          | none => rw [hw] at hF; exact hF
          | some v =>
            obtain ⟨C, k, x⟩ := v
            rw [hw] at hF
            have hF : post (if a3 = 0 then nI C else if a3 = 1 then nI k else if a3 = 2 then nI x else -1) M1 N1 := hF
            rw [if_neg n0, if_neg n1, if_neg n2] at hF; exact hF
    · refine ⟨-1, fun post h => ?_, fun M1 N1 post T hk h => ?_⟩
      · unfold w_X11_way
        refine c_has S.k.t2 (fun _ _ _ => ⟨fun z => absurd z (by decide), fun _ => eq_X11_isCell.mpr ?_⟩) (fun z => absurd ⟨q, hq, rfl⟩ z)
        rw [am_bf e2]
        exact ⟨fun z => absurd rfl z, fun _ => h _ _ Fr.rf S⟩
      · unfold w_X12_way w_X12_isCart
        rw [hk]
        refine r_isIn (by omega) (fun _ _ _ => ⟨Or.inr rfl, ⟨fun z => absurd z (by decide), fun _ => eq_X12_isCell.mpr ?_⟩⟩) (fun z => absurd ⟨q, hq, rfl⟩ z)
        rw [am_bf e2]
        exact ⟨fun _ => h _ _ FrM.rf T, fun z => absurd rfl z⟩
  · refine ⟨-1, fun post h => ?_, fun M1 N1 post T hk h => ?_⟩
    · unfold w_X11_way
      exact c_has S.k.t2 (fun j hj ej => absurd ⟨j, hj, ej⟩ e) (fun _ => ⟨fun _ => h _ _ Fr.rf S, fun z => absurd rfl z⟩)
    · unfold w_X12_way w_X12_isCart
      rw [hk]
      exact r_isIn (by omega) (fun j hj ej => absurd ⟨j, hj, ej⟩ e) (fun _ => ⟨Or.inl rfl, fun _ => h _ _ FrM.rf T, fun z => absurd rfl z⟩)
end Q3
