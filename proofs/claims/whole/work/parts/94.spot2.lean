/-! ===== spot: both sides ===== -/
def stn (f : Nat → Int32) (c : Nat) : Prop := f (192 + c) = 1
def ilP (f : Nat → Int32) (c : Nat) : Prop := f (192 + c) = 1 ∧ f (320 + c) = 1
def Spot (f : Nat → Int32) (n c : Nat) : Prop := f (192 + c) = 1 ∧ ∀ o, o < 64 → ilP f o → Rch (stn f) (fun x => x = c) n o
/-- what differs is the two rows -/
def FrS (M M1 : am_I) : Prop := ∀ a, a ≠ (3, 0, 29) → a ≠ (3, 0, 30) → M1 a = M a
section SPT
variable {M M1 M2 : am_I} {N N1 : am_N} {bk : Bk} {cn full : Cn} {but : Nat → Nat → Prop} {f : Nat → Int32} {fe lo : Int64} {W c n : Nat} {a1 a2 : Int32} {post : am_I → am_N → Prop} {postI : Int32 → am_I → am_N → Prop}
theorem FrS.rf : FrS M M := fun _ _ _ => rfl
theorem FrS.tr (h1 : FrS M M1) (h2 : FrS M1 M2) : FrS M M2 := fun a q1 q2 => (h2 a q1 q2).trans (h1 a q1 q2)
theorem FrS.frM (h : FrS M M1) : FrM M N M1 N := ⟨fun c _ q => ⟨h c (fun e => q (by subst e; exact ⟨rfl, by decide, by decide⟩)) (fun e => q (by subst e; exact ⟨rfl, by decide, by decide⟩)), fun _ => rfl⟩, fun _ _ _ => rfl⟩
theorem nar0 : vp_nar .boolean 0 = 0 := by decide
theorem nar1 : vp_nar .boolean 1 = 1 := by decide
theorem am2_u (st gn : Nat → Int32) (k : Nat) (x : Int32) : am_u (am_s (am_s M (3, 0, 29) st) (3, 0, 30) gn) (3, 0, 29) k x = am_s (am_s M (3, 0, 29) (upd st k x)) (3, 0, 30) gn := by
  rw [am_s_comm M (by simp) st gn, am_u_s, am_s_comm _ (by simp) gn (upd st k x)]
theorem r_isSpot (ef : M (3, 0, 1) = f) (G : GP cn f) (hc : c < 64) (hn : n ≤ 64) (h1 : Spot f n c → ∀ M1, FrS M M1 → postI 1 M1 N) (h0 : ¬ Spot f n c → ∀ M1, FrS M M1 → postI 0 M1 N) : w_X12_isSpot (nI c) (nI n) M N postI := by
  unfold w_X12_isSpot
  refine ⟨65, ?_⟩
  have v1 : ∀ o, o < 64 → vp_in (192 + nI o) 1635 ∧ (192 + nI o).toNatClampNeg = 192 + o ∧ vp_in (320 + nI o) 1635 ∧ (320 + nI o).toNatClampNeg = 320 + o := fun o ho => by
    rw [ix192, ix320, nI_clamp (by omega), nI_clamp (by omega)]
    exact ⟨vp_in_nI (by omega) (by omega), rfl, vp_in_nI (by omega) (by omega), rfl⟩
  -- the check
  have check : ∀ Mz : am_I, FrS M Mz → (∀ o, o < 64 → f (192 + c) = 1 → (Mz (3, 0, 29) o = -1 ↔ ¬ Rch (stn f) (fun x => x = c) n o)) → ∀ (j o : Nat), o + j = 64 → ((f (192 + c) = 1 ∧ ∀ i, i < o → ilP f i → Rch (stn f) (fun x => x = c) n i) → w_X12_isSpot_p69 postI (j + 1) 1 (nI o) Mz N) ∧ ((¬ (f (192 + c) = 1 ∧ ∀ i, i < o → ilP f i → Rch (stn f) (fun x => x = c) n i)) → w_X12_isSpot_p69 postI (j + 1) 0 (nI o) Mz N) := by
    intro Mz F hz j
    induction j with
    | zero =>
      intro o ho
      have ho' : o = 64 := by omega
      subst ho'
      refine ⟨fun hy => ?_, fun hy => ?_⟩
      · rw [w_X12_isSpot_p69_s]
        unfold w_X12_isSpot_p69_b
        exact ⟨fun _ => ⟨Or.inr rfl, h1 hy Mz F⟩, fun z => absurd (nI_le (a := 64) (b := 64) (by omega) (by omega)) z⟩
      · rw [w_X12_isSpot_p69_s]
        unfold w_X12_isSpot_p69_b
        exact ⟨fun _ => ⟨Or.inl rfl, h0 hy Mz F⟩, fun z => absurd (nI_le (a := 64) (b := 64) (by omega) (by omega)) z⟩
    | succ j ih =>
      intro o ho
      have ho64 : o < 64 := by omega
      obtain ⟨i1, i0⟩ := ih (o + 1) (by omega)
      obtain ⟨q1, q2, q3, q4⟩ := v1 o ho64
      have e1 : Mz (3, 0, 1) = f := by rw [F _ (by simp) (by simp)]; exact ef
      have nxt : (f (192 + c) = 1 ∧ ∀ i, i < o → ilP f i → Rch (stn f) (fun x => x = c) n i) → (ilP f o → Rch (stn f) (fun x => x = c) n o) → f (192 + c) = 1 ∧ ∀ i, i < o + 1 → ilP f i → Rch (stn f) (fun x => x = c) n i := by
        intro hy hyo
        refine ⟨hy.1, fun i hi => ?_⟩
        by_cases e : i = o
        · subst e; exact hyo
        · exact hy.2 i (by omega)
      refine ⟨fun hy => ?_, fun hy => ?_⟩
      · rw [w_X12_isSpot_p69_s]
        unfold w_X12_isSpot_p69_b
        rw [q2, q4, e1, nI_clamp (show o < 2 ^ 31 by omega), nI_1]
        refine ⟨fun z => absurd z (nI_ge (b := 64) (by omega) (by omega)), fun _ => ⟨fun z => absurd z (by decide), fun _ => ⟨q1, fun z => i1 (nxt hy (fun y => ?_)), fun z => ⟨q3, fun z2 => i1 (nxt hy (fun y => ?_)), fun z2 => ⟨vp_in_nI ho64 (by omega), fun z3 => i0 (fun y => ?_), fun z3 => i1 (nxt hy (fun y => ?_))⟩⟩⟩⟩⟩
        · exact absurd (z.symm.trans y.1) (by decide)
        · exact absurd (z2.symm.trans y.2) (by decide)
        · exact (hz o ho64 hy.1).mp z3 (y.2 o (by omega) ⟨(G.st o ho64).resolve_left z, (G.il o ho64).resolve_left z2⟩)
        · exact Classical.byContradiction fun w => z3 ((hz o ho64 hy.1).mpr w)
      · rw [w_X12_isSpot_p69_s]
        unfold w_X12_isSpot_p69_b
        rw [nI_1]
        refine ⟨fun z => absurd z (nI_ge (b := 64) (by omega) (by omega)), fun _ => ⟨fun _ => i0 (fun y => hy ⟨y.1, fun i hi => y.2 i (by omega)⟩), fun z => absurd rfl z⟩⟩
  have key : ∀ (j o : Nat), o + j = 64 → ∀ st gn : Nat → Int32, (∀ i, i < o → st i = (if i = c then 0 else -1) ∧ gn i = 0) → w_X12_isSpot_p2 postI (j + 1) (nI c) (nI n) (nI o) (am_s (am_s M (3, 0, 29) st) (3, 0, 30) gn) N := by
    intro j
    induction j with
    | zero =>
      intro o ho st gn hst
      have ho' : o = 64 := by omega
      subst ho'
      rw [w_X12_isSpot_p2_s]
      unfold w_X12_isSpot_p2_b
      refine ⟨fun _ => ?_, fun z => absurd (nI_le (a := 64) (b := 64) (by omega) (by omega)) z⟩
      have F0 : ∀ st2 : Nat → Int32, FrS M (am_s (am_s (am_s M (3, 0, 29) st) (3, 0, 30) gn) (3, 0, 29) st2) := fun st2 a q1 q2 => by rw [am_s_other _ _ q1, am_s_other _ _ q2, am_s_other _ _ q1]
      refine r_spreads (T := fun x => f (192 + x) = 1 ∨ x = c) (S := fun x => x = c) (gn := gn) (f := f) hn (fun x hx => Or.inr hx) (by rw [am_s_other _ _ (by simp), am_s_other _ _ (by simp)]; exact ef) (am_s_same _ _ _) (fun x hx hxc => ?_) (fun x hx => ?_) (fun st2 h2 => ?_)
      · constructor
        · intro y
          rcases y with y | y
          · exact ⟨fun z => absurd (z.symm.trans y) (by decide), (hst x hx).2⟩
          · exact absurd y hxc
        · rintro ⟨y, _⟩
          exact Or.inl ((G.st x hx).resolve_left y)
      · rw [am_s_other _ _ (by simp), am_s_same, (hst x hx).1]
        by_cases e : x = c
        · rw [if_pos e]
          exact ⟨fun z => absurd e z, fun _ => ⟨0, Nat.le_refl _, rfl, e, fun m' hm' => absurd hm' (Nat.not_lt_zero _)⟩⟩
        · rw [if_neg e]
          exact ⟨fun _ => rfl, fun z => absurd z e⟩
      · obtain ⟨q1, q2, q3, q4⟩ := v1 c hc
        have e1 : am_s (am_s (am_s M (3, 0, 29) st) (3, 0, 30) gn) (3, 0, 29) st2 (3, 0, 1) = f := by rw [F0 st2 _ (by simp) (by simp)]; exact ef
        obtain ⟨k1, k0⟩ := check _ (F0 st2) (fun o ho y => by
          rw [am_s_same]
          have hT : (fun x => f (192 + x) = 1 ∨ x = c) = stn f := by
            funext x
            apply propext
            constructor
            · rintro (z | z)
              · exact z
              · subst z; exact y
            · exact Or.inl
          rw [hT] at h2
          exact (h2 o ho).ne hn) 64 0 (by omega)
        rw [q2, e1]
        refine ⟨q1, fun z => ⟨65, k0 (fun y => z y.1)⟩, fun z => ⟨65, k1 ⟨z, fun i hi => absurd hi (Nat.not_lt_zero _)⟩⟩⟩
    | succ j ih =>
      intro o ho st gn hst
      have ho64 : o < 64 := by omega
      have go : ∀ x : Int32, x = (if o = c then 0 else -1) → w_X12_isSpot_p23 postI (w_X12_isSpot_p2 postI (j + 1)) (nI c) (nI n) (nI o) x (nI o) (am_s (am_s M (3, 0, 29) st) (3, 0, 30) gn) N := by
        intro x hx
        unfold w_X12_isSpot_p23
        rw [nI_clamp (show o < 2 ^ 31 by omega), nI_1, am2_u, am_u_s, nar0]
        refine ⟨vp_in_nI ho64 (by omega), vp_in_nI ho64 (by omega), ih (o + 1) (by omega) _ _ (fun i hi => ?_)⟩
        by_cases e : i = o
        · subst e
          rw [pk_us, pk_us]
          exact ⟨hx, rfl⟩
        · rw [pk_un e, pk_un e]
          exact hst i (by omega)
      rw [w_X12_isSpot_p2_s]
      unfold w_X12_isSpot_p2_b
      refine ⟨fun z => absurd z (nI_ge (b := 64) (by omega) (by omega)), fun _ => ⟨fun z => go _ (if_neg (fun e => z (by rw [e]))).symm, fun z => go _ (if_pos ((nI_eq (by omega) (by omega)).mp z)).symm⟩⟩
  have k0 := key 64 0 (by omega) (M (3, 0, 29)) (M (3, 0, 30)) (fun i hi => absurd hi (Nat.not_lt_zero _))
  rw [am_s_id, am_s_id] at k0
  exact k0
theorem lg0 {x : Int64} : x = 0 ↔ ∀ i, i < 64 → tb x i = false := by
  constructor
  · rintro rfl i _
    exact tb_0 i
  · intro h
    exact tb_ext (fun i hi => by rw [h i hi, tb_0])
theorem popT_0 {x : Int64} : ∀ n, popT x n = 0 ↔ ∀ i, i < n → tb x i = false
  | 0 => ⟨fun _ i hi => absurd hi (Nat.not_lt_zero _), fun _ => rfl⟩
  | n + 1 => by
    have ih := popT_0 (x := x) n
    show popT x n + (if tb x n = true then 1 else 0) = 0 ↔ _
    by_cases e : tb x n = true
    · rw [if_pos e]
      exact ⟨fun z => by omega, fun z => absurd (z n (by omega)) (by rw [e]; decide)⟩
    · rw [if_neg e, Nat.add_zero, ih]
      constructor
      · intro z i hi
        by_cases ei : i = n
        · subst ei
          cases h : tb x i
          · rfl
          · exact absurd h e
        · exact z i (by omega)
      · exact fun z i hi => z i (by omega)
theorem popT_le {x : Int64} : ∀ n, popT x n ≤ n
  | 0 => Nat.le_refl _
  | n + 1 => by
    have ih := popT_le (x := x) n
    show popT x n + (if tb x n = true then 1 else 0) ≤ n + 1
    by_cases e : tb x n = true
    · rw [if_pos e]; omega
    · rw [if_neg e]; omega
theorem ill0 {x : Int64} : nI (popT x 64) = 0 ↔ x = 0 := by
  rw [lg0, ← popT_0 64]
  exact nI_eq (b := 0) (by have := popT_le (x := x) 64; omega) (by omega)
theorem tb_nz {x : Int64} {i : Nat} (hi : i < 64) : x &&& am_bit (nI i) = 0 ↔ tb x i = false := by
  rw [lg0]
  constructor
  · intro h
    have := h i hi
    rw [tb_and, tb_bit i hi i hi, decide_eq_true (rfl : i = i), Bool.and_true] at this
    exact this
  · intro h k hk
    rw [tb_and, tb_bit i hi k hk]
    by_cases e : k = i
    · subst e; rw [h]; rfl
    · rw [decide_eq_false e, Bool.and_false]
theorem i_sub0 {a b : Int32} (h : a - b = 0) : a = b := by
  have h2 : a - b + b = 0 + b := by rw [h]
  rw [Int32.sub_add_cancel, Int32.zero_add] at h2
  exact h2
theorem i_subs (a b : Int32) : a - b + (-1) = a - (b + 1) := by
  rw [Int32.sub_eq_add_neg a (b + 1), Int32.neg_add, Int32.sub_eq_add_neg (-b), ← Int32.add_assoc, ← Int32.sub_eq_add_neg a b]
theorem q_spot (S : StC 0 bk cn full but M N f fe lo) (hn : n ≤ 64) (G : GP cn f) : ∀ (j c : Nat), c + j = 64 → ∀ s : Int32, ∃ v, (∀ post, post v M N → w_X4_spotOf_p14 post (j + 1) (N (1, 0, 6) 8) (N (1, 0, 6) 9) (nI n) a2 s (nI c) M N) ∧ ∀ M1 N1, M1 (3, 0, 1) = f → ∀ post, (∀ M2, FrS M1 M2 → post v M2 N1) → w_X12_spot_p28 post (j + 1) (nI n) (a2 - s) (nI c) M1 N1 := by
  intro j
  induction j with
  | zero =>
    intro c hc s
    have hc' : c = 64 := by omega
    subst hc'
    refine ⟨-1, fun post h => ?_, fun M1 N1 e1 post h => ?_⟩
    · rw [w_X4_spotOf_p14_s]
      unfold w_X4_spotOf_p14_b
      exact ⟨fun _ => h, fun z => absurd (nI_le (a := 64) (b := 64) (by omega) (by omega)) z⟩
    · rw [w_X12_spot_p28_s]
      unfold w_X12_spot_p28_b
      exact ⟨fun _ => h M1 FrS.rf, fun z => absurd (nI_le (a := 64) (b := 64) (by omega) (by omega)) z⟩
  | succ j ih =>
    intro c hc s
    have hc64 : c < 64 := by omega
    have hb : ∀ x, x < 64 → (tb (am_bit (nI c)) x = true ↔ x = c) := fun x hx => by rw [tb_bit c hc64 x hx, decide_eq_true_eq]
    have hst : ∀ x, x < 64 → (tb (N (1, 0, 6) 8) x = true ↔ stn f x) := fun x hx => S.w.p.st x hx
    -- the class's test
    have sub : f (192 + c) = 1 → ∀ y, (∀ x, x < 64 → (tb y x = true ↔ Rch (stn f) (fun z => z = c) n x)) → (N (1, 0, 6) 9 &&& (y ^^^ (-1)) = 0 ↔ Spot f n c) := by
      intro h1 y hy
      rw [lg0]
      constructor
      · intro h
        refine ⟨h1, fun o ho hi => (hy o ho).mp ?_⟩
        have := h o ho
        rw [tb_and, tb_not _ ho, (S.w.p.il o ho).mpr hi, Bool.true_and] at this
        cases e : tb y o
        · rw [e] at this; exact absurd this (by decide)
        · rfl
      · rintro ⟨_, h⟩ o ho
        rw [tb_and, tb_not _ ho]
        cases e : tb (N (1, 0, 6) 9) o
        · rfl
        · rw [(hy o ho).mpr (h o ho ((S.w.p.il o ho).mp e))]; rfl
    by_cases e : Spot f n c
    · have e1 := e.1
      have t1 : ¬ N (1, 0, 6) 8 &&& am_bit (nI c) = 0 := fun z => by
        have := (tb_nz hc64).mp z
        rw [(S.w.p.st c hc64).mpr e1] at this
        exact absurd this (by decide)
      by_cases es : s = a2
      · refine ⟨nI c, fun post h => ?_, fun M1 N1 ef post h => ?_⟩
        · rw [w_X4_spotOf_p14_s]
          unfold w_X4_spotOf_p14_b
          refine ⟨fun z => absurd z (nI_ge (b := 64) (by omega) (by omega)), fun _ => eq_X11_bit.mpr ⟨fun z => absurd z t1, fun _ => eq_X11_bit.mpr (c_reached (by omega) hb hst (fun y hy => ⟨fun _ => ⟨fun z => absurd es z, fun _ => h⟩, fun z => absurd ((sub e1 y hy).mpr e) z⟩))⟩⟩
        · rw [w_X12_spot_p28_s]
          unfold w_X12_spot_p28_b
          refine ⟨fun z => absurd z (nI_ge (b := 64) (by omega) (by omega)), fun _ => r_isSpot ef G hc64 hn (fun _ M2 F => ⟨fun _ => ⟨fun z => absurd (by rw [es]; exact Int32.sub_self _) z, fun _ => h M2 F⟩, fun z => absurd z (by decide)⟩) (fun z => absurd e z)⟩
      · obtain ⟨v, k1, k2⟩ := ih (c + 1) (by omega) (s + 1)
        refine ⟨v, fun post h => ?_, fun M1 N1 ef post h => ?_⟩
        · rw [w_X4_spotOf_p14_s]
          unfold w_X4_spotOf_p14_b
          rw [nI_1]
          refine ⟨fun z => absurd z (nI_ge (b := 64) (by omega) (by omega)), fun _ => eq_X11_bit.mpr ⟨fun z => absurd z t1, fun _ => eq_X11_bit.mpr (c_reached (by omega) hb hst (fun y hy => ⟨fun _ => ⟨fun _ => k1 post h, fun z => absurd z es⟩, fun z => absurd ((sub e1 y hy).mpr e) z⟩))⟩⟩
        · rw [w_X12_spot_p28_s]
          unfold w_X12_spot_p28_b
          rw [nI_1]
          refine ⟨fun z => absurd z (nI_ge (b := 64) (by omega) (by omega)), fun _ => r_isSpot ef G hc64 hn (fun _ M2 F => ⟨fun _ => ⟨fun _ => ?_, fun z => absurd (i_sub0 z).symm es⟩, fun z => absurd z (by decide)⟩) (fun z => absurd e z)⟩
          have := k2 M2 N1 (by rw [F _ (by simp) (by simp)]; exact ef) post (fun M3 F3 => h M3 (F.tr F3))
          rw [i_subs]
          exact this
    · obtain ⟨v, k1, k2⟩ := ih (c + 1) (by omega) s
      refine ⟨v, fun post h => ?_, fun M1 N1 ef post h => ?_⟩
      · rw [w_X4_spotOf_p14_s]
        unfold w_X4_spotOf_p14_b
        rw [nI_1]
        refine ⟨fun z => absurd z (nI_ge (b := 64) (by omega) (by omega)), fun _ => eq_X11_bit.mpr ⟨fun _ => k1 post h, fun z => eq_X11_bit.mpr (c_reached (by omega) hb hst (fun y hy => ⟨fun z2 => absurd ((sub ?_ y hy).mp z2) e, fun _ => k1 post h⟩))⟩⟩
        refine Classical.byContradiction fun w => z ((tb_nz hc64).mpr ?_)
        exact (tb_st S hc64).mpr w
      · rw [w_X12_spot_p28_s]
        unfold w_X12_spot_p28_b
        rw [nI_1]
        exact ⟨fun z => absurd z (nI_ge (b := 64) (by omega) (by omega)), fun _ => r_isSpot ef G hc64 hn (fun z => absurd z e) (fun _ M2 F => ⟨fun z => absurd rfl z, fun _ => k2 M2 N1 (by rw [F _ (by simp) (by simp)]; exact ef) post (fun M3 F3 => h M3 (F.tr F3))⟩)⟩
theorem IRf.ofM {lg : Lg} {NN now : Nat} {wd : Nat → Nat} (R : IRf bk lg NN now wd M N) (F : FrM M N M1 N1) (S : StM (cut bk (cnL lg NN)) (cnL lg NN) noBut M1 N1 (rep bk noBut lg now NN).1 (rep bk noBut lg now NN).2.1 (rep bk noBut lg now NN).2.2) : IRf bk lg NN now wd M1 N1 := by
  refine ⟨R.K.cg F, fun q hq => ?_, R.L.cg F, ⟨S, Nat.le_refl _, R.rm.up, R.rm.lo⟩, ?_⟩
  · rw [F.row (by decide) (by omega)]; exact R.D q hq
  · have e0 : M1 (3, 0, 0) = M (3, 0, 0) := F.row (by decide) (by omega)
    exact ⟨by rw [e0]; exact R.ct.n, by rw [e0]; exact R.ct.r, by rw [e0]; exact R.ct.c, by rw [e0]; exact R.ct.w, by rw [e0]; exact R.ct.l, by rw [e0]; exact R.ct.k, by rw [e0]; exact R.ct.bw⟩
theorem call_spot (h : INVW M N) : w_X11_spot a1 a2 M N (fun r M1 N1 => w_X12_spot a1 a2 M1 N1 (fun r2 M2 N2 => r = r2 ∧ FrX M N M2 N2 ∧ INVW M2 N2)) := by
  have h0 := h
  obtain ⟨bk, lg, NN, now, wd, P, I, R⟩ := h
  have no : (-1 : Int32) = -1 ∧ FrX M N M N ∧ INVW M N := ⟨rfl, FrX.rf, h0⟩
  unfold w_X11_spot
  refine eq_X11_within.mpr ?_
  by_cases y1 : 0 ≤ a1 ∧ a1 ≤ 64
  · rw [am_bt y1]
    obtain ⟨n, hn, rfl⟩ : ∃ x, x ≤ 64 ∧ a1 = nI x := nI_of2 (M := 64) (n := 64) rfl (Int32.not_lt.mpr y1.1) y1.2
    refine ⟨fun z => absurd z (by decide), fun _ => ⟨fun y2 => ?_, fun y2 => ?_⟩⟩
    · have ref : ∀ K, w_X12_illMany M N (fun zr4 zM5 zN6 => ((¬ zr4 = 0 → ∃ n_1, w_X12_spot_p28 K n_1 (nI n) a2 0 zM5 zN6) ∧ (zr4 = 0 → K (-1) zM5 zN6))) → w_X12_spot (nI n) a2 M N K := by
        intro K hK
        unfold w_X12_spot
        refine eq_X12_isIn.mpr ?_
        rw [am_bt y1]
        exact ⟨fun z => absurd z (by decide), fun _ => ⟨fun z => absurd y2 (Int32.not_le.mpr z), fun _ => hK⟩⟩
      unfold w_X4_spotOf
      obtain ⟨v, k1, k2⟩ := q_spot (n := n) (a2 := a2) I.cl.w hn P.good.p 64 0 (by omega) 0
      refine ⟨fun z => ⟨65, k1 _ (ref _ (r_illMany I.cl.w R.rm.w ⟨fun _ => ⟨65, ?_⟩, fun z2 => absurd (ill0.mp z2) z⟩))⟩, fun z => ref _ (r_illMany I.cl.w R.rm.w ⟨fun z2 => absurd (ill0.mpr z) z2, fun _ => no⟩)⟩
      have := k2 M N R.rm.w.f (fun r2 M2 N2 => v = r2 ∧ FrX M N M2 N2 ∧ INVW M2 N2) (fun M2 F => by
        have F2 : FrM M N M2 N := F.frM
        exact ⟨rfl, FrX.of FrC.rf (FrR.ofM F2), bk, lg, NN, now, wd, P, I.ofR (FrR.ofM F2), R.ofM F2 (R.rm.w.nx F2 (by rw [F _ (by simp) (by simp)]; exact R.rm.w.f) R.rm.w.fe R.rm.w.lo)⟩)
      rw [Int32.sub_zero] at this
      exact this
    · unfold w_X12_spot
      refine eq_X12_isIn.mpr ?_
      rw [am_bt y1]
      exact ⟨fun z => absurd z (by decide), fun _ => ⟨fun _ => no, fun z => absurd (Int32.not_lt.mp z) y2⟩⟩
  · rw [am_bf y1]
    refine ⟨fun _ => ?_, fun z => absurd rfl z⟩
    unfold w_X12_spot
    refine eq_X12_isIn.mpr ?_
    rw [am_bf y1]
    exact ⟨fun _ => no, fun z => absurd rfl z⟩
end SPT
