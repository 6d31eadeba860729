/-! ===== what holds behind the constructors ===== -/
def Z0 : am_I := fun _ _ => 0
def ZN0 : am_N := fun _ _ => 0
def M5o (M3 : am_I) : am_I := am_u (am_u (tabM 6 12 2 M3) (0, 0, 0) 8 0) (0, 0, 0) 9 (-1)
def M6o (M : am_I) : am_I := am_u (am_u M (3, 0, 0) 30 (-1)) (3, 0, 0) 51 (-1)
def M7o (M : am_I) : am_I := am_s (M6o M) (3, 0, 1) (fun i => if i < 1635 then begF i else M6o M (3, 0, 1) i)
def N7o (N : am_N) : am_N := am_ul (am_ul N (3, 0, 0) 2 0) (3, 0, 0) 3 0
section I0
variable {M M1 M2 M3 : am_I} {N N1 N2 N3 : am_N} {b : Nat} {cn : Cn} {but : Nat → Nat → Prop} {f : Nat → Int32} {fe lo : Int64} {t : Nat} {mo wi : Int32} {c : am_C}
theorem RelW.cgw (h : RelW b cn but M N f fe lo) (e : ∀ i, M1 (1, b, i) = M (1, b, i) ∧ N1 (1, b, i) = N (1, b, i)) : RelW b cn but M1 N1 f fe lo := by
  refine ⟨?_, ?_, ?_, ?_, ?_, ?_, ?_⟩
  · rw [(e 2).1, (e 3).1, (e 4).1]; exact h.g
  · rw [(e 6).2, (e 7).1, (e 8).1, (e 9).1, (e 10).1, (e 11).1, (e 12).1, (e 6).1]; exact h.p
  · rw [(e 15).1, (e 16).1, (e 17).1, (e 18).1, (e 19).2]; exact h.c
  · rw [(e 20).1, (e 21).1]; exact h.k
  · rw [(e 22).1, (e 0).1]; exact h.s
  · rw [(e 1).2]; exact h.fe
  · rw [(e 1).2]; exact h.lo
theorem tab_o (h : c ≠ (2, t, 0)) : tabM t mo wi M c = M c := by
  unfold tabM
  rw [am_u_o _ _ _ h, am_u_o _ _ _ h, am_u_o _ _ _ h]
theorem tab_1 : tabM t mo wi M (2, t, 0) 1 = wi := by
  unfold tabM
  rw [am_u_c, pk_un (by decide), am_u_c, pk_us]
theorem tab_2 : tabM t mo wi M (2, t, 0) 2 = mo := by
  unfold tabM
  rw [am_u_c, pk_un (by decide), am_u_c, pk_un (by decide), am_u_c, pk_us]
theorem tab_3 : tabM t mo wi M (2, t, 0) 3 = 0 := by
  unfold tabM
  rw [am_u_c, pk_us]
theorem book_o (h : c.1 ≠ 2) : bookM M c = M c := by
  have n : ∀ t, c ≠ (2, t, 0) := fun t w => h (by rw [w])
  unfold bookM
  rw [tab_o (n _), tab_o (n _), tab_o (n _), tab_o (n _), tab_o (n _), tab_o (n _)]
theorem bk_tab : bookM M (2, 0, 0) 1 = 5 ∧ bookM M (2, 0, 0) 2 = 400 ∧ bookM M (2, 0, 0) 3 = 0 ∧ bookM M (2, 1, 0) 1 = 3 ∧ bookM M (2, 1, 0) 2 = 30 ∧ bookM M (2, 1, 0) 3 = 0 ∧ bookM M (2, 2, 0) 1 = 5 ∧ bookM M (2, 2, 0) 2 = 8 ∧ bookM M (2, 2, 0) 3 = 0 ∧ bookM M (2, 3, 0) 1 = 3 ∧ bookM M (2, 3, 0) 2 = 60 ∧ bookM M (2, 3, 0) 3 = 0 ∧ bookM M (2, 4, 0) 1 = 6 ∧ bookM M (2, 4, 0) 2 = 5 ∧ bookM M (2, 4, 0) 3 = 0 ∧ bookM M (2, 5, 0) 1 = 1 ∧ bookM M (2, 5, 0) 2 = 40 ∧ bookM M (2, 5, 0) 3 = 0 := by
  have e0 : bookM M (2, 0, 0) = tabM 0 400 5 M (2, 0, 0) := by
    unfold bookM
    rw [tab_o (by simp), tab_o (by simp), tab_o (by simp), tab_o (by simp), tab_o (by simp)]
  have e1 : bookM M (2, 1, 0) = tabM 1 30 3 (tabM 0 400 5 M) (2, 1, 0) := by
    unfold bookM
    rw [tab_o (by simp), tab_o (by simp), tab_o (by simp), tab_o (by simp)]
  have e2 : bookM M (2, 2, 0) = tabM 2 8 5 (tabM 1 30 3 (tabM 0 400 5 M)) (2, 2, 0) := by
    unfold bookM
    rw [tab_o (by simp), tab_o (by simp), tab_o (by simp)]
  have e3 : bookM M (2, 3, 0) = tabM 3 60 3 (tabM 2 8 5 (tabM 1 30 3 (tabM 0 400 5 M))) (2, 3, 0) := by
    unfold bookM
    rw [tab_o (by simp), tab_o (by simp)]
  have e4 : bookM M (2, 4, 0) = tabM 4 5 6 (tabM 3 60 3 (tabM 2 8 5 (tabM 1 30 3 (tabM 0 400 5 M)))) (2, 4, 0) := by
    unfold bookM
    rw [tab_o (by simp)]
  have e5 : bookM M (2, 5, 0) = tabM 5 40 1 (tabM 4 5 6 (tabM 3 60 3 (tabM 2 8 5 (tabM 1 30 3 (tabM 0 400 5 M))))) (2, 5, 0) := rfl
  rw [e0, e1, e2, e3, e4, e5]
  exact ⟨tab_1, tab_2, tab_3, tab_1, tab_2, tab_3, tab_1, tab_2, tab_3, tab_1, tab_2, tab_3, tab_1, tab_2, tab_3, tab_1, tab_2, tab_3⟩
theorem RelW.nb (h : RelW b cn0 (butOf (-1) (-1)) M N f fe lo) : RelW b cn0 noBut M N f fe lo := by
  refine ⟨h.g, h.p, ⟨fun q hq => absurd hq (Nat.not_lt_zero _), fun q hq => absurd hq (Nat.not_lt_zero _), fun q hq _ => h.c.off q hq (Or.inl (Nat.zero_le _)), h.c.new⟩, h.k, ⟨h.s.set, h.s.now, h.s.kt, h.s.lt, fun k i hk hi => ?_⟩, h.fe, h.lo⟩
  rw [h.s.but k i hk hi]
  exact ⟨fun w => absurd w.1.symm (nm1 (by omega)), fun w => w.elim⟩
theorem inv_start (B0 : BG 0 (bookM Z0) ZN0 M2 N2) (B1 : BG 1 M2 N2 M3 N3) : INV (M7o (M5o M3)) (N7o N3) := by
  -- the memory, cell by cell
  have m3 : ∀ c : am_C, c.1 ≠ 1 → M3 c = bookM Z0 c ∧ N3 c = ZN0 c := fun c h => by
    obtain ⟨a1, a2⟩ := B1.1 c (fun w => h w.1)
    obtain ⟨a3, a4⟩ := B0.1 c (fun w => h w.1)
    exact ⟨a1.trans a3, a2.trans a4⟩
  have o7 : ∀ c : am_C, c ≠ (3, 0, 1) → c ≠ (3, 0, 0) → M7o (M5o M3) c = M5o M3 c := fun c h1 h2 => by
    unfold M7o M6o
    rw [am_s_other _ _ h1, am_u_o _ _ _ h2, am_u_o _ _ _ h2]
  have o5 : ∀ c : am_C, c ≠ (0, 0, 0) → c ≠ (2, 6, 0) → M5o M3 c = M3 c := fun c h1 h2 => by
    unfold M5o
    rw [am_u_o _ _ _ h1, am_u_o _ _ _ h1, tab_o h2]
  have w1 : ∀ b i, M7o (M5o M3) (1, b, i) = M3 (1, b, i) ∧ N7o N3 (1, b, i) = N3 (1, b, i) := fun b i => by
    refine ⟨by rw [o7 _ (by simp) (by simp), o5 _ (by simp) (by simp)], ?_⟩
    unfold N7o
    rw [am_ul_o _ _ _ (by simp), am_ul_o _ _ _ (by simp)]
  have t2 : ∀ t, t < 6 → M7o (M5o M3) (2, t, 0) = bookM Z0 (2, t, 0) := fun t ht => by
    rw [o7 _ (by simp) (by simp), o5 _ (by simp) (fun w => by
      have : t = 6 := congrArg (fun c : am_C => c.2.1) w
      omega), (m3 _ (show (2 : Nat) ≠ 1 by decide)).1]
  have t6 : M7o (M5o M3) (2, 6, 0) = tabM 6 12 2 M3 (2, 6, 0) := by
    rw [o7 _ (by simp) (by simp)]
    unfold M5o
    rw [am_u_o _ _ _ (by simp), am_u_o _ _ _ (by simp)]
  have z0 : ∀ i j, i ≠ 0 → M7o (M5o M3) (0, 0, i) j = 0 := fun i j hi => by
    have hne : ((0, 0, i) : am_C) ≠ (0, 0, 0) := fun w => hi (congrArg (fun c : am_C => c.2.2) w)
    rw [o7 _ (by simp) (by simp), o5 _ hne (by simp), (m3 _ (show (0 : Nat) ≠ 1 by decide)).1, book_o (show (0 : Nat) ≠ 2 by decide)]
    rfl
  have z3 : ∀ i j, i ≠ 0 → i ≠ 1 → M7o (M5o M3) (3, 0, i) j = 0 := fun i j hi h1 => by
    have hne : ((3, 0, i) : am_C) ≠ (3, 0, 0) := fun w => hi (congrArg (fun c : am_C => c.2.2) w)
    have hne1 : ((3, 0, i) : am_C) ≠ (3, 0, 1) := fun w => h1 (congrArg (fun c : am_C => c.2.2) w)
    rw [o7 _ hne1 hne, o5 _ (by simp) (by simp), (m3 _ (show (3 : Nat) ≠ 1 by decide)).1, book_o (show (3 : Nat) ≠ 2 by decide)]
    rfl
  have r0 : ∀ j, j ≠ 30 → j ≠ 51 → M7o (M5o M3) (3, 0, 0) j = 0 := fun j h1 h2 => by
    unfold M7o M6o
    rw [am_s_other _ _ (by simp), am_u_c, pk_un h2, am_u_c, pk_un h1, o5 _ (by simp) (by simp), (m3 _ (show (3 : Nat) ≠ 1 by decide)).1, book_o (show (3 : Nat) ≠ 2 by decide)]
    rfl
  have r30 : M7o (M5o M3) (3, 0, 0) 30 = -1 := by
    unfold M7o M6o
    rw [am_s_other _ _ (by simp), am_u_c, pk_un (by decide), am_u_c, pk_us]
  have r51 : M7o (M5o M3) (3, 0, 0) 51 = -1 := by
    unfold M7o M6o
    rw [am_s_other _ _ (by simp), am_u_c, pk_us]
  have rf : M7o (M5o M3) (3, 0, 1) = begF := by
    unfold M7o
    rw [am_s_same]
    funext i
    by_cases h : i < 1635
    · rw [if_pos h]
    · rw [if_neg h, begF_at (by omega) (by omega)]
      unfold M6o
      rw [am_u_o _ _ _ (by simp), am_u_o _ _ _ (by simp), o5 _ (by simp) (by simp), (m3 _ (show (3 : Nat) ≠ 1 by decide)).1, book_o (show (3 : Nat) ≠ 2 by decide)]
      rfl
  have n2 : N7o N3 (3, 0, 0) 2 = 0 := by
    unfold N7o
    rw [ul_n (by decide), ul_s]
  have n3 : N7o N3 (3, 0, 0) 3 = 0 := by
    unfold N7o
    rw [ul_s]
  have p8 : M7o (M5o M3) (0, 0, 0) 8 = 0 := by
    rw [o7 _ (by simp) (by simp)]
    unfold M5o
    rw [am_u_c, pk_un (by decide), am_u_c, pk_us]
  have p9 : M7o (M5o M3) (0, 0, 0) 9 = -1 := by
    rw [o7 _ (by simp) (by simp)]
    unfold M5o
    rw [am_u_c, pk_us]
  have R0 : RelW 0 cn0 noBut (M7o (M5o M3)) (N7o N3) begF 0 0 := (B0.2.1.nb).cgw (fun i => by
    obtain ⟨a1, a2⟩ := w1 0 i
    obtain ⟨a3, a4⟩ := B1.1 (1, 0, i) (fun w => absurd w.2 (show ¬ (0 : Nat) = 1 by decide))
    exact ⟨a1.trans a3, a2.trans a4⟩)
  have R1 : RelW 1 cn0 (butOf (-1) (-1)) (M7o (M5o M3)) (N7o N3) begF 0 0 := B1.2.1.cgw (fun i => w1 1 i)
  have e09 : M7o (M5o M3) (1, 0, 0) 9 = nI 0 := by
    rw [(w1 0 0).1, (B1.1 (1, 0, 0) (fun w => absurd w.2 (show ¬ (0 : Nat) = 1 by decide))).1]
    exact B0.2.2.1
  have e19 : M7o (M5o M3) (1, 1, 0) 9 = nI 0 := by rw [(w1 1 0).1]; exact B1.2.2.1
  have e12 : M7o (M5o M3) (1, 1, 0) 12 = -1 := by rw [(w1 1 0).1]; exact B1.2.2.2.1
  have e13 : M7o (M5o M3) (1, 1, 0) 13 = -1 := by rw [(w1 1 0).1]; exact B1.2.2.2.2
  obtain ⟨b01, b02, b03, b11, b12, b13, b21, b22, b23, b31, b32, b33, b41, b42, b43, b51, b52, b53⟩ := bk_tab (M := Z0)
  generalize M7o (M5o M3) = M at *
  generalize N7o N3 = N at *
  have no : ∀ {P : Nat → Prop}, ∀ i, i < 0 → P i := fun i hi => absurd hi (Nat.not_lt_zero _)
  have KC : BkC M (fun _ _ => 0) cn0 cn0 := ⟨⟨Nat.le_refl _, Nat.le_refl _, Nat.le_refl _, Nat.le_refl _, Nat.le_refl _⟩, ⟨by rw [t2 1 (by decide)]; exact b11, by rw [t2 1 (by decide)]; exact b13, by decide, by decide, by decide, by decide⟩, ⟨by rw [t2 2 (by decide)]; exact b21, by rw [t2 2 (by decide)]; exact b23, by decide, by decide, by decide, by decide⟩, ⟨by rw [t2 3 (by decide)]; exact b31, by rw [t2 3 (by decide)]; exact b33, by decide, by decide, by decide, by decide⟩, ⟨by rw [t2 4 (by decide)]; exact b41, by rw [t2 4 (by decide)]; exact b43, by decide, by decide, by decide, by decide⟩, ⟨by rw [t2 5 (by decide)]; exact b51, by rw [t2 5 (by decide)]; exact b53, by decide, by decide, by decide, by decide⟩, no, no, no, no, no⟩
  have ec : cut (fun _ _ => 0) cn0 = (fun _ _ => 0 : Bk) := by
    funext t i
    unfold cut
    by_cases h : i < bndB cn0 t
    · rw [if_pos h]
    · rw [if_neg h]
  have cb0 : CnB cn0 := ⟨Nat.zero_le _, Nat.zero_le _, Nat.zero_le _, Nat.zero_le _, Nat.zero_le _⟩
  refine ⟨⟨(fun _ _ => 0), (fun _ _ => 0), 0, 0, (fun _ => 0), ⟨⟨by decide, ⟨no, fun i j _ hj => absurd hj (Nat.not_lt_zero _)⟩, ⟨no, no, no, no, no⟩, no, no⟩, by decide, no, fun _ _ => rfl, fun _ => Nat.zero_le _⟩, ⟨KC, no, ⟨⟨by rw [t2 0 (by decide)]; exact b01, by rw [t2 0 (by decide)]; exact b03, by decide, by decide, by decide, by decide⟩, no, no⟩, ⟨by rw [t2 0 (by decide)]; exact b02, by rw [t2 1 (by decide)]; exact b12, by rw [t2 2 (by decide)]; exact b22, by rw [t2 3 (by decide)]; exact b32, by rw [t2 4 (by decide)]; exact b42, by rw [t2 5 (by decide)]; exact b52⟩, ?_, 0, 0, Nat.le_refl _, ?_⟩, ⟨⟨no, no, no, no, no⟩, fun k _ => z3 22 k (by decide) (by decide), ⟨no, no⟩, ?_, ⟨r0 4 (by decide) (by decide), r0 10 (by decide) (by decide), r0 11 (by decide) (by decide), r0 12 (by decide) (by decide), r0 13 (by decide) (by decide), r0 14 (by decide) (by decide), r30⟩⟩⟩, ?_, ?_⟩
  · refine ⟨⟨?_, cb0, R0⟩, e09, Nat.le_refl _, no, fun _ _ h => absurd h (Nat.not_lt_zero _)⟩
    show BkC M (cut (fun _ _ => 0) cn0) cn0 cn0
    rw [ec]; exact KC
  · rw [e12, e13]
    refine ⟨⟨?_, cb0, R1⟩, e19, Nat.le_refl _, no, fun _ _ h => absurd h (Nat.not_lt_zero _)⟩
    show BkC M (cut (fun _ _ => 0) cn0) cn0 cn0
    rw [ec]; exact KC
  · refine ⟨⟨⟨no, no, no, no, no⟩, rf, n2, n3, fun k i hk _ => ?_⟩, Nat.le_refl _, no, fun _ _ h => absurd h (Nat.not_lt_zero _)⟩
    rw [r30]
    exact ⟨fun w => absurd w.1.symm (nm1 (by omega)), fun w => w.elim⟩
  · refine ⟨(fun _ => 0), (fun _ => 0), 0, Nat.zero_le _, ⟨by rw [t6]; exact tab_1, by rw [t6]; exact tab_3, by decide, by decide, by decide, by decide⟩, by rw [t6]; exact tab_2, r0 42 (by decide) (by decide), no, no⟩
  · refine ⟨(fun _ => 0), 0, 0, -1, [], [], Nat.zero_le _, no, z0 7 4 (by decide), r0 47 (by decide) (by decide), Nat.zero_le _, p8, r0 45 (by decide) (by decide), p9, r51, r0 46 (by decide) (by decide), Nat.zero_le _, no, Nat.zero_le _, fun _ => rfl, fun y hy => absurd hy List.not_mem_nil, fun h => absurd h (Nat.lt_irrefl _), Nat.zero_le _, z0 12 2 (by decide), z0 12 3 (by decide), no⟩
end I0
