/-! ===== pull: both sides ===== -/
/-- what a call of both may touch, fields below 41 of the reference's object too -/
def FrX1 (M : am_I) (N : am_N) (M' : am_I) (N' : am_N) : Prop := (∀ c : am_C, ((c.1 = 0 ∧ (c.2.2 < 2 ∨ 6 < c.2.2)) ∨ (c.1 = 2 ∧ c.2.1 = 6) ∨ (c.1 = 3 ∧ 32 ≤ c.2.2)) → M' c = M c ∧ N' c = N c) ∧ ∀ j, 41 ≤ j → M' (3, 0, 0) j = M (3, 0, 0) j
def pullE (post : Int32 → am_I → am_N → Prop) (l3 l4 l5 : Int32) (M : am_I) (N : am_N) : Prop :=
  ((¬ l3 = 0 → w_X12_isIn l3 10 (9 + (M (3, 0, 0) 40)) M N (fun zr1 zM2 zN3 => ((zr1 = 0 → w_X12_isIn l3 20 (19 + (zM2 (3, 0, 0) 40)) zM2 zN3 (fun zr4 zM5 zN6 => ((zr4 = 0 → post (-1) zM5 zN6) ∧ (¬ zr4 = 0 → post ((l4 >>> ((l3 - 20) &&& 31)) &&& 1) zM5 zN6)))) ∧ (¬ zr1 = 0 → vp_in (l3 - 10) 8 ∧ post (zM2 (3, 0, 31) (l3 - 10).toNatClampNeg) zM2 zN3)))) ∧ (l3 = 0 → post l5 M N))
section PL3
variable {M M' M1 M2 : am_I} {N N' N1 : am_N} {bk : Bk} {lg : Lg} {NN now : Nat} {wd : Nat → Nat} {cn : Cn} {f : Nat → Int32} {c n s d : Nat} {y x t : Int64} {a1 a2 a3 : Int32} {post : am_I → am_N → Prop} {postI : Int32 → am_I → am_N → Prop}
theorem FrX.x1 (h : FrX M N M' N') : FrX1 M N M' N' := ⟨h.1, fun j hj => h.2 j (by omega)⟩
theorem IRf.cg2 (I : IRf bk lg NN now wd M N) (e1 : ∀ i, 1 ≤ i → i < 23 → M' (3, 0, i) = M (3, 0, i)) (e0 : ∀ j, j < 40 → M' (3, 0, 0) j = M (3, 0, 0) j) (e2 : N' (3, 0, 0) = N (3, 0, 0)) : IRf bk lg NN now wd M' N' := by
  refine ⟨?_, ?_, ?_, ?_, ?_⟩
  · exact by
      refine ⟨?_, ?_, ?_, ?_, ?_⟩
      · rw [e1 8 (by omega) (by omega), e1 9 (by omega) (by omega), e1 10 (by omega) (by omega)]; exact I.K.r
      · rw [e1 11 (by omega) (by omega), e1 12 (by omega) (by omega), e1 13 (by omega) (by omega), e1 14 (by omega) (by omega), e1 15 (by omega) (by omega)]; exact I.K.c
      · rw [e1 16 (by omega) (by omega), e1 17 (by omega) (by omega), e1 18 (by omega) (by omega)]; exact I.K.w
      · rw [e1 19 (by omega) (by omega)]; exact I.K.l
      · rw [e1 20 (by omega) (by omega), e1 21 (by omega) (by omega)]; exact I.K.k
  · exact by rw [e1 22 (by omega) (by omega)]; exact I.D
  · exact by
      refine ⟨?_, fun i hi => ?_⟩
      · rw [e1 4 (by omega) (by omega)]; exact I.L.h
      · unfold rowM
        rw [e1 3 (by omega) (by omega), e1 5 (by omega) (by omega), e1 6 (by omega) (by omega), e1 7 (by omega) (by omega)]
        exact I.L.r i hi
  · exact by
      refine ⟨⟨⟨?_, ?_, ?_, ?_, ?_⟩, by rw [e1 1 (by omega) (by omega)]; exact I.rm.w.f, by rw [e2]; exact I.rm.w.fe, by rw [e2]; exact I.rm.w.lo, fun k i hk hi => by rw [e0 30 (by omega), e0 31 (by omega)]; exact I.rm.w.but k i hk hi⟩, I.rm.le, I.rm.up, I.rm.lo⟩
      · rw [e1 8 (by omega) (by omega), e1 9 (by omega) (by omega), e1 10 (by omega) (by omega)]; exact I.rm.w.k.r
      · rw [e1 11 (by omega) (by omega), e1 12 (by omega) (by omega), e1 13 (by omega) (by omega), e1 14 (by omega) (by omega), e1 15 (by omega) (by omega)]; exact I.rm.w.k.c
      · rw [e1 16 (by omega) (by omega), e1 17 (by omega) (by omega), e1 18 (by omega) (by omega)]; exact I.rm.w.k.w
      · rw [e1 19 (by omega) (by omega)]; exact I.rm.w.k.l
      · rw [e1 20 (by omega) (by omega), e1 21 (by omega) (by omega)]; exact I.rm.w.k.k
  · exact ⟨by rw [e0 _ (by omega)]; exact I.ct.n, by rw [e0 _ (by omega)]; exact I.ct.r, by rw [e0 _ (by omega)]; exact I.ct.c, by rw [e0 _ (by omega)]; exact I.ct.w, by rw [e0 _ (by omega)]; exact I.ct.l, by rw [e0 _ (by omega)]; exact I.ct.k, by rw [e0 _ (by omega)]; exact I.ct.bw⟩
theorem q_pull (G : GP cn f) (hy : ∀ c, c < 64 → (tb y c = true ↔ NearP f c)) (hst : ∀ c, c < 64 → (tb x c = true ↔ stn f c)) (hil : ∀ c, c < 64 → (tb t c = true ↔ ilP f c)) (hn : n ≤ 64) : ∀ (j s : Nat), s + j = 2 ^ min 8 (popT y 64) → ∀ (bs : Nat) (ls : Int32), bs < 256 → ∃ B L : Int32, (∀ (post : Int32 → am_I → am_N → Prop) (a5 : Int32), ((¬ a5 = 0 → post ((B >>> ((a5 - 20) &&& 31)) &&& 1) M N) ∧ (a5 = 0 → post L M N)) → w_X4_pullOf_p91 post (j + 1) x t a1 (nI n) a5 y (nI (min 8 (popT y 64))) (nI bs) ls (nI s) M N) ∧ ∀ M1 N1, M1 (3, 0, 1) = f → EG y 64 M1 → ∀ (post : Int32 → am_I → am_N → Prop) (a5 : Int32), (∀ M2, FrS M1 M2 → pullE post a5 B L M2 N1) → w_X12_pull_p46 post (j + 1) a1 (nI n) a5 (nI bs) ls (nI s) M1 N1 := by
  have hp : 2 ^ min 8 (popT y 64) ≤ 256 := Nat.le_trans (Nat.pow_le_pow_right (by decide) (show min 8 (popT y 64) ≤ 8 by omega)) (by decide)
  have e1 : (1 : Int32) <<< (nI (min 8 (popT y 64)) &&& 31) = nI (2 ^ min 8 (popT y 64)) := sl_1 (by omega)
  intro j
  induction j with
  | zero =>
    intro s hs bs ls hb
    refine ⟨nI bs, ls, fun post a5 h => ?_, fun M1 N1 ef E post a5 h => ?_⟩
    · rw [w_X4_pullOf_p91_s]
      unfold w_X4_pullOf_p91_b
      rw [e1]
      exact ⟨fun _ => h, fun z => absurd (nI_le (by omega) (by omega)) z⟩
    · rw [w_X12_pull_p46_s]
      unfold w_X12_pull_p46_b
      refine ⟨fun _ => h M1 FrS.rf, fun z => ?_⟩
      rw [E.e, e1] at z
      exact absurd (nI_le (by omega) (by omega)) z
  | succ j ih =>
    intro s hs bs ls hb
    have hs8 : s < 256 := by omega
    have pc : ibc (nI s) = nI (popN s 12) := ibc_pop (by omega)
    have pb : ibc (nI bs) = nI (popN bs 12) := ibc_pop (by omega)
    -- one turn, once it is known what comes of it
    have turn : ∀ (B L : Int32) (bs' : Nat) (ls' : Int32), ((nI (popN s 12) ≤ a1 ∧ (rcV f y n s < ls ∨ (rcV f y n s = ls ∧ nI (popN s 12) < nI (popN bs 12))) ∧ bs' = s ∧ ls' = rcV f y n s) ∨ ((¬ (nI (popN s 12) ≤ a1 ∧ (rcV f y n s < ls ∨ (rcV f y n s = ls ∧ nI (popN s 12) < nI (popN bs 12))))) ∧ bs' = bs ∧ ls' = ls)) → ((∀ (post : Int32 → am_I → am_N → Prop) (a5 : Int32), ((¬ a5 = 0 → post ((B >>> ((a5 - 20) &&& 31)) &&& 1) M N) ∧ (a5 = 0 → post L M N)) → w_X4_pullOf_p91 post (j + 1) x t a1 (nI n) a5 y (nI (min 8 (popT y 64))) (nI bs') ls' (nI (s + 1)) M N) ∧ ∀ M1 N1, M1 (3, 0, 1) = f → EG y 64 M1 → ∀ (post : Int32 → am_I → am_N → Prop) (a5 : Int32), (∀ M2, FrS M1 M2 → pullE post a5 B L M2 N1) → w_X12_pull_p46 post (j + 1) a1 (nI n) a5 (nI bs') ls' (nI (s + 1)) M1 N1) → ((∀ (post : Int32 → am_I → am_N → Prop) (a5 : Int32), ((¬ a5 = 0 → post ((B >>> ((a5 - 20) &&& 31)) &&& 1) M N) ∧ (a5 = 0 → post L M N)) → w_X4_pullOf_p91 post (j + 1 + 1) x t a1 (nI n) a5 y (nI (min 8 (popT y 64))) (nI bs) ls (nI s) M N) ∧ ∀ M1 N1, M1 (3, 0, 1) = f → EG y 64 M1 → ∀ (post : Int32 → am_I → am_N → Prop) (a5 : Int32), (∀ M2, FrS M1 M2 → pullE post a5 B L M2 N1) → w_X12_pull_p46 post (j + 1 + 1) a1 (nI n) a5 (nI bs) ls (nI s) M1 N1) := by
      intro B L bs' ls' hc ⟨k1, k2⟩
      refine ⟨fun post a5 h => ?_, fun M1 N1 ef E post a5 h => ?_⟩
      · have kk := k1 post a5 h
        rw [w_X4_pullOf_p91_s]
        unfold w_X4_pullOf_p91_b w_X4_pullOf_p153
        rw [e1, nI_1]
        refine ⟨fun z => absurd z (nI_ge (by omega) (by omega)), fun _ => eq_J6_bitCount.mpr ?_⟩
        rw [pc]
        refine ⟨fun z1 => c_cellsReached hst hil hs8 hn ⟨fun z2 => ?_, fun z2 => ⟨fun z3 => ?_, fun z3 => eq_J6_bitCount.mpr (eq_J6_bitCount.mpr ?_)⟩⟩, fun z1 => ?_⟩
        · rcases hc with ⟨_, _, r1, r2⟩ | ⟨w, _⟩
          · subst r1; subst r2; exact kk
          · exact absurd ⟨z1, Or.inl z2⟩ w
        · rcases hc with ⟨_, w | w, _⟩ | ⟨_, r1, r2⟩
          · exact absurd w z2
          · exact absurd w.1 z3
          · subst r1; subst r2; exact kk
        · rw [pb, pc]
          refine ⟨fun z4 => ?_, fun z4 => ?_⟩
          · rcases hc with ⟨_, w | w, _⟩ | ⟨_, r1, r2⟩
            · exact absurd w z2
            · exact absurd z4 (Int32.not_le.mpr w.2)
            · subst r1; subst r2; exact kk
          · rcases hc with ⟨_, _, r1, r2⟩ | ⟨w, _⟩
            · subst r1; subst r2; exact kk
            · exact absurd ⟨z1, Or.inr ⟨z3, Int32.not_le.mp z4⟩⟩ w
        · rcases hc with ⟨w, _⟩ | ⟨_, r1, r2⟩
          · exact absurd w z1
          · subst r1; subst r2; exact kk
      · have kk := fun M2 (F : FrS M1 M2) => k2 M2 N1 (by rw [F _ (by simp) (by simp)]; exact ef) (E.cg F) post a5 (fun M3 F3 => h M3 (F.tr F3))
        rw [w_X12_pull_p46_s]
        unfold w_X12_pull_p46_b w_X12_pull_p108
        refine ⟨fun z => ?_, fun _ => r_bits (by omega) ⟨fun z1 => r_reached ef G hy E (by omega) hn (fun M2 F => ⟨fun z2 => ?_, fun z2 => ⟨fun z3 => ?_, fun z3 => r_bits (by omega) (r_bits (by omega) ⟨fun z4 => ?_, fun z4 => ?_⟩)⟩⟩), fun z1 => ?_⟩⟩
        · rw [E.e, e1] at z
          exact absurd z (nI_ge (by omega) (by omega))
        · rw [nI_1]
          rcases hc with ⟨_, w | w, _⟩ | ⟨_, r1, r2⟩
          · exact absurd w (Int32.not_lt.mpr (Int32.le_of_lt z2))
          · exact absurd (by rw [w.1]) (Int32.ne_of_lt z2)
          · subst r1; subst r2; exact kk M2 F
        · rw [nI_1]
          rcases hc with ⟨_, _, r1, r2⟩ | ⟨w, _⟩
          · subst r1; subst r2; exact kk M2 F
          · exact absurd ⟨z1, Or.inl (Int32.lt_of_le_of_ne (Int32.not_lt.mp z2) z3)⟩ w
        · rw [nI_1]
          rcases hc with ⟨_, _, r1, r2⟩ | ⟨w, _⟩
          · subst r1; subst r2; exact kk M2 F
          · exact absurd ⟨z1, Or.inr ⟨z3, z4⟩⟩ w
        · rw [nI_1]
          rcases hc with ⟨_, w | w, _⟩ | ⟨_, r1, r2⟩
          · exact absurd z3 (Int32.ne_of_lt w)
          · exact absurd w.2 z4
          · subst r1; subst r2; exact kk M2 F
        · rw [nI_1]
          rcases hc with ⟨w, _⟩ | ⟨_, r1, r2⟩
          · exact absurd w z1
          · subst r1; subst r2; exact kk M1 FrS.rf
    by_cases hc : nI (popN s 12) ≤ a1 ∧ (rcV f y n s < ls ∨ (rcV f y n s = ls ∧ nI (popN s 12) < nI (popN bs 12)))
    · obtain ⟨B, L, kk⟩ := ih (s + 1) (by omega) s (rcV f y n s) hs8
      exact ⟨B, L, turn B L s _ (Or.inl ⟨hc.1, hc.2, rfl, rfl⟩) kk⟩
    · obtain ⟨B, L, kk⟩ := ih (s + 1) (by omega) bs ls hb
      exact ⟨B, L, turn B L bs _ (Or.inr ⟨hc, rfl, rfl⟩) kk⟩
theorem call_pull (h : INVW M N) : w_X11_pull a1 a2 a3 M N (fun r M1 N1 => w_X12_pull a1 a2 a3 M1 N1 (fun r2 M2 N2 => r = r2 ∧ FrX1 M N M2 N2 ∧ INVW M2 N2)) := by
  have h0 := h
  obtain ⟨bk, lg, NN, now, wd, P, I, R⟩ := h
  have no : (-1 : Int32) = -1 ∧ FrX1 M N M N ∧ INVW M N := ⟨rfl, FrX.rf.x1, h0⟩
  unfold w_X11_pull
  refine eq_X11_within.mpr ?_
  by_cases y1 : 1 ≤ a1 ∧ a1 ≤ 3
  · rw [am_bt y1]
    refine ⟨fun z => absurd z (by decide), fun _ => eq_X11_within.mpr ?_⟩
    by_cases y2 : 0 ≤ a2 ∧ a2 ≤ 64
    · rw [am_bt y2]
      obtain ⟨n, hn, rfl⟩ : ∃ x, x ≤ 64 ∧ a2 = nI x := nI_of2 (M := 64) (n := 64) rfl (Int32.not_lt.mpr y2.1) y2.2
      have ref0 : ∀ K, w_X12_illMany M N (fun zr7 zM8 zN9 => ((¬ zr7 = 0 → w_X12_finds zM8 zN9 (fun zM10 zN11 => w_X12_reached 0 (nI n) zM10 zN11 (fun zr12 zM13 zN14 => ∃ n_1, w_X12_pull_p46 K n_1 a1 (nI n) a3 0 zr12 1 zM13 zN14))) ∧ (zr7 = 0 → K (-1) zM8 zN9))) → w_X12_pull a1 (nI n) a3 M N K := by
        intro K hK
        unfold w_X12_pull
        refine eq_X12_isIn.mpr ?_
        rw [am_bt y1]
        refine ⟨fun z => absurd z (by decide), fun _ => eq_X12_isIn.mpr ?_⟩
        rw [am_bt y2]
        exact ⟨fun z => absurd z (by decide), fun _ => hK⟩
      refine ⟨fun z => absurd z (by decide), fun _ => ⟨fun hill => ?_, fun z => ref0 _ (r_illMany I.cl.w R.rm.w ⟨fun z2 => absurd (ill0.mpr z) z2, fun _ => no⟩)⟩⟩
      have hst := I.cl.w.w.p.st
      have hil := I.cl.w.w.p.il
      have G := P.good.p
      have fin : ∀ M2, FrP M M2 → FrX1 M N M2 N ∧ INVW M2 N := fun M2 F => by
        refine ⟨⟨fun c hc => ⟨F.1 c (fun e => ?_) (fun e => ?_) (fun e => ?_) (fun e => ?_), rfl⟩, fun j hj => F.2 j (by omega)⟩, bk, lg, NN, now, wd, P, I.cg (fun g x i hg => ⟨F.1 _ (fun e => ?_) (fun e => ?_) (fun e => ?_) (fun e => ?_), rfl⟩), R.cg2 (fun i h1 h2 => F.1 _ (fun e => ?_) (fun e => ?_) (fun e => ?_) (fun e => ?_)) (fun j hj => F.2 j (by omega)) rfl⟩
        all_goals (first | (subst e; simp at hc) | (simp only [Prod.mk.injEq] at e; omega))
      have ef := R.rm.w.f
      generalize (rep bk noBut lg now NN).1 = f at hst hil G ef
      unfold w_X4_pullOf
      refine c_stepped (A := ilP f) (T := stn f) hil hst (fun y0 h0y v ev => ?_)
      subst ev
      have hy : ∀ c, c < 64 → (tb (y0 &&& (N (1, 0, 6) 9 ^^^ (-1))) c = true ↔ NearP f c) := fun c hc => by
        rw [tb_and, tb_not _ hc, Bool.and_eq_true, h0y c hc]
        constructor
        · rintro ⟨⟨w1, w2⟩, w3⟩
          have w4 : ¬ ilP f c := fun w => by
            rw [(hil c hc).mpr w] at w3
            exact absurd w3 (by decide)
          exact ⟨w1, fun w => w4 ⟨w1, w⟩, w2.resolve_left w4⟩
        · rintro ⟨w1, w2, w3⟩
          refine ⟨⟨w1, Or.inr w3⟩, ?_⟩
          cases e : tb (N (1, 0, 6) 9) c
          · rfl
          · exact absurd ((hil c hc).mp e).2 w2
      generalize y0 &&& (N (1, 0, 6) 9 ^^^ (-1)) = y at hy ⊢
      have hpt := popT_le (x := y) 64
      refine eq_bitCount.mpr (eq_J9_min.mpr ?_)
      have emin : (if nI (popT y 64) < 8 then nI (popT y 64) else 8) = nI (min 8 (popT y 64)) := nI_min (a := 8) (by omega) (by omega)
      rw [emin]
      have h1p : 1 ≤ 2 ^ min 8 (popT y 64) := Nat.pow_pos (by decide)
      obtain ⟨B, L, k1, k2⟩ := q_pull (M := M) (N := N) (a1 := a1) G hy hst hil hn (2 ^ min 8 (popT y 64) - 1) 1 (by omega) 0 (rcV f y n 0) (by omega)
      have ref : ∀ K, (∀ M2, FrP M M2 → EG y 64 M2 → pullE K a3 B L M2 N) → w_X12_pull a1 (nI n) a3 M N K := by
        intro K hK
        refine ref0 K (r_illMany I.cl.w R.rm.w ⟨fun _ => r_finds ef G hy (fun M1 F1 E1 => r_reached (s := 0) (by rw [F1.1 _ (by simp) (by simp) (by simp) (by simp)]; exact ef) G hy E1 (by omega) hn (fun M2 F2 => ⟨_, k2 M2 N ?_ (E1.cg F2) K a3 (fun M3 F3 => hK M3 (F1.tr (FrP.ofS (F2.tr F3))) (E1.cg (F2.tr F3)))⟩)), fun z => absurd (ill0.mp z) hill⟩)
        rw [F2 _ (by simp) (by simp), F1.1 _ (by simp) (by simp) (by simp) (by simp)]
        exact ef
      have i0 : ∀ z : Int32, (10 ≤ z ∧ z ≤ 9 + nI (min 8 (popT y 64))) → ∃ k, k < min 8 (popT y 64) ∧ z = nI (10 + k) := by
        rintro z ⟨w1, w2⟩
        have e9 : (9 : Int32) + nI (min 8 (popT y 64)) = nI (9 + min 8 (popT y 64)) := nI_add 9 _
        rw [e9] at w2
        obtain ⟨k, hk, rfl⟩ := nI_of2 (n := 9 + min 8 (popT y 64)) (by rw [nI_toInt (by omega)]) (Int32.not_lt.mpr (Int32.le_trans (by decide) w1)) w2
        have hk10 : 10 ≤ k := (nI_leI (a := 10) (by omega) (by omega)).mp w1
        exact ⟨k - 10, by omega, by congr 1; omega⟩
      refine eq_X11_within.mpr ?_
      by_cases z10 : 10 ≤ a3 ∧ a3 ≤ 9 + nI (min 8 (popT y 64))
      · rw [am_bt z10]
        refine ⟨fun z => absurd z (by decide), fun _ => ?_⟩
        obtain ⟨k, hk, rfl⟩ := i0 a3 z10
        obtain ⟨d, hd, ht, rfl⟩ := popT_hit (y := y) (k := k) 64 (by omega)
        have es : nI (10 + popT y d) - 10 = nI (popT y d) := by
          have := pk_sub (a := 10 + popT y d) (b := 10) (by omega)
          rw [show 10 + popT y d - 10 = popT y d by omega] at this
          exact this
        rw [es]
        refine c_cellNumbered hd ht (ref _ (fun M2 F2 E2 => ?_))
        unfold pullE
        rw [E2.e, es]
        refine ⟨fun _ => eq_X12_isIn.mpr ?_, fun z => absurd z (nI_ne0 (by omega) (by omega))⟩
        rw [am_bt z10, nI_clamp (show popT y d < 2 ^ 31 by omega)]
        have eg := E2.g d hd ht (by omega)
        exact ⟨fun z => absurd z (by decide), fun _ => ⟨vp_in_nI (by omega) (by omega), eg.symm, (fin M2 F2).1, (fin M2 F2).2⟩⟩
      · rw [am_bf z10]
        have p73 : ∀ v, (a3 = 0 ∧ v = L ∨ ¬ a3 = 0 ∧ v = (B >>> ((a3 - 20) &&& 31)) &&& 1) → (∀ M2, FrP M M2 → EG y 64 M2 → pullE (fun r2 M2 N2 => v = r2 ∧ FrX1 M N M2 N2 ∧ INVW M2 N2) a3 B L M2 N) → w_X4_pullOf_p73 (fun zr7 zM8 zN9 => w_X12_pull a1 (nI n) a3 zM8 zN9 (fun r2 M2 N2 => zr7 = r2 ∧ FrX1 M N M2 N2 ∧ INVW M2 N2)) (N (1, 0, 6) 8) (N (1, 0, 6) 9) a1 (nI n) a3 y (nI (min 8 (popT y 64))) M N := by
          intro v hv hE
          unfold w_X4_pullOf_p73
          refine c_cellsReached (s := 0) hst hil (by omega) hn ⟨_, k1 _ a3 ⟨fun z => ?_, fun z => ?_⟩⟩
          · rcases hv with w | w
            · exact absurd w.1 z
            · rw [← w.2]; exact ref _ hE
          · rcases hv with w | w
            · rw [← w.2]; exact ref _ hE
            · exact absurd z w.1
        refine ⟨fun _ => ⟨fun z0 => p73 L (Or.inl ⟨z0, rfl⟩) (fun M2 F2 E2 => ⟨fun z => absurd z0 z, fun _ => ⟨rfl, (fin M2 F2).1, (fin M2 F2).2⟩⟩), fun z0 => eq_X11_within.mpr ?_⟩, fun z => absurd rfl z⟩
        by_cases z20 : 20 ≤ a3 ∧ a3 ≤ 19 + nI (min 8 (popT y 64))
        · rw [am_bt z20]
          refine ⟨fun _ => p73 _ (Or.inr ⟨z0, rfl⟩) (fun M2 F2 E2 => ?_), fun z => absurd z (by decide)⟩
          unfold pullE
          rw [E2.e]
          refine ⟨fun _ => eq_X12_isIn.mpr ?_, fun z => absurd z z0⟩
          rw [am_bf z10]
          refine ⟨fun _ => eq_X12_isIn.mpr ?_, fun z => absurd rfl z⟩
          rw [E2.e, am_bt z20]
          exact ⟨fun z => absurd z (by decide), fun _ => ⟨rfl, (fin M2 F2).1, (fin M2 F2).2⟩⟩
        · rw [am_bf z20]
          refine ⟨fun z => absurd rfl z, fun _ => ref _ (fun M2 F2 E2 => ?_)⟩
          unfold pullE
          rw [E2.e]
          refine ⟨fun _ => eq_X12_isIn.mpr ?_, fun z => absurd z z0⟩
          rw [am_bf z10]
          refine ⟨fun _ => eq_X12_isIn.mpr ?_, fun z => absurd rfl z⟩
          rw [E2.e, am_bf z20]
          exact ⟨fun _ => ⟨rfl, (fin M2 F2).1, (fin M2 F2).2⟩, fun z => absurd rfl z⟩
    · rw [am_bf y2]
      refine ⟨fun _ => ?_, fun z => absurd rfl z⟩
      unfold w_X12_pull
      refine eq_X12_isIn.mpr ?_
      rw [am_bt y1]
      refine ⟨fun z => absurd z (by decide), fun _ => eq_X12_isIn.mpr ?_⟩
      rw [am_bf y2]
      exact ⟨fun _ => no, fun z => absurd rfl z⟩
  · rw [am_bf y1]
    refine ⟨fun _ => ?_, fun z => absurd rfl z⟩
    unfold w_X12_pull
    refine eq_X12_isIn.mpr ?_
    rw [am_bf y1]
    exact ⟨fun _ => no, fun z => absurd rfl z⟩
end PL3
