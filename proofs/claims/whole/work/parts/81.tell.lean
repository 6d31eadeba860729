/-! ===== calls that are told: land, set, charge, plant, show, look, ill ===== -/
/-- what a call of the class about the world leaves alone -/
def FrC (M : am_I) (N : am_N) (M' : am_I) (N' : am_N) : Prop := ∀ c : am_C, (c.1 = 3 ∨ (c.1 = 0 ∧ (c.2.2 < 2 ∨ 6 < c.2.2)) ∨ (c.1 = 2 ∧ c.2.1 = 6)) → M' c = M c ∧ N' c = N c
/-- and one of the reference -/
def FrR (M : am_I) (N : am_N) (M' : am_I) (N' : am_N) : Prop := (∀ c : am_C, (c.1 ≠ 3 ∨ (c.1 = 3 ∧ 32 ≤ c.2.2)) → M' c = M c ∧ N' c = N c) ∧ ∀ j, 40 ≤ j → M' (3, 0, 0) j = M (3, 0, 0) j
/-- and both -/
def FrX (M : am_I) (N : am_N) (M' : am_I) (N' : am_N) : Prop := (∀ c : am_C, ((c.1 = 0 ∧ (c.2.2 < 2 ∨ 6 < c.2.2)) ∨ (c.1 = 2 ∧ c.2.1 = 6) ∨ (c.1 = 3 ∧ 32 ≤ c.2.2)) → M' c = M c ∧ N' c = N c) ∧ ∀ j, 40 ≤ j → M' (3, 0, 0) j = M (3, 0, 0) j
def INVW (M : am_I) (N : am_N) : Prop := ∃ bk lg NN now wd, IP bk lg NN now wd ∧ ICl bk lg NN now wd M N ∧ IRf bk lg NN now wd M N
section TE1
variable {M M' M1 M2 : am_I} {N N' N1 N2 : am_N} {b : Nat} {bk bk' : Bk} {lg : Lg} {NN now n u wh a bb c : Nat} {wd wd' : Nat → Nat} {a1 a2 a3 : Int32} {post : am_I → am_N → Prop} {postI : Int32 → am_I → am_N → Prop}
theorem FrC.rf : FrC M N M N := fun _ _ => ⟨rfl, rfl⟩
theorem FrC.tr (h1 : FrC M N M1 N1) (h2 : FrC M1 N1 M2 N2) : FrC M N M2 N2 := fun c hc => ⟨(h2 c hc).1.trans (h1 c hc).1, (h2 c hc).2.trans (h1 c hc).2⟩
theorem FrX.rf : FrX M N M N := ⟨fun _ _ => ⟨rfl, rfl⟩, fun _ _ => rfl⟩
theorem FrX.of (h1 : FrC M N M1 N1) (h2 : FrR M1 N1 M2 N2) : FrX M N M2 N2 := by
  refine ⟨fun c hc => ?_, fun j hj => ?_⟩
  · rcases hc with h | h | h
    · have q1 := h2.1 c (Or.inl (by rw [h.1]; decide))
      have q2 := h1 c (Or.inr (Or.inl h))
      exact ⟨q1.1.trans q2.1, q1.2.trans q2.2⟩
    · have q1 := h2.1 c (Or.inl (by rw [h.1]; decide))
      have q2 := h1 c (Or.inr (Or.inr h))
      exact ⟨q1.1.trans q2.1, q1.2.trans q2.2⟩
    · have q1 := h2.1 c (Or.inr h)
      have q2 := h1 c (Or.inl h.1)
      exact ⟨q1.1.trans q2.1, q1.2.trans q2.2⟩
  · rw [h2.2 j hj, (h1 (3, 0, 0) (Or.inl rfl)).1]
theorem FrC.ofB (h : FrB 0 M N M1 N1) : FrC M N M1 N1 := fun c hc => by
  rcases hc with h1 | h1 | h1
  · exact h.1 c (fun z => by rw [h1] at z; omega) (fun z => by rw [h1] at z; omega)
  · exact h.1 c (fun z => by rw [h1.1] at z; omega) (fun z => by omega)
  · exact h.1 c (fun z => by rw [h1.1] at z; omega) (fun z => by rw [h1.1] at z; omega)
theorem FrC.ofG (h : FrB 1 M N M1 N1) : FrC M N M1 N1 := fun c hc => by
  rcases hc with h1 | h1 | h1
  · exact h.1 c (fun z => by rw [h1] at z; omega) (fun z => by rw [h1] at z; omega)
  · exact h.1 c (fun z => by rw [h1.1] at z; omega) (fun z => by omega)
  · exact h.1 c (fun z => by rw [h1.1] at z; omega) (fun z => by rw [h1.1] at z; omega)
theorem FrC.ref (h : FrC M N M1 N1) (i : Nat) : M1 (3, 0, i) = M (3, 0, i) := (h (3, 0, i) (Or.inl rfl)).1
theorem FrR.rf : FrR M N M N := ⟨fun _ _ => ⟨rfl, rfl⟩, fun _ _ => rfl⟩
theorem FrR.tr (h1 : FrR M N M1 N1) (h2 : FrR M1 N1 M2 N2) : FrR M N M2 N2 := ⟨fun c hc => ⟨(h2.1 c hc).1.trans (h1.1 c hc).1, (h2.1 c hc).2.trans (h1.1 c hc).2⟩, fun j hj => (h2.2 j hj).trans (h1.2 j hj)⟩
theorem FrR.ofM (h : FrM M N M1 N1) : FrR M N M1 N1 := by
  refine ⟨fun c hc => ?_, fun j hj => ?_⟩
  · have hne1 : c ≠ (3, 0, 1) := fun e => by subst e; simp at hc
    have hne0 : c ≠ (3, 0, 0) := fun e => by subst e; simp at hc
    have h1 := h.1 c hne1 (fun z => by
      rcases hc with h2 | h2
      · exact h2 z.1
      · omega)
    exact ⟨h1.1, h1.2 hne0⟩
  · rw [h.row (by decide) (by omega)]
theorem PM.cg {but : Nat → Nat → Prop} (P : PM bk lg NN but n u M N) (e1 : ∀ i, M' (3, 0, i) = M (3, 0, i)) (e2 : ∀ i, N' (3, 0, i) = N (3, 0, i)) : PM bk lg NN but n u M' N' := by
  refine ⟨?_, ?_, ?_, ?_⟩
  · exact by
      refine ⟨⟨?_, ?_, ?_, ?_, ?_⟩, by rw [e1]; exact P.w.f, by rw [e2]; exact P.w.fe, by rw [e2]; exact P.w.lo, fun k i hk hi => by rw [e1]; exact P.w.but k i hk hi⟩
      · rw [e1, e1, e1]; exact P.w.k.r
      · rw [e1, e1, e1, e1, e1]; exact P.w.k.c
      · rw [e1, e1, e1]; exact P.w.k.w
      · rw [e1]; exact P.w.k.l
      · rw [e1, e1]; exact P.w.k.k
  · exact P.le
  · exact P.up
  · exact P.lo
theorem IRf.cg (I : IRf bk lg NN now wd M N) (e1 : ∀ i, M' (3, 0, i) = M (3, 0, i)) (e2 : ∀ i, N' (3, 0, i) = N (3, 0, i)) : IRf bk lg NN now wd M' N' := by
  refine ⟨?_, ?_, ?_, ?_, ?_⟩
  · exact by
      refine ⟨?_, ?_, ?_, ?_, ?_⟩
      · rw [e1, e1, e1]; exact I.K.r
      · rw [e1, e1, e1, e1, e1]; exact I.K.c
      · rw [e1, e1, e1]; exact I.K.w
      · rw [e1]; exact I.K.l
      · rw [e1, e1]; exact I.K.k
  · exact by rw [e1]; exact I.D
  · exact by
      refine ⟨?_, fun i hi => ?_⟩
      · rw [e1]; exact I.L.h
      · unfold rowM
        rw [e1, e1, e1, e1]
        exact I.L.r i hi
  · exact I.rm.cg e1 e2
  · exact ⟨by rw [e1]; exact I.ct.n, by rw [e1]; exact I.ct.r, by rw [e1]; exact I.ct.c, by rw [e1]; exact I.ct.w, by rw [e1]; exact I.ct.l, by rw [e1]; exact I.ct.k, by rw [e1]; exact I.ct.bw⟩
theorem IRf.ofC (I : IRf bk lg NN now wd M N) (F : FrC M N M1 N1) : IRf bk lg NN now wd M1 N1 := I.cg (fun i => (F (3, 0, i) (Or.inl rfl)).1) (fun i => (F (3, 0, i) (Or.inl rfl)).2)
theorem ICl.ofR (I : ICl bk lg NN now wd M N) (F : FrR M N M1 N1) : ICl bk lg NN now wd M1 N1 := I.cg (fun g x i hg => F.1 (g, x, i) (Or.inl (by rcases hg with h | h <;> subst h <;> exact fun z => by simp at z)))
theorem ICl.nowI (I : ICl bk lg NN now wd M N) (P : IP bk lg NN now wd) : M (1, 0, 0) 8 = nI now := by
  obtain ⟨g1, g2, g3, g4⟩ := rep_good (but := noBut) P.X.L P.X.B P.X.N now NN P.nw (Nat.le_refl _)
  rw [I.cl.w.w.s.now, g4]
theorem IRf.nowI (I : IRf bk lg NN now wd M N) (P : IP bk lg NN now wd) : M (3, 0, 1) 1624 = nI now := by
  obtain ⟨g1, g2, g3, g4⟩ := rep_good (but := noBut) P.X.L P.X.B P.X.N now NN P.nw (Nat.le_refl _)
  rw [I.rm.w.f, g4]
theorem bkAg.rf {cn : Cn} : bkAg bk bk cn := fun _ _ _ => rfl
theorem c_tell (P : IP bk lg NN now wd) (I : ICl bk lg NN now wd M N) (hr : RowOK (cnL lg NN) wh a bb c) (hwh : wh ≠ 2 ∧ wh ≠ 3 ∧ wh ≠ 5 ∧ wh ≠ 6 ∧ wh ≠ 7) (h1 : NN < 400 → ∀ M1 N1, FrC M N M1 N1 → IP bk (addL lg NN now wh a bb c) (NN + 1) now wd → ICl bk (addL lg NN now wh a bb c) (NN + 1) now wd M1 N1 → postI 1 M1 N1) (h0 : 400 ≤ NN → postI 0 M N) : w_X11_tell (nI wh) (nI a) (nI bb) (nI c) M N postI := by
  unfold w_X11_tell
  refine sp_isFull I.L.t I.mx.t0 (by omega) (fun hN => ⟨fun _ => ?_, fun z => absurd rfl z⟩) (fun hN => ⟨fun z => absurd z (by decide), fun _ => h0 hN⟩)
  rw [I.nowI P]
  refine sp_add I.L.t I.mx.t0 (by omega) hN (by show (NN + 1) * 5 ≤ 2000; omega) (by omega) ?_
  have hcn : cnAdd (cnL lg NN) wh = cnL lg NN := cnAdd_o hwh
  have X : BKX bk (addL lg NN now wh a bb c) (NN + 1) := P.X |> fun _ => BKX.add P hN hr bkAg.rf (by rw [hcn]; exact P.X.B) (fun e => absurd e hwh.1)
  have eT : ∀ t i, 1 ≤ t → addM M 0 5 NN (v6 (nI now) (nI wh) (nI a) (nI bb) (nI c) 0) (2, t, i) = M (2, t, i) := fun t i ht => addM_o (fun e => by simp only [Prod.mk.injEq] at e; omega) (fun e => by simp only [Prod.mk.injEq] at e; omega)
  refine c_tellRow (wd' := wd) (bk' := bk) (a := a) (bb := bb) (c := c) P I X bkAg.rf (by rw [hcn]; exact I.K.cg5 (fun t i h1 _ => eT t i h1)) (I.L.add hN (nI a) (fun _ _ => rfl)) (fun k hk => ?_) ⟨?_, ?_, ?_, ?_, ?_, ?_⟩ (fun x i => addM_o (by simp) (by simp)) (fun M2 N2 F2 I2 => h1 hN M2 N2 ?_ (P.add X (by rw [hcn]; exact P.z) P.b) I2)
  · rw [hcn] at hk
    rw [eT 4 1 (by omega)]
    exact I.D k hk
  · rw [addM_0 (by decide)]; exact I.mx.t0
  · rw [eT 1 0 (by omega)]; exact I.mx.t1
  · rw [eT 2 0 (by omega)]; exact I.mx.t2
  · rw [eT 3 0 (by omega)]; exact I.mx.t3
  · rw [eT 4 0 (by omega)]; exact I.mx.t4
  · rw [eT 5 0 (by omega)]; exact I.mx.t5
  · refine FrC.tr (fun c hc => ⟨addM_o (fun e => ?_) (fun e => ?_), rfl⟩) (FrC.ofB F2)
    · subst e; simp at hc
    · subst e; simp at hc
theorem r_tell (P : IP bk lg NN now wd) (I : IRf bk lg NN now wd M N) (X : BKX bk (addL lg NN now wh a bb c) (NN + 1)) (hwh : wh ≠ 2 ∧ wh ≠ 3 ∧ wh ≠ 5 ∧ wh ≠ 6 ∧ wh ≠ 7) (h : ∀ M1 N1, FrR M N M1 N1 → IRf bk (addL lg NN now wh a bb c) (NN + 1) now wd M1 N1 → post M1 N1) : w_X12_tells (nI wh) (nI a) (nI bb) (nI c) M N post := by
  have hN := X.N
  refine r_tells I.ct.n (by omega) ?_
  have hcn : cnAdd (cnL lg NN) wh = cnL lg NN := cnAdd_o hwh
  have eo : ∀ i, 8 ≤ i ∨ i = 1 ∨ i = 2 → tellM M NN (nI wh) (nI a) (nI bb) (nI c) (3, 0, i) = M (3, 0, i) := fun i hi => tellM_o (fun e => by simp only [Prod.mk.injEq] at e; omega) (fun e => by simp only [Prod.mk.injEq] at e; omega) (fun e => by simp only [Prod.mk.injEq] at e; omega) (fun e => by simp only [Prod.mk.injEq] at e; omega) (fun e => by simp only [Prod.mk.injEq] at e; omega) (fun e => by simp only [Prod.mk.injEq] at e; omega)
  refine r_tellRow (wd' := wd) (bk' := bk) (a := a) (bb := bb) (c := c) P I X bkAg.rf ?_ (I.L.add (I.nowI P) (nI a) (fun _ _ => rfl)) (fun k hk => by rw [eo 22 (by omega)]; exact I.D k hk) ?_ (eo 1 (by omega)) (by rw [tellM_0, pk_un (by decide)]) (fun M2 N2 F2 I2 => h M2 N2 ?_ I2)
  · rw [hcn]
    refine ⟨?_, ?_, ?_, ?_, ?_⟩
    · rw [eo 8 (by omega), eo 9 (by omega), eo 10 (by omega)]; exact I.K.r
    · rw [eo 11 (by omega), eo 12 (by omega), eo 13 (by omega), eo 14 (by omega), eo 15 (by omega)]; exact I.K.c
    · rw [eo 16 (by omega), eo 17 (by omega), eo 18 (by omega)]; exact I.K.w
    · rw [eo 19 (by omega)]; exact I.K.l
    · rw [eo 20 (by omega), eo 21 (by omega)]; exact I.K.k
  · rw [hcn]
    refine ⟨?_, ?_, ?_, ?_, ?_, ?_, ?_⟩ <;> rw [tellM_0]
    · rw [pk_us]
    · rw [pk_un (by decide)]; exact I.ct.r
    · rw [pk_un (by decide)]; exact I.ct.c
    · rw [pk_un (by decide)]; exact I.ct.w
    · rw [pk_un (by decide)]; exact I.ct.l
    · rw [pk_un (by decide)]; exact I.ct.k
    · rw [pk_un (by decide)]; exact I.ct.bw
  · refine FrR.tr ⟨fun c hc => ⟨tellM_o (fun e => ?_) (fun e => ?_) (fun e => ?_) (fun e => ?_) (fun e => ?_) (fun e => ?_), rfl⟩, fun j hj => by rw [tellM_0, pk_un (by omega)]⟩ (FrR.ofM F2)
    all_goals (subst e; simp at hc)
/-- both tell the same row -/
theorem t_both {w2 : am_I → am_N → (Int32 → am_I → am_N → Prop) → Prop} (P : IP bk lg NN now wd) (I : ICl bk lg NN now wd M N) (R : IRf bk lg NN now wd M N) (hr : RowOK (cnL lg NN) wh a bb c) (hwh : wh ≠ 2 ∧ wh ≠ 3 ∧ wh ≠ 5 ∧ wh ≠ 6 ∧ wh ≠ 7)
    (hw : ∀ M1 N1 K, FrC M N M1 N1 → (NN < 400 → w_X12_tells (nI wh) (nI a) (nI bb) (nI c) M1 N1 (fun M2 N2 => K 1 M2 N2)) → (400 ≤ NN → K 0 M1 N1) → w2 M1 N1 K) :
    w_X11_tell (nI wh) (nI a) (nI bb) (nI c) M N (fun r M1 N1 => (r = 0 ∨ r = 1) ∧ w2 M1 N1 (fun r2 M2 N2 => r = r2 ∧ FrX M N M2 N2 ∧ INVW M2 N2)) := by
  refine c_tell P I hr hwh (fun hN M1 N1 F1 P1 I1 => ⟨Or.inr rfl, hw M1 N1 _ F1 (fun _ => ?_) (fun z => by omega)⟩) (fun hN => ⟨Or.inl rfl, hw M N _ FrC.rf (fun z => by omega) (fun _ => ⟨rfl, FrX.rf, bk, lg, NN, now, wd, P, I, R⟩)⟩)
  exact r_tell P (R.ofC F1) P1.X hwh (fun M2 N2 F2 I2 => ⟨rfl, FrX.of F1 F2, bk, _, _, now, wd, P1, I1.ofR F2, I2⟩)
theorem not400 (P : IP bk lg NN now wd) : (¬ nI NN = (400 : Int32)) ↔ NN < 400 := by
  have hN := P.X.N
  have : nI NN = (400 : Int32) ↔ NN = 400 := nI_eq (b := 400) (by omega) (by omega)
  rw [this]
  omega
theorem r_full {A B : Prop} (P : IP bk lg NN now wd) (R : IRf bk lg NN now wd M N) (F : FrC M N M1 N1) (hA : NN < 400 → A) (hB : 400 ≤ NN → B) : (¬ M1 (3, 0, 0) 4 = 400 → A) ∧ (M1 (3, 0, 0) 4 = 400 → B) := by
  have hN := P.X.N
  rw [F.ref, R.ct.n]
  exact ⟨fun z => hA ((not400 P).mp z), fun z => hB (Nat.le_of_not_lt fun y => (not400 P).mpr y z)⟩
theorem call_land (h : INVW M N) : w_X11_land a1 a2 a3 M N (fun r M1 N1 => w_X12_land a1 a2 a3 M1 N1 (fun r2 M2 N2 => r = r2 ∧ FrX M N M2 N2 ∧ INVW M2 N2)) := by
  have h0 := h
  obtain ⟨bk, lg, NN, now, wd, P, I, R⟩ := h
  have no : (0 : Int32) = 0 ∧ FrX M N M N ∧ INVW M N := ⟨rfl, FrX.rf, h0⟩
  unfold w_X11_land
  refine eq_X11_isCell.mpr ?_
  by_cases e1 : 0 ≤ a1 ∧ a1 ≤ 63
  · rw [am_bt e1]
    refine ⟨fun z => absurd z (by decide), fun _ => eq_X11_within.mpr ?_⟩
    by_cases e2 : 0 ≤ a2 ∧ a2 ≤ 99
    · rw [am_bt e2]
      refine ⟨fun z => absurd z (by decide), fun _ => eq_X11_within.mpr ?_⟩
      by_cases e3 : 0 ≤ a3 ∧ a3 ≤ 999
      · rw [am_bt e3]
        refine ⟨fun _ => ?_, fun z => absurd z (by decide)⟩
        obtain ⟨a, ha, rfl⟩ := nI_of2 (M := 63) (n := 63) rfl (Int32.not_lt.mpr e1.1) e1.2
        obtain ⟨bb, hb, rfl⟩ := nI_of2 (M := 99) (n := 99) rfl (Int32.not_lt.mpr e2.1) e2.2
        obtain ⟨c, hc, rfl⟩ := nI_of2 (M := 999) (n := 999) rfl (Int32.not_lt.mpr e3.1) e3.2
        have hr : RowOK (cnL lg NN) 0 a bb c := ⟨by omega, fun _ => ⟨by omega, hb, hc⟩, by omega, by omega, by omega, by omega, by omega, by omega, by omega, by omega, by omega, by omega, by omega⟩
        refine t_both (wh := 0) P I R hr (by decide) (fun M1 N1 K F1 k1 k0 => ?_)
        unfold w_X12_land
        refine eq_X12_isCell.mpr ?_
        rw [am_bt e1]
        refine ⟨fun z => absurd z (by decide), fun _ => eq_X12_isIn.mpr ?_⟩
        rw [am_bt e2]
        refine ⟨fun z => absurd z (by decide), fun _ => eq_X12_isIn.mpr ?_⟩
        rw [am_bt e3]
        exact ⟨fun z => absurd z (by decide), fun _ => r_full P R F1 k1 k0⟩
      · rw [am_bf e3]
        refine ⟨fun z => absurd rfl z, fun _ => ?_⟩
        unfold w_X12_land
        refine eq_X12_isCell.mpr ?_
        rw [am_bt e1]
        refine ⟨fun z => absurd z (by decide), fun _ => eq_X12_isIn.mpr ?_⟩
        rw [am_bt e2]
        refine ⟨fun z => absurd z (by decide), fun _ => eq_X12_isIn.mpr ?_⟩
        rw [am_bf e3]
        exact ⟨fun _ => no, fun z => absurd rfl z⟩
    · rw [am_bf e2]
      refine ⟨fun _ => ?_, fun z => absurd rfl z⟩
      unfold w_X12_land
      refine eq_X12_isCell.mpr ?_
      rw [am_bt e1]
      refine ⟨fun z => absurd z (by decide), fun _ => eq_X12_isIn.mpr ?_⟩
      rw [am_bf e2]
      exact ⟨fun _ => no, fun z => absurd rfl z⟩
  · rw [am_bf e1]
    refine ⟨fun _ => ?_, fun z => absurd rfl z⟩
    unfold w_X12_land
    refine eq_X12_isCell.mpr ?_
    rw [am_bf e1]
    exact ⟨fun _ => no, fun z => absurd rfl z⟩
end TE1
