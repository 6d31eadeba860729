/-! ===== cart, kind ===== -/
section CC
variable {M M1 : am_I} {N N1 : am_N} {bk : Bk} {lg : Lg} {NN now : Nat} {wd : Nat → Nat} {a1 a2 a3 a4 a5 a6 : Int32} {post : Int32 → am_I → am_N → Prop}
theorem call_cart (h : INVW M N) : w_X11_cart a1 a2 a3 a4 a5 M N (fun r M1 N1 => w_X12_cart a1 a2 a3 a4 a5 M1 N1 (fun r2 M2 N2 => r = r2 ∧ FrX M N M2 N2 ∧ INVW M2 N2)) := by
  have h0 := h
  obtain ⟨bk, lg, NN, now, wd, P, I, R⟩ := h
  have no : (-1 : Int32) = -1 ∧ FrX M N M N ∧ INVW M N := ⟨rfl, FrX.rf, h0⟩
  have hcb := P.X.L.cb NN (Nat.le_refl _)
  have h8 := hcb.2.1
  have hN4 := P.X.N
  have e8 : nI (cnL lg NN).c = (8 : Int32) ↔ (cnL lg NN).c = 8 := nI_eq (b := 8) (by omega) (by omega)
  have e400 : nI NN = (400 : Int32) ↔ NN = 400 := nI_eq (b := 400) (by omega) (by omega)
  unfold w_X11_cart w_X12_cart
  refine eq_X11_within.mpr ?_
  by_cases y1 : 0 ≤ a1 ∧ a1 ≤ 3
  rotate_left
  · rw [am_bf y1]
    refine ⟨fun _ => eq_X12_isIn.mpr ?_, fun z => absurd rfl z⟩
    rw [am_bf y1]
    exact ⟨fun _ => no, fun z => absurd rfl z⟩
  rw [am_bt y1]
  refine ⟨fun z => absurd z (by decide), fun _ => eq_X11_within.mpr ?_⟩
  by_cases y2 : 1 ≤ a2 ∧ a2 ≤ 50
  rotate_left
  · rw [am_bf y2]
    refine ⟨fun _ => eq_X12_isIn.mpr ?_, fun z => absurd rfl z⟩
    rw [am_bt y1]
    refine ⟨fun z => absurd z (by decide), fun _ => eq_X12_isIn.mpr ?_⟩
    rw [am_bf y2]
    exact ⟨fun _ => no, fun z => absurd rfl z⟩
  rw [am_bt y2]
  refine ⟨fun z => absurd z (by decide), fun _ => eq_X11_within.mpr ?_⟩
  by_cases y3 : 50 ≤ a3 ∧ a3 ≤ 999
  rotate_left
  · rw [am_bf y3]
    refine ⟨fun _ => eq_X12_isIn.mpr ?_, fun z => absurd rfl z⟩
    rw [am_bt y1]
    refine ⟨fun z => absurd z (by decide), fun _ => eq_X12_isIn.mpr ?_⟩
    rw [am_bt y2]
    refine ⟨fun z => absurd z (by decide), fun _ => eq_X12_isIn.mpr ?_⟩
    rw [am_bf y3]
    exact ⟨fun _ => no, fun z => absurd rfl z⟩
  rw [am_bt y3]
  refine ⟨fun z => absurd z (by decide), fun _ => eq_X11_isCell.mpr ?_⟩
  by_cases y4 : 0 ≤ a4 ∧ a4 ≤ 63
  rotate_left
  · rw [am_bf y4]
    refine ⟨fun _ => eq_X12_isIn.mpr ?_, fun z => absurd rfl z⟩
    rw [am_bt y1]
    refine ⟨fun z => absurd z (by decide), fun _ => eq_X12_isIn.mpr ?_⟩
    rw [am_bt y2]
    refine ⟨fun z => absurd z (by decide), fun _ => eq_X12_isIn.mpr ?_⟩
    rw [am_bt y3]
    refine ⟨fun z => absurd z (by decide), fun _ => eq_X12_isCell.mpr ?_⟩
    rw [am_bf y4]
    exact ⟨fun _ => no, fun z => absurd rfl z⟩
  rw [am_bt y4]
  refine ⟨fun z => absurd z (by decide), fun _ => eq_X11_within.mpr ?_⟩
  by_cases y5 : 10 ≤ a5 ∧ a5 ≤ 500
  rotate_left
  · rw [am_bf y5]
    refine ⟨fun _ => eq_X12_isIn.mpr ?_, fun z => absurd rfl z⟩
    rw [am_bt y1]
    refine ⟨fun z => absurd z (by decide), fun _ => eq_X12_isIn.mpr ?_⟩
    rw [am_bt y2]
    refine ⟨fun z => absurd z (by decide), fun _ => eq_X12_isIn.mpr ?_⟩
    rw [am_bt y3]
    refine ⟨fun z => absurd z (by decide), fun _ => eq_X12_isCell.mpr ?_⟩
    rw [am_bt y4]
    refine ⟨fun z => absurd z (by decide), fun _ => eq_X12_isIn.mpr ?_⟩
    rw [am_bf y5]
    exact ⟨fun _ => no, fun z => absurd rfl z⟩
  rw [am_bt y5]
  obtain ⟨k, hk, rfl⟩ : ∃ x, x ≤ 3 ∧ a1 = nI x := nI_of2 (M := 3) (n := 3) rfl (Int32.not_lt.mpr y1.1) y1.2
  obtain ⟨g, hg, rfl⟩ : ∃ x, x ≤ 50 ∧ a2 = nI x := nI_of2 (M := 50) (n := 50) rfl (Int32.not_lt.mpr (Int32.le_trans (by decide) y2.1)) y2.2
  have hg1 : 1 ≤ g := (nI_leI (a := 1) (by omega) (by omega)).mp y2.1
  obtain ⟨s, hs, rfl⟩ : ∃ x, x ≤ 999 ∧ a3 = nI x := nI_of2 (M := 999) (n := 999) rfl (Int32.not_lt.mpr (Int32.le_trans (by decide) y3.1)) y3.2
  obtain ⟨d, hd, rfl⟩ : ∃ x, x ≤ 63 ∧ a4 = nI x := nI_of2 (M := 63) (n := 63) rfl (Int32.not_lt.mpr y4.1) y4.2
  obtain ⟨u, hu, rfl⟩ : ∃ x, x ≤ 500 ∧ a5 = nI x := nI_of2 (M := 500) (n := 500) rfl (Int32.not_lt.mpr (Int32.le_trans (by decide) y5.1)) y5.2
  refine ⟨fun z => absurd z (by decide), fun _ => c_hasRoom I I.K.t2 I.mx.t2 (by omega) (fun hr hN => ⟨fun _ => ?_, fun z => absurd z (by decide)⟩) (fun hno => ⟨fun z => absurd rfl z, fun _ => eq_X12_isIn.mpr ?_⟩)⟩
  · have hag : bkAg bk (bkSet bk 3 7 (cnL lg NN).c (fun t => if t = 3 then k else if t = 4 then g else if t = 5 then s else if t = 6 then d else u)) (cnL lg NN) := bkSet_ag (fun t h1 h2 => by
      unfold bndB
      rw [if_neg (by omega), if_pos (by omega)]
      exact Nat.le_refl _)
    have X : BKX (bkSet bk 3 7 (cnL lg NN).c (fun t => if t = 3 then k else if t = 4 then g else if t = 5 then s else if t = 6 then d else u)) (addL lg NN now 3 (cnL lg NN).c 0 0) (NN + 1) := BKX.add P hN (row0 (by omega) (by omega) (fun _ => ⟨rfl, hr⟩) (by omega) (by omega) (by omega) (by omega)) hag (P.X.B.addc ⟨hk, hg1, hg, hs, Nat.lt_succ_of_le hd, hu⟩) (by omega)
    refine c_new (wh := 3) (wd' := wd) P I hN (by omega) I.K.t2 I.mx.t2 (by omega) hr (by show _ ≤ 40; omega) (by omega) X hag (I.K.addc (by show _ ≤ 40; omega) (by omega) (fun j hj => ?_)) (fun k hk => ?_) P.z P.b (fun M1 N1 F1 P1 I1 => eq_X12_isIn.mpr ?_)
    · have : j = 0 ∨ j = 1 ∨ j = 2 ∨ j = 3 ∨ j = 4 := by omega
      rcases this with r | r | r | r | r <;> subst r <;> rfl
    · rw [addM_o (by simp) (by simp)]
      exact I.D k hk
    · have R1 := R.ofC F1
      have ctc1 := R1.ct.c
      rw [am_bt y1]
      refine ⟨fun z => absurd z (by decide), fun _ => eq_X12_isIn.mpr ?_⟩
      rw [am_bt y2]
      refine ⟨fun z => absurd z (by decide), fun _ => eq_X12_isIn.mpr ?_⟩
      rw [am_bt y3]
      refine ⟨fun z => absurd z (by decide), fun _ => eq_X12_isCell.mpr ?_⟩
      rw [am_bt y4]
      refine ⟨fun z => absurd z (by decide), fun _ => eq_X12_isIn.mpr ?_⟩
      rw [am_bt y5]
      refine ⟨fun z => absurd z (by decide), fun _ => ?_⟩
      rw [R1.ct.n, e400]
      have vr : vp_in (nI (cnL lg NN).c) 8 := vp_in_nI hr (by omega)
      simp (disch := decide) only [am_u_o, ctc1, nI_clamp (show (cnL lg NN).c < 2 ^ 31 by omega), am_u_c, pk_us, nI_1, nI_pred]
      rw [e8]
      refine ⟨fun z => by omega, fun _ => ⟨fun _ => ⟨vr, vr, vr, vr, vr, ?_⟩, fun z => by omega⟩⟩
      have six : ∀ {c : am_C} {x1 x2 x3 x4 x5 x6 : Int32}, c ≠ (3, 0, 11) → c ≠ (3, 0, 12) → c ≠ (3, 0, 13) → c ≠ (3, 0, 14) → c ≠ (3, 0, 15) → c ≠ (3, 0, 0) → (am_u (am_u (am_u (am_u (am_u (am_u M1 (3, 0, 11) (cnL lg NN).c x1) (3, 0, 12) (cnL lg NN).c x2) (3, 0, 13) (cnL lg NN).c x3) (3, 0, 14) (cnL lg NN).c x4) (3, 0, 15) (cnL lg NN).c x5) (3, 0, 0) 11 x6) c = M1 c := fun h1 h2 h3 h4 h5 h6 => by
        rw [am_u_o _ _ _ h6, am_u_o _ _ _ h5, am_u_o _ _ _ h4, am_u_o _ _ _ h3, am_u_o _ _ _ h2, am_u_o _ _ _ h1]
      refine r_new (wh := 3) (a := (cnL lg NN).c) (bb := 0) (c := 0) (wd' := wd) P R1 hN X hag (R1.K.addc (fun i _ _ h1 h2 h3 h4 h5 => ?_) ?_ ?_ ?_ ?_ ?_) (fun k hk => ?_) (fun _ _ => rfl) ?_ (fun i h1 h2 => ?_) ?_ ?_ ?_ ?_ ?_ ?_ ?_ ?_ ⟨fun c hc => ⟨?_, rfl⟩, fun j hj => ?_⟩ (fun M2 N2 F2 I2 => ⟨?_, FrX.of F1 F2, _, _, _, now, wd, P1, I1.ofR F2, I2⟩)
      · exact six (fun e => by simp only [Prod.mk.injEq] at e; omega) (fun e => by simp only [Prod.mk.injEq] at e; omega) (fun e => by simp only [Prod.mk.injEq] at e; omega) (fun e => by simp only [Prod.mk.injEq] at e; omega) (fun e => by simp only [Prod.mk.injEq] at e; omega) (fun e => by simp only [Prod.mk.injEq] at e; omega)
      · simp (disch := decide) only [am_u_o, am_u_c]; rfl
      · simp (disch := decide) only [am_u_o, am_u_c]; rfl
      · simp (disch := decide) only [am_u_o, am_u_c]; rfl
      · simp (disch := decide) only [am_u_o, am_u_c]; rfl
      · simp (disch := decide) only [am_u_o, am_u_c]; rfl
      · simp (disch := decide) only [am_u_o]; exact R1.D k hk
      · simp (disch := decide) only [am_u_o]
      · exact six (fun e => by simp only [Prod.mk.injEq] at e; omega) (fun e => by simp only [Prod.mk.injEq] at e; omega) (fun e => by simp only [Prod.mk.injEq] at e; omega) (fun e => by simp only [Prod.mk.injEq] at e; omega) (fun e => by simp only [Prod.mk.injEq] at e; omega) (fun e => by simp only [Prod.mk.injEq] at e; omega)
      · simp (disch := decide) only [am_u_o, am_u_c, pk_un]
      · simp (disch := decide) only [am_u_o, am_u_c, pk_un]; exact R1.ct.r
      · rw [am_u_c, pk_us]; rfl
      · simp (disch := decide) only [am_u_o, am_u_c, pk_un]; exact R1.ct.w
      · simp (disch := decide) only [am_u_o, am_u_c, pk_un]; exact R1.ct.l
      · simp (disch := decide) only [am_u_o, am_u_c, pk_un]; exact R1.ct.k
      · simp (disch := decide) only [am_u_o, am_u_c, pk_un]
      · simp (disch := decide) only [am_u_o, am_u_c, pk_un]
      · exact six (fun e => by subst e; simp at hc) (fun e => by subst e; simp at hc) (fun e => by subst e; simp at hc) (fun e => by subst e; simp at hc) (fun e => by subst e; simp at hc) (fun e => by subst e; simp at hc)
      · rw [am_u_c, pk_un (by omega)]
        simp (disch := decide) only [am_u_o]
      · have := I2.ct.c
        rw [cnL_add1] at this
        have e2 : (cnAdd (cnL lg NN) 3).c = (cnL lg NN).c + 1 := rfl
        rw [this, e2, nI_pred]
  · rw [am_bt y1]
    refine ⟨fun z => absurd z (by decide), fun _ => eq_X12_isIn.mpr ?_⟩
    rw [am_bt y2]
    refine ⟨fun z => absurd z (by decide), fun _ => eq_X12_isIn.mpr ?_⟩
    rw [am_bt y3]
    refine ⟨fun z => absurd z (by decide), fun _ => eq_X12_isCell.mpr ?_⟩
    rw [am_bt y4]
    refine ⟨fun z => absurd z (by decide), fun _ => eq_X12_isIn.mpr ?_⟩
    rw [am_bt y5]
    refine ⟨fun z => absurd z (by decide), fun _ => ?_⟩
    rw [R.ct.c, R.ct.n, e8, e400]
    exact ⟨fun _ => no, fun z4 => ⟨fun z5 => by omega, fun _ => no⟩⟩
end CC
