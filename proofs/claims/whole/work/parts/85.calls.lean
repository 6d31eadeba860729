/-! ===== rain, lot, work ===== -/
section CA
variable {M M1 : am_I} {N N1 : am_N} {bk : Bk} {lg : Lg} {NN now : Nat} {wd : Nat → Nat} {a1 a2 a3 a4 a5 a6 : Int32} {post : Int32 → am_I → am_N → Prop}
theorem row0 {cn : Cn} {wh a : Nat} (hle : wh ≤ 11) (h2 : wh = 2 → a = cn.r ∧ cn.r < 30) (h3 : wh = 3 → a = cn.c ∧ cn.c < 8) (h5 : wh = 5 → a = cn.w ∧ cn.w < 60) (h6 : wh = 6 → cn.l < 40) (h7 : wh = 7 → cn.k < 5) (hw : wh = 2 ∨ wh = 3 ∨ wh = 5 ∨ wh = 6 ∨ wh = 7) : RowOK cn wh a 0 0 := ⟨hle, by omega, by omega, h2, h3, by omega, h5, h6, h7, by omega, by omega, by omega, by omega⟩
/-- rain -/
theorem call_rain (h : INVW M N) : w_X11_rain a1 a2 a3 M N (fun r M1 N1 => w_X12_rain a1 a2 a3 M1 N1 (fun r2 M2 N2 => r = r2 ∧ FrX M N M2 N2 ∧ INVW M2 N2)) := by
  have h0 := h
  obtain ⟨bk, lg, NN, now, wd, P, I, R⟩ := h
  have no : (-1 : Int32) = -1 ∧ FrX M N M N ∧ INVW M N := ⟨rfl, FrX.rf, h0⟩
  have hcb := P.X.L.cb NN (Nat.le_refl _)
  have h30 := hcb.1
  have hnw := P.nw
  have hN4 := P.X.N
  have nr := I.nowI P
  have nm := R.nowI P
  have ctr := R.ct.r
  have ctn := R.ct.n
  have e30 : nI (cnL lg NN).r = (30 : Int32) ↔ (cnL lg NN).r = 30 := nI_eq (b := 30) (by omega) (by omega)
  have e400 : nI NN = (400 : Int32) ↔ NN = 400 := nI_eq (b := 400) (by omega) (by omega)
  have rno : ¬ (¬ a1 ≤ nI now ∧ ¬ a2 < a1 ∧ ¬ 719 < a2 ∧ (1 ≤ a3 ∧ a3 ≤ 99) ∧ (cnL lg NN).r < 30 ∧ NN < 400) → w_X12_rain a1 a2 a3 M N (fun r2 M2 N2 => (-1) = r2 ∧ FrX M N M2 N2 ∧ INVW M2 N2) := by
    intro hno
    unfold w_X12_rain
    rw [nm]
    refine ⟨fun _ => no, fun z1 => eq_X12_isIn.mpr ?_⟩
    by_cases y1 : 1 ≤ a1 ∧ a1 ≤ 719
    · rw [am_bt y1]
      refine ⟨fun z => absurd z (by decide), fun _ => eq_X12_isIn.mpr ?_⟩
      by_cases y2 : a1 ≤ a2 ∧ a2 ≤ 719
      · rw [am_bt y2]
        refine ⟨fun z => absurd z (by decide), fun _ => eq_X12_isIn.mpr ?_⟩
        by_cases y3 : 1 ≤ a3 ∧ a3 ≤ 99
        · rw [am_bt y3]
          refine ⟨fun z => absurd z (by decide), fun _ => ?_⟩
          rw [ctr, ctn, e30, e400]
          refine ⟨fun _ => no, fun z4 => ⟨fun z5 => absurd ⟨z1, i32_nlt.mpr y2.1, i32_nlt.mpr y2.2, y3, by omega, by omega⟩ hno, fun _ => no⟩⟩
        · rw [am_bf y3]
          exact ⟨fun _ => no, fun z => absurd rfl z⟩
      · rw [am_bf y2]
        exact ⟨fun _ => no, fun z => absurd rfl z⟩
    · rw [am_bf y1]
      exact ⟨fun _ => no, fun z => absurd rfl z⟩
  unfold w_X11_rain
  rw [nr]
  refine ⟨fun z => rno (fun y => y.1 z), fun z1 => ⟨fun z => rno (fun y => y.2.1 z), fun z2 => ⟨fun z => rno (fun y => y.2.2.1 z), fun z3 => eq_X11_within.mpr ?_⟩⟩⟩
  by_cases y3 : 1 ≤ a3 ∧ a3 ≤ 99
  · rw [am_bt y3]
    refine ⟨fun z => absurd z (by decide), fun _ => c_hasRoom I I.K.t1 I.mx.t1 (by omega) (fun hr hN => ⟨fun _ => ?_, fun z => absurd z (by decide)⟩) (fun z => ⟨fun z => absurd rfl z, fun _ => rno (fun y => z y.2.2.2.2)⟩)⟩
    obtain ⟨y, hy, rfl⟩ : ∃ y, y ≤ 719 ∧ a2 = nI y := nI_of2 (M := 719) (n := 719) rfl (Int32.not_lt.mpr (Int32.le_trans (nI_pos' (n := now) (by omega)) (Int32.le_trans (Int32.le_of_lt (i32_nle.mp z1)) (i32_nlt.mp z2)))) (i32_nlt.mp z3)
    obtain ⟨x, hx, rfl⟩ : ∃ x, x ≤ 719 ∧ a1 = nI x := nI_of2 (M := 719) (n := 719) rfl (Int32.not_lt.mpr (Int32.le_trans (nI_pos' (n := now) (by omega)) (Int32.le_of_lt (i32_nle.mp z1)))) (Int32.le_trans (i32_nlt.mp z2) (i32_nlt.mp z3))
    obtain ⟨m, hm, rfl⟩ : ∃ m, m ≤ 99 ∧ a3 = nI m := nI_of2 (M := 99) (n := 99) rfl (Int32.not_lt.mpr (Int32.le_trans (by decide) y3.1)) y3.2
    have hm1 : 1 ≤ m := (nI_leI (a := 1) (by omega) (by omega)).mp y3.1
    have hnx : now < x := (nI_ltI (by omega) (by omega)).mp (i32_nle.mp z1)
    have hxy : x ≤ y := (nI_leI (by omega) (by omega)).mp (i32_nlt.mp z2)
    have hag : bkAg bk (bkSet bk 0 2 (cnL lg NN).r (fun t => if t = 0 then x else if t = 1 then y else m)) (cnL lg NN) := bkSet_ag (fun t _ ht => by unfold bndB; rw [if_pos ht]; exact Nat.le_refl _)
    have hB := P.X.B.addr (v := fun t => if t = 0 then x else if t = 1 then y else m) ⟨show x < 2 ^ 31 by omega, show y < 2 ^ 31 by omega, hm1, hm⟩
    have X : BKX (bkSet bk 0 2 (cnL lg NN).r (fun t => if t = 0 then x else if t = 1 then y else m)) (addL lg NN now 2 (cnL lg NN).r 0 0) (NN + 1) := BKX.add P hN (row0 (by omega) (fun _ => ⟨rfl, hr⟩) (by omega) (by omega) (by omega) (by omega) (by omega)) hag hB (fun _ => by
      show now < bkSet bk 0 2 (cnL lg NN).r _ 0 (cnL lg NN).r
      rw [bkSet_in (by omega) (by omega)]
      exact hnx)
    refine c_new (wh := 2) (wd' := wd) P I hN (by omega) I.K.t1 I.mx.t1 (by omega) hr (by show _ ≤ 90; omega) (by omega) X hag (I.K.addr (by show _ ≤ 90; omega) (by omega) (fun j hj => ?_)) (fun k hk => ?_) P.z P.b (fun M1 N1 F1 P1 I1 => ?_)
    · have : j = 0 ∨ j = 1 ∨ j = 2 := by omega
      rcases this with r | r | r <;> subst r <;> rfl
    · rw [addM_o (by simp) (by simp)]
      exact I.D k hk
    · have R1 := R.ofC F1
      have ctr1 := R1.ct.r
      unfold w_X12_rain
      rw [R1.nowI P]
      refine ⟨fun z => absurd z z1, fun _ => eq_X12_isIn.mpr ?_⟩
      rw [am_bt ⟨nI_le (a := 1) (by omega) (by omega), nI_le (b := 719) (by omega) (by omega)⟩]
      refine ⟨fun z => absurd z (by decide), fun _ => eq_X12_isIn.mpr ?_⟩
      rw [am_bt ⟨nI_le hxy (by omega), nI_le (b := 719) (by omega) (by omega)⟩]
      refine ⟨fun z => absurd z (by decide), fun _ => eq_X12_isIn.mpr ?_⟩
      rw [am_bt y3]
      refine ⟨fun z => absurd z (by decide), fun _ => ?_⟩
      rw [R1.ct.n, e400]
      have vr : vp_in (nI (cnL lg NN).r) 30 := vp_in_nI hr (by omega)
      simp (disch := decide) only [am_u_o, ctr1, nI_clamp (show (cnL lg NN).r < 2 ^ 31 by omega), am_u_c, pk_us, nI_1, nI_pred]
      rw [e30]
      refine ⟨fun z => by omega, fun _ => ⟨fun _ => ⟨vr, vr, vr, ?_⟩, fun z => by omega⟩⟩
      refine r_new (wh := 2) (a := (cnL lg NN).r) (bb := 0) (c := 0) (wd' := wd) P R1 hN X hag (R1.K.addr (fun i _ _ h1 h2 h3 => ?_) ?_ ?_ ?_) (fun k hk => ?_) (fun _ _ => rfl) ?_ (fun i h1 h2 => ?_) ?_ ?_ ?_ ?_ ?_ ?_ ?_ ?_ ⟨fun c hc => ⟨?_, rfl⟩, fun j hj => ?_⟩ (fun M2 N2 F2 I2 => ⟨?_, FrX.of F1 F2, _, _, _, now, wd, P1, I1.ofR F2, I2⟩)
      · rw [am_u_o _ _ _ (fun e => by simp only [Prod.mk.injEq] at e; omega), am_u_o _ _ _ (fun e => by simp only [Prod.mk.injEq] at e; omega), am_u_o _ _ _ (fun e => by simp only [Prod.mk.injEq] at e; omega), am_u_o _ _ _ (fun e => by simp only [Prod.mk.injEq] at e; omega)]
      · simp (disch := decide) only [am_u_o, am_u_c]; rfl
      · simp (disch := decide) only [am_u_o, am_u_c]; rfl
      · simp (disch := decide) only [am_u_o, am_u_c]; rfl
      · simp (disch := decide) only [am_u_o]; exact R1.D k hk
      · simp (disch := decide) only [am_u_o]
      · rw [am_u_o _ _ _ (fun e => by simp only [Prod.mk.injEq] at e; omega), am_u_o _ _ _ (fun e => by simp only [Prod.mk.injEq] at e; omega), am_u_o _ _ _ (fun e => by simp only [Prod.mk.injEq] at e; omega), am_u_o _ _ _ (fun e => by simp only [Prod.mk.injEq] at e; omega)]
      · simp (disch := decide) only [am_u_o, am_u_c, pk_un]
      · rw [am_u_c, pk_us]; rfl
      · simp (disch := decide) only [am_u_o, am_u_c, pk_un]; exact R1.ct.c
      · simp (disch := decide) only [am_u_o, am_u_c, pk_un]; exact R1.ct.w
      · simp (disch := decide) only [am_u_o, am_u_c, pk_un]; exact R1.ct.l
      · simp (disch := decide) only [am_u_o, am_u_c, pk_un]; exact R1.ct.k
      · simp (disch := decide) only [am_u_o, am_u_c, pk_un]
      · simp (disch := decide) only [am_u_o, am_u_c, pk_un]
      · rw [am_u_o _ _ _ (fun e => by subst e; simp at hc), am_u_o _ _ _ (fun e => by subst e; simp at hc), am_u_o _ _ _ (fun e => by subst e; simp at hc), am_u_o _ _ _ (fun e => by subst e; simp at hc)]
      · rw [am_u_c, pk_un (by omega)]
        simp (disch := decide) only [am_u_o]
      · have := I2.ct.r
        rw [cnL_add1] at this
        have e2 : (cnAdd (cnL lg NN) 2).r = (cnL lg NN).r + 1 := rfl
        rw [this, e2, nI_pred]
  · rw [am_bf y3]
    exact ⟨fun _ => rno (fun y => y3 y.2.2.2.1), fun z => absurd rfl z⟩
end CA
