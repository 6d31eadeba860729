/-! ===== lot, work, cart, kind ===== -/
section CB
variable {M M1 : am_I} {N N1 : am_N} {bk : Bk} {lg : Lg} {NN now : Nat} {wd : Nat → Nat} {a1 a2 a3 a4 a5 a6 : Int32} {post : Int32 → am_I → am_N → Prop}
theorem call_lot (h : INVW M N) : w_X11_lot a1 M N (fun r M1 N1 => w_X12_lot a1 M1 N1 (fun r2 M2 N2 => r = r2 ∧ FrX M N M2 N2 ∧ INVW M2 N2)) := by
  have h0 := h
  obtain ⟨bk, lg, NN, now, wd, P, I, R⟩ := h
  have no : (-1 : Int32) = -1 ∧ FrX M N M N ∧ INVW M N := ⟨rfl, FrX.rf, h0⟩
  have hcb := P.X.L.cb NN (Nat.le_refl _)
  have h40 := hcb.2.2.2.1
  have hN4 := P.X.N
  have e40 : nI (cnL lg NN).l = (40 : Int32) ↔ (cnL lg NN).l = 40 := nI_eq (b := 40) (by omega) (by omega)
  have e400 : nI NN = (400 : Int32) ↔ NN = 400 := nI_eq (b := 400) (by omega) (by omega)
  unfold w_X11_lot
  refine eq_X11_within.mpr ?_
  by_cases y : 0 ≤ a1 ∧ a1 ≤ 99
  · rw [am_bt y]
    obtain ⟨x, hx, rfl⟩ : ∃ x, x ≤ 99 ∧ a1 = nI x := nI_of2 (M := 99) (n := 99) rfl (Int32.not_lt.mpr y.1) y.2
    refine ⟨fun z => absurd z (by decide), fun _ => c_hasRoom I I.K.t5 I.mx.t5 (by omega) (fun hr hN => ⟨fun _ => ?_, fun z => absurd z (by decide)⟩) (fun z => ⟨fun z => absurd rfl z, fun _ => ?_⟩)⟩
    · have hag : bkAg bk (bkSet bk 11 11 (cnL lg NN).l (fun _ => x)) (cnL lg NN) := bkSet_ag (fun t h1 h2 => by
        have : t = 11 := by omega
        subst this
        exact Nat.le_refl _)
      have X : BKX (bkSet bk 11 11 (cnL lg NN).l (fun _ => x)) (addL lg NN now 6 (cnL lg NN).l 0 0) (NN + 1) := BKX.add P hN (row0 (by omega) (by omega) (by omega) (by omega) (fun _ => hr) (by omega) (by omega)) hag (P.X.B.addl hx) (by omega)
      refine c_new (wh := 6) (wd' := wd) (postI := fun zr9 zM10 zN11 => w_X12_lot (nI x) zM10 zN11 (fun r2 M2 N2 => zr9 + 1 = r2 ∧ FrX M N M2 N2 ∧ INVW M2 N2)) P I hN (by omega) I.K.t5 I.mx.t5 (by omega) hr (by show _ ≤ 40; omega) (by omega) X hag (I.K.addl (by show _ ≤ 40; omega) (by omega) (fun j hj => ?_)) (fun k hk => ?_) P.z P.b (fun M1 N1 F1 P1 I1 => ?_)
      · have : j = 0 := by omega
        subst this; rfl
      · rw [addM_o (by simp) (by simp)]
        exact I.D k hk
      · have R1 := R.ofC F1
        have ctl1 := R1.ct.l
        unfold w_X12_lot
        refine eq_X12_isIn.mpr ?_
        rw [am_bt y]
        refine ⟨fun z => absurd z (by decide), fun _ => ?_⟩
        rw [R1.ct.n, e400]
        have vr : vp_in (nI (cnL lg NN).l) 40 := vp_in_nI hr (by omega)
        simp (disch := decide) only [am_u_o, ctl1, nI_clamp (show (cnL lg NN).l < 2 ^ 31 by omega), am_u_c, pk_us, nI_1, nI_pred]
        rw [e40]
        refine ⟨fun z => by omega, fun _ => ⟨fun _ => ⟨vr, ?_⟩, fun z => by omega⟩⟩
        refine r_new (wh := 6) (a := (cnL lg NN).l) (bb := 0) (c := 0) (wd' := wd) P R1 hN X hag (R1.K.addl (fun i _ _ h1 => ?_) ?_) (fun k hk => ?_) (fun z => absurd rfl z) ?_ (fun i h1 h2 => ?_) ?_ ?_ ?_ ?_ ?_ ?_ ?_ ?_ ⟨fun c hc => ⟨?_, rfl⟩, fun j hj => ?_⟩ (fun M2 N2 F2 I2 => ⟨?_, FrX.of F1 F2, _, _, _, now, wd, P1, I1.ofR F2, I2⟩)
        · rw [am_u_o _ _ _ (fun e => by simp only [Prod.mk.injEq] at e; omega), am_u_o _ _ _ (fun e => by simp only [Prod.mk.injEq] at e; omega)]
        · simp (disch := decide) only [am_u_o, am_u_c]
        · simp (disch := decide) only [am_u_o]; exact R1.D k hk
        · simp (disch := decide) only [am_u_o]
        · rw [am_u_o _ _ _ (fun e => by simp only [Prod.mk.injEq] at e; omega), am_u_o _ _ _ (fun e => by simp only [Prod.mk.injEq] at e; omega)]
        · simp (disch := decide) only [am_u_o, am_u_c, pk_un]
        · simp (disch := decide) only [am_u_o, am_u_c, pk_un]; exact R1.ct.r
        · simp (disch := decide) only [am_u_o, am_u_c, pk_un]; exact R1.ct.c
        · simp (disch := decide) only [am_u_o, am_u_c, pk_un]; exact R1.ct.w
        · rw [am_u_c, pk_us]; rfl
        · simp (disch := decide) only [am_u_o, am_u_c, pk_un]; exact R1.ct.k
        · simp (disch := decide) only [am_u_o, am_u_c, pk_un]
        · simp (disch := decide) only [am_u_o, am_u_c, pk_un]
        · rw [am_u_o _ _ _ (fun e => by subst e; simp at hc), am_u_o _ _ _ (fun e => by subst e; simp at hc)]
        · rw [am_u_c, pk_un (by omega)]
          simp (disch := decide) only [am_u_o]
        · have := I2.ct.l
          rw [cnL_add1] at this
          have e2 : (cnAdd (cnL lg NN) 6).l = (cnL lg NN).l + 1 := rfl
          rw [this, e2]
    · unfold w_X12_lot
      refine eq_X12_isIn.mpr ?_
      rw [am_bt y]
      refine ⟨fun z => absurd z (by decide), fun _ => ?_⟩
      rw [R.ct.l, R.ct.n, e40, e400]
      exact ⟨fun _ => no, fun z4 => ⟨fun z5 => by omega, fun _ => no⟩⟩
  · rw [am_bf y]
    refine ⟨fun _ => ?_, fun z => absurd rfl z⟩
    unfold w_X12_lot
    refine eq_X12_isIn.mpr ?_
    rw [am_bf y]
    exact ⟨fun _ => no, fun z => absurd rfl z⟩
/-- a work -/
def bkW (bk : Bk) (lg : Lg) (NN k c m : Nat) : Bk := bkSet bk 8 10 (cnL lg NN).w (fun t => if t = 8 then k else if t = 9 then c else m)
theorem X_work {k c m : Nat} (P : IP bk lg NN now wd) (hk : k ≤ 3) (hc : c < 64) (hm : m ≤ 999) (hr : (cnL lg NN).w < 60) (hN : NN < 400) : bkAg bk (bkW bk lg NN k c m) (cnL lg NN) ∧ BKX (bkW bk lg NN k c m) (addL lg NN now 5 (cnL lg NN).w 0 0) (NN + 1) := by
  have hag : bkAg bk (bkW bk lg NN k c m) (cnL lg NN) := bkSet_ag (fun t h1 h2 => by
    unfold bndB
    rw [if_neg (by omega), if_neg (by omega), if_pos (by omega)]
    exact Nat.le_refl _)
  exact ⟨hag, BKX.add P hN (row0 (by omega) (by omega) (by omega) (fun _ => ⟨rfl, hr⟩) (by omega) (by omega) (by omega)) hag (P.X.B.addw ⟨hk, hc, hm⟩) (by omega)⟩
theorem c_addWork {k c m : Nat} (P : IP bk lg NN now wd) (I : ICl bk lg NN now wd M N) (hk : k ≤ 3) (hc : c < 64) (hm : m ≤ 999) (h1 : (cnL lg NN).w < 60 → NN < 400 → ∀ M1 N1, FrC M N M1 N1 → IP (bkW bk lg NN k c m) (addL lg NN now 5 (cnL lg NN).w 0 0) (NN + 1) now wd → ICl (bkW bk lg NN k c m) (addL lg NN now 5 (cnL lg NN).w 0 0) (NN + 1) now wd M1 N1 → post (nI (cnL lg NN).w) M1 N1) (h0 : ¬ ((cnL lg NN).w < 60 ∧ NN < 400) → post (-1) M N) : w_X11_addWork (nI k) (nI c) (nI m) M N post := by
  unfold w_X11_addWork
  refine c_hasRoom I I.K.t3 I.mx.t3 (by omega) (fun hr hN => ⟨fun _ => ?_, fun z => absurd z (by decide)⟩) (fun z => ⟨fun z => absurd rfl z, fun _ => h0 z⟩)
  obtain ⟨hag, X⟩ := X_work P hk hc hm hr hN
  refine c_new (wh := 5) (wd' := wd) P I hN (by omega) I.K.t3 I.mx.t3 (by omega) hr (by show _ ≤ 180; omega) (by omega) X hag (I.K.addw (by show _ ≤ 180; omega) (by omega) (fun j hj => ?_)) (fun k hk => ?_) P.z P.b (fun M1 N1 F1 P1 I1 => h1 hr hN M1 N1 F1 P1 I1)
  · have : j = 0 ∨ j = 1 ∨ j = 2 := by omega
    rcases this with r | r | r <;> subst r <;> rfl
  · rw [addM_o (by simp) (by simp)]
    exact I.D k hk
theorem r_addWork {k c m : Nat} (P : IP bk lg NN now wd) (R1 : IRf bk lg NN now wd M1 N1) (hk : k ≤ 3) (hc : c < 64) (hm : m ≤ 999) (h1 : (cnL lg NN).w < 60 → NN < 400 → ∀ M2 N2, FrR M1 N1 M2 N2 → IRf (bkW bk lg NN k c m) (addL lg NN now 5 (cnL lg NN).w 0 0) (NN + 1) now wd M2 N2 → post (nI (cnL lg NN).w) M2 N2) (h0 : ¬ ((cnL lg NN).w < 60 ∧ NN < 400) → post (-1) M1 N1) : w_X12_work_p39 post (nI k) (nI c) (nI m) M1 N1 := by
  have h60 := (P.X.L.cb NN (Nat.le_refl _)).2.2.1
  have hN4 := P.X.N
  have e60 : nI (cnL lg NN).w = (60 : Int32) ↔ (cnL lg NN).w = 60 := nI_eq (b := 60) (by omega) (by omega)
  have e400 : nI NN = (400 : Int32) ↔ NN = 400 := nI_eq (b := 400) (by omega) (by omega)
  have ctw1 := R1.ct.w
  unfold w_X12_work_p39
  rw [R1.ct.n, e400]
  simp (disch := decide) only [am_u_o, ctw1, nI_clamp (show (cnL lg NN).w < 2 ^ 31 by omega), am_u_c, pk_us, nI_1, nI_pred]
  rw [e60]
  refine ⟨fun z => h0 (by omega), fun z => ⟨fun z2 => ?_, fun z2 => h0 (by omega)⟩⟩
  have hr : (cnL lg NN).w < 60 := by omega
  have hN : NN < 400 := by omega
  obtain ⟨hag, X⟩ := X_work P hk hc hm hr hN
  have vr : vp_in (nI (cnL lg NN).w) 60 := vp_in_nI hr (by omega)
  refine ⟨vr, vr, vr, ?_⟩
  refine r_new (wh := 5) (a := (cnL lg NN).w) (bb := 0) (c := 0) (wd' := wd) P R1 hN X hag (R1.K.addw (fun i _ _ h1 h2 h3 => ?_) ?_ ?_ ?_) (fun k hk => ?_) (fun _ _ => rfl) ?_ (fun i h1 h2 => ?_) ?_ ?_ ?_ ?_ ?_ ?_ ?_ ?_ ⟨fun c hc => ⟨?_, rfl⟩, fun j hj => ?_⟩ (fun M2 N2 F2 I2 => ?_)
  · rw [am_u_o _ _ _ (fun e => by simp only [Prod.mk.injEq] at e; omega), am_u_o _ _ _ (fun e => by simp only [Prod.mk.injEq] at e; omega), am_u_o _ _ _ (fun e => by simp only [Prod.mk.injEq] at e; omega), am_u_o _ _ _ (fun e => by simp only [Prod.mk.injEq] at e; omega)]
  · simp (disch := decide) only [am_u_o, am_u_c]; rfl
  · simp (disch := decide) only [am_u_o, am_u_c]; rfl
  · simp (disch := decide) only [am_u_o, am_u_c]; rfl
  · simp (disch := decide) only [am_u_o]; exact R1.D k hk
  · simp (disch := decide) only [am_u_o]
  · rw [am_u_o _ _ _ (fun e => by simp only [Prod.mk.injEq] at e; omega), am_u_o _ _ _ (fun e => by simp only [Prod.mk.injEq] at e; omega), am_u_o _ _ _ (fun e => by simp only [Prod.mk.injEq] at e; omega), am_u_o _ _ _ (fun e => by simp only [Prod.mk.injEq] at e; omega)]
  · simp (disch := decide) only [am_u_o, am_u_c, pk_un]
  · simp (disch := decide) only [am_u_o, am_u_c, pk_un]; exact R1.ct.r
  · simp (disch := decide) only [am_u_o, am_u_c, pk_un]; exact R1.ct.c
  · rw [am_u_c, pk_us]; rfl
  · simp (disch := decide) only [am_u_o, am_u_c, pk_un]; exact R1.ct.l
  · simp (disch := decide) only [am_u_o, am_u_c, pk_un]; exact R1.ct.k
  · simp (disch := decide) only [am_u_o, am_u_c, pk_un]
  · simp (disch := decide) only [am_u_o, am_u_c, pk_un]
  · rw [am_u_o _ _ _ (fun e => by subst e; simp at hc), am_u_o _ _ _ (fun e => by subst e; simp at hc), am_u_o _ _ _ (fun e => by subst e; simp at hc), am_u_o _ _ _ (fun e => by subst e; simp at hc)]
  · rw [am_u_c, pk_un (by omega)]
    simp (disch := decide) only [am_u_o]
  · have := I2.ct.w
    rw [cnL_add1] at this
    have e2 : (cnAdd (cnL lg NN) 5).w = (cnL lg NN).w + 1 := rfl
    rw [this, e2, nI_pred]
    exact h1 hr hN M2 N2 F2 I2
theorem call_work (h : INVW M N) : w_X11_work a1 a2 a3 M N (fun r M1 N1 => w_X12_work a1 a2 a3 M1 N1 (fun r2 M2 N2 => r = r2 ∧ FrX M N M2 N2 ∧ INVW M2 N2)) := by
  have h0 := h
  obtain ⟨bk, lg, NN, now, wd, P, I, R⟩ := h
  have no : (-1 : Int32) = -1 ∧ FrX M N M N ∧ INVW M N := ⟨rfl, FrX.rf, h0⟩
  have main : ∀ k c m : Nat, k ≤ 3 → c < 64 → m ≤ 999 → (∀ (K : Int32 → am_I → am_N → Prop) M1 N1, w_X12_work_p39 K (nI k) (nI c) (nI m) M1 N1 → w_X12_work (nI k) (nI c) (nI m) M1 N1 K) → w_X11_work_p43 (fun r M1 N1 => w_X12_work (nI k) (nI c) (nI m) M1 N1 (fun r2 M2 N2 => r = r2 ∧ FrX M N M2 N2 ∧ INVW M2 N2)) (nI k) (nI c) (nI m) M N := by
    intro k c m hk hc hm hK
    unfold w_X11_work_p43
    refine c_addWork P I hk hc hm (fun hr hN M1 N1 F1 P1 I1 => hK _ _ _ (r_addWork P (R.ofC F1) hk hc hm (fun _ _ M2 N2 F2 I2 => ⟨rfl, FrX.of F1 F2, _, _, _, now, wd, P1, I1.ofR F2, I2⟩) (fun z => absurd ⟨hr, hN⟩ z))) (fun z => hK _ _ _ (r_addWork P R hk hc hm (fun hr hN => absurd ⟨hr, hN⟩ z) (fun _ => no)))
  unfold w_X11_work
  refine eq_X11_within.mpr ?_
  by_cases y1 : 0 ≤ a1 ∧ a1 ≤ 3
  · rw [am_bt y1]
    refine ⟨fun z => absurd z (by decide), fun _ => eq_X11_isCell.mpr ?_⟩
    by_cases y2 : 0 ≤ a2 ∧ a2 ≤ 63
    · rw [am_bt y2]
      obtain ⟨k, hk, rfl⟩ : ∃ k, k ≤ 3 ∧ a1 = nI k := nI_of2 (M := 3) (n := 3) rfl (Int32.not_lt.mpr y1.1) y1.2
      obtain ⟨c, hc, rfl⟩ : ∃ k, k ≤ 63 ∧ a2 = nI k := nI_of2 (M := 63) (n := 63) rfl (Int32.not_lt.mpr y2.1) y2.2
      refine ⟨fun _ => ⟨fun z => ⟨fun z2 => ?_, fun z2 => ?_⟩, fun z => eq_X11_within.mpr ?_⟩, fun z => absurd z (by decide)⟩
      · subst z2
        refine main k c 0 hk (by omega) (by omega) (fun K M1 N1 hp => ?_)
        unfold w_X12_work
        refine eq_X12_isIn.mpr ?_
        rw [am_bt y1]
        refine ⟨fun z => absurd z (by decide), fun _ => eq_X12_isCell.mpr ?_⟩
        rw [am_bt y2]
        exact ⟨fun z => absurd z (by decide), fun _ => ⟨fun _ => ⟨fun z => absurd rfl z, fun _ => hp⟩, fun y => absurd y z⟩⟩
      · unfold w_X12_work
        refine eq_X12_isIn.mpr ?_
        rw [am_bt y1]
        refine ⟨fun z => absurd z (by decide), fun _ => eq_X12_isCell.mpr ?_⟩
        rw [am_bt y2]
        exact ⟨fun z => absurd z (by decide), fun _ => ⟨fun _ => ⟨fun _ => no, fun y => absurd y z2⟩, fun y => absurd y z⟩⟩
      · by_cases y3 : 1 ≤ a3 ∧ a3 ≤ 999
        · rw [am_bt y3]
          obtain ⟨m, hm, rfl⟩ : ∃ m, m ≤ 999 ∧ a3 = nI m := nI_of2 (M := 999) (n := 999) rfl (Int32.not_lt.mpr (Int32.le_trans (by decide) y3.1)) y3.2
          refine ⟨fun _ => main k c m hk (by omega) hm (fun K M1 N1 hp => ?_), fun z => absurd z (by decide)⟩
          unfold w_X12_work
          refine eq_X12_isIn.mpr ?_
          rw [am_bt y1]
          refine ⟨fun z => absurd z (by decide), fun _ => eq_X12_isCell.mpr ?_⟩
          rw [am_bt y2]
          refine ⟨fun z => absurd z (by decide), fun _ => ⟨fun y => absurd z y, fun _ => eq_X12_isIn.mpr ?_⟩⟩
          rw [am_bt y3]
          exact ⟨fun z => absurd z (by decide), fun _ => hp⟩
        · rw [am_bf y3]
          refine ⟨fun z => absurd rfl z, fun _ => ?_⟩
          unfold w_X12_work
          refine eq_X12_isIn.mpr ?_
          rw [am_bt y1]
          refine ⟨fun z => absurd z (by decide), fun _ => eq_X12_isCell.mpr ?_⟩
          rw [am_bt y2]
          refine ⟨fun z => absurd z (by decide), fun _ => ⟨fun y => absurd z y, fun _ => eq_X12_isIn.mpr ?_⟩⟩
          rw [am_bf y3]
          exact ⟨fun _ => no, fun z => absurd rfl z⟩
    · rw [am_bf y2]
      refine ⟨fun z => absurd rfl z, fun _ => ?_⟩
      unfold w_X12_work
      refine eq_X12_isIn.mpr ?_
      rw [am_bt y1]
      refine ⟨fun z => absurd z (by decide), fun _ => eq_X12_isCell.mpr ?_⟩
      rw [am_bf y2]
      exact ⟨fun _ => no, fun z => absurd rfl z⟩
  · rw [am_bf y1]
    refine ⟨fun _ => ?_, fun z => absurd rfl z⟩
    unfold w_X12_work
    refine eq_X12_isIn.mpr ?_
    rw [am_bf y1]
    exact ⟨fun _ => no, fun z => absurd rfl z⟩
end CB
