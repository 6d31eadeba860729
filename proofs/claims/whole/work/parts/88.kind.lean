/-! ===== kind, pass ===== -/
theorem nI_p2 (a : Nat) : nI a + 2 = nI (a + 2) := nI_add a 2
theorem nI_p3 (a : Nat) : nI a + 3 = nI (a + 3) := nI_add a 3
section CD
variable {M M1 : am_I} {N N1 : am_N} {bk : Bk} {lg : Lg} {NN now : Nat} {wd : Nat → Nat} {a1 a2 a3 a4 a5 a6 : Int32} {post : Int32 → am_I → am_N → Prop}
theorem call_kind (h : INVW M N) (hb : a1 = 0 ∨ a1 = 1) : w_X11_kind a1 a2 a3 a4 a5 a6 M N (fun r M1 N1 => w_X12_kind a1 a2 a3 a4 a5 a6 M1 N1 (fun r2 M2 N2 => r = r2 ∧ FrX M N M2 N2 ∧ INVW M2 N2)) := by
  have h0 := h
  obtain ⟨bk, lg, NN, now, wd, P, I, R⟩ := h
  have no : (-1 : Int32) = -1 ∧ FrX M N M N ∧ INVW M N := ⟨rfl, FrX.rf, h0⟩
  have hcb := P.X.L.cb NN (Nat.le_refl _)
  have h5 := hcb.2.2.2.2
  have hN4 := P.X.N
  have e5 : nI (cnL lg NN).k = (5 : Int32) ↔ (cnL lg NN).k = 5 := nI_eq (b := 5) (by omega) (by omega)
  have e400 : nI NN = (400 : Int32) ↔ NN = 400 := nI_eq (b := 400) (by omega) (by omega)
  obtain ⟨wv, hwv, ewv⟩ : ∃ w, w ≤ 1 ∧ a1 = nI w := by
    rcases hb with h | h
    · exact ⟨0, by omega, h⟩
    · exact ⟨1, by omega, h⟩
  have enar : vp_nar .boolean a1 = a1 := by
    rcases hb with h | h <;> rw [h] <;> rfl
  unfold w_X11_kind w_X12_kind
  refine eq_X11_within.mpr ?_
  by_cases y1 : 1 ≤ a2 ∧ a2 ≤ 100
  rotate_left
  · rw [am_bf y1]
    refine ⟨fun _ => eq_X12_isIn.mpr ?_, fun z => absurd rfl z⟩
    rw [am_bf y1]
    exact ⟨fun _ => no, fun z => absurd rfl z⟩
  rw [am_bt y1]
  refine ⟨fun z => absurd z (by decide), fun _ => eq_X11_isOdds.mpr ?_⟩
  by_cases y2 : 1 ≤ a3 ∧ a3 ≤ 99
  rotate_left
  · rw [am_bf y2]
    refine ⟨fun _ => eq_X12_isIn.mpr ?_, fun z => absurd rfl z⟩
    rw [am_bt y1]
    refine ⟨fun z => absurd z (by decide), fun _ => eq_X12_isIn.mpr ?_⟩
    rw [am_bf y2]
    exact ⟨fun _ => no, fun z => absurd rfl z⟩
  rw [am_bt y2]
  refine ⟨fun z => absurd z (by decide), fun _ => eq_X11_isOdds.mpr ?_⟩
  by_cases y3 : 1 ≤ a4 ∧ a4 ≤ 99
  rotate_left
  · rw [am_bf y3]
    refine ⟨fun _ => eq_X12_isIn.mpr ?_, fun z => absurd rfl z⟩
    rw [am_bt y1]
    refine ⟨fun z => absurd z (by decide), fun _ => eq_X12_isIn.mpr ?_⟩
    rw [am_bt y2]
    refine ⟨fun z => absurd z (by decide), fun _ => eq_X12_isIn.mpr ?_⟩
    rw [am_bf y3]
    exact ⟨fun _ => no, fun z => absurd rfl z⟩
  rw [am_bt y3]
  refine ⟨fun z => absurd z (by decide), fun _ => eq_X11_isOdds.mpr ?_⟩
  by_cases y4 : 1 ≤ a5 ∧ a5 ≤ 99
  rotate_left
  · rw [am_bf y4]
    refine ⟨fun _ => eq_X12_isIn.mpr ?_, fun z => absurd rfl z⟩
    rw [am_bt y1]
    refine ⟨fun z => absurd z (by decide), fun _ => eq_X12_isIn.mpr ?_⟩
    rw [am_bt y2]
    refine ⟨fun z => absurd z (by decide), fun _ => eq_X12_isIn.mpr ?_⟩
    rw [am_bt y3]
    refine ⟨fun z => absurd z (by decide), fun _ => eq_X12_isIn.mpr ?_⟩
    rw [am_bf y4]
    exact ⟨fun _ => no, fun z => absurd rfl z⟩
  rw [am_bt y4]
  refine ⟨fun z => absurd z (by decide), fun _ => eq_X11_isOdds.mpr ?_⟩
  by_cases y5 : 1 ≤ a6 ∧ a6 ≤ 99
  rotate_left
  · rw [am_bf y5]
    refine ⟨fun _ => eq_X12_isIn.mpr ?_, fun z => absurd rfl z⟩
    rw [am_bt y1]
    refine ⟨fun z => absurd z (by decide), fun _ => eq_X12_isIn.mpr ?_⟩
    rw [am_bt y2]
    refine ⟨fun z => absurd z (by decide), fun _ => eq_X12_isIn.mpr ?_⟩
    rw [am_bt y3]
    refine ⟨fun z => absurd z (by decide), fun _ => eq_X12_isIn.mpr ?_⟩
    rw [am_bt y4]
    refine ⟨fun z => absurd z (by decide), fun _ => eq_X12_isIn.mpr ?_⟩
    rw [am_bf y5]
    exact ⟨fun _ => no, fun z => absurd rfl z⟩
  rw [am_bt y5]
  obtain ⟨p, hp, rfl⟩ : ∃ x, x ≤ 100 ∧ a2 = nI x := nI_of2 (M := 100) (n := 100) rfl (Int32.not_lt.mpr (Int32.le_trans (by decide) y1.1)) y1.2
  have hp1 : 1 ≤ p := (nI_leI (a := 1) (by omega) (by omega)).mp y1.1
  obtain ⟨o0, ho0, rfl⟩ : ∃ x, x ≤ 99 ∧ a3 = nI x := nI_of2 (M := 99) (n := 99) rfl (Int32.not_lt.mpr (Int32.le_trans (by decide) y2.1)) y2.2
  obtain ⟨o1, ho1, rfl⟩ : ∃ x, x ≤ 99 ∧ a4 = nI x := nI_of2 (M := 99) (n := 99) rfl (Int32.not_lt.mpr (Int32.le_trans (by decide) y3.1)) y3.2
  obtain ⟨o2, ho2, rfl⟩ : ∃ x, x ≤ 99 ∧ a5 = nI x := nI_of2 (M := 99) (n := 99) rfl (Int32.not_lt.mpr (Int32.le_trans (by decide) y4.1)) y4.2
  obtain ⟨o3, ho3, rfl⟩ : ∃ x, x ≤ 99 ∧ a6 = nI x := nI_of2 (M := 99) (n := 99) rfl (Int32.not_lt.mpr (Int32.le_trans (by decide) y5.1)) y5.2
  refine ⟨fun z => absurd z (by decide), fun _ => c_hasRoom I I.K.t4 I.mx.t4 (by omega) (fun hr hN => ⟨fun _ => ?_, fun z => absurd z (by decide)⟩) (fun hno => ⟨fun z => absurd rfl z, fun _ => eq_X12_isIn.mpr ?_⟩)⟩
  · have hag : bkAg bk (bkSet bk 12 16 (cnL lg NN).k (fun t => if t = 12 then p else if t = 13 then o0 else if t = 14 then o1 else if t = 15 then o2 else o3)) (cnL lg NN) := bkSet_ag (fun t h1 h2 => by
      unfold bndB
      rw [if_neg (by omega), if_neg (by omega), if_neg (by omega), if_neg (by omega)]
      exact Nat.le_refl _)
    have hm4 : ∀ m, m < 4 → m = 0 ∨ m = 1 ∨ m = 2 ∨ m = 3 := fun m hm => by omega
    have X : BKX (bkSet bk 12 16 (cnL lg NN).k (fun t => if t = 12 then p else if t = 13 then o0 else if t = 14 then o1 else if t = 15 then o2 else o3)) (addL lg NN now 7 (cnL lg NN).k 0 0) (NN + 1) := BKX.add P hN (row0 (by omega) (by omega) (by omega) (by omega) (by omega) (fun _ => hr) (by omega)) hag (P.X.B.addk ⟨⟨hp1, hp⟩, fun m hm => by
      rcases hm4 m hm with r | r | r | r <;> subst r
      · exact ho0
      · exact ho1
      · exact ho2
      · exact ho3⟩) (by omega)
    have hkk : (cnAdd (cnL lg NN) 7).k = (cnL lg NN).k + 1 := rfl
    have main : ∀ s0 : Int32, s0 = nI wv → w_X11_kind_p76 (fun r M1 N1 => w_X12_isIn (nI p) 1 100 M1 N1 (fun zr1 zM2 zN3 => ((zr1 = 0 → (fun r2 M2 N2 => r = r2 ∧ FrX M N M2 N2 ∧ INVW M2 N2) (-1) zM2 zN3) ∧ (¬ zr1 = 0 → w_X12_kind a1 (nI p) (nI o0) (nI o1) (nI o2) (nI o3) M1 N1 (fun r2 M2 N2 => r = r2 ∧ FrX M N M2 N2 ∧ INVW M2 N2))))) (nI p) (nI o0) (nI o1) (nI o2) (nI o3) s0 M N := by
      intro s0 es0
      unfold w_X11_kind_p76
      refine c_new (wh := 7) (wd' := updN wd (cnL lg NN).k wv) P I hN (by omega) I.K.t4 I.mx.t4 (by omega) hr (by show _ ≤ 30; omega) (by omega) X hag (I.K.addk (by show _ ≤ 30; omega) (by omega) (fun j hj => ?_)) (fun k hk => ?_) (fun k hk => ?_) (fun k => ?_) (fun M1 N1 F1 P1 I1 => eq_X12_isIn.mpr ?_)
      · have : j = 0 ∨ j = 1 ∨ j = 2 ∨ j = 3 ∨ j = 4 := by omega
        rcases this with r | r | r | r | r <;> subst r <;> rfl
      · by_cases e : k = (cnL lg NN).k
        · subst e
          rw [addM_new (by omega)]
          unfold updN
          rw [if_pos rfl]
          exact es0
        · rw [addM_oldR (by omega) (by omega)]
          unfold updN
          rw [if_neg e]
          exact I.D k (by omega)
      · unfold updN
        rw [if_neg (by omega)]
        exact P.z k (by omega)
      · unfold updN
        by_cases e : k = (cnL lg NN).k
        · rw [if_pos e]; exact hwv
        · rw [if_neg e]; exact P.b k
      · have R1 := R.ofC F1
        have ctk1 := R1.ct.k
        rw [am_bt y1]
        refine ⟨fun z => absurd z (by decide), fun _ => ?_⟩
        unfold w_X12_kind
        refine eq_X12_isIn.mpr ?_
        rw [am_bt y1]
        refine ⟨fun z => absurd z (by decide), fun _ => eq_X12_isIn.mpr ?_⟩
        rw [am_bt y2]
        refine ⟨fun z => absurd z (by decide), fun _ => eq_X12_isIn.mpr ?_⟩
        rw [am_bt y3]
        refine ⟨fun z => absurd z (by decide), fun _ => eq_X12_isIn.mpr ?_⟩
        rw [am_bt y4]
        refine ⟨fun z => absurd z (by decide), fun _ => eq_X12_isIn.mpr ?_⟩
        rw [am_bt y5]
        refine ⟨fun z => absurd z (by decide), fun _ => ?_⟩
        rw [R1.ct.n, e400]
        have vr : vp_in (nI (cnL lg NN).k) 5 := vp_in_nI hr (by omega)
        simp (disch := decide) only [am_u_o, ctk1, nI_clamp (show (cnL lg NN).k < 2 ^ 31 by omega), am_u_c, pk_us, xm4, nI_1, nI_p2, nI_p3, nI_pred, enar, nI_clamp (show 4 * (cnL lg NN).k < 2 ^ 31 by omega), nI_clamp (show 4 * (cnL lg NN).k + 1 < 2 ^ 31 by omega), nI_clamp (show 4 * (cnL lg NN).k + 2 < 2 ^ 31 by omega), nI_clamp (show 4 * (cnL lg NN).k + 3 < 2 ^ 31 by omega)]
        rw [e5]
        refine ⟨fun z => by omega, fun _ => ⟨fun _ => ⟨vr, vr, vp_in_nI (by omega) (by omega), vp_in_nI (by omega) (by omega), vp_in_nI (by omega) (by omega), vp_in_nI (by omega) (by omega), ?_⟩, fun z => by omega⟩⟩
        have six : ∀ {c : am_C} {j1 j2 j3 j4 : Nat} {x1 x2 x3 x4 x5 x6 x7 : Int32}, c ≠ (3, 0, 22) → c ≠ (3, 0, 20) → c ≠ (3, 0, 21) → c ≠ (3, 0, 0) → (am_u (am_u (am_u (am_u (am_u (am_u (am_u M1 (3, 0, 22) (cnL lg NN).k x1) (3, 0, 20) (cnL lg NN).k x2) (3, 0, 21) j1 x3) (3, 0, 21) j2 x4) (3, 0, 21) j3 x5) (3, 0, 21) j4 x6) (3, 0, 0) 14 x7) c = M1 c := fun h1 h2 h3 h6 => by
          rw [am_u_o _ _ _ h6, am_u_o _ _ _ h3, am_u_o _ _ _ h3, am_u_o _ _ _ h3, am_u_o _ _ _ h3, am_u_o _ _ _ h2, am_u_o _ _ _ h1]
        refine r_new (wh := 7) (a := (cnL lg NN).k) (bb := 0) (c := 0) (wd' := updN wd (cnL lg NN).k wv) P R1 hN X hag (R1.K.addk (fun i _ _ h1 h2 => ?_) ?_ (fun i hi => ?_) (fun m hm => ?_)) (fun k hk => ?_) (fun _ z => absurd rfl z) ?_ (fun i h1 h2 => ?_) ?_ ?_ ?_ ?_ ?_ ?_ ?_ ?_ ⟨fun c hc => ⟨?_, rfl⟩, fun j hj => ?_⟩ (fun M2 N2 F2 I2 => ⟨?_, FrX.of F1 F2, _, _, _, now, _, P1, I1.ofR F2, I2⟩)
        · exact six (fun e => by simp only [Prod.mk.injEq] at e; omega) (fun e => by simp only [Prod.mk.injEq] at e; omega) (fun e => by simp only [Prod.mk.injEq] at e; omega) (fun e => by simp only [Prod.mk.injEq] at e; omega)
        · simp (disch := decide) only [am_u_o, am_u_c]; rfl
        · simp (disch := decide) only [am_u_o, am_u_c]
          rw [pk_un (by omega), pk_un (by omega), pk_un (by omega), pk_un (by omega)]
        · simp (disch := decide) only [am_u_o, am_u_c]
          rcases hm4 m hm with r | r | r | r <;> subst r
          · rw [pk_un (by omega), pk_un (by omega), pk_un (by omega)]; exact pk_us
          · rw [pk_un (by omega), pk_un (by omega), pk_us]; rfl
          · rw [pk_un (by omega), pk_us]; rfl
          · rw [pk_us]; rfl
        · simp (disch := decide) only [am_u_o, am_u_c]
          unfold updN
          by_cases e : k = (cnL lg NN).k
          · subst e; rw [pk_us, if_pos rfl]; exact ewv
          · rw [pk_un e, if_neg e]; exact R1.D k hk
        · simp (disch := decide) only [am_u_o]
        · exact six (fun e => by simp only [Prod.mk.injEq] at e; omega) (fun e => by simp only [Prod.mk.injEq] at e; omega) (fun e => by simp only [Prod.mk.injEq] at e; omega) (fun e => by simp only [Prod.mk.injEq] at e; omega)
        · simp (disch := decide) only [am_u_o, am_u_c, pk_un]
        · simp (disch := decide) only [am_u_o, am_u_c, pk_un]; exact R1.ct.r
        · simp (disch := decide) only [am_u_o, am_u_c, pk_un]; exact R1.ct.c
        · simp (disch := decide) only [am_u_o, am_u_c, pk_un]; exact R1.ct.w
        · simp (disch := decide) only [am_u_o, am_u_c, pk_un]; exact R1.ct.l
        · rw [am_u_c, pk_us]; rfl
        · simp (disch := decide) only [am_u_o, am_u_c, pk_un]
        · simp (disch := decide) only [am_u_o, am_u_c, pk_un]
        · exact six (fun e => by subst e; simp at hc) (fun e => by subst e; simp at hc) (fun e => by subst e; simp at hc) (fun e => by subst e; simp at hc)
        · rw [am_u_c, pk_un (by omega)]
          simp (disch := decide) only [am_u_o]
        · have := I2.ct.k
          rw [cnL_add1, hkk] at this
          rw [this, nI_pred]
    have fin : ∀ s0 : Int32, s0 = nI wv → w_X11_kind_p76 (fun r M1 N1 => w_X12_kind a1 (nI p) (nI o0) (nI o1) (nI o2) (nI o3) M1 N1 (fun r2 M2 N2 => r = r2 ∧ FrX M N M2 N2 ∧ INVW M2 N2)) (nI p) (nI o0) (nI o1) (nI o2) (nI o3) s0 M N := by
      intro s0 es0
      have m := main s0 es0
      have e : (fun (r : Int32) (M1 : am_I) (N1 : am_N) => w_X12_isIn (nI p) 1 100 M1 N1 (fun zr1 zM2 zN3 => ((zr1 = 0 → (fun r2 M2 N2 => r = r2 ∧ FrX M N M2 N2 ∧ INVW M2 N2) (-1) zM2 zN3) ∧ (¬ zr1 = 0 → w_X12_kind a1 (nI p) (nI o0) (nI o1) (nI o2) (nI o3) M1 N1 (fun r2 M2 N2 => r = r2 ∧ FrX M N M2 N2 ∧ INVW M2 N2))))) = (fun r M1 N1 => w_X12_kind a1 (nI p) (nI o0) (nI o1) (nI o2) (nI o3) M1 N1 (fun r2 M2 N2 => r = r2 ∧ FrX M N M2 N2 ∧ INVW M2 N2)) := by
        funext r M1 N1
        apply propext
        rw [eq_X12_isIn, am_bt y1]
        exact ⟨fun z => z.2 (by decide), fun z => ⟨fun y => absurd y (by decide), fun _ => z⟩⟩
      rw [e] at m
      exact m
    have fin0 := fin a1 ewv
    refine ⟨fun z => ?_, fun z => ?_⟩
    · rw [z] at fin0 ⊢
      exact fin0
    · have z1 := hb.resolve_left z
      rw [z1] at fin0 ⊢
      exact fin0
  · rw [am_bt y1]
    refine ⟨fun z => absurd z (by decide), fun _ => eq_X12_isIn.mpr ?_⟩
    rw [am_bt y2]
    refine ⟨fun z => absurd z (by decide), fun _ => eq_X12_isIn.mpr ?_⟩
    rw [am_bt y3]
    refine ⟨fun z => absurd z (by decide), fun _ => eq_X12_isIn.mpr ?_⟩
    rw [am_bt y4]
    refine ⟨fun z => absurd z (by decide), fun _ => eq_X12_isIn.mpr ?_⟩
    rw [am_bt y5]
    refine ⟨fun z => absurd z (by decide), fun _ => ?_⟩
    rw [R.ct.k, R.ct.n, e5, e400]
    exact ⟨fun _ => no, fun z4 => ⟨fun z5 => by omega, fun _ => no⟩⟩
end CD
