/-! ===== set, charge, plant, show, look, ill ===== -/
section TE2
variable {M M1 : am_I} {N N1 : am_N} {bk : Bk} {lg : Lg} {NN now : Nat} {wd : Nat → Nat} {a1 a2 a3 : Int32} {postI : Int32 → am_I → am_N → Prop}
theorem IP.good (P : IP bk lg NN now wd) : GoodF (999 * NN + 190080 * now) (cnL lg NN) (rep bk noBut lg now NN).1 := (rep_good (but := noBut) P.X.L P.X.B P.X.N now NN P.nw (Nat.le_refl _)).1
theorem am_setB1 (h : am_set a1 a2) : am_setB a1 a2 = 1 := if_pos h
theorem call_set (h : INVW M N) : w_X11_set a1 a2 M N (fun r M1 N1 => w_X12_set a1 a2 M1 N1 (fun r2 M2 N2 => r = r2 ∧ FrX M N M2 N2 ∧ INVW M2 N2)) := by
  have h0 := h
  obtain ⟨bk, lg, NN, now, wd, P, I, R⟩ := h
  have no : (0 : Int32) = 0 ∧ FrX M N M N ∧ INVW M N := ⟨rfl, FrX.rf, h0⟩
  unfold w_X11_set
  refine eq_X11_isSetting ?_
  by_cases e : am_set a1 a2
  · rw [am_setB1 e]
    refine ⟨fun _ => ?_, fun z => absurd z (by decide)⟩
    have main : ∃ a bb, a1 = nI a ∧ a2 = nI bb ∧ a < 4 ∧ bb ≤ 9999 := by
      have e' := e
      unfold am_set at e'
      by_cases z : a1 = 0 ∨ a1 = 1
      · rw [if_pos z] at e'
        obtain ⟨bb, hb, eb⟩ := nI_of2 (M := 9999) (n := 9999) rfl (Int32.not_lt.mpr (Int32.le_trans (by decide) e'.1)) e'.2
        rcases z with z | z
        · exact ⟨0, bb, z, eb, by omega, hb⟩
        · exact ⟨1, bb, z, eb, by omega, hb⟩
      · rw [if_neg z] at e'
        by_cases z2 : a1 = 2
        · rw [if_pos z2] at e'
          obtain ⟨bb, hb, eb⟩ := nI_of2 (M := 100) (n := 100) rfl (Int32.not_lt.mpr e'.1) e'.2
          exact ⟨2, bb, z2, eb, by omega, by omega⟩
        · rw [if_neg z2] at e'
          by_cases z3 : a1 = 3
          · rw [if_pos z3] at e'
            obtain ⟨bb, hb, eb⟩ := nI_of2 (M := 14) (n := 14) rfl (Int32.not_lt.mpr e'.1) e'.2
            exact ⟨3, bb, z3, eb, by omega, by omega⟩
          · rw [if_neg z3] at e'
            exact absurd e' id
    obtain ⟨a, bb, rfl, rfl, ha, hb⟩ := main
    have hr : RowOK (cnL lg NN) 1 a bb 0 := ⟨by omega, by omega, fun _ => ⟨ha, hb⟩, by omega, by omega, by omega, by omega, by omega, by omega, by omega, by omega, by omega, by omega⟩
    refine t_both (wh := 1) (c := 0) P I R hr (by decide) (fun M1 N1 K F1 k1 k0 => ?_)
    unfold w_X12_set
    refine eq_X12_isSet ?_
    rw [am_setB1 e]
    exact ⟨fun z => absurd z (by decide), fun _ => r_full P R F1 k1 k0⟩
  · have e0 := (am_setB0 a1 a2).mpr e
    rw [e0]
    refine ⟨fun z => absurd rfl z, fun _ => ?_⟩
    unfold w_X12_set
    refine eq_X12_isSet ?_
    rw [e0]
    exact ⟨fun _ => no, fun z => absurd rfl z⟩
theorem call_charge (h : INVW M N) : w_X11_charge a1 M N (fun r M1 N1 => w_X12_charge a1 M1 N1 (fun r2 M2 N2 => r = r2 ∧ FrX M N M2 N2 ∧ INVW M2 N2)) := by
  have h0 := h
  obtain ⟨bk, lg, NN, now, wd, P, I, R⟩ := h
  have no : (0 : Int32) = 0 ∧ FrX M N M N ∧ INVW M N := ⟨rfl, FrX.rf, h0⟩
  have h8 := (P.X.L.cb NN (Nat.le_refl _)).2.1
  have hk := R.ct.c
  unfold w_X11_charge
  refine c_has I.K.t2 (fun q hq eq => ⟨fun z => absurd z (by decide), fun _ => ?_⟩) (fun e => ⟨fun _ => ?_, fun z => absurd rfl z⟩)
  · subst eq
    have v0 : vp_in (nI q) 8 := vp_in_nI (by omega) (by omega)
    have j3 : (976 + nI q).toNatClampNeg = 976 + q := by rw [ix976, nI_clamp (by omega)]
    have u3 : vp_in (976 + nI q) 1635 := by rw [ix976]; exact vp_in_nI (by omega) (by omega)
    unfold w_X1_isFlat
    rw [eq_isPlace (by omega), nI_clamp (show q < 2 ^ 31 by omega), (I.cl.w.w.c.on q hq id).2.2.1]
    refine ⟨fun z => absurd z (by decide), fun _ => ⟨v0, fun z => ⟨fun z => absurd rfl z, fun _ => ?_⟩, fun z => ⟨fun _ => ?_, fun z => absurd z (by decide)⟩⟩⟩
    · unfold w_X12_charge w_X12_isCart
      refine r_isInM hk (by omega) (fun _ _ _ => ⟨Or.inr rfl, fun z => absurd z (by decide), fun _ => ⟨u3, ?_⟩⟩) (fun z => absurd ⟨q, hq, rfl⟩ z)
      rw [j3, R.rm.w.f]
      exact ⟨fun _ => no, fun y => absurd y z⟩
    · have hr : RowOK (cnL lg NN) 4 q 0 0 := ⟨by omega, by omega, by omega, by omega, by omega, fun _ => hq, by omega, by omega, by omega, by omega, by omega, by omega, by omega⟩
      refine t_both (wh := 4) (bb := 0) (c := 0) P I R hr (by decide) (fun M1 N1 K F1 k1 k0 => ?_)
      unfold w_X12_charge w_X12_isCart
      rw [F1.ref, hk]
      refine r_isIn (by omega) (fun _ _ _ => ⟨Or.inr rfl, fun z => absurd z (by decide), fun _ => ⟨u3, ?_⟩⟩) (fun z => absurd ⟨q, hq, rfl⟩ z)
      rw [j3, F1.ref 1, R.rm.w.f]
      exact ⟨fun y => absurd z y, fun _ => r_full P R F1 k1 k0⟩
  · unfold w_X12_charge w_X12_isCart
    exact r_isInM hk (by omega) (fun j hj ej => absurd ⟨j, hj, ej⟩ e) (fun _ => ⟨Or.inl rfl, fun _ => no, fun z => absurd rfl z⟩)
theorem call_plant (h : INVW M N) : w_X11_plant a1 M N (fun r M1 N1 => w_X12_plant a1 M1 N1 (fun r2 M2 N2 => r = r2 ∧ FrX M N M2 N2 ∧ INVW M2 N2)) := by
  have h0 := h
  obtain ⟨bk, lg, NN, now, wd, P, I, R⟩ := h
  have no : (0 : Int32) = 0 ∧ FrX M N M N ∧ INVW M N := ⟨rfl, FrX.rf, h0⟩
  have h5 := (P.X.L.cb NN (Nat.le_refl _)).2.2.2.2
  have hk := R.ct.k
  have hk0 : nI (cnL lg NN).k = 0 ↔ (cnL lg NN).k = 0 := nI_eq (b := 0) (by omega) (by omega)
  unfold w_X11_plant
  refine eq_X11_isCell.mpr ?_
  by_cases e1 : 0 ≤ a1 ∧ a1 ≤ 63
  · rw [am_bt e1]
    refine ⟨fun z => absurd z (by decide), fun _ => c_stands I.cl.w (fun c hc ec es => ⟨fun _ => ?_, fun z => absurd z (by decide)⟩) (fun es => ⟨fun z => absurd rfl z, fun _ => ?_⟩)⟩
    · unfold w_X12_plant
      refine eq_X12_isCell.mpr ?_
      rw [am_bt e1]
      refine ⟨fun z => absurd z (by decide), fun _ => r_has R.rm.w (fun _ _ _ _ => ⟨fun _ => no, fun z => absurd z (by decide)⟩) (fun z => absurd ⟨c, hc, ec, es⟩ z)⟩
    · rw [I.K.t4.2.1, hk0]
      refine ⟨fun z => ?_, fun z => ?_⟩
      · obtain ⟨a, ha, rfl⟩ := nI_of2 (M := 63) (n := 63) rfl (Int32.not_lt.mpr e1.1) e1.2
        have hr : RowOK (cnL lg NN) 8 a 0 0 := ⟨by omega, by omega, by omega, by omega, by omega, by omega, by omega, by omega, by omega, fun _ => ⟨by omega, by omega⟩, by omega, by omega, by omega⟩
        refine t_both (wh := 8) (bb := 0) (c := 0) P I R hr (by decide) (fun M1 N1 K F1 k1 k0 => ?_)
        unfold w_X12_plant
        refine eq_X12_isCell.mpr ?_
        rw [am_bt e1]
        refine ⟨fun z => absurd z (by decide), fun _ => r_has (R.ofC F1).rm.w (fun c hc ec es2 => absurd ⟨c, hc, ec, es2⟩ es) (fun _ => ⟨fun z => absurd rfl z, fun _ => ?_⟩)⟩
        refine ⟨fun y => ?_, fun _ => r_full P R F1 k1 k0⟩
        rw [F1.ref, hk, hk0] at y
        exact absurd y z
      · unfold w_X12_plant
        refine eq_X12_isCell.mpr ?_
        rw [am_bt e1]
        refine ⟨fun z => absurd z (by decide), fun _ => r_has R.rm.w (fun c hc ec es2 => absurd ⟨c, hc, ec, es2⟩ es) (fun _ => ⟨fun z => absurd rfl z, fun _ => ?_⟩)⟩
        rw [hk, hk0]
        exact ⟨fun _ => no, fun y => absurd z y⟩
  · rw [am_bf e1]
    refine ⟨fun _ => ?_, fun z => absurd rfl z⟩
    unfold w_X12_plant
    refine eq_X12_isCell.mpr ?_
    rw [am_bf e1]
    exact ⟨fun _ => no, fun z => absurd rfl z⟩
theorem call_show (h : INVW M N) : w_X11_show a1 a2 M N (fun r M1 N1 => w_X12_show a1 a2 M1 N1 (fun r2 M2 N2 => r = r2 ∧ FrX M N M2 N2 ∧ INVW M2 N2)) := by
  have h0 := h
  obtain ⟨bk, lg, NN, now, wd, P, I, R⟩ := h
  have no : (0 : Int32) = 0 ∧ FrX M N M N ∧ INVW M N := ⟨rfl, FrX.rf, h0⟩
  unfold w_X11_show
  refine eq_X11_isCell.mpr ?_
  by_cases e1 : 0 ≤ a1 ∧ a1 ≤ 63
  · rw [am_bt e1]
    refine ⟨fun z => absurd z (by decide), fun _ => eq_X11_areMarks.mpr ?_⟩
    by_cases e2 : 0 ≤ a2 ∧ a2 ≤ 15
    · rw [am_bt e2]
      refine ⟨fun _ => ?_, fun z => absurd z (by decide)⟩
      obtain ⟨a, ha, rfl⟩ := nI_of2 (M := 63) (n := 63) rfl (Int32.not_lt.mpr e1.1) e1.2
      obtain ⟨bb, hb, rfl⟩ := nI_of2 (M := 15) (n := 15) rfl (Int32.not_lt.mpr e2.1) e2.2
      have hr : RowOK (cnL lg NN) 9 a bb 0 := ⟨by omega, by omega, by omega, by omega, by omega, by omega, by omega, by omega, by omega, by omega, fun _ => ⟨by omega, hb⟩, by omega, by omega⟩
      refine t_both (wh := 9) (c := 0) P I R hr (by decide) (fun M1 N1 K F1 k1 k0 => ?_)
      unfold w_X12_show
      refine eq_X12_isCell.mpr ?_
      rw [am_bt e1]
      refine ⟨fun z => absurd z (by decide), fun _ => eq_X12_isIn.mpr ?_⟩
      rw [am_bt e2]
      exact ⟨fun z => absurd z (by decide), fun _ => r_full P R F1 k1 k0⟩
    · rw [am_bf e2]
      refine ⟨fun z => absurd rfl z, fun _ => ?_⟩
      unfold w_X12_show
      refine eq_X12_isCell.mpr ?_
      rw [am_bt e1]
      refine ⟨fun z => absurd z (by decide), fun _ => eq_X12_isIn.mpr ?_⟩
      rw [am_bf e2]
      exact ⟨fun _ => no, fun z => absurd rfl z⟩
  · rw [am_bf e1]
    refine ⟨fun _ => ?_, fun z => absurd rfl z⟩
    unfold w_X12_show
    refine eq_X12_isCell.mpr ?_
    rw [am_bf e1]
    exact ⟨fun _ => no, fun z => absurd rfl z⟩
theorem call_look (h : INVW M N) : w_X11_look a1 a2 M N (fun r M1 N1 => w_X12_look a1 a2 M1 N1 (fun r2 M2 N2 => r = r2 ∧ FrX M N M2 N2 ∧ INVW M2 N2)) := by
  have h0 := h
  obtain ⟨bk, lg, NN, now, wd, P, I, R⟩ := h
  have no : (0 : Int32) = 0 ∧ FrX M N M N ∧ INVW M N := ⟨rfl, FrX.rf, h0⟩
  unfold w_X11_look
  refine c_stands I.cl.w (fun a ha ea es => ⟨fun z => absurd z (by decide), fun _ => eq_X11_areMarks.mpr ?_⟩) (fun es => ⟨fun _ => ?_, fun z => absurd rfl z⟩)
  · by_cases e2 : 0 ≤ a2 ∧ a2 ≤ 15
    · rw [am_bt e2]
      refine ⟨fun _ => ?_, fun z => absurd z (by decide)⟩
      subst ea
      obtain ⟨bb, hb, rfl⟩ := nI_of2 (M := 15) (n := 15) rfl (Int32.not_lt.mpr e2.1) e2.2
      have hr : RowOK (cnL lg NN) 10 a bb 0 := ⟨by omega, by omega, by omega, by omega, by omega, by omega, by omega, by omega, by omega, by omega, by omega, fun _ => ⟨ha, hb⟩, by omega⟩
      refine t_both (wh := 10) (c := 0) P I R hr (by decide) (fun M1 N1 K F1 k1 k0 => ?_)
      unfold w_X12_look
      refine r_has (R.ofC F1).rm.w (fun _ _ _ _ => ⟨fun z => absurd z (by decide), fun _ => eq_X12_isIn.mpr ?_⟩) (fun z => absurd ⟨a, ha, rfl, es⟩ z)
      rw [am_bt e2]
      exact ⟨fun z => absurd z (by decide), fun _ => r_full P R F1 k1 k0⟩
    · rw [am_bf e2]
      refine ⟨fun z => absurd rfl z, fun _ => ?_⟩
      unfold w_X12_look
      refine r_has R.rm.w (fun _ _ _ _ => ⟨fun z => absurd z (by decide), fun _ => eq_X12_isIn.mpr ?_⟩) (fun z => absurd ⟨a, ha, ea, es⟩ z)
      rw [am_bf e2]
      exact ⟨fun _ => no, fun z => absurd rfl z⟩
  · unfold w_X12_look
    exact r_has R.rm.w (fun c hc ec es2 => absurd ⟨c, hc, ec, es2⟩ es) (fun _ => ⟨fun _ => no, fun z => absurd rfl z⟩)
theorem call_ill (h : INVW M N) (hb : a2 = 0 ∨ a2 = 1) : w_X11_ill a1 a2 M N (fun r M1 N1 => w_X12_ill a1 a2 M1 N1 (fun r2 M2 N2 => r = r2 ∧ FrX M N M2 N2 ∧ INVW M2 N2)) := by
  have h0 := h
  obtain ⟨bk, lg, NN, now, wd, P, I, R⟩ := h
  have no : (0 : Int32) = 0 ∧ FrX M N M N ∧ INVW M N := ⟨rfl, FrX.rf, h0⟩
  have G := P.good
  obtain ⟨bb, hbb, eb⟩ : ∃ bb, bb ≤ 1 ∧ a2 = nI bb := by
    rcases hb with h | h
    · exact ⟨0, by omega, h⟩
    · exact ⟨1, by omega, h⟩
  have one : ∀ {M N} {K : Int32 → am_I → am_N → Prop}, K a2 M N → w_X12_one a2 M N K := fun {M N K} hK => by
    unfold w_X12_one
    rcases hb with h | h
    · rw [h] at hK ⊢; exact ⟨fun _ => hK, fun z => absurd rfl z⟩
    · rw [h] at hK ⊢; exact ⟨fun z => absurd z (by decide), fun _ => hK⟩
  unfold w_X11_ill
  refine c_stands I.cl.w (fun a ha ea es => ⟨fun z => absurd z (by decide), fun _ => ?_⟩) (fun es => ⟨fun _ => ?_, fun z => absurd rfl z⟩)
  · subst ea
    have j1 : (320 + nI a).toNatClampNeg = 320 + a := by rw [ix320, nI_clamp (by omega)]
    have u1 : vp_in (320 + nI a) 1635 := by rw [ix320]; exact vp_in_nI (by omega) (by omega)
    have main : ∀ r : Int32, r = (rep bk noBut lg now NN).1 (320 + a) → ((¬ r = a2 → ((a2 = 0 → w_X11_ill_p44 (fun r M1 N1 => w_X12_ill (nI a) a2 M1 N1 (fun r2 M2 N2 => r = r2 ∧ FrX M N M2 N2 ∧ INVW M2 N2)) 0 (nI a) 11 M N) ∧ (¬ a2 = 0 → w_X11_ill_p44 (fun r M1 N1 => w_X12_ill (nI a) a2 M1 N1 (fun r2 M2 N2 => r = r2 ∧ FrX M N M2 N2 ∧ INVW M2 N2)) 1 (nI a) 11 M N))) ∧ (r = a2 → w_X12_ill (nI a) a2 M N (fun r2 M2 N2 => 0 = r2 ∧ FrX M N M2 N2 ∧ INVW M2 N2))) := by
      intro r er
      subst er
      refine ⟨fun z => ?_, fun z => ?_⟩
      · have hr : RowOK (cnL lg NN) 11 a bb 0 := ⟨by omega, by omega, by omega, by omega, by omega, by omega, by omega, by omega, by omega, by omega, by omega, by omega, fun _ => ⟨ha, hbb⟩⟩
        have tb := t_both (wh := 11) (c := 0) (w2 := fun M1 N1 K => w_X12_ill (nI a) a2 M1 N1 K) P I R hr (by decide) (fun M1 N1 K F1 k1 k0 => by
          unfold w_X12_ill
          refine r_has (R.ofC F1).rm.w (fun _ _ _ _ => ⟨fun z => absurd z (by decide), fun _ => ⟨u1, one ?_⟩⟩) (fun z => absurd ⟨a, ha, rfl, es⟩ z)
          rw [j1, F1.ref 1, R.rm.w.f]
          refine ⟨fun y => absurd y z, fun _ => r_full P R F1 (fun hN => one ?_) k0⟩
          have := k1 hN
          rw [← eb] at this
          exact this)
        rcases hb with h | h
        · have e0 : bb = 0 := (nI_eq (by omega) (by omega)).mp (eb.symm.trans h)
          subst e0
          exact ⟨fun _ => tb, fun y => absurd h y⟩
        · have e0 : bb = 1 := (nI_eq (by omega) (by omega)).mp (eb.symm.trans h)
          subst e0
          exact ⟨fun y => by rw [h] at y; exact absurd y (by decide), fun _ => tb⟩
      · unfold w_X12_ill
        refine r_has R.rm.w (fun _ _ _ _ => ⟨fun z => absurd z (by decide), fun _ => ⟨u1, one ?_⟩⟩) (fun z => absurd ⟨a, ha, rfl, es⟩ z)
        rw [j1, R.rm.w.f]
        exact ⟨fun _ => no, fun y => absurd z y⟩
    have hil := I.cl.w.w.p.il a ha
    refine sp_X6_isIll ha (fun z => main 1 ((hil.mp z).2).symm) (fun z => main 0 ?_)
    have z2 : ¬ (rep bk noBut lg now NN).1 (320 + a) = 1 := fun z2 => by rw [hil.mpr ⟨es, z2⟩] at z; cases z
    exact ((G.p.il a ha).resolve_right z2).symm
  · unfold w_X12_ill
    exact r_has R.rm.w (fun c hc ec es2 => absurd ⟨c, hc, ec, es2⟩ es) (fun _ => ⟨fun _ => no, fun z => absurd rfl z⟩)
end TE2
