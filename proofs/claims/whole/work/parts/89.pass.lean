/-! ===== pass; questions between calls ===== -/
section PS
variable {M M1 : am_I} {N N1 : am_N} {bk : Bk} {lg : Lg} {NN now t : Nat} {wd : Nat → Nat} {a1 a2 a3 a4 : Int32} {post : Int32 → am_I → am_N → Prop}
theorem IP.later (P : IP bk lg NN now wd) (h1 : now ≤ t) (h2 : t ≤ 719) : IP bk lg NN t wd := by
  refine ⟨?_, ?_, ?_, ?_, ?_⟩
  · exact P.X
  · exact h2
  · exact fun i hi => Nat.le_trans (P.up i hi) h1
  · exact P.z
  · exact P.b
theorem ICl.play (P : IP bk lg NN now wd) (I : ICl bk lg NN now wd M N) (h1 : now ≤ t) (F : FrB 0 M N M1 N1) (P0 : PC 0 bk lg NN noBut NN t M1 N1) : ICl bk lg NN t wd M1 N1 := by
  refine ⟨?_, ?_, ?_, ?_, ?_, ?_⟩
  · exact I.K.cg (fun s i => F.tab s i)
  · exact fun k hk => by rw [F.tab]; exact I.D k hk
  · exact I.L.cg (fun i => F.tab 0 i)
  · exact ⟨by rw [F.tab]; exact I.mx.t0, by rw [F.tab]; exact I.mx.t1, by rw [F.tab]; exact I.mx.t2, by rw [F.tab]; exact I.mx.t3, by rw [F.tab]; exact I.mx.t4, by rw [F.tab]; exact I.mx.t5⟩
  · exact P0
  · exact by
      obtain ⟨n, u, q1, q2⟩ := I.gh
      have e10 : ∀ i, M1 (1, 1, i) = M (1, 1, i) ∧ N1 (1, 1, i) = N (1, 1, i) := fun i => F.1 (1, 1, i) (fun z => by simp at z) (fun z => by simp at z)
      refine ⟨n, u, Nat.le_trans q1 h1, ?_⟩
      rw [(e10 0).1]
      exact q2.cg (fun i => (e10 i).1) (fun i => (e10 i).2) (fun s i => F.tab s i)
theorem call_pass (h : INVW M N) : w_X11_pass a1 M N (fun r M1 N1 => w_X12_pass a1 M1 N1 (fun r2 M2 N2 => r = r2 ∧ FrX M N M2 N2 ∧ INVW M2 N2)) := by
  have h0 := h
  obtain ⟨bk, lg, NN, now, wd, P, I, R⟩ := h
  have no : (-1 : Int32) = -1 ∧ FrX M N M N ∧ INVW M N := ⟨rfl, FrX.rf, h0⟩
  have hnw := P.nw
  have nr := I.nowI P
  have nm := R.nowI P
  unfold w_X11_pass
  refine eq_X11_within.mpr ?_
  by_cases y1 : 1 ≤ a1 ∧ a1 ≤ 200
  · rw [am_bt y1]
    obtain ⟨x, hx, rfl⟩ : ∃ x, x ≤ 200 ∧ a1 = nI x := nI_of2 (M := 200) (n := 200) rfl (Int32.not_lt.mpr (Int32.le_trans (by decide) y1.1)) y1.2
    have hx1 : 1 ≤ x := (nI_leI (a := 1) (by omega) (by omega)).mp y1.1
    rw [nr, nI_add]
    have e1 : nI (now + x) ≤ (719 : Int32) ↔ now + x ≤ 719 := nI_leI (b := 719) (by omega) (by omega)
    have e2 : nI now ≤ (719 : Int32) - nI x ↔ now + x ≤ 719 := by
      have : (719 : Int32) - nI x = nI (719 - x) := pk_sub (a := 719) (by omega)
      rw [this, nI_leI (by omega) (by omega)]
      omega
    rw [e1]
    refine ⟨fun z => absurd z (by decide), fun _ => ⟨fun hle => ?_, fun hle => ?_⟩⟩
    · refine c_playTo P.X I.K I.L hle (by omega) I.cl (fun M1 N1 n' F1 P1 hl => ?_)
      have hn' : n' = NN := by
        have h1 := P1.le
        by_cases z : n' = NN
        · exact z
        · have q1 := hl n' (Nat.le_refl _) (by omega)
          have q2 := P.up n' (by omega)
          omega
      subst hn'
      have Pt := P.later (t := now + x) (by omega) hle
      have I1 := ICl.play P I (by omega) F1 P1
      have R1 := R.ofC (FrC.ofB F1)
      rw [I1.nowI Pt]
      unfold w_X12_pass
      refine eq_X12_isIn.mpr ?_
      rw [am_bt y1]
      refine ⟨fun z => absurd z (by decide), fun _ => ?_⟩
      rw [R1.nowI P, e2]
      refine ⟨fun _ => ⟨x + 1, ?_⟩, fun z => absurd hle z⟩
      have key : ∀ (j k : Nat), k + j = x → ∀ M2 N2, FrR M1 N1 M2 N2 → IRf bk lg n' (now + k) wd M2 N2 → w_X12_pass_p31 (fun r2 M2 N2 => nI (now + x) = r2 ∧ FrX M N M2 N2 ∧ INVW M2 N2) (j + 1) (nI x) (nI k) M2 N2 := by
        intro j
        induction j with
        | zero =>
          intro k hk M2 N2 F2 R2
          have hk' : k = x := by omega
          subst hk'
          rw [w_X12_pass_p31_s]
          unfold w_X12_pass_p31_b
          refine ⟨fun _ => ⟨(R2.nowI Pt).symm, FrX.of (FrC.ofB F1) F2, bk, lg, n', now + k, wd, Pt, I1.ofR F2, R2⟩, fun z => absurd (nI_le (Nat.le_refl _) (by omega)) z⟩
        | succ j ih =>
          intro k hk M2 N2 F2 R2
          rw [w_X12_pass_p31_s]
          unfold w_X12_pass_p31_b
          rw [nI_1]
          refine ⟨fun z => absurd z (nI_ge (by omega) (by omega)), fun _ => r_hourStep P.X (by omega) R2.rm (fun i h1 h2 => by omega) (fun M3 N3 F3 P3 => ih (k + 1) (by omega) M3 N3 (F2.tr (FrR.ofM F3)) ⟨R2.K.cg F3, fun q hq => ?_, R2.L.cg F3, P3, ?_⟩)⟩
          · rw [F3.row (by decide) (by omega)]; exact R2.D q hq
          · have e0 : M3 (3, 0, 0) = M2 (3, 0, 0) := F3.row (by decide) (by omega)
            exact ⟨by rw [e0]; exact R2.ct.n, by rw [e0]; exact R2.ct.r, by rw [e0]; exact R2.ct.c, by rw [e0]; exact R2.ct.w, by rw [e0]; exact R2.ct.l, by rw [e0]; exact R2.ct.k, by rw [e0]; exact R2.ct.bw⟩
      exact key x 0 (by omega) M1 N1 FrR.rf R1
    · unfold w_X12_pass
      refine eq_X12_isIn.mpr ?_
      rw [am_bt y1]
      refine ⟨fun z => absurd z (by decide), fun _ => ?_⟩
      rw [nm, e2]
      exact ⟨fun z => absurd z hle, fun _ => no⟩
  · rw [am_bf y1]
    refine ⟨fun _ => ?_, fun z => absurd rfl z⟩
    unfold w_X12_pass
    refine eq_X12_isIn.mpr ?_
    rw [am_bf y1]
    exact ⟨fun _ => no, fun z => absurd rfl z⟩
theorem IP.wdok (P : IP bk lg NN now wd) (I : ICl bk lg NN now wd M N) (R : IRf bk lg NN now wd M N) : WdOK M (cnL lg NN) wd := ⟨I.D, R.D, P.z, P.b⟩
theorem call_cell (h : INVW M N) : w_X11_cell a1 a2 M N (fun r M1 N1 => w_X12_cell a1 a2 M1 N1 (fun r2 M2 N2 => r = r2 ∧ FrX M N M2 N2 ∧ INVW M2 N2)) := by
  have h0 := h
  obtain ⟨bk, lg, NN, now, wd, P, I, R⟩ := h
  obtain ⟨v, q1, q2⟩ := q_cell (a1 := a1) (a2 := a2) I.cl.w R.rm.w P.good (P.wdok I R)
  exact q1 _ (q2 _ ⟨rfl, FrX.rf, h0⟩)
theorem call_share (h : INVW M N) : w_X11_share a1 a2 M N (fun r M1 N1 => w_X12_share a1 a2 M1 N1 (fun r2 M2 N2 => r = r2 ∧ FrX M N M2 N2 ∧ INVW M2 N2)) := by
  have h0 := h
  obtain ⟨bk, lg, NN, now, wd, P, I, R⟩ := h
  obtain ⟨v, q1, q2⟩ := q_share (a1 := a1) (a2 := a2) I.cl.w R.rm.w R.ct.k
  exact q1 _ (q2 _ ⟨rfl, FrX.rf, h0⟩)
theorem call_told (h : INVW M N) : w_X11_told a1 a2 M N (fun r M1 N1 => w_X12_told a1 a2 M1 N1 (fun r2 M2 N2 => r = r2 ∧ FrX M N M2 N2 ∧ INVW M2 N2)) := by
  have h0 := h
  obtain ⟨bk, lg, NN, now, wd, P, I, R⟩ := h
  obtain ⟨v, q1, q2⟩ := q_told (a1 := a1) (a2 := a2) I.cl.w R.rm.w P.good (fun _ => id) R.ct.c
  exact q1 _ (q2 _ ⟨rfl, FrX.rf, h0⟩)
theorem call_job (h : INVW M N) : w_X11_job a1 a2 M N (fun r M1 N1 => w_X12_job a1 a2 M1 N1 (fun r2 M2 N2 => r = r2 ∧ FrX M N M2 N2 ∧ INVW M2 N2)) := by
  have h0 := h
  obtain ⟨bk, lg, NN, now, wd, P, I, R⟩ := h
  obtain ⟨v, q1, q2⟩ := q_job (a1 := a1) (a2 := a2) I.cl.w R.rm.w R.ct.w
  exact q1 _ (q2 _ ⟨rfl, FrX.rf, h0⟩)
theorem call_water (h : INVW M N) : w_X11_water a1 M N (fun r M1 N1 => w_X12_water a1 M1 N1 (fun r2 M2 N2 => r = r2 ∧ FrX M N M2 N2 ∧ INVW M2 N2)) := by
  have h0 := h
  obtain ⟨bk, lg, NN, now, wd, P, I, R⟩ := h
  obtain ⟨v, q1, q2⟩ := q_water (a1 := a1) I.cl.w R.rm.w
  exact q1 _ (q2 _ ⟨rfl, FrX.rf, h0⟩)
theorem call_way (h : INVW M N) : w_X11_way a1 a2 a3 M N (fun r M1 N1 => w_X12_way a1 a2 a3 M1 N1 (fun r2 M2 N2 => r = r2 ∧ FrX M N M2 N2 ∧ INVW M2 N2)) := by
  obtain ⟨bk, lg, NN, now, wd, P, I, R⟩ := h
  obtain ⟨v, q1, q2⟩ := q_way (a1 := a1) (a2 := a2) (a3 := a3) I.cl.w P.good (P.X.B.cut CnLe.rf) (fun _ => id)
  refine q1 _ (fun M1 N1 F1 S1 => ?_)
  have R1 := R.ofC (FrC.ofB F1.1)
  have I1 : ICl bk lg NN now wd M1 N1 := ICl.play P I (Nat.le_refl _) F1.1 ⟨S1, by rw [F1.2]; exact I.cl.hd, Nat.le_refl _, I.cl.up, I.cl.lo⟩
  refine q2 M1 N1 _ R1.rm.w R1.ct.c (fun M2 N2 F2 S2 => ⟨rfl, FrX.of (FrC.ofB F1.1) (FrR.ofM F2), bk, lg, NN, now, wd, P, I1.ofR (FrR.ofM F2), ⟨R1.K.cg F2, fun q hq => ?_, R1.L.cg F2, ⟨S2, Nat.le_refl _, R.rm.up, R.rm.lo⟩, ?_⟩⟩)
  · rw [F2.row (by decide) (by omega)]; exact R1.D q hq
  · have e0 : M2 (3, 0, 0) = M1 (3, 0, 0) := F2.row (by decide) (by omega)
    exact ⟨by rw [e0]; exact R1.ct.n, by rw [e0]; exact R1.ct.r, by rw [e0]; exact R1.ct.c, by rw [e0]; exact R1.ct.w, by rw [e0]; exact R1.ct.l, by rw [e0]; exact R1.ct.k, by rw [e0]; exact R1.ct.bw⟩
end PS
