/-! ===== playing the log: both sides ===== -/
def LgC (M : am_I) (lg : Lg) (N : Nat) : Prop := (tabOK M 0 5 N) ∧ (∀ i, i < N → M (2, 0, 1) (i * 5 + 0) = nI (lg i 0)) ∧ (∀ i, i < N → rowC M N i (lg i 1) (lg i 2) (lg i 3) (lg i 4))
theorem LgC.t {M : am_I} {lg : Lg} {N : Nat} (h : LgC M lg N) : tabOK M 0 5 N := h.1
theorem LgC.h {M : am_I} {lg : Lg} {N : Nat} (h : LgC M lg N) : ∀ i, i < N → M (2, 0, 1) (i * 5 + 0) = nI (lg i 0) := h.2.1
theorem LgC.r {M : am_I} {lg : Lg} {N : Nat} (h : LgC M lg N) : ∀ i, i < N → rowC M N i (lg i 1) (lg i 2) (lg i 3) (lg i 4) := h.2.2
def LgM (M : am_I) (lg : Lg) (N : Nat) : Prop := (∀ i, i < N → M (3, 0, 4) i = nI (lg i 0)) ∧ (∀ i, i < N → rowM M i (lg i 1) (lg i 2) (lg i 3) (lg i 4))
theorem LgM.h {M : am_I} {lg : Lg} {N : Nat} (h : LgM M lg N) : ∀ i, i < N → M (3, 0, 4) i = nI (lg i 0) := h.1
theorem LgM.r {M : am_I} {lg : Lg} {N : Nat} (h : LgM M lg N) : ∀ i, i < N → rowM M i (lg i 1) (lg i 2) (lg i 3) (lg i 4) := h.2
def BKX (bk : Bk) (lg : Lg) (N : Nat) : Prop := (N ≤ 400) ∧ (LgOK lg N) ∧ (BkGood bk (cnL lg N)) ∧ (∀ i, i < N → lg i 1 = 2 → lg i 0 < bk.rF (cnL lg i).r) ∧ (∀ i, i < N → lg i 0 ≤ 719)
theorem BKX.N {bk : Bk} {lg : Lg} {N : Nat} (h : BKX bk lg N) : N ≤ 400 := h.1
theorem BKX.L {bk : Bk} {lg : Lg} {N : Nat} (h : BKX bk lg N) : LgOK lg N := h.2.1
theorem BKX.B {bk : Bk} {lg : Lg} {N : Nat} (h : BKX bk lg N) : BkGood bk (cnL lg N) := h.2.2.1
theorem BKX.R {bk : Bk} {lg : Lg} {N : Nat} (h : BKX bk lg N) : ∀ i, i < N → lg i 1 = 2 → lg i 0 < bk.rF (cnL lg i).r := h.2.2.2.1
theorem BKX.H {bk : Bk} {lg : Lg} {N : Nat} (h : BKX bk lg N) : ∀ i, i < N → lg i 0 ≤ 719 := h.2.2.2.2
def PC (b : Nat) (bk : Bk) (lg : Lg) (N : Nat) (but : Nat → Nat → Prop) (n u : Nat) (M : am_I) (N' : am_N) : Prop := (StC b (cut bk (cnL lg n)) (cnL lg n) (cnL lg N) but M N' (rep bk but lg u n).1 (rep bk but lg u n).2.1 (rep bk but lg u n).2.2) ∧ (M (1, b, 0) 9 = nI n) ∧ (n ≤ N) ∧ (∀ i, i < n → lg i 0 ≤ u) ∧ (∀ i, n ≤ i → i < N → u ≤ lg i 0)
theorem PC.w {b : Nat} {bk : Bk} {lg : Lg} {N : Nat} {but : Nat → Nat → Prop} {n u : Nat} {M : am_I} {N' : am_N} (h : PC b bk lg N but n u M N') : StC b (cut bk (cnL lg n)) (cnL lg n) (cnL lg N) but M N' (rep bk but lg u n).1 (rep bk but lg u n).2.1 (rep bk but lg u n).2.2 := h.1
theorem PC.hd {b : Nat} {bk : Bk} {lg : Lg} {N : Nat} {but : Nat → Nat → Prop} {n u : Nat} {M : am_I} {N' : am_N} (h : PC b bk lg N but n u M N') : M (1, b, 0) 9 = nI n := h.2.1
theorem PC.le {b : Nat} {bk : Bk} {lg : Lg} {N : Nat} {but : Nat → Nat → Prop} {n u : Nat} {M : am_I} {N' : am_N} (h : PC b bk lg N but n u M N') : n ≤ N := h.2.2.1
theorem PC.up {b : Nat} {bk : Bk} {lg : Lg} {N : Nat} {but : Nat → Nat → Prop} {n u : Nat} {M : am_I} {N' : am_N} (h : PC b bk lg N but n u M N') : ∀ i, i < n → lg i 0 ≤ u := h.2.2.2.1
theorem PC.lo {b : Nat} {bk : Bk} {lg : Lg} {N : Nat} {but : Nat → Nat → Prop} {n u : Nat} {M : am_I} {N' : am_N} (h : PC b bk lg N but n u M N') : ∀ i, n ≤ i → i < N → u ≤ lg i 0 := h.2.2.2.2
def PM (bk : Bk) (lg : Lg) (N : Nat) (but : Nat → Nat → Prop) (n u : Nat) (M : am_I) (N' : am_N) : Prop := (StM (cut bk (cnL lg n)) (cnL lg n) but M N' (rep bk but lg u n).1 (rep bk but lg u n).2.1 (rep bk but lg u n).2.2) ∧ (n ≤ N) ∧ (∀ i, i < n → lg i 0 ≤ u) ∧ (∀ i, n ≤ i → i < N → u ≤ lg i 0)
theorem PM.w {bk : Bk} {lg : Lg} {N : Nat} {but : Nat → Nat → Prop} {n u : Nat} {M : am_I} {N' : am_N} (h : PM bk lg N but n u M N') : StM (cut bk (cnL lg n)) (cnL lg n) but M N' (rep bk but lg u n).1 (rep bk but lg u n).2.1 (rep bk but lg u n).2.2 := h.1
theorem PM.le {bk : Bk} {lg : Lg} {N : Nat} {but : Nat → Nat → Prop} {n u : Nat} {M : am_I} {N' : am_N} (h : PM bk lg N but n u M N') : n ≤ N := h.2.1
theorem PM.up {bk : Bk} {lg : Lg} {N : Nat} {but : Nat → Nat → Prop} {n u : Nat} {M : am_I} {N' : am_N} (h : PM bk lg N but n u M N') : ∀ i, i < n → lg i 0 ≤ u := h.2.2.1
theorem PM.lo {bk : Bk} {lg : Lg} {N : Nat} {but : Nat → Nat → Prop} {n u : Nat} {M : am_I} {N' : am_N} (h : PM bk lg N but n u M N') : ∀ i, n ≤ i → i < N → u ≤ lg i 0 := h.2.2.2
section PY
variable {M M' : am_I} {N N' : am_N} {b : Nat} {bk : Bk} {cn cn' full : Cn} {but : Nat → Nat → Prop} {lg : Lg} {n h NN t : Nat} {post : am_I → am_N → Prop}
theorem BkC.mono (K : BkC M bk cn' full) (h : CnLe cn cn') : BkC M bk cn full := by
  obtain ⟨l1, l2, l3, l4, l5⟩ := h
  exact ⟨CnLe.tr ⟨l1, l2, l3, l4, l5⟩ K.le, K.t1, K.t2, K.t3, K.t4, K.t5, fun r hr => K.r r (by omega), fun r hr => K.c r (by omega), fun r hr => K.w r (by omega), fun r hr => K.l r (by omega), fun r hr => K.k r (by omega)⟩
theorem BkM.mono (K : BkM M bk cn') (h : CnLe cn cn') : BkM M bk cn := by
  obtain ⟨l1, l2, l3, l4, l5⟩ := h
  exact ⟨fun r hr => K.r r (by omega), fun r hr => K.c r (by omega), fun r hr => K.w r (by omega), fun r hr => K.l r (by omega), fun r hr => K.k r (by omega)⟩
theorem LgC.cg (L : LgC M lg NN) (e : ∀ i, M' (2, 0, i) = M (2, 0, i)) : LgC M' lg NN := by
  refine ⟨?_, ?_, ?_⟩
  · exact L.t.cg (e 0)
  · exact fun i hi => by rw [e]; exact L.h i hi
  · exact fun i hi => by
      obtain ⟨q1, q2, q3⟩ := L.r i hi
      unfold rowC
      rw [e]
      exact ⟨L.t.cg (e 0), q2, q3⟩
theorem LgM.cg (L : LgM M lg NN) (F : FrM M N M' N') : LgM M' lg NN := by
  refine ⟨?_, ?_⟩
  · exact fun i hi => by rw [F.row (by decide) (by omega)]; exact L.h i hi
  · exact fun i hi => by
      unfold rowM
      rw [F.row (i := 3) (by decide) (by omega), F.row (i := 5) (by decide) (by omega), F.row (i := 6) (by decide) (by omega), F.row (i := 7) (by decide) (by omega)]
      exact L.r i hi
theorem FrB.h9 {x : Int32} : FrB b M N (am_u M (1, b, 0) 9 x) N := by
  refine ⟨fun c a1 _ => ⟨am_u_o M 9 x (fun e => a1 (by subst e; exact ⟨rfl, rfl⟩)), rfl⟩, ?_, ?_⟩ <;> rw [am_u_c, pk_un (by decide)]
theorem c_row (X : BKX bk lg NN) (K : BkC M bk (cnL lg NN) (cnL lg NN)) (L : LgC M lg NN) (hh : h ≤ 719) (P : PC b bk lg NN but n h M N) (hn : n < NN) (e : lg n 0 = h) (hp : ∀ M' N', FrB b M N M' N' → PC b bk lg NN but (n + 1) h M' N' → post M' N') : w_X10_hear b (nI n) M N (fun zM4 zN5 => post (am_u zM4 (1, b, 0) 9 ((zM4 (1, b, 0) 9) + 1)) zN5) := by
  have hN := X.N
  obtain ⟨g1, g2, g3, g4⟩ := rep_good (but := but) X.L X.B hN h n hh P.le
  have K1 : BkC M (cut bk (cnL lg (n + 1))) (cnL lg (n + 1)) (cnL lg NN) := K.cut (cnL_le' (by omega))
  have S0 : StC b (cut bk (cnL lg (n + 1))) (cnL lg n) (cnL lg NN) but M N (rep bk but lg h n).1 (rep bk but lg h n).2.1 (rep bk but lg h n).2.2 := ⟨K1.mono (cnL_le' (by omega)), P.w.fb, P.w.w⟩
  refine c_hear S0 K1 g1 (X.B.cut (cnL_le' (by omega : n + 1 ≤ NN))) (X.L.row n hn) (L.r n hn) (fun M1 N1 F1 S1 => ?_)
  have F2 : FrB b M1 N1 (am_u M1 (1, b, 0) 9 (M1 (1, b, 0) 9 + 1)) N1 := FrB.h9
  refine hp _ _ (F1.1.tr F2) ⟨?_, ?_, hn, fun i hi => ?_, fun i h1 h2 => P.lo i (by omega) h2⟩
  · rw [rep_row e]
    exact ⟨S1.k.cg (fun t i => F2.tab t i), S1.fb, S1.w.heard (X.L.cb (n + 1) hn) _⟩
  · rw [am_u_c, pk_us, F1.2, P.hd, nI_1]
  · by_cases z : i = n
    · subst z; omega
    · exact P.up i (by omega)
theorem c_hearTold (X : BKX bk lg NN) (K : BkC M bk (cnL lg NN) (cnL lg NN)) (L : LgC M lg NN) (hh : h ≤ 719) (P : PC b bk lg NN but n h M N) (hp : ∀ M' N' n', FrB b M N M' N' → PC b bk lg NN but n' h M' N' → (∀ i, n' ≤ i → i < NN → h + 1 ≤ lg i 0) → post M' N') : w_X10_hearTold b M N post := by
  have hN := X.N
  unfold w_X10_hearTold
  rw [P.hd]
  intro v ev
  subst ev
  refine ⟨NN - n + 1, ?_⟩
  have key : ∀ (j m : Nat), m + j = NN → ∀ M1 N1, FrB b M N M1 N1 → PC b bk lg NN but m h M1 N1 → w_X10_hearTold_p5 b post (j + 1) (nI m) M1 N1 := by
    intro j
    induction j with
    | zero =>
      intro m hm M1 N1 F1 P1
      have L1 := L.cg (fun i => F1.tab 0 i)
      rw [w_X10_hearTold_p5_s]
      unfold w_X10_hearTold_p5_b
      rw [L1.t.2.1]
      exact ⟨fun _ => hp _ _ m F1 P1 (fun i h1 h2 => by omega), fun z => absurd (nI_le (by omega) (by omega)) z⟩
    | succ j ih =>
      intro m hm M1 N1 F1 P1
      have L1 := L.cg (fun i => F1.tab 0 i)
      have K1 := K.cg (fun t i => F1.tab t i)
      have hm' : m < NN := by omega
      have hh1 := X.H m hm'
      obtain ⟨g1, g2, g3, g4⟩ := rep_good (but := but) X.L X.B hN h m hh P1.le
      rw [w_X10_hearTold_p5_s]
      unfold w_X10_hearTold_p5_b
      rw [L1.t.2.1]
      refine ⟨fun z => absurd z (nI_ge (by omega) (by omega)), fun _ => sp_at (w := 5) (c := 0) L1.t hm' (by omega) ?_⟩
      rw [L1.h m hm', P1.w.w.s.now, g4, nI_ltI (by omega) (by omega)]
      refine ⟨fun z => hp _ _ m F1 P1 (fun i h1 h2 => ?_), fun z => ?_⟩
      · have := X.L.mono m i h1 h2
        omega
      · have e : lg m 0 = h := by have := P1.lo m (Nat.le_refl _) hm'; omega
        rw [nI_1]
        exact c_row (post := fun M' N' => w_X10_hearTold_p5 b post (j + 1) (nI (m + 1)) M' N') X K1 L1 hh P1 hm' e (fun M2 N2 F2 P2 => ih (m + 1) (by omega) _ _ (F1.tr F2) P2)
  exact key (NN - n) n (by have := P.le; omega) M N FrB.rf P
theorem c_hourStep (X : BKX bk lg NN) (K : BkC M bk (cnL lg NN) (cnL lg NN)) (hh : h + 1 ≤ 719) (P : PC b bk lg NN but n h M N) (hlo : ∀ i, n ≤ i → i < NN → h + 1 ≤ lg i 0) (hp : ∀ M' N', FrB b M N M' N' → PC b bk lg NN but n (h + 1) M' N' → post M' N') : w_X10_passHour b M N post := by
  have hN := X.N
  obtain ⟨g1, g2, g3, g4⟩ := rep_good (but := but) X.L X.B hN h n (by omega) P.le
  refine c_passHour P.w g1 (X.B.cut (cnL_le' P.le)) g2 (by have := P.le; omega) (fun r h1 h2 => ?_) (fun M1 N1 F1 S1 => hp _ _ F1.1 ⟨?_, ?_, P.le, fun i hi => ?_, hlo⟩)
  · obtain ⟨i, q1, q2, q3, q4⟩ := cnL_rain NN P.le h1 h2
    have hr := X.R i q2 q3
    rw [q4] at hr
    have hlo' := hlo i q1 q2
    have hK := (K.r r h2).1
    rw [Nat.add_zero] at hK
    rw [hK, g4, nI_1]
    exact nI_ge (by omega) ((X.B.rM r h2).1)
  · rw [rep_hour P.up]
    exact S1
  · rw [F1.2]; exact P.hd
  · have := P.up i hi
    omega
theorem c_playTo (X : BKX bk lg NN) (K : BkC M bk (cnL lg NN) (cnL lg NN)) (L : LgC M lg NN) (ht : t ≤ 719) (hht : h ≤ t) (P : PC b bk lg NN but n h M N) (hp : ∀ M' N' n', FrB b M N M' N' → PC b bk lg NN but n' t M' N' → (∀ i, n' ≤ i → i < NN → t + 1 ≤ lg i 0) → post M' N') : w_X10_playTo b (nI t) M N post := by
  have hN := X.N
  unfold w_X10_playTo
  refine c_hearTold X K L (by omega) P (fun M1 N1 n1 F1 P1 hl1 v ev => ?_)
  obtain ⟨g1, g2, g3, g4⟩ := rep_good (but := but) X.L X.B hN h n1 (by omega) P1.le
  rw [P1.w.w.s.now, g4] at ev
  subst ev
  refine ⟨t - h + 1, ?_⟩
  have key : ∀ (j k : Nat), k + j = t → ∀ M2 N2 n2, FrB b M N M2 N2 → PC b bk lg NN but n2 k M2 N2 → (∀ i, n2 ≤ i → i < NN → k + 1 ≤ lg i 0) → w_X10_playTo_p9 b post (j + 1) (nI t) (nI k) M2 N2 := by
    intro j
    induction j with
    | zero =>
      intro k hk M2 N2 n2 F2 P2 hl2
      have hk' : k = t := by omega
      subst hk'
      rw [w_X10_playTo_p9_s]
      unfold w_X10_playTo_p9_b
      exact ⟨fun _ => hp _ _ n2 F2 P2 hl2, fun z => absurd (nI_le (Nat.le_refl _) (by omega)) z⟩
    | succ j ih =>
      intro k hk M2 N2 n2 F2 P2 hl2
      rw [w_X10_playTo_p9_s]
      unfold w_X10_playTo_p9_b
      rw [nI_1]
      refine ⟨fun z => absurd z (nI_ge (by omega) (by omega)), fun _ => c_hourStep X (K.cg (fun t i => F2.tab t i)) (by omega) P2 hl2 (fun M3 N3 F3 P3 => ?_)⟩
      have F23 := F2.tr F3
      refine c_hearTold X (K.cg (fun t i => F23.tab t i)) (L.cg (fun i => F23.tab 0 i)) (by omega) P3 (fun M4 N4 n4 F4 P4 hl4 => ih (k + 1) (by omega) _ _ n4 (F23.tr F4) P4 hl4)
  exact key (t - h) h (by omega) M1 N1 n1 F1 P1 hl1
/-- the reference -/
theorem r_row (X : BKX bk lg NN) (K : BkM M bk (cnL lg NN)) (L : LgM M lg NN) (hh : h ≤ 719) (P : PM bk lg NN but n h M N) (hn : n < NN) (e : lg n 0 = h) (hp : ∀ M' N', FrM M N M' N' → PM bk lg NN but (n + 1) h M' N' → post M' N') : w_X12_does (nI n) M N post := by
  have hN := X.N
  obtain ⟨g1, g2, g3, g4⟩ := rep_good (but := but) X.L X.B hN h n hh P.le
  have K1 : BkM M (cut bk (cnL lg (n + 1))) (cnL lg (n + 1)) := K.cut (cnL_le' (by omega))
  have S0 : StM (cut bk (cnL lg (n + 1))) (cnL lg n) but M N (rep bk but lg h n).1 (rep bk but lg h n).2.1 (rep bk but lg h n).2.2 := ⟨K1.mono (cnL_le' (by omega)), P.w.f, P.w.fe, P.w.lo, P.w.but⟩
  refine r_does S0 K1 g1 (X.B.cut (cnL_le' (by omega : n + 1 ≤ NN))) (X.L.row n hn) (by omega) (L.r n hn) (fun M1 N1 F1 S1 => hp _ _ F1 ⟨?_, hn, fun i hi => ?_, fun i h1 h2 => P.lo i (by omega) h2⟩)
  · rw [rep_row e]
    exact S1
  · by_cases z : i = n
    · subst z; omega
    · exact P.up i (by omega)
theorem r_hourStep (X : BKX bk lg NN) (hh : h + 1 ≤ 719) (P : PM bk lg NN but n h M N) (hlo : ∀ i, n ≤ i → i < NN → h + 1 ≤ lg i 0) (hp : ∀ M' N', FrM M N M' N' → PM bk lg NN but n (h + 1) M' N' → post M' N') : w_X12_hour M N post := by
  have hN := X.N
  obtain ⟨g1, g2, g3, g4⟩ := rep_good (but := but) X.L X.B hN h n (by omega) P.le
  refine r_hour P.w g1 (X.B.cut (cnL_le' P.le)) g2 (by have := P.le; omega) (fun M1 N1 F1 S1 => hp _ _ F1 ⟨?_, P.le, fun i hi => ?_, hlo⟩)
  · rw [rep_hour P.up]
    exact S1
  · have := P.up i hi
    omega
end PY
