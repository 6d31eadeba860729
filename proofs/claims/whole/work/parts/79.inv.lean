/-! ===== what holds between calls; telling ===== -/
def noBut : Nat → Nat → Prop := fun _ _ => False
def butOf (x y : Int32) : Nat → Nat → Prop := fun k i => x = nI k ∧ y = nI i
def MxC (M : am_I) : Prop := (M (2, 0, 0) 2 = nI 400) ∧ (M (2, 1, 0) 2 = nI 30) ∧ (M (2, 2, 0) 2 = nI 8) ∧ (M (2, 3, 0) 2 = nI 60) ∧ (M (2, 4, 0) 2 = nI 5) ∧ (M (2, 5, 0) 2 = nI 40)
theorem MxC.t0 {M : am_I} (h : MxC M) : M (2, 0, 0) 2 = nI 400 := h.1
theorem MxC.t1 {M : am_I} (h : MxC M) : M (2, 1, 0) 2 = nI 30 := h.2.1
theorem MxC.t2 {M : am_I} (h : MxC M) : M (2, 2, 0) 2 = nI 8 := h.2.2.1
theorem MxC.t3 {M : am_I} (h : MxC M) : M (2, 3, 0) 2 = nI 60 := h.2.2.2.1
theorem MxC.t4 {M : am_I} (h : MxC M) : M (2, 4, 0) 2 = nI 5 := h.2.2.2.2.1
theorem MxC.t5 {M : am_I} (h : MxC M) : M (2, 5, 0) 2 = nI 40 := h.2.2.2.2.2
def IP (bk : Bk) (lg : Lg) (NN now : Nat) (wd : Nat → Nat) : Prop := (BKX bk lg NN) ∧ (now ≤ 719) ∧ (∀ i, i < NN → lg i 0 ≤ now) ∧ (∀ k, (cnL lg NN).k ≤ k → wd k = 0) ∧ (∀ k, wd k ≤ 1)
theorem IP.X {bk : Bk} {lg : Lg} {NN now : Nat} {wd : Nat → Nat} (h : IP bk lg NN now wd) : BKX bk lg NN := h.1
theorem IP.nw {bk : Bk} {lg : Lg} {NN now : Nat} {wd : Nat → Nat} (h : IP bk lg NN now wd) : now ≤ 719 := h.2.1
theorem IP.up {bk : Bk} {lg : Lg} {NN now : Nat} {wd : Nat → Nat} (h : IP bk lg NN now wd) : ∀ i, i < NN → lg i 0 ≤ now := h.2.2.1
theorem IP.z {bk : Bk} {lg : Lg} {NN now : Nat} {wd : Nat → Nat} (h : IP bk lg NN now wd) : ∀ k, (cnL lg NN).k ≤ k → wd k = 0 := h.2.2.2.1
theorem IP.b {bk : Bk} {lg : Lg} {NN now : Nat} {wd : Nat → Nat} (h : IP bk lg NN now wd) : ∀ k, wd k ≤ 1 := h.2.2.2.2
def ICl (bk : Bk) (lg : Lg) (NN now : Nat) (wd : Nat → Nat) (M : am_I) (N : am_N) : Prop := (BkC M bk (cnL lg NN) (cnL lg NN)) ∧ (∀ k, k < (cnL lg NN).k → M (2, 4, 1) (k * 6 + 0) = nI (wd k)) ∧ (LgC M lg NN) ∧ (MxC M) ∧ (PC 0 bk lg NN noBut NN now M N) ∧ (∃ n u, u ≤ now ∧ PC 1 bk lg NN (butOf (M (1, 1, 0) 12) (M (1, 1, 0) 13)) n u M N)
theorem ICl.K {bk : Bk} {lg : Lg} {NN now : Nat} {wd : Nat → Nat} {M : am_I} {N : am_N} (h : ICl bk lg NN now wd M N) : BkC M bk (cnL lg NN) (cnL lg NN) := h.1
theorem ICl.D {bk : Bk} {lg : Lg} {NN now : Nat} {wd : Nat → Nat} {M : am_I} {N : am_N} (h : ICl bk lg NN now wd M N) : ∀ k, k < (cnL lg NN).k → M (2, 4, 1) (k * 6 + 0) = nI (wd k) := h.2.1
theorem ICl.L {bk : Bk} {lg : Lg} {NN now : Nat} {wd : Nat → Nat} {M : am_I} {N : am_N} (h : ICl bk lg NN now wd M N) : LgC M lg NN := h.2.2.1
theorem ICl.mx {bk : Bk} {lg : Lg} {NN now : Nat} {wd : Nat → Nat} {M : am_I} {N : am_N} (h : ICl bk lg NN now wd M N) : MxC M := h.2.2.2.1
theorem ICl.cl {bk : Bk} {lg : Lg} {NN now : Nat} {wd : Nat → Nat} {M : am_I} {N : am_N} (h : ICl bk lg NN now wd M N) : PC 0 bk lg NN noBut NN now M N := h.2.2.2.2.1
theorem ICl.gh {bk : Bk} {lg : Lg} {NN now : Nat} {wd : Nat → Nat} {M : am_I} {N : am_N} (h : ICl bk lg NN now wd M N) : ∃ n u, u ≤ now ∧ PC 1 bk lg NN (butOf (M (1, 1, 0) 12) (M (1, 1, 0) 13)) n u M N := h.2.2.2.2.2
def CtM (M : am_I) (full : Cn) (NN : Nat) : Prop := (M (3, 0, 0) 4 = nI NN) ∧ (M (3, 0, 0) 10 = nI full.r) ∧ (M (3, 0, 0) 11 = nI full.c) ∧ (M (3, 0, 0) 12 = nI full.w) ∧ (M (3, 0, 0) 13 = nI full.l) ∧ (M (3, 0, 0) 14 = nI full.k) ∧ (M (3, 0, 0) 30 = -1)
theorem CtM.n {M : am_I} {full : Cn} {NN : Nat} (h : CtM M full NN) : M (3, 0, 0) 4 = nI NN := h.1
theorem CtM.r {M : am_I} {full : Cn} {NN : Nat} (h : CtM M full NN) : M (3, 0, 0) 10 = nI full.r := h.2.1
theorem CtM.c {M : am_I} {full : Cn} {NN : Nat} (h : CtM M full NN) : M (3, 0, 0) 11 = nI full.c := h.2.2.1
theorem CtM.w {M : am_I} {full : Cn} {NN : Nat} (h : CtM M full NN) : M (3, 0, 0) 12 = nI full.w := h.2.2.2.1
theorem CtM.l {M : am_I} {full : Cn} {NN : Nat} (h : CtM M full NN) : M (3, 0, 0) 13 = nI full.l := h.2.2.2.2.1
theorem CtM.k {M : am_I} {full : Cn} {NN : Nat} (h : CtM M full NN) : M (3, 0, 0) 14 = nI full.k := h.2.2.2.2.2.1
theorem CtM.bw {M : am_I} {full : Cn} {NN : Nat} (h : CtM M full NN) : M (3, 0, 0) 30 = -1 := h.2.2.2.2.2.2
def IRf (bk : Bk) (lg : Lg) (NN now : Nat) (wd : Nat → Nat) (M : am_I) (N : am_N) : Prop := (BkM M bk (cnL lg NN)) ∧ (∀ k, k < 5 → M (3, 0, 22) k = nI (wd k)) ∧ (LgM M lg NN) ∧ (PM bk lg NN noBut NN now M N) ∧ (CtM M (cnL lg NN) NN)
theorem IRf.K {bk : Bk} {lg : Lg} {NN now : Nat} {wd : Nat → Nat} {M : am_I} {N : am_N} (h : IRf bk lg NN now wd M N) : BkM M bk (cnL lg NN) := h.1
theorem IRf.D {bk : Bk} {lg : Lg} {NN now : Nat} {wd : Nat → Nat} {M : am_I} {N : am_N} (h : IRf bk lg NN now wd M N) : ∀ k, k < 5 → M (3, 0, 22) k = nI (wd k) := h.2.1
theorem IRf.L {bk : Bk} {lg : Lg} {NN now : Nat} {wd : Nat → Nat} {M : am_I} {N : am_N} (h : IRf bk lg NN now wd M N) : LgM M lg NN := h.2.2.1
theorem IRf.rm {bk : Bk} {lg : Lg} {NN now : Nat} {wd : Nat → Nat} {M : am_I} {N : am_N} (h : IRf bk lg NN now wd M N) : PM bk lg NN noBut NN now M N := h.2.2.2.1
theorem IRf.ct {bk : Bk} {lg : Lg} {NN now : Nat} {wd : Nat → Nat} {M : am_I} {N : am_N} (h : IRf bk lg NN now wd M N) : CtM M (cnL lg NN) NN := h.2.2.2.2
def addL (lg : Lg) (NN h wh a b c : Nat) : Lg := fun i j => if i = NN then (if j = 0 then h else if j = 1 then wh else if j = 2 then a else if j = 3 then b else c) else lg i j
theorem addL_o {lg : Lg} {NN h wh a b c i j : Nat} (e : i ≠ NN) : addL lg NN h wh a b c i j = lg i j := if_neg e
theorem addL_0 {lg : Lg} {NN h wh a b c : Nat} : addL lg NN h wh a b c NN 0 = h := by unfold addL; rw [if_pos rfl]; rfl
theorem addL_1 {lg : Lg} {NN h wh a b c : Nat} : addL lg NN h wh a b c NN 1 = wh := by unfold addL; rw [if_pos rfl]; rfl
theorem addL_2 {lg : Lg} {NN h wh a b c : Nat} : addL lg NN h wh a b c NN 2 = a := by unfold addL; rw [if_pos rfl]; rfl
theorem addL_3 {lg : Lg} {NN h wh a b c : Nat} : addL lg NN h wh a b c NN 3 = b := by unfold addL; rw [if_pos rfl]; rfl
theorem addL_4 {lg : Lg} {NN h wh a b c : Nat} : addL lg NN h wh a b c NN 4 = c := by unfold addL; rw [if_pos rfl]; rfl
section IV
variable {M M' : am_I} {N N' : am_N} {b : Nat} {bk bk' : Bk} {lg : Lg} {NN now n u wh a bb c : Nat} {wd wd' : Nat → Nat} {but : Nat → Nat → Prop} {post : am_I → am_N → Prop}
theorem cnL_add {h : Nat} {m : Nat} (hm : m ≤ NN) : cnL (addL lg NN h wh a bb c) m = cnL lg m := cnL_cg m (fun i hi => addL_o (by omega))
theorem cnL_add1 {h : Nat} : cnL (addL lg NN h wh a bb c) (NN + 1) = cnAdd (cnL lg NN) wh := by
  show cnAdd (cnL (addL lg NN h wh a bb c) NN) (addL lg NN h wh a bb c NN 1) = _
  rw [cnL_add (Nat.le_refl _), addL_1]
/-- the book agrees as far as it went -/
def bkAg (bk bk' : Bk) (cn : Cn) : Prop := ∀ t i, i < bndB cn t → bk' t i = bk t i
theorem BKX.add (P : IP bk lg NN now wd) (hN : NN < 400) (hr : RowOK (cnL lg NN) wh a bb c) (hag : bkAg bk bk' (cnL lg NN)) (hB : BkGood bk' (cnAdd (cnL lg NN) wh)) (hR : wh = 2 → now < bk'.rF (cnL lg NN).r) : BKX bk' (addL lg NN now wh a bb c) (NN + 1) := by
  refine ⟨?_, ?_, ?_, ?_, ?_⟩
  · exact by omega
  · exact by
      refine ⟨fun i hi => ?_, fun i j hij hj => ?_⟩
      · by_cases e : i = NN
        · subst e
          rw [addL_1, addL_2, addL_3, addL_4, cnL_add (Nat.le_refl _)]
          exact hr
        · rw [addL_o e, addL_o e, addL_o e, addL_o e, cnL_add (by omega)]
          exact P.X.L.row i (by omega)
      · by_cases e : j = NN
        · subst e
          rw [addL_0]
          by_cases e2 : i = j
          · subst e2; rw [addL_0]; exact Nat.le_refl _
          · rw [addL_o e2]; exact P.up i (by omega)
        · rw [addL_o e, addL_o (show i ≠ NN by omega)]
          exact P.X.L.mono i j hij (by omega)
  · exact by rw [cnL_add1]; exact hB
  · exact fun i hi h2 => by
      by_cases e : i = NN
      · subst e
        rw [addL_1] at h2
        rw [addL_0, cnL_add (Nat.le_refl _)]
        exact hR h2
      · rw [addL_o e] at h2
        rw [addL_o e, cnL_add (by omega)]
        have h1 := P.X.R i (by omega) h2
        have h3 : (cnL lg i).r < (cnL lg NN).r := by
          have h4 := (cnL_le' (lg := lg) (show i + 1 ≤ NN by omega)).1
          have h5 : (cnL lg (i + 1)).r = (cnL lg i).r + (if lg i 1 = 2 then 1 else 0) := rfl
          rw [if_pos h2] at h5
          omega
        have h6 : bk'.rF (cnL lg i).r = bk.rF (cnL lg i).r := hag 0 _ h3
        rw [h6]
        exact h1
  · exact fun i hi => by
      by_cases e : i = NN
      · subst e; rw [addL_0]; exact P.nw
      · rw [addL_o e]; exact P.X.H i (by omega)
theorem rep_add {h : Nat} (hag : bkAg bk bk' (cnL lg NN)) (hn : n ≤ NN) : rep bk' but (addL lg NN now wh a bb c) h n = rep bk but lg h n :=
  rep_cg h n (fun i hi k => addL_o (by omega)) (fun t i hi => hag t i (Nat.lt_of_lt_of_le hi (bndB_le (cnL_le' hn) t)))
theorem PC.add (P : PC b bk lg NN but n u M N) (hu : u ≤ now) (hag : bkAg bk bk' (cnL lg NN)) (hcb : CnB (cnAdd (cnL lg NN) wh)) (K : BkC M' bk' (cnAdd (cnL lg NN) wh) (cnAdd (cnL lg NN) wh)) (e1 : ∀ i, M' (1, b, i) = M (1, b, i)) (e2 : ∀ i, N' (1, b, i) = N (1, b, i)) : PC b bk' (addL lg NN now wh a bb c) (NN + 1) but n u M' N' := by
  refine ⟨?_, ?_, ?_, ?_, ?_⟩
  · exact by
      rw [rep_add hag P.le, cnL_add P.le, cnL_add1]
      exact ⟨K.cut ((cnL_le' P.le).tr (cnAdd_le _ _)), hcb, P.w.w.mem (fun i _ _ _ => e1 i) (fun i _ => e2 i)⟩
  · exact by rw [e1]; exact P.hd
  · exact by have := P.le; omega
  · exact fun i hi => by rw [addL_o (by have := P.le; omega)]; exact P.up i hi
  · exact fun i h1 h2 => by
      by_cases e : i = NN
      · subst e; rw [addL_0]; exact hu
      · rw [addL_o e]; exact P.lo i h1 (by omega)
theorem PM.add (P : PM bk lg NN but n u M N) (hu : u ≤ now) (hag : bkAg bk bk' (cnL lg NN)) (K : BkM M' bk' (cnAdd (cnL lg NN) wh)) (e1 : M' (3, 0, 1) = M (3, 0, 1)) (e2 : M' (3, 0, 0) 30 = M (3, 0, 0) 30) (e4 : M' (3, 0, 0) 31 = M (3, 0, 0) 31) (e3 : N' (3, 0, 0) = N (3, 0, 0)) : PM bk' (addL lg NN now wh a bb c) (NN + 1) but n u M' N' := by
  refine ⟨?_, ?_, ?_, ?_⟩
  · exact by
      rw [rep_add hag P.le, cnL_add P.le]
      exact ⟨K.cut ((cnL_le' P.le).tr (cnAdd_le _ _)), by rw [e1]; exact P.w.f, by rw [e3]; exact P.w.fe, by rw [e3]; exact P.w.lo, fun k i hk hi => by rw [e2, e4]; exact P.w.but k i hk hi⟩
  · exact by have := P.le; omega
  · exact fun i hi => by rw [addL_o (by have := P.le; omega)]; exact P.up i hi
  · exact fun i h1 h2 => by
      by_cases e : i = NN
      · subst e; rw [addL_0]; exact hu
      · rw [addL_o e]; exact P.lo i h1 (by omega)
theorem PC.cg (P : PC b bk lg NN but n u M N) (e1 : ∀ i, M' (1, b, i) = M (1, b, i)) (e2 : ∀ i, N' (1, b, i) = N (1, b, i)) (e3 : ∀ t i, M' (2, t, i) = M (2, t, i)) : PC b bk lg NN but n u M' N' := by
  refine ⟨?_, ?_, ?_, ?_, ?_⟩
  · exact ⟨P.w.k.cg e3, P.w.fb, P.w.w.mem (fun i _ _ _ => e1 i) (fun i _ => e2 i)⟩
  · exact by rw [e1]; exact P.hd
  · exact P.le
  · exact P.up
  · exact P.lo
theorem ICl.cg (I : ICl bk lg NN now wd M N) (e : ∀ g x i, g = 1 ∨ g = 2 → M' (g, x, i) = M (g, x, i) ∧ N' (g, x, i) = N (g, x, i)) : ICl bk lg NN now wd M' N' := by
  refine ⟨?_, ?_, ?_, ?_, ?_, ?_⟩
  · exact I.K.cg (fun t i => (e 2 t i (Or.inr rfl)).1)
  · exact fun k hk => by rw [(e 2 4 1 (Or.inr rfl)).1]; exact I.D k hk
  · exact I.L.cg (fun i => (e 2 0 i (Or.inr rfl)).1)
  · exact ⟨by rw [(e 2 0 0 (Or.inr rfl)).1]; exact I.mx.t0, by rw [(e 2 1 0 (Or.inr rfl)).1]; exact I.mx.t1, by rw [(e 2 2 0 (Or.inr rfl)).1]; exact I.mx.t2, by rw [(e 2 3 0 (Or.inr rfl)).1]; exact I.mx.t3, by rw [(e 2 4 0 (Or.inr rfl)).1]; exact I.mx.t4, by rw [(e 2 5 0 (Or.inr rfl)).1]; exact I.mx.t5⟩
  · exact I.cl.cg (fun i => (e 1 0 i (Or.inl rfl)).1) (fun i => (e 1 0 i (Or.inl rfl)).2) (fun t i => (e 2 t i (Or.inr rfl)).1)
  · exact by
      obtain ⟨n, u, h1, h2⟩ := I.gh
      refine ⟨n, u, h1, ?_⟩
      rw [(e 1 1 0 (Or.inl rfl)).1]
      exact h2.cg (fun i => (e 1 1 i (Or.inl rfl)).1) (fun i => (e 1 1 i (Or.inl rfl)).2) (fun t i => (e 2 t i (Or.inr rfl)).1)
/-- a told row is heard by the live world -/
theorem c_tellRow (P : IP bk lg NN now wd) (I : ICl bk lg NN now wd M N) (X : BKX bk' (addL lg NN now wh a bb c) (NN + 1)) (hag : bkAg bk bk' (cnL lg NN)) (K : BkC M' bk' (cnAdd (cnL lg NN) wh) (cnAdd (cnL lg NN) wh)) (L : LgC M' (addL lg NN now wh a bb c) (NN + 1)) (D : ∀ k, k < (cnAdd (cnL lg NN) wh).k → M' (2, 4, 1) (k * 6 + 0) = nI (wd' k)) (mx : MxC M') (e1 : ∀ x i, M' (1, x, i) = M (1, x, i))
    (h : ∀ M2 N2, FrB 0 M' N M2 N2 → ICl bk' (addL lg NN now wh a bb c) (NN + 1) now wd' M2 N2 → post M2 N2) : w_X10_hearTold 0 M' N post := by
  have hcb := X.L.cb (NN + 1) (Nat.le_refl _)
  rw [cnL_add1] at hcb
  have K' : BkC M' bk' (cnL (addL lg NN now wh a bb c) (NN + 1)) (cnL (addL lg NN now wh a bb c) (NN + 1)) := by rw [cnL_add1]; exact K
  have P0 := I.cl.add (a := a) (bb := bb) (c := c) (M' := M') (N' := N) (Nat.le_refl now) hag hcb K (e1 0) (fun _ => rfl)
  refine c_hearTold X K' L P.nw P0 (fun M2 N2 n' F2 P2 hl => h _ _ F2 ?_)
  have hn' : n' = NN + 1 := by
    have h1 := P2.le
    by_cases z : n' = NN + 1
    · exact z
    · have := hl NN (by omega) (by omega)
      rw [addL_0] at this
      omega
  subst hn'
  refine ⟨K'.cg (fun t i => F2.tab t i), fun k hk => ?_, L.cg (fun i => F2.tab 0 i), ⟨?_, ?_, ?_, ?_, ?_, ?_⟩, P2, ?_⟩
  · rw [F2.tab]
    rw [cnL_add1] at hk
    exact D k hk
  · rw [F2.tab]; exact mx.t0
  · rw [F2.tab]; exact mx.t1
  · rw [F2.tab]; exact mx.t2
  · rw [F2.tab]; exact mx.t3
  · rw [F2.tab]; exact mx.t4
  · rw [F2.tab]; exact mx.t5
  · obtain ⟨n, u, h1, h2⟩ := I.gh
    have e10 : ∀ i, M2 (1, 1, i) = M' (1, 1, i) ∧ N2 (1, 1, i) = N (1, 1, i) := fun i => F2.1 (1, 1, i) (fun z => by simp at z) (fun z => by simp at z)
    refine ⟨n, u, h1, ?_⟩
    rw [(e10 0).1, e1]
    have h3 := h2.add (a := a) (bb := bb) (c := c) (M' := M2) (N' := N2) h1 hag hcb (K.cg (fun t i => F2.tab t i)) (fun i => by rw [(e10 i).1, e1]) (fun i => (e10 i).2)
    exact h3
theorem r_tellRow (P : IP bk lg NN now wd) (I : IRf bk lg NN now wd M N) (X : BKX bk' (addL lg NN now wh a bb c) (NN + 1)) (hag : bkAg bk bk' (cnL lg NN)) (K : BkM M' bk' (cnAdd (cnL lg NN) wh)) (L : LgM M' (addL lg NN now wh a bb c) (NN + 1)) (D : ∀ k, k < 5 → M' (3, 0, 22) k = nI (wd' k)) (ct : CtM M' (cnAdd (cnL lg NN) wh) (NN + 1)) (e1 : M' (3, 0, 1) = M (3, 0, 1)) (e31 : M' (3, 0, 0) 31 = M (3, 0, 0) 31)
    (h : ∀ M2 N2, FrM M' N M2 N2 → IRf bk' (addL lg NN now wh a bb c) (NN + 1) now wd' M2 N2 → post M2 N2) : w_X12_does (nI NN) M' N post := by
  have hN := X.N
  have K' : BkM M' bk' (cnL (addL lg NN now wh a bb c) (NN + 1)) := by rw [cnL_add1]; exact K
  have P0 := I.rm.add (a := a) (bb := bb) (c := c) (M' := M') (N' := N) (Nat.le_refl now) hag K e1 (by rw [ct.bw, I.ct.bw]) e31 rfl
  refine r_row X K' L P.nw P0 (by omega) addL_0 (fun M2 N2 F2 P2 => h _ _ F2 ⟨K'.cg F2, fun k hk => ?_, L.cg F2, P2, ?_⟩)
  · rw [F2.row (by decide) (by omega)]; exact D k hk
  · rw [cnL_add1]
    have e0 : M2 (3, 0, 0) = M' (3, 0, 0) := F2.row (by decide) (by omega)
    exact ⟨by rw [e0]; exact ct.n, by rw [e0]; exact ct.r, by rw [e0]; exact ct.c, by rw [e0]; exact ct.w, by rw [e0]; exact ct.l, by rw [e0]; exact ct.k, by rw [e0]; exact ct.bw⟩
/-- the pure part behind a telling -/
theorem IP.add (P : IP bk lg NN now wd) (X : BKX bk' (addL lg NN now wh a bb c) (NN + 1)) (z : ∀ k, (cnAdd (cnL lg NN) wh).k ≤ k → wd' k = 0) (hb : ∀ k, wd' k ≤ 1) : IP bk' (addL lg NN now wh a bb c) (NN + 1) now wd' := by
  refine ⟨?_, ?_, ?_, ?_, ?_⟩
  · exact X
  · exact P.nw
  · exact fun i hi => by
      by_cases e : i = NN
      · subst e; rw [addL_0]; exact Nat.le_refl _
      · rw [addL_o e]; exact P.up i (by omega)
  · exact fun k hk => by
      rw [cnL_add1] at hk
      exact z k hk
  · exact hb
end IV
