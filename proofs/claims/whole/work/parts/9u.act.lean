/-! ===== act ===== -/
def FrF (M M1 : am_I) : Prop := (∀ c : am_C, c ≠ (0, 0, 12) → c ≠ (0, 0, 14) → c ≠ (0, 0, 16) → M1 c = M c) ∧ ∀ j, j ≠ 4 → j ≠ 5 → j ≠ 6 → j ≠ 7 → M1 (0, 0, 12) j = M (0, 0, 12) j
def FrN2 (N N1 : am_N) : Prop := ∀ c : am_C, c ≠ (3, 0, 41) → c ≠ (3, 0, 42) → N1 c = N c
noncomputable def fcI (bk : Bk) (lg : Lg) (NN now : Nat) (wd : Nat → Nat) (c a : Nat) : Int := (fvV bk (cnL lg NN) now wd (rep bk noBut lg now NN).1 c a).toInt
section AC
variable {M M1 M2 : am_I} {N N1 N2 : am_N} {bk : Bk} {lg : Lg} {NN now : Nat} {wd : Nat → Nat} {t : Nat → Nat} {B r : Nat} {ft : Int32} {PP : List SX} {SS : List (Nat × Nat)} {a1 a2 : Int32} {postI : Int32 → am_I → am_N → Prop} {full : Cn}
theorem IRl.cg (L : IRl t B r ft PP SS M) (e00 : M1 (0, 0, 0) = M (0, 0, 0)) (e07 : M1 (0, 0, 7) = M (0, 0, 7)) (e08 : M1 (0, 0, 8) = M (0, 0, 8)) (e12 : ∀ j, j < 4 → M1 (0, 0, 12) j = M (0, 0, 12) j) (e13 : M1 (0, 0, 13) = M (0, 0, 13)) (eR : ∀ i, 34 ≤ i → i < 44 → M1 (3, 0, i) = M (3, 0, i)) (e3 : ∀ j, 45 ≤ j → M1 (3, 0, 0) j = M (3, 0, 0) j) : IRl t B r ft PP SS M1 := by
  refine ⟨L.b, fun i hi => ?_, ?_, ?_, L.r8, ?_, ?_, ?_, ?_, ?_, L.sl, L.sp.cg (eR 39 (by decide) (by decide)) (eR 40 (by decide) (by decide)), L.pl, L.p0, L.ok, fun hr => ⟨(L.pg hr).1.rows (a := PP.length) (Nat.le_refl _) (fun j _ => ?_), ?_⟩, L.cl, ?_, ?_, fun i hi => ?_⟩
  · rw [e08, eR 43 (by decide) (by decide)]; exact L.tp i hi
  · rw [e07]; exact L.bc
  · rw [e3 47 (by decide)]; exact L.bm
  · rw [e00]; exact L.rc
  · rw [e3 45 (by decide)]; exact L.rm
  · rw [e00]; exact L.fc
  · rw [e3 51 (by decide)]; exact L.fm
  · rw [e3 46 (by decide)]; exact L.sz
  · rw [eR 35 (by decide) (by decide), eR 36 (by decide) (by decide), eR 37 (by decide) (by decide), eR 38 (by decide) (by decide)]
    exact ⟨rfl, rfl, rfl, rfl⟩
  · rw [eR 34 (by decide) (by decide)]; exact (L.pg hr).2
  · rw [e12 2 (by decide)]; exact L.cz
  · rw [e12 3 (by decide)]; exact L.cn
  · rw [e13]; exact L.cd i hi
theorem IRl.ff (L : IRl t B r ft PP SS M) (F : FrF M M1) : IRl t B r ft PP SS M1 := L.cg (F.1 _ (by simp) (by simp) (by simp)) (F.1 _ (by simp) (by simp) (by simp)) (F.1 _ (by simp) (by simp) (by simp)) (fun j hj => F.2 j (by omega) (by omega) (by omega) (by omega)) (F.1 _ (by simp) (by simp) (by simp)) (fun i _ _ => F.1 _ (by simp) (by simp) (by simp)) (fun j _ => by rw [F.1 _ (by simp) (by simp) (by simp)])
theorem INVR.x1 (h : INVR M) (F : FrX1 M N M1 N1) : INVR M1 := by
  obtain ⟨t, B, r, ft, PP, SS, L⟩ := h
  have g0 : ∀ i, (i < 2 ∨ 6 < i) → M1 (0, 0, i) = M (0, 0, i) := fun i hi => (F.1 (0, 0, i) (Or.inl ⟨rfl, hi⟩)).1
  exact ⟨t, B, r, ft, PP, SS, L.cg (g0 0 (by decide)) (g0 7 (by decide)) (g0 8 (by decide)) (fun j _ => by rw [g0 12 (by decide)]) (g0 13 (by decide)) (fun i h1 h2 => (F.1 (3, 0, i) (Or.inr (Or.inr ⟨rfl, show 32 ≤ i by omega⟩))).1) (fun j hj => F.2 j (by omega))⟩
theorem INVR.frt (h : INVR M) (F : FrT M N M1 N1) : INVR M1 := by
  obtain ⟨t, B, r, ft, PP, SS, L⟩ := h
  have g : ∀ c : am_C, c.1 ≠ 2 → c ≠ (3, 0, 32) → c ≠ (3, 0, 33) → c ≠ (3, 0, 0) → M1 c = M c := fun c q1 q2 q3 q4 => F.2.1 c (fun w => q1 w.1) q2 q3 q4
  refine ⟨t, B, r, ft, PP, SS, L.cg (g _ (by simp) (by simp) (by simp) (by simp)) (g _ (by simp) (by simp) (by simp) (by simp)) (g _ (by simp) (by simp) (by simp) (by simp)) (fun j _ => by rw [g _ (by simp) (by simp) (by simp) (by simp)]) (g _ (by simp) (by simp) (by simp) (by simp)) (fun i h1 h2 => g _ (by simp) (fun w => ?_) (fun w => ?_) (fun w => ?_)) (fun j hj => F.2.2 j (by omega))⟩
  · have : i = 32 := congrArg (fun c : am_C => c.2.2) w
    omega
  · have : i = 33 := congrArg (fun c : am_C => c.2.2) w
    omega
  · have : i = 0 := congrArg (fun c : am_C => c.2.2) w
    omega
theorem INVW.fy (h : INVW M N) (F : FrY M N M1 N1) : INVW M1 N1 := by
  refine h.cg (fun x i => F.1 (1, x, i) (fun w => absurd w.1 (show ¬ (1 : Nat) = 0 by decide)) (fun w => absurd w.1 (show ¬ (1 : Nat) = 3 by decide))) (fun t i _ => (F.1 (2, t, i) (fun w => absurd w.1 (show ¬ (2 : Nat) = 0 by decide)) (fun w => absurd w.1 (show ¬ (2 : Nat) = 3 by decide))).1) (fun i h1 h2 => (F.1 (3, 0, i) (fun w => absurd w.1 (show ¬ (3 : Nat) = 0 by decide)) (fun w => ?_)).1) (fun j hj => F.2.1 j (by omega)) F.2.2
  have w2 : i = 0 ∨ 34 ≤ i := w.2
  omega
theorem INVS.fy (h : INVS M) (F : FrY M N M1 N1) : INVS M1 := by
  refine h.cg (fun i => (F.1 (2, 6, i) (fun w => absurd w.1 (show ¬ (2 : Nat) = 0 by decide)) (fun w => absurd w.1 (show ¬ (2 : Nat) = 3 by decide))).1) (F.1 (3, 0, 32) (fun w => absurd w.1 (by decide)) (fun w => ?_)).1 (F.1 (3, 0, 33) (fun w => absurd w.1 (by decide)) (fun w => ?_)).1 (F.2.1 42 (by decide))
  · have w2 : 32 = 0 ∨ 34 ≤ 32 := w.2
    omega
  · have w2 : 33 = 0 ∨ 34 ≤ 33 := w.2
    omega
theorem fc_sml {c : Nat} (P : IP bk lg NN now wd) (hc : c < 64) : ∀ a, a < 8 → sml (fcI bk lg NN now wd c a) := by
  have hN := P.X.N
  have hn := P.nw
  exact fv_sml P.good (by omega) (rep_PB (but := noBut) P.X.L P.X.B P.X.N now NN P.nw (Nat.le_refl _)) (by omega) hc
theorem c_finds (P : IP bk lg NN now wd) (I : ICl bk lg NN now wd M N) (D : WdOK M (cnL lg NN) wd) (L : IRl t B r ft PP SS M) (h0 : (¬ ∃ c, c < 64 ∧ a1 = nI c ∧ (rep bk noBut lg now NN).1 (192 + c) = 1) → postI 0 M N) (h1 : ∀ c, c < 64 → a1 = nI c → (rep bk noBut lg now NN).1 (192 + c) = 1 → (sel (fcI bk lg NN now wd c) PP 0 = none → ∀ M1, FrF M M1 → postI 0 M1 N) ∧ ∀ k x, sel (fcI bk lg NN now wd c) PP 0 = some (k, x) → ∀ M1, FrF M M1 → M1 (0, 0, 12) 5 = nI k → M1 (0, 0, 12) 6 = nI x.1 → M1 (0, 0, 12) 7 = iI (vmI (fcI bk lg NN now wd c) x) → postI 1 M1 N) : w_X11_findsAct a1 M N postI := by
  have hn := P.nw
  have S := I.cl.w
  have g := rep_good (but := noBut) P.X.L P.X.B P.X.N now NN P.nw (Nat.le_refl _)
  unfold w_X11_findsAct
  refine c_stands S (fun c hc ec hs => ⟨fun _ => ?_, fun z => absurd z (by decide)⟩) (fun z => ⟨fun w => absurd rfl w, fun _ => h0 z⟩)
  obtain ⟨k0, k1⟩ := h1 c hc ec hs
  subst ec
  refine c_facts (bk := bk) S I.K D P.good P.X.B hc hs g.2.2.2 hn (fun M1 F1 V1 => ?_)
  unfold w_X3_decide
  have F2 : FrF M (am_u (am_u M1 (0, 0, 12) 4 0) (0, 0, 12) 5 0) := ⟨fun c' q1 q2 q3 => by rw [am_u_o _ _ _ q1, am_u_o _ _ _ q1, F1 c' q3], fun j q4 q5 _ _ => by rw [am_u_c, pk_un q5, am_u_c, pk_un q4, F1 _ (by simp)]⟩
  have e5 : am_u (am_u M1 (0, 0, 12) 4 0) (0, 0, 12) 5 0 (0, 0, 12) 5 = nI 0 := by rw [am_u_c, pk_us]; rfl
  have e4 : am_u (am_u M1 (0, 0, 12) 4 0) (0, 0, 12) 5 0 (0, 0, 12) 4 = nI 0 := by rw [am_u_c, pk_un (by decide), am_u_c, pk_us]; rfl
  have e16 : am_u (am_u M1 (0, 0, 12) 4 0) (0, 0, 12) 5 0 (0, 0, 16) = M1 (0, 0, 16) := by rw [am_u_o _ _ _ (by simp), am_u_o _ _ _ (by simp)]
  generalize am_u (am_u M1 (0, 0, 12) 4 0) (0, 0, 12) 5 0 = M2 at F2 e5 e4 e16 ⊢
  have up : ∀ M3, FrD M2 M3 → FrF M M3 := fun M3 F3 => ⟨fun c' q1 q2 q3 => by rw [F3.1 c' q1 q2, F2.1 c' q1 q2 q3], fun j q4 q5 q6 q7 => by rw [F3.2 j q4 q5 q6 q7, F2.2 j q4 q5 q6 q7]⟩
  have L2 := L.ff F2
  refine ⟨(PP.flatMap cdS).length + 1, c_dec (C := (PP.flatMap cdS).length) (fc_sml P hc) L.cl PP 0 0 _ M2 L.ok ⟨e4, trivial, fun a ha => ?_⟩ e5 L2.cz (Nat.zero_add _) (fun m hm => ?_) (by omega) (fun z M3 F3 => ⟨Or.inl rfl, k0 z M3 (up M3 F3)⟩) (fun k x z M3 F3 d5 d6 d7 => ⟨Or.inr rfl, k1 k x z M3 (up M3 F3) d5 d6 d7⟩)⟩
  · rw [e16, V1 a ha]; exact (iI_self _).symm
  · rw [Nat.zero_add]; exact L2.cd m hm
theorem r_toDoW (P : IP bk lg NN now wd) (R : IRf bk lg NN now wd M N) (D : WdOK M full wd) (L : IRl t B r ft PP SS M) (h0 : (¬ ∃ c, c < 64 ∧ a1 = nI c ∧ (rep bk noBut lg now NN).1 (192 + c) = 1) → postI (-1) M N) (h1 : ∀ c, c < 64 → a1 = nI c → (rep bk noBut lg now NN).1 (192 + c) = 1 → (sel (fcI bk lg NN now wd c) PP 0 = none → ∀ N1, FrN2 N N1 → postI (-1) M N1) ∧ ∀ k x, sel (fcI bk lg NN now wd c) PP 0 = some (k, x) → 0 < r → ∀ N1, FrN2 N N1 → (∀ a, a < 8 → N1 (3, 0, 42) a = iL (fcI bk lg NN now wd c a)) → postI (nI (24 * (r - 1) + k)) M N1) : w_X12_toDo a1 M N postI := by
  have hn := P.nw
  have S := R.rm.w
  have hcb := P.X.L.cb NN (Nat.le_refl _)
  have hr8 := L.r8
  have g := rep_good (but := noBut) P.X.L P.X.B P.X.N now NN P.nw (Nat.le_refl _)
  have q0 : M (3, 0, 0) 45 = (0 : Int32) ↔ r = 0 := by rw [L.rm]; exact nI_eq (b := 0) (by omega) (by omega)
  unfold w_X12_toDo
  refine r_has S (fun c hc ec hs => ⟨fun z => absurd z (by decide), fun _ => ?_⟩) (fun z => ⟨fun _ => h0 z, fun w => absurd rfl w⟩)
  obtain ⟨k0, k1⟩ := h1 c hc ec hs
  subst ec
  refine ⟨fun hne => ?_, fun h45 => k0 ?_ N (fun _ _ _ => rfl)⟩
  · have hr : 0 < r := Nat.pos_of_ne_zero fun w => hne (q0.mpr w)
    refine r_weeds S D hc ?_
    have e64 : (64 : Int32) + nI c = nI (64 + c) := nI_add 64 c
    have e128 : (128 : Int32) + nI c = nI (128 + c) := nI_add 128 c
    have e384 : (384 : Int32) + nI c = nI (384 + c) := nI_add 384 c
    have e256 : (256 : Int32) + nI c = nI (256 + c) := nI_add 256 c
    have e320 : (320 : Int32) + nI c = nI (320 + c) := nI_add 320 c
    have e448 : (448 : Int32) + nI c = nI (448 + c) := nI_add 448 c
    show vp_in (64 + nI c) 1635 ∧ vp_in (128 + nI c) 1635 ∧ vp_in (384 + nI c) 1635 ∧ vp_in (256 + nI c) 1635 ∧ vp_in (320 + nI c) 1635 ∧ _
    rw [e64, e128, e384, e256, e320, nI_clamp (show 64 + c < 2 ^ 31 by omega), nI_clamp (show 128 + c < 2 ^ 31 by omega), nI_clamp (show 384 + c < 2 ^ 31 by omega), nI_clamp (show 256 + c < 2 ^ 31 by omega), nI_clamp (show 320 + c < 2 ^ 31 by omega), S.f]
    refine ⟨vp_in_nI (by omega) (by omega), vp_in_nI (by omega) (by omega), vp_in_nI (by omega) (by omega), vp_in_nI (by omega) (by omega), vp_in_nI (by omega) (by omega), ?_⟩
    refine r_next (bk := bk) (cn := cnL lg NN) (now := now) R.ct.r (by rw [S.f]; exact g.2.2.2) (fun j hj => ⟨(R.K.r j hj).1, (R.K.r j hj).2.1⟩) (fun j hj => ⟨(P.X.B.rM j hj).1, (P.X.B.rM j hj).2.1⟩) hcb.1 hn ?_
    show vp_in (448 + nI c) 1635 ∧ _
    rw [e448, nI_clamp (show 448 + c < 2 ^ 31 by omega), S.f]
    refine ⟨vp_in_nI (by omega) (by omega), fun zv hz => ?_⟩
    have e1 : zv = nI (r - 1) := by
      rw [hz, L.rm]
      have := nI_pred (r - 1)
      rw [show r - 1 + 1 = r by omega] at this
      exact this
    subst e1
    have hN : ∀ c' : am_C, c' ≠ (3, 0, 42) → am_ul (am_ul (am_ul (am_ul (am_ul (am_ul (am_ul (am_ul N (3, 0, 42) 0 (weedV wd (rep bk noBut lg now NN).1 c).toInt64) (3, 0, 42) 1 ((rep bk noBut lg now NN).1 (64 + c)).toInt64) (3, 0, 42) 2 ((rep bk noBut lg now NN).1 (128 + c)).toInt64) (3, 0, 42) 3 ((rep bk noBut lg now NN).1 (384 + c)).toInt64) (3, 0, 42) 4 ((rep bk noBut lg now NN).1 (256 + c)).toInt64) (3, 0, 42) 5 ((rep bk noBut lg now NN).1 (320 + c)).toInt64) (3, 0, 42) 6 (nI (nrN bk now (cnL lg NN).r)).toInt64) (3, 0, 42) 7 ((rep bk noBut lg now NN).1 (448 + c)).toInt64 c' = N c' := fun c' q => by
      rw [am_ul_o _ _ _ q, am_ul_o _ _ _ q, am_ul_o _ _ _ q, am_ul_o _ _ _ q, am_ul_o _ _ _ q, am_ul_o _ _ _ q, am_ul_o _ _ _ q, am_ul_o _ _ _ q]
    have hW : ∀ a, a < 8 → am_ul (am_ul (am_ul (am_ul (am_ul (am_ul (am_ul (am_ul N (3, 0, 42) 0 (weedV wd (rep bk noBut lg now NN).1 c).toInt64) (3, 0, 42) 1 ((rep bk noBut lg now NN).1 (64 + c)).toInt64) (3, 0, 42) 2 ((rep bk noBut lg now NN).1 (128 + c)).toInt64) (3, 0, 42) 3 ((rep bk noBut lg now NN).1 (384 + c)).toInt64) (3, 0, 42) 4 ((rep bk noBut lg now NN).1 (256 + c)).toInt64) (3, 0, 42) 5 ((rep bk noBut lg now NN).1 (320 + c)).toInt64) (3, 0, 42) 6 (nI (nrN bk now (cnL lg NN).r)).toInt64) (3, 0, 42) 7 ((rep bk noBut lg now NN).1 (448 + c)).toInt64 (3, 0, 42) a = iL (fcI bk lg NN now wd c a) := fun a ha => by
      unfold fcI
      rw [← i64]
      have : a = 0 ∨ a = 1 ∨ a = 2 ∨ a = 3 ∨ a = 4 ∨ a = 5 ∨ a = 6 ∨ a = 7 := by omega
      rcases this with e | e | e | e | e | e | e | e <;> subst e
      · rw [ul_n (by decide), ul_n (by decide), ul_n (by decide), ul_n (by decide), ul_n (by decide), ul_n (by decide), ul_n (by decide), ul_s]; rfl
      · rw [ul_n (by decide), ul_n (by decide), ul_n (by decide), ul_n (by decide), ul_n (by decide), ul_n (by decide), ul_s]; rfl
      · rw [ul_n (by decide), ul_n (by decide), ul_n (by decide), ul_n (by decide), ul_n (by decide), ul_s]; rfl
      · rw [ul_n (by decide), ul_n (by decide), ul_n (by decide), ul_n (by decide), ul_s]; rfl
      · rw [ul_n (by decide), ul_n (by decide), ul_n (by decide), ul_s]; rfl
      · rw [ul_n (by decide), ul_n (by decide), ul_s]; rfl
      · rw [ul_n (by decide), ul_s]; rfl
      · rw [ul_s]; rfl
    generalize am_ul (am_ul (am_ul (am_ul (am_ul (am_ul (am_ul (am_ul N (3, 0, 42) 0 (weedV wd (rep bk noBut lg now NN).1 c).toInt64) (3, 0, 42) 1 ((rep bk noBut lg now NN).1 (64 + c)).toInt64) (3, 0, 42) 2 ((rep bk noBut lg now NN).1 (128 + c)).toInt64) (3, 0, 42) 3 ((rep bk noBut lg now NN).1 (384 + c)).toInt64) (3, 0, 42) 4 ((rep bk noBut lg now NN).1 (256 + c)).toInt64) (3, 0, 42) 5 ((rep bk noBut lg now NN).1 (320 + c)).toInt64) (3, 0, 42) 6 (nI (nrN bk now (cnL lg NN).r)).toInt64) (3, 0, 42) 7 ((rep bk noBut lg now NN).1 (448 + c)).toInt64 = N2 at hN hW ⊢
    have e24 : (24 : Int32) * nI (r - 1) = nI (24 * (r - 1) + 0) := by
      have : nI 24 * nI (r - 1) = nI (24 * (r - 1)) := pk_mul 24 _
      rw [Nat.add_zero, ← this]; rfl
    rw [e24]
    obtain ⟨hg, e34⟩ := L.pg hr
    have hsl := L.sl
    have hpl := L.pl
    refine ⟨PP.length + 1, r_todo (fc_sml P hc) (by omega) L.sp (by omega) PP 0 N2 L.ok (fun j hj => ?_) (by rw [Nat.zero_add]; exact e34) (by omega) hW (fun z N3 F3 => k0 z N3 (fun c' q1 q2 => by rw [F3 c' q1, hN c' q2])) (fun k x z N3 F3 => k1 k x z hr N3 (fun c' q1 q2 => by rw [F3 c' q1, hN c' q2]) (fun a ha => by rw [F3 _ (by simp)]; exact hW a ha))⟩
    obtain ⟨P0, P1, b1, b2, b3, b4, b5⟩ := hg j hj
    rw [Nat.add_zero]
    exact ⟨P0, P1, b1, b4, b5⟩
  · have hz := L.p0 (q0.mp h45)
    rw [hz]; rfl
end AC
