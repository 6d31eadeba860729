/-! ===== offers: the reference ===== -/
def mayF (bk : Bk) (but : Nat → Nat → Prop) (f : Nat → Int32) (q w : Nat) : Prop := ¬ but 1 q ∧ f (976 + q) = 0 ∧ bk.cK q = bk.wK w ∧ ¬ 4 * f (968 + q) < nI (bk.cU q)
/-- the better of a cart found so far and a new one -/
def betterF (q : Nat) : Option (Nat × Nat × Nat) → Option (Nat × Nat) → Option (Nat × Nat)
  | none, r => r
  | some (C, _, _), none => some (q, C)
  | some (C, _, _), some (p, L) => if C < L then some (q, C) else some (p, L)
noncomputable def bestF (bk : Bk) (but : Nat → Nat → Prop) (f : Nat → Int32) (w : Nat) : Nat → Option (Nat × Nat)
  | 0 => none
  | n + 1 => @ite _ (mayF bk but f n w) (Classical.propDecidable _) (betterF n (wayG bk f n (bk.wC w) (besK (bk.wK w))) (bestF bk but f w n)) (bestF bk but f w n)
theorem bestF_t {bk : Bk} {but : Nat → Nat → Prop} {f : Nat → Int32} {w n : Nat} (h : mayF bk but f n w) : bestF bk but f w (n + 1) = betterF n (wayG bk f n (bk.wC w) (besK (bk.wK w))) (bestF bk but f w n) := by
  conv => lhs; unfold bestF
  exact if_pos h
theorem bestF_f {bk : Bk} {but : Nat → Nat → Prop} {f : Nat → Int32} {w n : Nat} (h : ¬ mayF bk but f n w) : bestF bk but f w (n + 1) = bestF bk but f w n := by
  conv => lhs; unfold bestF
  exact if_neg h
def takeF (f : Nat → Int32) (w : Nat) : Option (Nat × Nat) → Nat → Int32
  | none => f
  | some (q, _) => upd (upd (upd (upd f (1504 + w) 1) (1564 + w) (nI q)) (976 + q) 1) (984 + q) (nI w)
noncomputable def offer1 (bk : Bk) (but : Nat → Nat → Prop) (cn : Cn) (f : Nat → Int32) (w : Nat) : Nat → Int32 := if f (1504 + w) = 0 then takeF f w (bestF bk but f w cn.c) else f
noncomputable def offersF (bk : Bk) (but : Nat → Nat → Prop) (cn : Cn) (f : Nat → Int32) : Nat → Nat → Int32
  | 0 => f
  | n + 1 => offer1 bk but cn (offersF bk but cn f n) n
def bV : Option (Nat × Nat) → Int32
  | none => -1
  | some (q, _) => nI q
def bL : Option (Nat × Nat) → Int64
  | none => 0
  | some (_, C) => lN C
section OF
variable {M M' : am_I} {N N' : am_N} {b : Nat} {bk : Bk} {cn full : Cn} {but : Nat → Nat → Prop} {f f' : Nat → Int32} {fe lo : Int64} {W q c w goal : Nat} {post : am_I → am_N → Prop} {postI : Int32 → am_I → am_N → Prop}
theorem bestF_ok : ∀ {n p L : Nat}, bestF bk but f w n = some (p, L) → p < n ∧ mayF bk but f p w
  | 0, p, L, h => by cases h
  | n + 1, p, L, h => by
    by_cases e : mayF bk but f n w
    · rw [bestF_t e] at h
      cases hw : wayG bk f n (bk.wC w) (besK (bk.wK w)) with
      | none =>
        rw [hw] at h
        obtain ⟨h1, h2⟩ := bestF_ok (n := n) h
        exact ⟨by omega, h2⟩
      | some v =>
        obtain ⟨C, k, x⟩ := v
        rw [hw] at h
        cases hb : bestF bk but f w n with
        | none =>
          rw [hb] at h
          have h : some (n, C) = some (p, L) := h
          simp only [Option.some.injEq, Prod.mk.injEq] at h
          rw [← h.1]
          exact ⟨by omega, e⟩
        | some v2 =>
          obtain ⟨p2, L2⟩ := v2
          rw [hb] at h
          have h : (if C < L2 then some (n, C) else some (p2, L2)) = some (p, L) := h
          by_cases z : C < L2
          · rw [if_pos z] at h
            simp only [Option.some.injEq, Prod.mk.injEq] at h
            rw [← h.1]
            exact ⟨by omega, e⟩
          · rw [if_neg z] at h
            simp only [Option.some.injEq, Prod.mk.injEq] at h
            obtain ⟨h1, h2⟩ := bestF_ok (n := n) hb
            rw [← h.1]
            exact ⟨by omega, h2⟩
    · rw [bestF_f e] at h
      obtain ⟨h1, h2⟩ := bestF_ok (n := n) h
      exact ⟨by omega, h2⟩
theorem bestF_le : ∀ {n p L : Nat}, (∀ q C k x, wayG bk f q (bk.wC w) (besK (bk.wK w)) = some (C, k, x) → C ≤ 639936) → bestF bk but f w n = some (p, L) → L ≤ 639936
  | 0, p, L, _, h => by cases h
  | n + 1, p, L, hC, h => by
    by_cases e : mayF bk but f n w
    · rw [bestF_t e] at h
      cases hw : wayG bk f n (bk.wC w) (besK (bk.wK w)) with
      | none =>
        rw [hw] at h
        exact bestF_le (n := n) hC h
      | some v =>
        obtain ⟨C, k, x⟩ := v
        have h3 := hC n C k x hw
        rw [hw] at h
        cases hb : bestF bk but f w n with
        | none =>
          rw [hb] at h
          have h : some (n, C) = some (p, L) := h
          simp only [Option.some.injEq, Prod.mk.injEq] at h
          omega
        | some v2 =>
          obtain ⟨p2, L2⟩ := v2
          have h4 := bestF_le (n := n) hC hb
          rw [hb] at h
          have h : (if C < L2 then some (n, C) else some (p2, L2)) = some (p, L) := h
          by_cases z : C < L2
          · rw [if_pos z] at h
            simp only [Option.some.injEq, Prod.mk.injEq] at h
            omega
          · rw [if_neg z] at h
            simp only [Option.some.injEq, Prod.mk.injEq] at h
            omega
    · rw [bestF_f e] at h
      exact bestF_le (n := n) hC h
theorem wayG_C {C k x : Nat} {bes : Int32} (e : wayG bk f q goal bes = some (C, k, x)) : C ≤ 639936 := by
  obtain ⟨-, -, h, -⟩ := wayF_some e
  omega
theorem takeF_good (G : GoodF W cn f) (hBO : BO cn but f) (hw : w < cn.w) : GoodF W cn (takeF f w (bestF bk but f w cn.c)) ∧ BO cn but (takeF f w (bestF bk but f w cn.c)) := by
  have h8 := G.b.2.1
  have h60 := G.b.2.2.1
  cases hb : bestF bk but f w cn.c with
  | none => exact ⟨G, hBO⟩
  | some v =>
    obtain ⟨q, L⟩ := v
    obtain ⟨hq, hm⟩ := bestF_ok hb
    unfold takeF
    dsimp only
    have G1 : GoodF W cn (upd (upd f (1504 + w) 1) (1564 + w) (nI q)) := G.putK (fun i hi => by rw [pk_un (by omega), pk_un (by omega)])
    refine ⟨G1.putC (fun i hi => ?_) (G1.c.one h8 hq (fun i a1 a2 a3 a4 a5 a6 => ?_) ?_ ?_ ?_ ?_), fun o ho hb => ?_⟩
    · rw [pk_un (by omega), pk_un (by omega)]
    · rw [pk_un (by omega), pk_un (by omega)]
    · rw [pk_un (by omega), pk_un (by omega)]; exact G1.c.sp q hq
    · rw [pk_un (by omega), pk_us]; decide
    · intro _; rw [pk_us]; exact ⟨w, hw, rfl⟩
    · rw [pk_un (by omega), pk_us]; exact fun z => absurd rfl z
    · have : o ≠ q := fun e => hm.1 (e ▸ hb)
      rw [pk_un (by omega), pk_un (by omega), pk_un (by omega), pk_un (by omega)]
      exact hBO o ho hb
theorem offer1_good (G : GoodF W cn f) (hBO : BO cn but f) (hw : w < cn.w) : GoodF W cn (offer1 bk but cn f w) ∧ BO cn but (offer1 bk but cn f w) := by
  unfold offer1
  by_cases e : f (1504 + w) = 0
  · rw [if_pos e]; exact takeF_good G hBO hw
  · rw [if_neg e]; exact ⟨G, hBO⟩
theorem offersF_good (G : GoodF W cn f) (hBO : BO cn but f) : ∀ n, n ≤ cn.w → GoodF W cn (offersF bk but cn f n) ∧ BO cn but (offersF bk but cn f n)
  | 0, _ => ⟨G, hBO⟩
  | n + 1, h => by
    obtain ⟨g1, g2⟩ := offersF_good G hBO n (by omega)
    exact offer1_good g1 g2 (by omega)
theorem r_mayTake (S : StM bk cn but M N f fe lo) (hcb : CnB cn) (hB : BkGood bk cn) (hq : q < cn.c) (hw : w < cn.w) (h1 : mayF bk but f q w → postI 1 M N) (h0 : ¬ mayF bk but f q w → postI 0 M N) : w_X12_mayTake (nI q) (nI w) M N postI := by
  have h8 := hcb.2.1
  have h60 := hcb.2.2.1
  have i6 : (976 + nI q).toNatClampNeg = 976 + q := by rw [ix976, nI_clamp (by omega)]
  have v6 : vp_in (976 + nI q) 1635 := by rw [ix976]; exact vp_in_nI (by omega) (by omega)
  have i2 : (968 + nI q).toNatClampNeg = 968 + q := by rw [ix968, nI_clamp (by omega)]
  have v2 : vp_in (968 + nI q) 1635 := by rw [ix968]; exact vp_in_nI (by omega) (by omega)
  have v0 : vp_in (nI q) 8 := vp_in_nI (by omega) (by omega)
  have vw : vp_in (nI w) 60 := vp_in_nI (by omega) (by omega)
  have hb : (M (3, 0, 0) 30 = 1 ∧ M (3, 0, 0) 31 = nI q) ↔ but 1 q := S.but 1 q (by omega) (by omega)
  have hkq := (hB.c q hq).1
  have hkw := (hB.w w hw).1
  unfold w_X12_mayTake
  refine eq_X12_isBut.mpr ?_
  rw [i6, i2, nI_clamp (show q < 2 ^ 31 by omega), nI_clamp (show w < 2 ^ 31 by omega), S.f, (S.k.c q hq).1, (S.k.c q hq).2.2.2.2, (S.k.w w hw).1, nI_eq (by omega) (by omega)]
  unfold mayF at h1 h0
  by_cases e : but 1 q
  · rw [am_bt (hb.mpr e)]
    exact ⟨fun _ => h0 (fun z => z.1 e), fun z => absurd z (by decide)⟩
  · rw [am_bf (fun z => e (hb.mp z))]
    exact ⟨fun z => absurd rfl z, fun _ => ⟨v6, fun z => h0 (fun y => z y.2.1), fun z => ⟨v0, vw, fun z2 => h0 (fun y => z2 y.2.2.1), fun z2 => ⟨v2, v0, fun z3 => h0 (fun y => y.2.2.2 z3), fun z3 => h1 ⟨e, z, z2, z3⟩⟩⟩⟩⟩
theorem r_offers37 (G : GoodF W cn f) (hB : BkGood bk cn) (hw : w < cn.w) {zk2 : Int32 → am_I → am_N → Prop}
    (h : ∀ M' N', FrM M N M' N' → StM bk cn but M' N' (takeF f w (bestF bk but f w cn.c)) fe lo → zk2 (nI (w + 1)) M' N') :
    ∀ (j o : Nat), o + j = cn.c → ∀ M1 N1, FrM M N M1 N1 → StM bk cn but M1 N1 f fe lo → w_X12_offers_p37 post zk2 (j + 1) (nI w) (bV (bestF bk but f w o)) (bL (bestF bk but f w o)) (nI o) M1 N1 := by
  have h8 := G.b.2.1
  have h60 := G.b.2.2.1
  have vw : vp_in (nI w) 60 := vp_in_nI (by omega) (by omega)
  have jw : (1504 + nI w).toNatClampNeg = 1504 + w := by rw [ix1504, nI_clamp (by omega)]
  have uw : vp_in (1504 + nI w) 1635 := by rw [ix1504]; exact vp_in_nI (by omega) (by omega)
  have jb : (1564 + nI w).toNatClampNeg = 1564 + w := by rw [ix1564, nI_clamp (by omega)]
  have ub : vp_in (1564 + nI w) 1635 := by rw [ix1564]; exact vp_in_nI (by omega) (by omega)
  obtain ⟨hk, hc, -⟩ := hB.w w hw
  intro j
  induction j with
  | zero =>
    intro o ho M1 N1 F1 S1
    have ho' : o = cn.c := by omega
    subst ho'
    rw [w_X12_offers_p37_s]
    unfold w_X12_offers_p37_b
    rw [S1.f, G.n.c, nI_1]
    refine ⟨fun _ => ?_, fun z => absurd (nI_le (Nat.le_refl _) (by omega)) z⟩
    cases hb : bestF bk but f w cn.c with
    | none =>
      rw [hb] at h
      exact ⟨fun z => absurd rfl z, fun _ => h _ _ F1 S1⟩
    | some v =>
      obtain ⟨q, L⟩ := v
      obtain ⟨hq, hm⟩ := bestF_ok hb
      rw [hb] at h
      have jq : (976 + nI q).toNatClampNeg = 976 + q := by rw [ix976, nI_clamp (by omega)]
      have uq : vp_in (976 + nI q) 1635 := by rw [ix976]; exact vp_in_nI (by omega) (by omega)
      have jq2 : (984 + nI q).toNatClampNeg = 984 + q := by rw [ix984, nI_clamp (by omega)]
      have uq2 : vp_in (984 + nI q) 1635 := by rw [ix984]; exact vp_in_nI (by omega) (by omega)
      show (¬ nI q = -1 → vp_in (1504 + nI w) 1635 ∧ vp_in (1564 + nI w) 1635 ∧ vp_in (976 + nI q) 1635 ∧ vp_in (984 + nI q) 1635 ∧ zk2 (nI (w + 1)) (am_u (am_u (am_u (am_u M1 (3, 0, 1) (1504 + nI w).toNatClampNeg 1) (3, 0, 1) (1564 + nI w).toNatClampNeg (nI q)) (3, 0, 1) (976 + nI q).toNatClampNeg 1) (3, 0, 1) (984 + nI q).toNatClampNeg (nI w)) N1) ∧ (nI q = -1 → zk2 (nI (w + 1)) M1 N1)
      rw [jw, jb, jq, jq2]
      exact ⟨fun _ => ⟨uw, ub, uq, uq2, h _ _ (F1.tr (FrM.u.tr (FrM.u.tr (FrM.u.tr FrM.u)))) ((((S1.u _ _).u _ _).u _ _).u _ _)⟩, fun z => absurd z (nI_ne_m1 (by omega))⟩
  | succ j ih =>
    intro o ho M1 N1 F1 S1
    have hoc : o < cn.c := by omega
    have i1 : (960 + nI o).toNatClampNeg = 960 + o := by rw [ix960, nI_clamp (by omega)]
    have v1 : vp_in (960 + nI o) 1635 := by rw [ix960]; exact vp_in_nI (by omega) (by omega)
    obtain ⟨s64, es⟩ := G.sp hoc
    rw [w_X12_offers_p37_s]
    unfold w_X12_offers_p37_b
    rw [S1.f, G.n.c, nI_1, nI_1]
    refine ⟨fun z => absurd z (nI_ge (by omega) (by omega)), fun _ => r_mayTake S1 G.b hB hoc hw (fun hm => ⟨fun _ => ⟨vw, vw, ?_⟩, fun z => absurd z (by decide)⟩) (fun hm => ⟨fun z => absurd rfl z, fun _ => ?_⟩)⟩
    · have ih' := ih (o + 1) (by omega)
      rw [bestF_t hm] at ih'
      have main : w_X12_offers_p87 post zk2 (w_X12_offers_p37 post zk2 (j + 1)) (nI w) (bV (bestF bk but f w o)) (bL (bestF bk but f w o)) (nI o) (besK (bk.wK w)) (nI (bk.wC w)) (nI o) M1 N1 := by
        unfold w_X12_offers_p87 w_X12_offers_p136
        refine r_ways S1 G hB hoc hc (fun hw M2 N2 F2 S2 hA hN => ?_) (fun C k x hw hC hk hx hox M2 N2 F2 S2 hA hN => ?_)
        · rw [i1, S2.f, es, nI_clamp (show spN f o < 2 ^ 31 by omega), hA, nI_1]
          refine ⟨v1, vp_in_nI s64 (by omega), fun v ev => ?_⟩
          subst ev
          refine ⟨fun _ => ?_, fun z => absurd rfl z⟩
          rw [hw] at ih'
          exact ih' _ _ (F1.tr F2) S2
        · rw [i1, S2.f, es, nI_clamp (show spN f o < 2 ^ 31 by omega), hA, nI_1]
          refine ⟨v1, vp_in_nI s64 (by omega), fun v ev => ?_⟩
          subst ev
          have ed : lN (1000000 * C + k) / 1000000 = lN C := by
            show lN (1000000 * C + k) / lN 1000000 = lN C
            rw [pk_lDiv (by omega) (by omega) (by omega)]
            congr 1
            omega
          rw [ed]
          rw [hw] at ih'
          refine ⟨fun z => absurd ((pk_lEQ (a := 1000000 * C + k) (b := FARN) (by omega) (by decide)).mp z) (by unfold FARN; omega), fun _ => ?_⟩
          cases hb : bestF bk but f w o with
          | none =>
            rw [hb] at ih'
            refine ⟨fun _ v ev => ?_, fun z => absurd rfl z⟩
            subst ev
            exact ih' _ _ (F1.tr F2) S2
          | some v2 =>
            obtain ⟨p, L⟩ := v2
            have hL := bestF_le (fun q C k x e => wayG_C e) hb
            obtain ⟨hp, -⟩ := bestF_ok hb
            rw [hb] at ih'
            have hlt : (lN C < bL (some (p, L))) ↔ C < L := pk_lLT (a := C) (b := L) (by omega) (by omega)
            refine ⟨fun z => absurd z (nI_ne_m1 (c := p) (by omega)), fun _ => ?_⟩
            rw [hlt]
            refine ⟨fun z v ev => ?_, fun z => ?_⟩
            · subst ev
              have e5 : betterF o (some (C, k, x)) (some (p, L)) = some (o, C) := if_pos z
              rw [e5] at ih'
              exact ih' _ _ (F1.tr F2) S2
            · have e5 : betterF o (some (C, k, x)) (some (p, L)) = some (p, L) := if_neg z
              rw [e5] at ih'
              exact ih' _ _ (F1.tr F2) S2
      rw [nI_clamp (show w < 2 ^ 31 by omega), (S1.k.w w hw).1, (S1.k.w w hw).2.1]
      refine ⟨fun z => ?_, fun z => ?_⟩
      · have e : besK (bk.wK w) = 0 := if_neg (fun e => z (by rw [e]; rfl))
        rw [e] at main
        exact main
      · have e : besK (bk.wK w) = 1 := if_pos ((nI_eq (b := 3) (by omega) (by omega)).mp z)
        rw [e] at main
        exact main
    · have ih' := ih (o + 1) (by omega)
      rw [bestF_f hm] at ih'
      exact ih' _ _ F1 S1
theorem r_offers (S : StM bk cn but M N f fe lo) (G : GoodF W cn f) (hB : BkGood bk cn) (hBO : BO cn but f) (h : ∀ M' N', FrM M N M' N' → StM bk cn but M' N' (offersF bk but cn f cn.w) fe lo → post M' N') : w_X12_offers M N post := by
  have h60 := G.b.2.2.1
  unfold w_X12_offers
  refine ⟨cn.w + 1, ?_⟩
  have key : ∀ (j w : Nat), w + j = cn.w → ∀ M1 N1, FrM M N M1 N1 → StM bk cn but M1 N1 (offersF bk but cn f w) fe lo → w_X12_offers_p2 post (j + 1) (nI w) M1 N1 := by
    intro j
    induction j with
    | zero =>
      intro w ho M1 N1 F1 S1
      have ho' : w = cn.w := by omega
      subst ho'
      obtain ⟨g1, g2⟩ := offersF_good (bk := bk) G hBO cn.w (Nat.le_refl _)
      rw [w_X12_offers_p2_s]
      unfold w_X12_offers_p2_b
      rw [S1.f, g1.n.w]
      exact ⟨fun _ => h _ _ F1 S1, fun z => absurd (nI_le (Nat.le_refl _) (by omega)) z⟩
    | succ j ih =>
      intro w ho M1 N1 F1 S1
      obtain ⟨g1, g2⟩ := offersF_good (bk := bk) G hBO w (by omega)
      have jw : (1504 + nI w).toNatClampNeg = 1504 + w := by rw [ix1504, nI_clamp (by omega)]
      have uw : vp_in (1504 + nI w) 1635 := by rw [ix1504]; exact vp_in_nI (by omega) (by omega)
      have ih' := ih (w + 1) (by omega)
      rw [w_X12_offers_p2_s]
      unfold w_X12_offers_p2_b
      rw [S1.f, g1.n.w, jw, nI_1]
      have eo : offersF bk but cn f (w + 1) = offer1 bk but cn (offersF bk but cn f w) w := rfl
      rw [eo] at ih'
      unfold offer1 at ih'
      refine ⟨fun z => absurd z (nI_ge (by omega) (by omega)), fun _ => ⟨uw, fun z => ⟨cn.c + 1, ?_⟩, fun z => ?_⟩⟩
      · rw [if_pos z] at ih'
        exact r_offers37 (M := M1) (N := N1) g1 hB (by omega) (fun M2 N2 F2 S2 => ih' _ _ (F1.tr F2) S2) cn.c 0 (by omega) M1 N1 FrM.rf S1
      · rw [if_neg z] at ih'
        exact ih' _ _ F1 S1
  exact key cn.w 0 (by omega) M N FrM.rf S
end OF
