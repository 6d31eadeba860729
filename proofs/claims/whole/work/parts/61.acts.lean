/-! ===== a cart's turn: both sides ===== -/
def enter2 (bk : Bk) (f : Nat → Int32) (q c : Nat) : Nat → Int32 := upd (upd (upd f (968 + q) (f (968 + q) - 1)) (960 + q) (nI c)) (128 + c) (f (128 + c) + hvF bk f q c)
def enter3 (bk : Bk) (f : Nat → Int32) (q c : Nat) : Nat → Int32 := if f (128 + c) + hvF bk f q c ≤ f 1627 then enter2 bk f q c else dieI (enter2 bk f q c) c 3
noncomputable def entersF (bk : Bk) (but : Nat → Nat → Prop) (cn : Cn) (f : Nat → Int32) (q c : Nat) : Nat → Int32 := if f (64 + c) ≤ nI (bk.cS q) then enter3 bk f q c else heardF but (upd (dropsF (enter3 bk f q c) q) (976 + q) 4) c cn.c
noncomputable def stepV (bk : Bk) (but : Nat → Nat → Prop) (cn : Cn) (f : Nat → Int32) (q : Nat) (hm : Bool) : Option (Nat × Nat × Nat) → Nat → Int32
  | none => if hm = true then f else upd (dropsF f q) (976 + q) 0
  | some (_, _, x) => if f (968 + q) = 0 then upd (dropsF f q) (976 + q) 5 else entersF bk but cn f q x
noncomputable def stepF (bk : Bk) (but : Nat → Nat → Prop) (cn : Cn) (f : Nat → Int32) (q goal : Nat) (bes : Int32) (hm : Bool) : Nat → Int32 := stepV bk but cn f q hm (wayG bk f q goal bes)
def acts1 (bk : Bk) (f : Nat → Int32) (q : Nat) : Nat → Int32 := if f (976 + q) = 0 ∧ 4 * f (968 + q) < nI (bk.cU q) then upd f (976 + q) 2 else f
noncomputable def pick (P : Prop) (f g : Nat → Int32) : Nat → Int32 := @ite _ P (Classical.propDecidable _) f g
theorem pick_t {P : Prop} {f g : Nat → Int32} (h : P) : pick P f g = f := if_pos h
theorem pick_f {P : Prop} {f g : Nat → Int32} (h : ¬ P) : pick P f g = g := if_neg h
noncomputable def actB (bk : Bk) (but : Nat → Nat → Prop) (cn : Cn) (f : Nat → Int32) (q : Nat) : Nat → Int32 :=
  if f (976 + q) = 1 then pick (GoalN (bk.wC (f (984 + q)).toNatClampNeg) (besK (bk.wK (f (984 + q)).toNatClampNeg)) (spN f q)) (worksF bk cn f q (f (984 + q)).toNatClampNeg) (stepF bk but cn f q (bk.wC (f (984 + q)).toNatClampNeg) (besK (bk.wK (f (984 + q)).toNatClampNeg)) false)
  else if f (976 + q) = 2 then pick (GoalN (bk.cH q) 0 (spN f q)) (givesF bk f q) (stepF bk but cn f q (bk.cH q) 0 true)
  else f
noncomputable def actsF (bk : Bk) (but : Nat → Nat → Prop) (cn : Cn) (f : Nat → Int32) (q : Nat) : Nat → Int32 := if f (976 + q) = 3 then givesF bk f q else actB bk but cn (acts1 bk f q) q
theorem wayF_some {nb : Nat → Nat → Prop} {ok : Nat → Prop} {h : Nat → Nat} {G : Nat → Prop} {s : Nat} {v : Nat × Nat × Nat} (e : wayF nb ok h G s = some v) : wayIs nb ok h G s (some v) := by
  unfold wayF at e
  by_cases z : ∃ r, wayIs nb ok h G s r
  · rw [dif_pos z] at e
    rw [← e]
    exact Classical.choose_spec z
  · rw [dif_neg z] at e
    cases e
theorem wayG_ok {bk : Bk} {f : Nat → Int32} {q goal C k x : Nat} {bes : Int32} (e : wayG bk f q goal bes = some (C, k, x)) (hG : ¬ GoalN goal bes (spN f q)) : okF bk f q x := by
  obtain ⟨-, -, -, -, -, h⟩ := wayF_some e
  obtain ⟨⟨g, k', C', h1, h2, h3, -⟩, -⟩ := h hG
  exact h3
section AC
variable {M M' : am_I} {N N' : am_N} {b : Nat} {bk : Bk} {cn full : Cn} {but : Nat → Nat → Prop} {f f' : Nat → Int32} {fe lo : Int64} {W q c w goal : Nat} {x why marks bes : Int32} {post : am_I → am_N → Prop} {postI : Int32 → am_I → am_N → Prop} {hm : Bool}
theorem dieI_o {i : Nat} (h1 : i ≠ 192 + c) (h2 : i ≠ 576 + c) : dieI f c why i = f i := by
  unfold dieI dieF
  by_cases e : f (192 + c) = 1
  · rw [if_pos e, pk_un h2, pk_un h1]
  · rw [if_neg e]
theorem enter3_o {i : Nat} (hc : c < 64) (h1 : i ≠ 968 + q) (h2 : i ≠ 960 + q) (h3 : ¬ (128 ≤ i ∧ i < 256)) (h4 : ¬ (576 ≤ i ∧ i < 640)) : enter3 bk f q c i = f i := by
  unfold enter3
  have e : enter2 bk f q c i = f i := by
    unfold enter2
    rw [pk_un (by omega), pk_un h2, pk_un h1]
  by_cases z : f (128 + c) + hvF bk f q c ≤ f 1627
  · rw [if_pos z, e]
  · rw [if_neg z, dieI_o (by omega) (by omega), e]
theorem enter3_good (G : GoodF W cn f) (hB : BkGood bk cn) (hq : q < cn.c) (hx : okF bk f q c) : GoodF W cn (enter3 bk f q c) := by
  have h8 := G.b.2.1
  have hc := hx.1
  obtain ⟨e1, e2⟩ := hvF_N G hB hq hc
  obtain ⟨p, l, q1, q2, q3, q4⟩ := e2 hx
  have G1 : GoodF W cn (upd (upd f (968 + q) (f (968 + q) - 1)) (960 + q) (nI c)) := by
    refine G.putC (fun i hi => ?_) (G.c.one h8 hq (fun i a1 a2 a3 a4 a5 a6 => ?_) ?_ ?_ ?_ ?_)
    · rw [pk_un (by omega), pk_un (by omega)]
    · rw [pk_un (by omega), pk_un (by omega)]
    · rw [pk_us]; exact ⟨c, hc, rfl⟩
    · rw [pk_un (by omega), pk_un (by omega)]; exact G.c.ne6 q hq
    · rw [pk_un (by omega), pk_un (by omega), pk_un (by omega), pk_un (by omega)]; exact G.c.it1 q hq
    · rw [pk_un (by omega), pk_un (by omega), pk_un (by omega), pk_un (by omega)]; exact G.c.it0 q hq
  have G2 : GoodF W cn (enter2 bk f q c) := by
    unfold enter2
    rw [q1, e1, nI_add]
    exact G1.prs hc (by omega)
  unfold enter3
  by_cases z : f (128 + c) + hvF bk f q c ≤ f 1627
  · rw [if_pos z]; exact G2
  · rw [if_neg z]; exact dieI_good G2 hc
theorem entersF_976 {o : Nat} (G : GoodF W cn f) (hB : BkGood bk cn) (hq : q < cn.c) (hx : okF bk f q c) (ho : o < 8) (hoq : o ≠ q) : entersF bk but cn f q c (976 + o) = f (976 + o) := by
  have h8 := G.b.2.1
  have hc := hx.1
  have e3 : enter3 bk f q c (976 + o) = f (976 + o) := enter3_o hc (by omega) (by omega) (by omega) (by omega)
  have G3 := enter3_good G hB hq hx
  unfold entersF
  by_cases z : f (64 + c) ≤ nI (bk.cS q)
  · rw [if_pos z, e3]
  · rw [if_neg z, heardF_o hc _ h8 (by omega), pk_un (by omega), dropsF_o G.b.2.2.1 (G3.its hq) (by omega) (by omega), e3]
theorem entersF_good (G : GoodF W cn f) (hB : BkGood bk cn) (hq : q < cn.c) (hx : okF bk f q c) : GoodF W cn (entersF bk but cn f q c) := by
  have G3 := enter3_good G hB hq hx
  unfold entersF
  by_cases z : f (64 + c) ≤ nI (bk.cS q)
  · rw [if_pos z]; exact G3
  · rw [if_neg z]
    exact heardF_good (leaveF_good G3 hq (by decide) (by decide)) hx.1
/-- what every step of a cart keeps -/
theorem stepF_good (G : GoodF W cn f) (hB : BkGood bk cn) (hBO : BO cn but f) (hq : q < cn.c) (hnb : ¬ but 1 q) (hG : ¬ GoalN goal bes (spN f q)) (hm2 : hm = true → f (976 + q) = 2) : GoodF W cn (stepF bk but cn f q goal bes hm) ∧ BO cn but (stepF bk but cn f q goal bes hm) := by
  have h8 := G.b.2.1
  have hi := G.its hq
  have leave : ∀ d : Int32, BO cn but (upd (dropsF f q) (976 + q) d) := fun d o ho hb => by
    have : o ≠ q := fun e => hnb (e ▸ hb)
    rw [pk_un (by omega), dropsF_o G.b.2.2.1 hi (by omega) (by omega)]
    exact hBO o ho hb
  unfold stepF
  cases hw : wayG bk f q goal bes with
  | none =>
    unfold stepV
    by_cases z : hm = true
    · rw [if_pos z]; exact ⟨G, hBO⟩
    · rw [if_neg z]; exact ⟨leaveF_good G hq (by decide) (by decide), leave 0⟩
  | some v =>
    obtain ⟨C, k, x⟩ := v
    have hx := wayG_ok hw hG
    unfold stepV
    dsimp only
    by_cases z : f (968 + q) = 0
    · rw [if_pos z]; exact ⟨leaveF_good G hq (by decide) (by decide), leave 5⟩
    · rw [if_neg z]
      refine ⟨entersF_good G hB hq hx, fun o ho hb => ?_⟩
      rw [entersF_976 G hB hq hx (by omega) (fun e => hnb (e ▸ hb))]
      exact hBO o ho hb
theorem actB_good (G : GoodF W cn f) (hB : BkGood bk cn) (hBO : BO cn but f) (hq : q < cn.c) (hnb : ¬ but 1 q) : GoodF W cn (actB bk but cn f q) ∧ BO cn but (actB bk but cn f q) := by
  have h8 := G.b.2.1
  have h60 := G.b.2.2.1
  unfold actB
  by_cases e1 : f (976 + q) = 1
  · rw [if_pos e1]
    obtain ⟨w, hw, ew⟩ := G.c.it1 q hq e1
    have ec : (f (984 + q)).toNatClampNeg = w := by rw [ew, nI_clamp (by omega)]
    rw [ec]
    by_cases hG : GoalN (bk.wC w) (besK (bk.wK w)) (spN f q)
    · rw [pick_t hG]; exact worksF_good G hB hBO hq hw e1
    · rw [pick_f hG]; exact stepF_good G hB hBO hq hnb hG (fun z => absurd z (by decide))
  · rw [if_neg e1]
    by_cases e2 : f (976 + q) = 2
    · rw [if_pos e2]
      by_cases hG : GoalN (bk.cH q) 0 (spN f q)
      · rw [pick_t hG]
        refine ⟨givesF_good G hq e1, fun o ho hb => ?_⟩
        have : o ≠ q := fun e => hnb (e ▸ hb)
        unfold givesF
        rw [pk_un (by omega), pk_un (by omega)]
        exact hBO o ho hb
      · rw [pick_f hG]; exact stepF_good G hB hBO hq hnb hG (fun _ => e2)
    · rw [if_neg e2]; exact ⟨G, hBO⟩
theorem acts1_good (G : GoodF W cn f) (hBO : BO cn but f) (hq : q < cn.c) (hnb : ¬ but 1 q) : GoodF W cn (acts1 bk f q) ∧ BO cn but (acts1 bk f q) := by
  have h8 := G.b.2.1
  unfold acts1
  by_cases e : f (976 + q) = 0 ∧ 4 * f (968 + q) < nI (bk.cU q)
  · rw [if_pos e]
    refine ⟨G.putC (fun i hi => ?_) (G.c.one h8 hq (fun i a1 a2 a3 a4 a5 a6 => ?_) ?_ ?_ ?_ ?_), fun o ho hb => ?_⟩
    · rw [pk_un (by omega)]
    · rw [pk_un (by omega)]
    · rw [pk_un (by omega)]; exact G.c.sp q hq
    · rw [pk_us]; decide
    · rw [pk_us]; exact fun z => absurd z (by decide)
    · intro _; rw [pk_un (by omega)]; exact G.c.it0 q hq (by rw [e.1]; decide)
    · have : o ≠ q := fun e => hnb (e ▸ hb)
      rw [pk_un (by omega)]; exact hBO o ho hb
  · rw [if_neg e]; exact ⟨G, hBO⟩
theorem actsF_good (G : GoodF W cn f) (hB : BkGood bk cn) (hBO : BO cn but f) (hq : q < cn.c) (hnb : ¬ but 1 q) : GoodF W cn (actsF bk but cn f q) ∧ BO cn but (actsF bk but cn f q) := by
  have h8 := G.b.2.1
  unfold actsF
  by_cases e : f (976 + q) = 3
  · rw [if_pos e]
    refine ⟨givesF_good G hq (by rw [e]; decide), fun o ho hb => ?_⟩
    have : o ≠ q := fun e => hnb (e ▸ hb)
    unfold givesF
    rw [pk_un (by omega), pk_un (by omega)]
    exact hBO o ho hb
  · rw [if_neg e]
    obtain ⟨g1, g2⟩ := acts1_good (bk := bk) G hBO hq hnb
    exact actB_good g1 hB g2 hq hnb
/-- the reference -/
theorem r_hvI (S : StM bk cn but M N f fe lo) (hq : q < cn.c) : hvI M q = hvF bk f q := by
  funext c
  unfold hvI hvF
  rw [S.f, (S.k.c q hq).2.1]
theorem r_enters (S : StM bk cn but M N f fe lo) (G : GoodF W cn f) (hB : BkGood bk cn) (hq : q < cn.c) (hx : okF bk f q c) (h : ∀ M' N', FrM M N M' N' → StM bk cn but M' N' (entersF bk but cn f q c) fe lo → post M' N') : w_X12_enters (nI q) (nI c) M N post := by
  have h8 := G.b.2.1
  have hc := hx.1
  have i1 : (968 + nI q).toNatClampNeg = 968 + q := by rw [ix968, nI_clamp (by omega)]
  have v1 : vp_in (968 + nI q) 1635 := by rw [ix968]; exact vp_in_nI (by omega) (by omega)
  have i2 : (960 + nI q).toNatClampNeg = 960 + q := by rw [ix960, nI_clamp (by omega)]
  have v2 : vp_in (960 + nI q) 1635 := by rw [ix960]; exact vp_in_nI (by omega) (by omega)
  have i3 : (128 + nI c).toNatClampNeg = 128 + c := by rw [ix128, nI_clamp (by omega)]
  have v3 : vp_in (128 + nI c) 1635 := by rw [ix128]; exact vp_in_nI (by omega) (by omega)
  have i4 : (192 + nI c).toNatClampNeg = 192 + c := by rw [ix192, nI_clamp (by omega)]
  have v4 : vp_in (192 + nI c) 1635 := by rw [ix192]; exact vp_in_nI (by omega) (by omega)
  have i5 : (64 + nI c).toNatClampNeg = 64 + c := by rw [ix64, nI_clamp (by omega)]
  have v5 : vp_in (64 + nI c) 1635 := by rw [ix64]; exact vp_in_nI (by omega) (by omega)
  have i6 : (976 + nI q).toNatClampNeg = 976 + q := by rw [ix976, nI_clamp (by omega)]
  have v6 : vp_in (976 + nI q) 1635 := by rw [ix976]; exact vp_in_nI (by omega) (by omega)
  have v0 : vp_in (nI q) 8 := vp_in_nI (by omega) (by omega)
  have G3 := enter3_good G hB hq hx
  have fin : ∀ M1 N1, FrM M N M1 N1 → StM bk cn but M1 N1 (enter3 bk f q c) fe lo → w_X12_enters_p85 post (nI q) (nI c) M1 N1 := by
    intro M1 N1 F1 S1
    unfold w_X12_enters_p85
    rw [i5, i6, nI_clamp (show q < 2 ^ 31 by omega), S1.f, (S1.k.c q hq).2.2.1, enter3_o hc (by omega) (by omega) (by omega) (by omega)]
    unfold entersF at h
    refine ⟨v5, v0, fun z => ?_, fun z => ?_⟩
    · rw [if_neg (fun y => absurd z (i32_nlt.mpr y))] at h
      refine r_drops S1 G.b hq (G3.its hq) (fun M2 N2 F2 S2 => ⟨v6, ?_⟩)
      refine r_hear (S2.u (976 + q) 4) G.b ((leaveF_good G3 hq (by decide) (by decide)).n) hc (fun M3 N3 F3 S3 => ?_)
      exact h _ _ (F1.tr (F2.tr (FrM.u.tr F3))) S3
    · rw [if_pos (i32_nlt.mp z)] at h
      exact h _ _ F1 S1
  unfold w_X12_enters
  rw [i1, i2, i3, i4, S.f]
  refine ⟨v1, v1, v2, v3, (eq_X12_heavy (by omega) hc).mpr ?_⟩
  have S2 := (S.u (968 + q) (f (968 + q) - 1)).u (960 + q) (nI c)
  have F2 : FrM M N (am_u (am_u M (3, 0, 1) (968 + q) (f (968 + q) - 1)) (3, 0, 1) (960 + q) (nI c)) N := FrM.u.tr FrM.u
  generalize am_u (am_u M (3, 0, 1) (968 + q) (f (968 + q) - 1)) (3, 0, 1) (960 + q) (nI c) = M2 at S2 F2 ⊢
  rw [r_hvI S2 hq, hvF_cg (f := f) (fun c hc => by rw [pk_un (by omega), pk_un (by omega)]) hc, S2.f, pk_un (show 128 + c ≠ 960 + q by omega), pk_un (show 128 + c ≠ 968 + q by omega)]
  have S3 := S2.u (128 + c) (f (128 + c) + hvF bk f q c)
  have F3 : FrM M N (am_u M2 (3, 0, 1) (128 + c) (f (128 + c) + hvF bk f q c)) N := F2.tr FrM.u
  generalize am_u M2 (3, 0, 1) (128 + c) (f (128 + c) + hvF bk f q c) = M3 at S3 F3 ⊢
  have S3' : StM bk cn but M3 N (enter2 bk f q c) fe lo := S3
  rw [S3.f, pk_us, pk_un (show 192 + c ≠ 128 + c by omega), pk_un (show 1627 ≠ 128 + c by omega), pk_un (show 1627 ≠ 960 + q by omega), pk_un (show 1627 ≠ 968 + q by omega)]
  have e192 : enter2 bk f q c (192 + c) = (upd (upd f (968 + q) (f (968 + q) - 1)) (960 + q) (nI c)) (192 + c) := pk_un (by omega)
  rw [← e192]
  unfold enter3 at fin
  refine ⟨v3, v4, fun z => ?_, fun z => ⟨v3, fun z2 => ?_, fun z2 => ?_⟩⟩
  · refine fin _ _ F3 ?_
    unfold dieI
    rw [if_neg z, ite_self]
    exact S3'
  · rw [if_pos z2] at fin
    exact fin _ _ F3 S3'
  · rw [if_neg z2] at fin
    unfold dieI at fin
    rw [if_pos z] at fin
    exact r_dies S3' hc (fun M4 N4 F4 S4 => fin _ _ (F3.tr F4) S4)
theorem r_moves71 (S : StM bk cn but M N f fe lo) (G : GoodF W cn f) (hB : BkGood bk cn) (hq : q < cn.c) (hg : goal < 64) {l2 : Int32} (hl2 : (l2 = 0 ↔ hm = false) ∧ (hm = true → f (984 + q) = -1))
    (hG : GoalN goal bes (spN f q) → (l2 = 0 → w_X12_works (nI q) M N post) ∧ (¬ l2 = 0 → w_X12_gives (nI q) M N post))
    (h : ¬ GoalN goal bes (spN f q) → ∀ M' N', FrM M N M' N' → StM bk cn but M' N' (stepF bk but cn f q goal bes hm) fe lo → post M' N') : w_X12_moves_p71 post (nI q) l2 (nI goal) bes M N := by
  have h8 := G.b.2.1
  have i1 : (960 + nI q).toNatClampNeg = 960 + q := by rw [ix960, nI_clamp (by omega)]
  have v1 : vp_in (960 + nI q) 1635 := by rw [ix960]; exact vp_in_nI (by omega) (by omega)
  have i2 : (968 + nI q).toNatClampNeg = 968 + q := by rw [ix968, nI_clamp (by omega)]
  have v2 : vp_in (968 + nI q) 1635 := by rw [ix968]; exact vp_in_nI (by omega) (by omega)
  have i6 : (976 + nI q).toNatClampNeg = 976 + q := by rw [ix976, nI_clamp (by omega)]
  have v6 : vp_in (976 + nI q) 1635 := by rw [ix976]; exact vp_in_nI (by omega) (by omega)
  obtain ⟨s64, es⟩ := G.sp hq
  have hi := G.its hq
  unfold w_X12_moves_p71
  rw [i1, i2, i6, S.f, es]
  refine ⟨v1, sp_X12_isGoal s64 hg (fun z => ⟨fun y => absurd y (by decide), fun _ => hG z⟩) (fun z => ⟨fun _ => ?_, fun y => absurd rfl y⟩)⟩
  have h := h z
  unfold stepF at h
  refine r_ways S G hB hq hg (fun hw M1 N1 F1 S1 hA hN => ?_) (fun C k x hw hC hk hx hox M1 N1 F1 S1 hA hN => ?_)
  · rw [S1.f, es]
    refine ⟨v1, hN _ (fun r => ?_)⟩
    rw [S1.f, es, nI_clamp (show spN f q < 2 ^ 31 by omega), hA]
    refine ⟨v1, vp_in_nI s64 (by omega), fun y => absurd rfl y, fun _ => r_drops S1 G.b hq hi (fun M2 N2 F2 S2 => ?_)⟩
    rw [hw] at h
    unfold stepV at h
    refine ⟨fun y => ?_, fun y => ⟨v6, ?_⟩⟩
    · have e : hm = true := by
        cases hh : hm with
        | true => rfl
        | false => exact absurd (hl2.1.mpr hh) y
      rw [if_pos e] at h
      have ed : dropsF f q = f := by unfold dropsF; rw [if_pos (hl2.2 e)]
      rw [ed] at S2
      exact h _ _ (F1.tr F2) S2
    · rw [if_neg (by rw [hl2.1.mp y]; decide)] at h
      exact h _ _ (F1.tr (F2.tr FrM.u)) (S2.u _ _)
  · rw [S1.f, es]
    refine ⟨v1, hN _ ?_⟩
    rw [S1.f, es, nI_clamp (show spN f q < 2 ^ 31 by omega), hA]
    rw [hw] at h
    unfold stepV at h
    dsimp only at h
    refine ⟨v1, vp_in_nI s64 (by omega), fun _ => ⟨v2, fun y => ?_, fun y => ?_⟩, fun y => ?_⟩
    · rw [if_neg y] at h
      exact r_enters S1 G hB hq (hox z) (fun M2 N2 F2 S2 => h _ _ (F1.tr F2) S2)
    · rw [if_pos y] at h
      exact r_drops S1 G.b hq hi (fun M2 N2 F2 S2 => ⟨v6, h _ _ (F1.tr (F2.tr FrM.u)) (S2.u _ _)⟩)
    · exact absurd ((pk_lEQ (a := 1000000 * C + k) (b := FARN) (by omega) (by decide)).mp y) (by unfold FARN; omega)
theorem r_acts93 (S : StM bk cn but M N f fe lo) (G : GoodF W cn f) (hB : BkGood bk cn) (hq : q < cn.c) (hd : f (976 + q) = 1 ∨ f (976 + q) = 2) (h : ∀ M' N', FrM M N M' N' → StM bk cn but M' N' (actB bk but cn f q) fe lo → post M' N') : w_X12_acts_p93 post (nI q) M N := by
  have h8 := G.b.2.1
  have h60 := G.b.2.2.1
  have i6 : (976 + nI q).toNatClampNeg = 976 + q := by rw [ix976, nI_clamp (by omega)]
  have v6 : vp_in (976 + nI q) 1635 := by rw [ix976]; exact vp_in_nI (by omega) (by omega)
  have i1 : (984 + nI q).toNatClampNeg = 984 + q := by rw [ix984, nI_clamp (by omega)]
  have v1 : vp_in (984 + nI q) 1635 := by rw [ix984]; exact vp_in_nI (by omega) (by omega)
  have v0 : vp_in (nI q) 8 := vp_in_nI (by omega) (by omega)
  unfold w_X12_acts_p93 w_X12_moves w_X12_moves_p19
  rw [i6, i1, S.f]
  unfold actB at h
  by_cases e1 : f (976 + q) = 1
  · rw [if_pos e1] at h
    obtain ⟨w, hw, ew⟩ := G.c.it1 q hq e1
    have ec : (f (984 + q)).toNatClampNeg = w := by rw [ew, nI_clamp (by omega)]
    rw [ec] at h
    obtain ⟨hk, hc, -⟩ := hB.w w hw
    have vw : vp_in (nI w) 60 := vp_in_nI (by omega) (by omega)
    refine ⟨v6, fun _ => ⟨v1, fun v ev => ⟨fun _ => ?_, fun z => absurd rfl z⟩⟩, fun z => by rw [e1] at z; exact absurd z (by decide)⟩
    rw [ew] at ev
    subst ev
    unfold w_X12_moves_p50
    rw [nI_clamp (show w < 2 ^ 31 by omega), (S.k.w w hw).1, (S.k.w w hw).2.1]
    have main : w_X12_moves_p71 post (nI q) 0 (nI (bk.wC w)) (besK (bk.wK w)) M N := by
      refine r_moves71 (hm := false) S G hB hq hc ⟨⟨fun _ => rfl, fun _ => rfl⟩, fun z => absurd z (by decide)⟩ (fun hG => ⟨fun _ => ?_, fun z => absurd rfl z⟩) (fun hG => ?_)
      · rw [pick_t hG] at h
        exact r_works S G hB hq hw ew h
      · rw [pick_f hG] at h
        exact h
    refine ⟨vw, fun z => absurd rfl z, fun _ => ⟨vw, fun z => ?_, fun z => ?_⟩⟩
    · have e : besK (bk.wK w) = 0 := if_neg (fun e => z (by rw [e]; rfl))
      rw [e] at main
      exact main
    · have e : besK (bk.wK w) = 1 := if_pos ((nI_eq (b := 3) (by omega) (by omega)).mp z)
      rw [e] at main
      exact main
  · have e2 : f (976 + q) = 2 := hd.resolve_left e1
    rw [if_neg e1, if_pos e2] at h
    have hc := (hB.c q hq).2.2.2.2.1
    refine ⟨v6, fun z => absurd e2 z, fun _ => ⟨v1, fun v ev => ⟨fun z => absurd z (by decide), fun _ => ⟨v0, ?_⟩⟩⟩⟩
    unfold w_X12_moves_p50
    rw [nI_clamp (show q < 2 ^ 31 by omega), (S.k.c q hq).2.2.2.1]
    refine ⟨fun _ => ?_, fun z => absurd z (by decide)⟩
    refine r_moves71 (hm := true) S G hB hq hc ⟨⟨fun z => absurd z (by decide), fun z => absurd z (by decide)⟩, fun _ => G.c.it0 q hq e1⟩ (fun hG => ⟨fun z => absurd z (by decide), fun _ => ?_⟩) (fun hG => ?_)
    · rw [pick_t hG] at h
      exact r_gives S G.b hq h
    · rw [pick_f hG] at h
      exact h
theorem r_acts65 (S : StM bk cn but M N f fe lo) (G : GoodF W cn f) (hB : BkGood bk cn) (hq : q < cn.c) (h : ∀ M' N', FrM M N M' N' → StM bk cn but M' N' (actB bk but cn f q) fe lo → post M' N') : w_X12_acts_p65 post (nI q) M N := by
  have h8 := G.b.2.1
  have i6 : (976 + nI q).toNatClampNeg = 976 + q := by rw [ix976, nI_clamp (by omega)]
  have v6 : vp_in (976 + nI q) 1635 := by rw [ix976]; exact vp_in_nI (by omega) (by omega)
  unfold w_X12_acts_p65
  rw [i6, S.f]
  refine ⟨v6, fun z => r_acts93 S G hB hq (Or.inl z) h, fun z => ⟨v6, fun z2 => ?_, fun z2 => r_acts93 S G hB hq (Or.inr z2) h⟩⟩
  unfold actB at h
  rw [if_neg z, if_neg z2] at h
  exact h _ _ FrM.rf S
theorem r_acts (S : StM bk cn but M N f fe lo) (G : GoodF W cn f) (hB : BkGood bk cn) (hBO : BO cn but f) (hq : q < cn.c) (hnb : ¬ but 1 q) (h : ∀ M' N', FrM M N M' N' → StM bk cn but M' N' (actsF bk but cn f q) fe lo → post M' N') : w_X12_acts (nI q) M N post := by
  have h8 := G.b.2.1
  have i6 : (976 + nI q).toNatClampNeg = 976 + q := by rw [ix976, nI_clamp (by omega)]
  have v6 : vp_in (976 + nI q) 1635 := by rw [ix976]; exact vp_in_nI (by omega) (by omega)
  have i2 : (968 + nI q).toNatClampNeg = 968 + q := by rw [ix968, nI_clamp (by omega)]
  have v2 : vp_in (968 + nI q) 1635 := by rw [ix968]; exact vp_in_nI (by omega) (by omega)
  have v0 : vp_in (nI q) 8 := vp_in_nI (by omega) (by omega)
  obtain ⟨g1, g2⟩ := acts1_good (bk := bk) G hBO hq hnb
  unfold w_X12_acts
  rw [i6, i2, nI_clamp (show q < 2 ^ 31 by omega), S.f, (S.k.c q hq).2.2.2.2]
  unfold actsF at h
  refine ⟨v6, fun z => ?_, fun z => ?_⟩
  · rw [if_neg z] at h
    unfold acts1 at h g1
    refine ⟨v6, fun z2 => ?_, fun z2 => ⟨v2, v0, fun z3 => ?_, fun z3 => ⟨v6, ?_⟩⟩⟩
    · rw [if_neg (fun y => z2 y.1)] at h g1
      exact r_acts65 S g1 hB hq h
    · rw [if_neg (fun y => absurd y.2 (i32_nlt.mpr z3))] at h g1
      exact r_acts65 S g1 hB hq h
    · rw [if_pos ⟨z2, i32_nle.mp z3⟩] at h g1
      exact r_acts65 (S.u _ _) g1 hB hq (fun M1 N1 F1 S1 => h _ _ (FrM.u.tr F1) S1)
  · rw [if_pos z] at h
    exact r_gives S G.b hq h
/-- the class -/
theorem c_move88 (S : StC b bk cn full but M N f fe lo) (G : GoodF W cn f) (hB : BkGood bk cn) (hq : q < cn.c) (hnb : ¬ but 1 q) {r l3 : Int32} {v : Option (Nat × Nat × Nat)} (H : wayAt M q r v) (hv : ∀ C k x, v = some (C, k, x) → okF bk f q x) (hl3 : l3 = 0 ↔ hm = false) (h : ∀ M' N', Fr b M N M' N' → StC b bk cn full but M' N' (stepV bk but cn f q hm v) fe lo → post M' N') : w_X10_move_p88 b post (nI q) l3 r (nI q) M N := by
  have h8 := G.b.2.1
  have hle := S.k.le.2.1
  have v0 : vp_in (nI q) 8 := vp_in_nI (by omega) (by omega)
  have hi := G.its hq
  unfold w_X10_move_p88
  refine c_firstTo H (by omega) (fun C k x ev hx => ?_) (fun ev => ?_)
  · subst ev
    have hox := hv C k x rfl
    unfold stepV at h
    dsimp only at h
    refine eq_X11_isCell.mpr ?_
    rw [am_bt ⟨nI_pos' (by omega), nI_le (b := 63) (by omega) (by omega)⟩, nI_clamp (show q < 2 ^ 31 by omega), (S.w.c.on q hq hnb).2.1]
    have vx : vp_in (nI x) 64 := vp_in_nI hx (by omega)
    refine ⟨fun _ => ⟨v0, fun z => ⟨v0, v0, v0, vx, ?_⟩, fun z => ?_⟩, fun z => absurd z (by decide)⟩
    · rw [if_neg z] at h
      have F2 : Fr b M N (am_u (am_u M (1, b, 16) q (f (968 + q) - 1)) (1, b, 15) q (nI x)) N := (Fr.u (by decide) _).tr (Fr.u (by decide) _)
      have S2 : StC b bk cn full but (am_u (am_u M (1, b, 16) q (f (968 + q) - 1)) (1, b, 15) q (nI x)) N (upd (upd f (968 + q) (f (968 + q) - 1)) (960 + q) (nI x)) fe lo := S.nx F2 ((S.w.u16 G.b hq _).u15 G.b hq _)
      generalize am_u (am_u M (1, b, 16) q (f (968 + q) - 1)) (1, b, 15) q (nI x) = M2 at S2 F2 ⊢
      refine sp_at (w := 5) (c := 1) S2.k.t2 (by omega) (by omega) ?_
      rw [(S2.k.c q hq).2.1]
      refine (eq_X2_heavy hx).mpr ?_
      have ehv : hvC M2 b (nI (bk.cW q)) x = hvF bk f q x := by
        unfold hvC hvF
        rw [S2.w.g.we x hx, pk_un (by omega), pk_un (by omega)]
      have epr : M2 (1, b, 4) x = f (128 + x) := by rw [S2.w.g.pr x hx, pk_un (by omega), pk_un (by omega)]
      rw [ehv, nI_clamp (show x < 2 ^ 31 by omega), epr]
      have F3 : Fr b M2 N (am_u M2 (1, b, 4) x (f (128 + x) + hvF bk f q x)) N := Fr.u (by decide) _
      have S3 : StC b bk cn full but (am_u M2 (1, b, 4) x (f (128 + x) + hvF bk f q x)) N (enter2 bk f q x) fe lo := S2.nx F3 (S2.w.u4 G.b hx _)
      have F3' := F2.tr F3
      generalize am_u M2 (1, b, 4) x (f (128 + x) + hvF bk f q x) = M3 at S3 F3' ⊢
      have G3 := enter3_good G hB hq hox
      have fin : ∀ M4 N4, Fr b M N M4 N4 → StC b bk cn full but M4 N4 (enter3 bk f q x) fe lo → w_X10_move_p218 b post (nI q) (nI x) M4 N4 := by
        intro M4 N4 F4 S4
        unfold w_X10_move_p218
        rw [nI_clamp (show x < 2 ^ 31 by omega), S4.w.g.we x hx, enter3_o hx (by omega) (by omega) (by omega) (by omega)]
        refine ⟨vx, sp_at (w := 5) (c := 2) S4.k.t2 (by omega) (by omega) ?_⟩
        rw [(S4.k.c q hq).2.2.1]
        unfold entersF at h
        refine ⟨fun z => ?_, fun z => ?_⟩
        · rw [if_pos z] at h
          exact h _ _ F4 S4
        · rw [if_neg z] at h
          refine c_leaveWork S4 G.b hq hnb (G3.its hq) (fun M5 N5 F5 S5 => ?_)
          have G5 : GoodF W cn (upd (dropsF (enter3 bk f q x) q) (976 + q) 4) := leaveF_good G3 hq (by decide) (by decide)
          rw [S5.w.s.set 3 (by omega)]
          exact c_hearOf S5 G5 hx (fun M6 N6 F6 S6 => h _ _ (F4.tr (F5.tr F6)) S6)
      have e4 : M3 (1, b, 4) x = f (128 + x) + hvF bk f q x := by
        rw [S3.w.g.pr x hx]
        unfold enter2
        rw [pk_us]
      have e22 : M3 (1, b, 22) 1 = f 1627 := by
        rw [S3.w.s.set 1 (by omega)]
        unfold enter2
        rw [pk_un (by omega), pk_un (by omega), pk_un (by omega)]
      rw [e4, e22]
      unfold enter3 at fin
      refine ⟨vx, vx, fun z => ?_, fun z => ?_⟩
      · rw [if_pos z] at fin
        exact fin _ _ F3' S3
      · rw [if_neg z] at fin
        exact c_remove S3 G.b hx (fun M4 N4 F4 _ S4 => fin _ _ (F3'.tr F4) S4)
    · rw [if_pos z] at h
      exact c_leaveWork S G.b hq hnb hi (fun M5 N5 F5 S5 => h _ _ F5 S5)
  · subst ev
    unfold stepV at h
    refine eq_X11_isCell.mpr ?_
    rw [am_bf (by decide)]
    refine ⟨fun z => absurd rfl z, fun _ => ⟨fun z => ?_, fun z => ?_⟩⟩
    · have e : hm = true := by
        cases hh : hm with
        | true => rfl
        | false => exact absurd (hl3.mpr hh) z
      rw [if_pos e] at h
      exact h _ _ Fr.rf S
    · rw [if_neg (by rw [hl3.mp z]; decide)] at h
      exact c_leaveWork S G.b hq hnb hi (fun M5 N5 F5 S5 => h _ _ F5 S5)
theorem c_move1 (S : StC b bk cn full but M N f fe lo) (G : GoodF W cn f) (hB : BkGood bk cn) (hq : q < cn.c) (hnb : ¬ but 1 q) (hw : w < cn.w) (e1 : f (976 + q) = 1) (ew : f (984 + q) = nI w) (hG : ¬ GoalN (bk.wC w) (besK (bk.wK w)) (spN f q)) (h : ∀ M' N', Fr b M N M' N' → StC b bk cn full but M' N' (stepF bk but cn f q (bk.wC w) (besK (bk.wK w)) false) fe lo → post M' N') : w_X10_move b (nI q) M N post := by
  have h8 := G.b.2.1
  have v0 : vp_in (nI q) 8 := vp_in_nI (by omega) (by omega)
  unfold w_X10_move
  refine c_search S G hB hq hnb (fun M1 N1 F1 S1 Q1 _ => ⟨v0, fun v ev => ⟨v0, ?_⟩⟩)
  rw [nI_clamp (show q < 2 ^ 31 by omega), (S1.w.c.on q hq hnb).2.2.2, ew] at ev
  subst ev
  rw [nI_clamp (show q < 2 ^ 31 by omega), (S1.w.c.on q hq hnb).2.2.1, e1]
  refine ⟨fun _ => ⟨fun _ => ?_, fun z => absurd rfl z⟩, fun z => absurd z (by decide)⟩
  refine c_goalOf S1 hB hw (by omega) Q1 (fun r hr => ?_)
  exact c_move88 (hm := false) S1 G hB hq hnb hr (fun C k x e => wayG_ok e hG) ⟨fun _ => rfl, fun _ => rfl⟩ (fun M2 N2 F2 S2 => h _ _ (F1.tr F2) S2)
theorem c_move2 (S : StC b bk cn full but M N f fe lo) (G : GoodF W cn f) (hB : BkGood bk cn) (hq : q < cn.c) (hnb : ¬ but 1 q) (e2 : f (976 + q) = 2) (hG : ¬ GoalN (bk.cH q) 0 (spN f q)) (h : ∀ M' N', Fr b M N M' N' → StC b bk cn full but M' N' (stepF bk but cn f q (bk.cH q) 0 true) fe lo → post M' N') : w_X10_move b (nI q) M N post := by
  have h8 := G.b.2.1
  have hle := S.k.le.2.1
  have v0 : vp_in (nI q) 8 := vp_in_nI (by omega) (by omega)
  unfold w_X10_move
  refine c_search S G hB hq hnb (fun M1 N1 F1 S1 Q1 _ => ⟨v0, fun v ev => ⟨v0, ?_⟩⟩)
  rw [nI_clamp (show q < 2 ^ 31 by omega), (S1.w.c.on q hq hnb).2.2.1, e2]
  refine ⟨fun z => absurd rfl z, fun _ => ⟨fun z => absurd z (by decide), fun _ => ?_⟩⟩
  refine sp_at (w := 5) (c := 3) S1.k.t2 (by omega) (by omega) ?_
  rw [(S1.k.c q hq).2.2.2.1]
  exact c_move88 (hm := true) S1 G hB hq hnb (Q1.at0 (hB.c q hq).2.2.2.2.1) (fun C k x e => wayG_ok e hG) ⟨fun z => absurd z (by decide), fun z => absurd z (by decide)⟩ (fun M2 N2 F2 S2 => h _ _ (F1.tr F2) S2)
theorem c_turn55 (S : StC b bk cn full but M N f fe lo) (G : GoodF W cn f) (hB : BkGood bk cn) (hBO : BO cn but f) (hq : q < cn.c) (hnb : ¬ but 1 q) (h : ∀ M' N', Fr b M N M' N' → StC b bk cn full but M' N' (actB bk but cn f q) fe lo → post M' N') : w_X10_takeTurn_p55 b post (nI q) M N := by
  have h8 := G.b.2.1
  have h60 := G.b.2.2.1
  have v0 : vp_in (nI q) 8 := vp_in_nI (by omega) (by omega)
  obtain ⟨s64, es⟩ := G.sp hq
  unfold w_X10_takeTurn_p55
  rw [nI_clamp (show q < 2 ^ 31 by omega), (S.w.c.on q hq hnb).2.2.1, (S.w.c.on q hq hnb).2.2.2]
  unfold actB at h
  refine ⟨v0, fun z => ⟨v0, fun z2 => ?_, fun z2 => ?_⟩, fun z => ⟨v0, ?_⟩⟩
  · rw [if_neg z, if_neg z2] at h
    exact h _ _ Fr.rf S
  · rw [if_neg z, if_pos z2] at h
    have hcH := (hB.c q hq).2.2.2.2.1
    have hGe : GoalN (bk.cH q) 0 (spN f q) ↔ f (960 + q) = nI (bk.cH q) := by
      unfold GoalN
      rw [if_pos rfl, es, nI_eq (by omega) (by omega)]
      exact ⟨fun z => z.2, fun z => ⟨s64, z⟩⟩
    refine c_isHome S G.b hq hnb (fun y => ⟨fun _ => ?_, fun y => absurd rfl y⟩) (fun y => ⟨fun y => absurd y (by decide), fun _ => ?_⟩)
    · have hG : ¬ GoalN (bk.cH q) 0 (spN f q) := fun z => y (hGe.mp z)
      rw [pick_f hG] at h
      exact c_move2 S G hB hq hnb z2 hG h
    · rw [pick_t (hGe.mpr y)] at h
      exact c_plugIn S G.b hq hnb h
  · rw [if_pos z] at h
    obtain ⟨w, hw, ew⟩ := G.c.it1 q hq z
    have ec : (f (984 + q)).toNatClampNeg = w := by rw [ew, nI_clamp (by omega)]
    rw [ec] at h
    rw [ew]
    refine c_isAtWork S G hB hq hnb hw (fun hG => ⟨fun _ => ?_, fun y => absurd rfl y⟩) (fun hG => ⟨fun y => absurd y (by decide), fun _ => ⟨v0, ?_⟩⟩)
    · rw [pick_f hG] at h
      exact c_move1 S G hB hq hnb hw z ew hG h
    · rw [pick_t hG] at h
      rw [(S.w.c.on q hq hnb).2.2.2, ew]
      exact c_doWork S G hB hBO hq hnb hw h
theorem c_takeTurn (S : StC b bk cn full but M N f fe lo) (G : GoodF W cn f) (hB : BkGood bk cn) (hBO : BO cn but f) (hq : q < cn.c) (hnb : ¬ but 1 q) (h : ∀ M' N', Fr b M N M' N' → StC b bk cn full but M' N' (actsF bk but cn f q) fe lo → post M' N') : w_X10_takeTurn b (nI q) M N post := by
  have h8 := G.b.2.1
  have v0 : vp_in (nI q) 8 := vp_in_nI (by omega) (by omega)
  obtain ⟨g1, g2⟩ := acts1_good (bk := bk) G hBO hq hnb
  unfold w_X10_takeTurn
  rw [nI_clamp (show q < 2 ^ 31 by omega), (S.w.c.on q hq hnb).2.2.1]
  unfold actsF at h
  refine ⟨v0, fun z => ?_, fun z => ?_⟩
  · rw [if_neg z] at h
    unfold acts1 at h g1 g2
    refine ⟨v0, fun z2 => ?_, fun z2 => ?_⟩
    · rw [if_neg (fun y => z2 y.1)] at h g1 g2
      exact c_turn55 S g1 hB g2 hq hnb h
    · refine c_hasPower S G.b hq hnb (fun y => ⟨fun y => absurd rfl y, fun _ => ⟨v0, ?_⟩⟩) (fun y => ⟨fun _ => ?_, fun y => absurd y (by decide)⟩)
      · rw [if_pos ⟨z2, y⟩] at h g1 g2
        have F1 : Fr b M N (am_u M (1, b, 17) q 2) N := Fr.u (by decide) _
        exact c_turn55 (S.nx F1 (S.w.u17 G.b hq hnb 2)) g1 hB g2 hq hnb (fun M2 N2 F2 S2 => h _ _ (F1.tr F2) S2)
      · rw [if_neg (fun w => y w.2)] at h g1 g2
        exact c_turn55 S g1 hB g2 hq hnb h
  · rw [if_pos z] at h
    exact c_plugIn S G.b hq hnb h
theorem c_takeTurn0 (S : StC b bk cn full but M N f fe lo) (hq : q < 8) (hq2 : cn.c ≤ q ∨ but 1 q) (h : post M N) : w_X10_takeTurn b (nI q) M N post := by
  have v0 : vp_in (nI q) 8 := vp_in_nI (by omega) (by omega)
  unfold w_X10_takeTurn w_X10_takeTurn_p55
  rw [nI_clamp (show q < 2 ^ 31 by omega), S.w.c.off q hq hq2]
  exact ⟨v0, fun _ => ⟨v0, fun _ => ⟨v0, fun _ => ⟨v0, fun _ => h, fun z => absurd z (by decide)⟩, fun z => absurd z (by decide)⟩, fun z => absurd z (by decide)⟩, fun z => absurd z (by decide)⟩
end AC
