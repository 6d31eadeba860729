/-! ===== nothing lies behind the field's end ===== -/
def TE (f f' : Nat → Int32) : Prop := ∀ i, 1635 ≤ i ∨ i = 1624 → f' i = f i
theorem TE.rf {f : Nat → Int32} : TE f f := fun _ _ => rfl
theorem TE.tr {f g h : Nat → Int32} (h1 : TE f g) (h2 : TE g h) : TE f h := fun i hi => (h2 i hi).trans (h1 i hi)
theorem TE.u {f : Nat → Int32} {k : Nat} {x : Int32} (h : k < 1635 ∧ k ≠ 1624) : TE f (upd f k x) := fun i hi => pk_un (by omega)
theorem TE.w {f w : Nat → Int32} : TE f (setW f w) := fun i hi => setW_o (by omega)
section TL
variable {bk : Bk} {cn : Cn} {but : Nat → Nat → Prop} {f g : Nat → Int32} {W q c w wh a bb goal : Nat} {bes : Int32} {hm : Bool}
theorem TE.drops (G : GoodF W cn f) (hq : q < cn.c) : TE f (dropsF f q) := fun i hi => dropsF_o G.b.2.2.1 (G.its hq) (by have := G.b.2.1; omega) (by omega)
theorem TE.gives (hq : q < 8) : TE f (givesF bk f q) := by
  unfold givesF
  exact (TE.u (by omega)).tr (TE.u (by omega))
theorem TE.pulls (h8 : cn.c ≤ 8) : TE f (pullsF cn f q c) := by
  unfold pullsF
  rcases pullR_is (f := f) (q := q) (c := c) cn.c 0 with e | ⟨p, -, h2, h3, e⟩
  · rw [e]; exact TE.rf
  · rw [e]; exact (TE.u (by omega)).tr (TE.u (by omega))
theorem TE.die1 (hc : c < 64) {why : Int32} : TE f (dieI f c why) := fun i hi => dieI_o (by omega) (by omega)
theorem TE.works (G : GoodF W cn f) (hB : BkGood bk cn) (hq : q < cn.c) (hw : w < cn.w) : TE f (worksF bk cn f q w) := by
  have h8 := G.b.2.1
  have h60 := G.b.2.2.1
  have hc := (hB.w w hw).2.1
  unfold worksF
  refine TE.tr ?_ ((TE.u (by omega)).tr ((TE.u (by omega)).tr (TE.u (by omega))))
  unfold workE
  by_cases e0 : bk.wK w = 0
  · rw [if_pos e0]; exact fun i hi => seenF_o (by omega) (by omega)
  · rw [if_neg e0]
    by_cases e1 : bk.wK w = 1
    · rw [if_pos e1]; exact TE.die1 hc
    · rw [if_neg e1]
      by_cases e2 : bk.wK w = 2
      · rw [if_pos e2]; exact fun i hi => gotF_o (by omega)
      · rw [if_neg e2]; exact TE.pulls h8
theorem TE.enters (G : GoodF W cn f) (hB : BkGood bk cn) (hq : q < cn.c) (hx : okF bk f q c) : TE f (entersF bk but cn f q c) := by
  have h8 := G.b.2.1
  have hc := hx.1
  have h3 : TE f (enter3 bk f q c) := fun i hi => enter3_o hc (by omega) (by omega) (by omega) (by omega)
  have G3 := enter3_good G hB hq hx
  unfold entersF
  by_cases z : f (64 + c) ≤ nI (bk.cS q)
  · rw [if_pos z]; exact h3
  · rw [if_neg z]
    exact h3.tr ((TE.drops G3 hq).tr ((TE.u (by omega)).tr (fun i hi => heardF_o hc _ h8 (by omega))))
theorem TE.step (G : GoodF W cn f) (hB : BkGood bk cn) (hq : q < cn.c) (hG : ¬ GoalN goal bes (spN f q)) : TE f (stepF bk but cn f q goal bes hm) := by
  have h8 := G.b.2.1
  unfold stepF
  cases hw : wayG bk f q goal bes with
  | none =>
    unfold stepV
    by_cases z : hm = true
    · rw [if_pos z]; exact TE.rf
    · rw [if_neg z]; exact (TE.drops G hq).tr (TE.u (by omega))
  | some v =>
    obtain ⟨C, k, x⟩ := v
    unfold stepV
    dsimp only
    by_cases z : f (968 + q) = 0
    · rw [if_pos z]; exact (TE.drops G hq).tr (TE.u (by omega))
    · rw [if_neg z]; exact TE.enters G hB hq (wayG_ok hw hG)
theorem TE.actb (G : GoodF W cn f) (hB : BkGood bk cn) (hq : q < cn.c) : TE f (actB bk but cn f q) := by
  have h8 := G.b.2.1
  have h60 := G.b.2.2.1
  unfold actB
  by_cases e1 : f (976 + q) = 1
  · rw [if_pos e1]
    obtain ⟨w, hw, ew⟩ := G.c.it1 q hq e1
    have ec : (f (984 + q)).toNatClampNeg = w := by rw [ew, nI_clamp (by omega)]
    rw [ec]
    by_cases hG : GoalN (bk.wC w) (besK (bk.wK w)) (spN f q)
    · rw [pick_t hG]; exact TE.works G hB hq hw
    · rw [pick_f hG]; exact TE.step G hB hq hG
  · rw [if_neg e1]
    by_cases e2 : f (976 + q) = 2
    · rw [if_pos e2]
      by_cases hG : GoalN (bk.cH q) 0 (spN f q)
      · rw [pick_t hG]; exact TE.gives (by omega)
      · rw [pick_f hG]; exact TE.step G hB hq hG
    · rw [if_neg e2]; exact TE.rf
theorem TE.acts (G : GoodF W cn f) (hB : BkGood bk cn) (hBO : BO cn but f) (hq : q < cn.c) (hnb : ¬ but 1 q) : TE f (actsF bk but cn f q) := by
  have h8 := G.b.2.1
  unfold actsF
  by_cases e : f (976 + q) = 3
  · rw [if_pos e]; exact TE.gives (by omega)
  · rw [if_neg e]
    obtain ⟨g1, g2⟩ := acts1_good (bk := bk) G hBO hq hnb
    refine TE.tr ?_ (TE.actb g1 hB hq)
    unfold acts1
    by_cases z : f (976 + q) = 0 ∧ 4 * f (968 + q) < nI (bk.cU q)
    · rw [if_pos z]; exact TE.u (by omega)
    · rw [if_neg z]; exact TE.rf
theorem TE.offers (G : GoodF W cn f) (hBO : BO cn but f) : ∀ n, n ≤ cn.w → TE f (offersF bk but cn f n)
  | 0, _ => TE.rf
  | n + 1, h => by
    have h8 := G.b.2.1
    have h60 := G.b.2.2.1
    have ih := TE.offers G hBO n (by omega)
    refine ih.tr ?_
    show TE _ (offer1 bk but cn (offersF bk but cn f n) n)
    unfold offer1
    by_cases e : offersF bk but cn f n (1504 + n) = 0
    · rw [if_pos e]
      refine fun i hi => takeF_o (fun q L hb => ?_) (by omega) (by omega)
      have := bestF_ok hb
      omega
    · rw [if_neg e]; exact TE.rf
theorem TE.turns (G : GoodF W cn f) (hB : BkGood bk cn) (hBO : BO cn but f) : ∀ n, n ≤ cn.c → TE f (turnsF bk but cn f n)
  | 0, _ => TE.rf
  | n + 1, h => by
    have ih := TE.turns G hB hBO n (by omega)
    obtain ⟨g1, g2⟩ := turnsF_good G hB hBO n (by omega)
    unfold turnsF
    by_cases e : but 1 n
    · rw [pick_t e]; exact ih
    · rw [pick_f e]; exact ih.tr (TE.acts g1 hB g2 (by omega) e)
theorem TE.hour (G : GoodF W cn f) (hB : BkGood bk cn) (hBO : BO cn but f) (hW : W + 190080 < 2 ^ 31) : TE (nowF f) (hourF bk but cn f) := by
  obtain ⟨g1, g2⟩ := skyF_good G hB hBO hW
  obtain ⟨g3, g4⟩ := dryF_good2 g1 g2
  obtain ⟨g5, g6⟩ := offersF_good (bk := bk) g3 g4 cn.w (Nat.le_refl _)
  have h1 : TE (nowF f) (workF bk but cn f) := TE.w.tr (TE.w.tr (TE.w.tr ((TE.offers g3 g4 cn.w (Nat.le_refl _)).tr (TE.turns g5 hB g6 cn.c (Nat.le_refl _)))))
  unfold hourF dayF
  by_cases e : am_rem (workF bk but cn f 1624) 24 = 0
  · rw [if_pos e]
    exact h1.tr (fun i hi => endsF_o (by omega) (by omega))
  · rw [if_neg e]; exact h1
theorem TE.does (hcb : CnB cn) (hr : RowOK cn wh a bb c) : TE f (doesF bk but cn wh a bb c f) := by
  have h8 := hcb.2.1
  have h60 := hcb.2.2.1
  unfold doesF
  by_cases e0 : wh = 0
  · have := hr.l0 e0
    rw [if_pos e0]; exact (TE.u (by omega)).tr (TE.u (by omega))
  rw [if_neg e0]
  by_cases e1 : wh = 1
  · have := hr.l1 e1
    rw [if_pos e1]; exact TE.u (by omega)
  rw [if_neg e1]
  by_cases e2 : wh = 2
  · rw [if_pos e2]; exact TE.u (by omega)
  rw [if_neg e2]
  by_cases e3 : wh = 3
  · have := hr.l3 e3
    rw [if_pos e3]; exact (TE.u (by omega)).tr ((TE.u (by omega)).tr ((TE.u (by omega)).tr (TE.u (by omega))))
  rw [if_neg e3]
  by_cases e4 : wh = 4
  · have := hr.l4 e4
    rw [if_pos e4]
    unfold chargedF
    by_cases e : but 1 a ∨ ¬ f (976 + a) = 5
    · rw [pick_t e]; exact TE.rf
    · rw [pick_f e]; exact (TE.u (by omega)).tr (TE.u (by omega))
  rw [if_neg e4]
  by_cases e5 : wh = 5
  · have := hr.l5 e5
    rw [if_pos e5]; exact (TE.u (by omega)).tr ((TE.u (by omega)).tr (TE.u (by omega)))
  rw [if_neg e5]
  by_cases e6 : wh = 6
  · rw [if_pos e6]; exact TE.u (by omega)
  rw [if_neg e6]
  by_cases e7 : wh = 7
  · rw [if_pos e7]; exact TE.u (by omega)
  rw [if_neg e7]
  by_cases e8 : wh = 8
  · have := hr.l8 e8
    rw [if_pos e8]
    by_cases e : f (192 + a) = 0
    · rw [if_pos e]; exact fun i hi => sowF_o (by omega) (by omega) (by omega) (by omega) (by omega) (by omega)
    · rw [if_neg e]; exact TE.rf
  rw [if_neg e8]
  by_cases e9 : wh = 9
  · have := hr.l9 e9
    rw [if_pos e9]; exact TE.u (by omega)
  rw [if_neg e9]
  by_cases e10 : wh = 10
  · have := hr.l10 e10
    rw [if_pos e10]; exact fun i hi => seenF_o (by omega) (by omega)
  rw [if_neg e10]
  have := hr.l11 (by have := hr.le; omega)
  by_cases e : f (192 + a) = 1
  · rw [if_pos e]; exact TE.u (by omega)
  · rw [if_neg e]; exact TE.rf
end TL
