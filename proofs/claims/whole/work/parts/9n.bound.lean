/-! ===== size, looks and what was got stay small ===== -/
def PB (K : Nat) (f : Nat → Int32) : Prop := ∀ i, (256 ≤ i ∧ i < 320) ∨ (384 ≤ i ∧ i < 512) → ∃ t, t ≤ K ∧ f i = nI t
def PS (d : Nat) (f g : Nat → Int32) : Prop := ∀ K, PB K f → PB (K + d) g
theorem PS.eq {f g : Nat → Int32} (h : ∀ i, (256 ≤ i ∧ i < 320) ∨ (384 ≤ i ∧ i < 512) → g i = f i) : PS 0 f g := fun K P i hi => by rw [h i hi]; exact P i hi
theorem PS.rf {f : Nat → Int32} : PS 0 f f := PS.eq fun _ _ => rfl
theorem PS.mono {f g : Nat → Int32} {d e : Nat} (h : PS d f g) (hd : d ≤ e) : PS e f g := fun K P i hi => by
  obtain ⟨t, h1, h2⟩ := h K P i hi
  exact ⟨t, by omega, h2⟩
theorem PS.tr {f g h : Nat → Int32} {d e s : Nat} (h1 : PS d f g) (h2 : PS e g h) (hs : d + e ≤ s) : PS s f h := fun K P i hi => by
  obtain ⟨t, q1, q2⟩ := h2 _ (h1 K P) i hi
  exact ⟨t, by omega, q2⟩
theorem PS.u {f : Nat → Int32} {k : Nat} {x : Int32} (h : ¬ ((256 ≤ k ∧ k < 320) ∨ (384 ≤ k ∧ k < 512))) : PS 0 f (upd f k x) := PS.eq fun i hi => pk_un (by omega)
theorem PS.one {f g : Nat → Int32} {k d : Nat} {j : Nat} (hj : j ≤ d) (h1 : g k = f k + nI j) (h2 : ∀ i, (256 ≤ i ∧ i < 320) ∨ (384 ≤ i ∧ i < 512) → i ≠ k → g i = f i) : PS d f g := fun K P i hi => by
  obtain ⟨t, q1, q2⟩ := P i hi
  by_cases e : i = k
  · subst e
    exact ⟨t + j, by omega, by rw [h1, q2, nI_add]⟩
  · exact ⟨t, by omega, by rw [h2 i hi e]; exact q2⟩
section PL
variable {bk : Bk} {cn : Cn} {but : Nat → Nat → Prop} {f g : Nat → Int32} {W q c w wh a bb goal : Nat} {bes x marks : Int32} {hm : Bool}
theorem PS.drops (G : GoodF W cn f) (hq : q < cn.c) : PS 0 f (dropsF f q) := PS.eq fun i hi => dropsF_o G.b.2.2.1 (G.its hq) (by have := G.b.2.1; omega) (by omega)
theorem PS.gives (hq : q < 8) : PS 0 f (givesF bk f q) := by
  unfold givesF
  exact (PS.u (by omega)).tr (PS.u (by omega)) (Nat.le_refl _)
theorem PS.pulls (h8 : cn.c ≤ 8) : PS 0 f (pullsF cn f q c) := by
  unfold pullsF
  rcases pullR_is (f := f) (q := q) (c := c) cn.c 0 with e | ⟨p, -, h2, h3, e⟩
  · rw [e]; exact PS.rf
  · rw [e]; exact (PS.u (by omega)).tr (PS.u (by omega)) (Nat.le_refl _)
theorem PS.seen (hc : c < 64) : PS 1 f (seenF bk f c marks) := by
  by_cases e : f (192 + c) = 1
  · refine PS.one (k := 384 + c) (j := 1) (Nat.le_refl _) ?_ (fun i hi hne => seenF_o hne (by omega))
    unfold seenF
    rw [if_pos e]
    by_cases e2 : 0 < psum (odF bk) marks (fun k => f (640 + 5 * c + k)) 5
    · rw [if_pos e2, put5_o (by omega), pk_us]; rfl
    · rw [if_neg e2, pk_us]; rfl
  · unfold seenF
    rw [if_neg e]
    exact PS.rf.mono (by omega)
theorem PS.got {j d : Nat} (hj : j ≤ d) (hc : c < 64) : PS d f (gotF f c (nI j)) := by
  by_cases e : f (192 + c) = 1
  · refine PS.one (k := 448 + c) (j := j) hj ?_ (fun i hi hne => gotF_o hne)
    unfold gotF
    rw [if_pos e, pk_us]
  · unfold gotF
    rw [if_neg e]
    exact PS.rf.mono (by omega)
theorem PS.die1 (hc : c < 64) {why : Int32} : PS 0 f (dieI f c why) := PS.eq fun i hi => dieI_o (by omega) (by omega)
theorem PS.works (G : GoodF W cn f) (hB : BkGood bk cn) (hq : q < cn.c) (hw : w < cn.w) : PS 999 f (worksF bk cn f q w) := by
  have h8 := G.b.2.1
  have h60 := G.b.2.2.1
  obtain ⟨_, hc, hm⟩ := hB.w w hw
  unfold worksF
  refine PS.tr (d := 999) (e := 0) ?_ ((PS.u (by omega)).tr ((PS.u (by omega)).tr (PS.u (by omega)) (Nat.le_refl _)) (Nat.le_refl _)) (Nat.le_refl _)
  unfold workE
  by_cases e0 : bk.wK w = 0
  · rw [if_pos e0]; exact (PS.seen hc).mono (by omega)
  · rw [if_neg e0]
    by_cases e1 : bk.wK w = 1
    · rw [if_pos e1]; exact (PS.die1 hc).mono (by omega)
    · rw [if_neg e1]
      by_cases e2 : bk.wK w = 2
      · rw [if_pos e2]; exact PS.got hm hc
      · rw [if_neg e2]; exact (PS.pulls h8).mono (by omega)
theorem PS.enters (G : GoodF W cn f) (hB : BkGood bk cn) (hq : q < cn.c) (hx : okF bk f q c) : PS 0 f (entersF bk but cn f q c) := by
  have h8 := G.b.2.1
  have hc := hx.1
  have h3 : PS 0 f (enter3 bk f q c) := PS.eq fun i hi => enter3_o hc (by omega) (by omega) (by omega) (by omega)
  have G3 := enter3_good G hB hq hx
  unfold entersF
  by_cases z : f (64 + c) ≤ nI (bk.cS q)
  · rw [if_pos z]; exact h3
  · rw [if_neg z]
    exact h3.tr ((PS.drops G3 hq).tr ((PS.u (by omega)).tr (PS.eq fun i hi => heardF_o hc _ h8 (by omega)) (Nat.le_refl _)) (Nat.le_refl _)) (Nat.le_refl _)
theorem PS.step (G : GoodF W cn f) (hB : BkGood bk cn) (hq : q < cn.c) (hG : ¬ GoalN goal bes (spN f q)) : PS 0 f (stepF bk but cn f q goal bes hm) := by
  have h8 := G.b.2.1
  unfold stepF
  cases hw : wayG bk f q goal bes with
  | none =>
    unfold stepV
    by_cases z : hm = true
    · rw [if_pos z]; exact PS.rf
    · rw [if_neg z]; exact (PS.drops G hq).tr (PS.u (by omega)) (Nat.le_refl _)
  | some v =>
    obtain ⟨C, k, x⟩ := v
    unfold stepV
    dsimp only
    by_cases z : f (968 + q) = 0
    · rw [if_pos z]; exact (PS.drops G hq).tr (PS.u (by omega)) (Nat.le_refl _)
    · rw [if_neg z]; exact PS.enters G hB hq (wayG_ok hw hG)
theorem PS.actb (G : GoodF W cn f) (hB : BkGood bk cn) (hq : q < cn.c) : PS 999 f (actB bk but cn f q) := by
  have h8 := G.b.2.1
  have h60 := G.b.2.2.1
  unfold actB
  by_cases e1 : f (976 + q) = 1
  · rw [if_pos e1]
    obtain ⟨w, hw, ew⟩ := G.c.it1 q hq e1
    have ec : (f (984 + q)).toNatClampNeg = w := by rw [ew, nI_clamp (by omega)]
    rw [ec]
    by_cases hG : GoalN (bk.wC w) (besK (bk.wK w)) (spN f q)
    · rw [pick_t hG]; exact PS.works G hB hq hw
    · rw [pick_f hG]; exact (PS.step G hB hq hG).mono (by omega)
  · rw [if_neg e1]
    by_cases e2 : f (976 + q) = 2
    · rw [if_pos e2]
      by_cases hG : GoalN (bk.cH q) 0 (spN f q)
      · rw [pick_t hG]; exact (PS.gives (by omega)).mono (by omega)
      · rw [pick_f hG]; exact (PS.step G hB hq hG).mono (by omega)
    · rw [if_neg e2]; exact PS.rf.mono (by omega)
theorem PS.acts (G : GoodF W cn f) (hB : BkGood bk cn) (hBO : BO cn but f) (hq : q < cn.c) (hnb : ¬ but 1 q) : PS 999 f (actsF bk but cn f q) := by
  have h8 := G.b.2.1
  unfold actsF
  by_cases e : f (976 + q) = 3
  · rw [if_pos e]; exact (PS.gives (by omega)).mono (by omega)
  · rw [if_neg e]
    obtain ⟨g1, g2⟩ := acts1_good (bk := bk) G hBO hq hnb
    refine PS.tr (d := 0) ?_ (PS.actb g1 hB hq) (by omega)
    unfold acts1
    by_cases z : f (976 + q) = 0 ∧ 4 * f (968 + q) < nI (bk.cU q)
    · rw [if_pos z]; exact PS.u (by omega)
    · rw [if_neg z]; exact PS.rf
theorem PS.offers (G : GoodF W cn f) (hBO : BO cn but f) : ∀ n, n ≤ cn.w → PS 0 f (offersF bk but cn f n)
  | 0, _ => PS.rf
  | n + 1, h => by
    have h8 := G.b.2.1
    have h60 := G.b.2.2.1
    have ih := PS.offers G hBO n (by omega)
    refine ih.tr (e := 0) ?_ (Nat.le_refl _)
    show PS 0 _ (offer1 bk but cn (offersF bk but cn f n) n)
    unfold offer1
    by_cases e : offersF bk but cn f n (1504 + n) = 0
    · rw [if_pos e]
      refine PS.eq fun i hi => takeF_o (fun q L hb => ?_) (by omega) (by omega)
      have := bestF_ok hb
      omega
    · rw [if_neg e]; exact PS.rf
theorem PS.turns (G : GoodF W cn f) (hB : BkGood bk cn) (hBO : BO cn but f) : ∀ n, n ≤ cn.c → PS (999 * n) f (turnsF bk but cn f n)
  | 0, _ => PS.rf
  | n + 1, h => by
    have ih := PS.turns G hB hBO n (by omega)
    obtain ⟨g1, g2⟩ := turnsF_good G hB hBO n (by omega)
    unfold turnsF
    by_cases e : but 1 n
    · rw [pick_t e]; exact ih.mono (by omega)
    · rw [pick_f e]; exact ih.tr (PS.acts g1 hB g2 (by omega) e) (by omega)
theorem grow_at (f : Nat → Int32) : ∀ n i, i < n → growF f n (256 + i) = if f (192 + i) = 1 then f (256 + i) + growA f i else f (256 + i)
  | 0, i, h => by omega
  | n + 1, i, h => by
    unfold growF
    by_cases e : i = n
    · subst e
      by_cases e1 : f (192 + i) = 1
      · rw [if_pos e1, if_pos e1, pk_us]
      · rw [if_neg e1, if_neg e1]; exact growF_o (by omega)
    · have ih := grow_at f n i (by omega)
      by_cases e1 : f (192 + n) = 1
      · rw [if_pos e1, pk_un (by omega)]; exact ih
      · rw [if_neg e1]; exact ih
theorem PS.ends : PS 2 f (endsF bk cn f) := by
  unfold endsF
  have h1 : PS 0 f (spreadF bk cn (drownF f 64)) := PS.eq fun i hi => by rw [spreadF_o (by omega) (by omega), drownF_o (Nat.le_refl _) (by omega) (by omega)]
  refine h1.tr (e := 2) ?_ (Nat.le_refl _)
  generalize spreadF bk cn (drownF f 64) = g
  intro K P i hi
  obtain ⟨t, q1, q2⟩ := P i hi
  by_cases e : 256 ≤ i ∧ i < 320
  · obtain ⟨c, rfl⟩ : ∃ c, i = 256 + c := ⟨i - 256, by omega⟩
    rw [grow_at g 64 c (by omega)]
    by_cases e1 : g (192 + c) = 1
    · rw [if_pos e1, q2]
      unfold growA
      by_cases e2 : 50 ≤ g (64 + c) ∧ g (64 + c) ≤ 300
      · rw [if_pos e2]; exact ⟨t + 2, by omega, nI_add t 2⟩
      · rw [if_neg e2]; exact ⟨t + 1, by omega, nI_add t 1⟩
    · rw [if_neg e1]; exact ⟨t, by omega, q2⟩
  · rw [growF_o e]; exact ⟨t, by omega, q2⟩
theorem PS.sw {w : Nat → Int32} : PS 0 f (setW f w) := PS.eq fun i hi => setW_o (by omega)
theorem PS.hour (G : GoodF W cn f) (hB : BkGood bk cn) (hBO : BO cn but f) (hW : W + 190080 < 2 ^ 31) : PS 7994 f (hourF bk but cn f) := by
  have h8 := G.b.2.1
  obtain ⟨g1, g2⟩ := skyF_good G hB hBO hW
  obtain ⟨g3, g4⟩ := dryF_good2 g1 g2
  obtain ⟨g5, g6⟩ := offersF_good (bk := bk) g3 g4 cn.w (Nat.le_refl _)
  have h0 : PS 0 f (nowF f) := PS.u (by omega)
  have t1 := PS.offers (bk := bk) g3 g4 cn.w (Nat.le_refl _)
  have t2 := PS.turns g5 hB g6 cn.c (Nat.le_refl _)
  have t3 : PS 0 f (dryF (skyF bk but cn f)) := h0.tr (e := 0) (PS.tr (d := 0) (e := 0) PS.sw (PS.tr (d := 0) (e := 0) PS.sw PS.sw (Nat.le_refl _)) (Nat.le_refl _)) (Nat.le_refl _)
  have h1 : PS (999 * cn.c) f (workF bk but cn f) := (t3.tr t1 (Nat.le_refl _)).tr t2 (by omega)
  unfold hourF dayF
  by_cases e : am_rem (workF bk but cn f 1624) 24 = 0
  · rw [if_pos e]
    exact h1.tr PS.ends (by omega)
  · rw [if_neg e]; exact h1.mono (by omega)
theorem PS.does (hcb : CnB cn) (hr : RowOK cn wh a bb c) : PS 1 f (doesF bk but cn wh a bb c f) := by
  have h8 := hcb.2.1
  have h60 := hcb.2.2.1
  have z1 : ∀ {g : Nat → Int32}, PS 0 f g → PS 1 f g := fun h => h.mono (by omega)
  unfold doesF
  by_cases e0 : wh = 0
  · have := hr.l0 e0
    rw [if_pos e0]; exact z1 ((PS.u (by omega)).tr (PS.u (by omega)) (Nat.le_refl _))
  rw [if_neg e0]
  by_cases e1 : wh = 1
  · have := hr.l1 e1
    rw [if_pos e1]; exact z1 (PS.u (by omega))
  rw [if_neg e1]
  by_cases e2 : wh = 2
  · rw [if_pos e2]; exact z1 (PS.u (by omega))
  rw [if_neg e2]
  by_cases e3 : wh = 3
  · have := hr.l3 e3
    rw [if_pos e3]; exact z1 ((PS.u (by omega)).tr ((PS.u (by omega)).tr ((PS.u (by omega)).tr (PS.u (by omega)) (Nat.le_refl _)) (Nat.le_refl _)) (Nat.le_refl _))
  rw [if_neg e3]
  by_cases e4 : wh = 4
  · have := hr.l4 e4
    rw [if_pos e4]
    unfold chargedF
    by_cases e : but 1 a ∨ ¬ f (976 + a) = 5
    · rw [pick_t e]; exact z1 PS.rf
    · rw [pick_f e]; exact z1 ((PS.u (by omega)).tr (PS.u (by omega)) (Nat.le_refl _))
  rw [if_neg e4]
  by_cases e5 : wh = 5
  · have := hr.l5 e5
    rw [if_pos e5]; exact z1 ((PS.u (by omega)).tr ((PS.u (by omega)).tr (PS.u (by omega)) (Nat.le_refl _)) (Nat.le_refl _))
  rw [if_neg e5]
  by_cases e6 : wh = 6
  · rw [if_pos e6]; exact z1 (PS.u (by omega))
  rw [if_neg e6]
  by_cases e7 : wh = 7
  · rw [if_pos e7]; exact z1 (PS.u (by omega))
  rw [if_neg e7]
  by_cases e8 : wh = 8
  · have := hr.l8 e8
    rw [if_pos e8]
    by_cases e : f (192 + a) = 0
    · rw [if_pos e]
      intro K P i hi
      obtain ⟨t, q1, q2⟩ := P i hi
      by_cases s1 : i = 256 + a
      · subst s1
        exact ⟨0, by omega, by unfold sowF; rw [pk_un (by omega), pk_un (by omega), pk_un (by omega), pk_us]; rfl⟩
      by_cases s2 : i = 384 + a
      · subst s2
        exact ⟨0, by omega, by unfold sowF; rw [pk_un (by omega), pk_us]; rfl⟩
      by_cases s3 : i = 448 + a
      · subst s3
        exact ⟨0, by omega, by unfold sowF; rw [pk_us]; rfl⟩
      rw [sowF_o (by omega) (by omega) (by omega) (by omega) (by omega) (by omega)]
      exact ⟨t, by omega, q2⟩
    · rw [if_neg e]; exact z1 PS.rf
  rw [if_neg e8]
  by_cases e9 : wh = 9
  · have := hr.l9 e9
    rw [if_pos e9]; exact z1 (PS.u (by omega))
  rw [if_neg e9]
  by_cases e10 : wh = 10
  · have := hr.l10 e10
    rw [if_pos e10]; exact PS.seen this.1
  rw [if_neg e10]
  have := hr.l11 (by have := hr.le; omega)
  by_cases e : f (192 + a) = 1
  · rw [if_pos e]; exact z1 (PS.u (by omega))
  · rw [if_neg e]; exact z1 PS.rf
end PL
section PR
variable {bk : Bk} {but : Nat → Nat → Prop} {lg : Lg} {N n h : Nat} {s : St3}
theorem PB.hears (hL : LgOK lg N) (hB : BkGood bk (cnL lg N)) (hN : N ≤ 400) (hh : h ≤ 719) {m K : Nat} (S : RS1 but lg m h s.1) (P : PB K s.1) : ∀ j, m + j ≤ N → PB (K + j) (hears bk but lg m j s).1
  | 0, _ => P
  | j + 1, hj => by
    have ih := PB.hears hL hB hN hh S P j (by omega)
    have g := hears_good (bk := bk) (s := s) hL hB hN hh S j (by omega)
    exact PS.does (bk := cut bk (cnL lg (m + j + 1))) g.1.b (hL.row (m + j) (by omega)) _ ih
theorem PB.beg : PB 0 begF := fun i hi => ⟨0, Nat.le_refl _, by rw [begF_at (by omega) (by omega)]; rfl⟩
theorem rep_PB (hL : LgOK lg N) (hB : BkGood bk (cnL lg N)) (hN : N ≤ 400) : ∀ h n, h ≤ 719 → n ≤ N → PB (7994 * h + n) (rep bk but lg h n).1
  | 0, n, hh, hn => by
    have := PB.hears (bk := bk) (h := 0) (s := begS) hL hB hN (by omega) (m := 0) (RS1.beg (but := but)) PB.beg n (by omega)
    rw [show 7994 * 0 + n = 0 + n by omega]
    exact this
  | h + 1, n, hh, hn => by
    have hl := upH_le (lg := lg) (h := h) n
    have ih := rep_PB hL hB hN h (upH lg h n) (by omega) (by omega)
    have g := rep_good (but := but) hL hB hN h (upH lg h n) (by omega) (by omega)
    have h1 := PS.hour (but := but) g.1 (hB.cut (cnL_le' (show upH lg h n ≤ N by omega))) g.2.1 (by omega) _ ih
    have h2 := PB.hears hL hB hN hh (RS1.hour hL hB (by omega) hN hh g) h1 (n - upH lg h n) (by omega)
    rw [show 7994 * (h + 1) + n = 7994 * h + upH lg h n + 7994 + (n - upH lg h n) by omega]
    exact h2
end PR
