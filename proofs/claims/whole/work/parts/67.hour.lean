/-! ===== an hour: both sides ===== -/
def nowF (f : Nat → Int32) : Nat → Int32 := upd f 1624 (f 1624 + 1)
noncomputable def skyF (bk : Bk) (but : Nat → Nat → Prop) (cn : Cn) (f : Nat → Int32) : Nat → Int32 := flowF (rainF bk but cn (nowF f))
noncomputable def turnsF (bk : Bk) (but : Nat → Nat → Prop) (cn : Cn) (f : Nat → Int32) : Nat → Nat → Int32
  | 0 => f
  | n + 1 => pick (but 1 n) (turnsF bk but cn f n) (actsF bk but cn (turnsF bk but cn f n) n)
def dayF (bk : Bk) (cn : Cn) (f g : Nat → Int32) : Nat → Int32 := if am_rem (f 1624) 24 = 0 then g else f
noncomputable def workF (bk : Bk) (but : Nat → Nat → Prop) (cn : Cn) (f : Nat → Int32) : Nat → Int32 := turnsF bk but cn (offersF bk but cn (dryF (skyF bk but cn f)) cn.w) cn.c
noncomputable def hourF (bk : Bk) (but : Nat → Nat → Prop) (cn : Cn) (f : Nat → Int32) : Nat → Int32 := dayF bk cn (workF bk but cn f) (endsF bk cn (workF bk but cn f))
noncomputable def hourE (bk : Bk) (but : Nat → Nat → Prop) (cn : Cn) (f : Nat → Int32) (fe : Int64) : Int64 := fe + rainE bk but cn (nowF f)
noncomputable def hourL (bk : Bk) (but : Nat → Nat → Prop) (cn : Cn) (f : Nat → Int32) (lo : Int64) : Int64 := lo + dryE (skyF bk but cn f)
section HR
variable {M M' : am_I} {N N' : am_N} {b : Nat} {bk : Bk} {cn full : Cn} {but : Nat → Nat → Prop} {f f' g : Nat → Int32} {fe lo : Int64} {W q c w goal : Nat} {post : am_I → am_N → Prop} {postI : Int32 → am_I → am_N → Prop} {x : Int32}
theorem GoodF.putS (G : GoodF W cn f) (hf : ∀ i, i ≠ 1624 → f' i = f i) : GoodF W cn f' := by
  refine ⟨?_, ?_, ?_, ?_, ?_, ?_⟩
  · exact G.b
  · exact G.W
  · exact G.g.cg (fun i h1 h2 => hf i (by omega)) (hf _ (by omega))
  · exact G.p.cg (fun i h1 h2 => hf i (by omega)) (hf _ (by omega))
  · exact G.c.cg G.b.2.1 (fun i h1 h2 => hf i (by omega))
  · exact G.n.cg (fun i h1 h2 => hf i (by omega))
theorem nowF_good (G : GoodF W cn f) : GoodF W cn (nowF f) := G.putS (fun i hi => pk_un hi)
theorem BO.wet {w : Nat → Int32} (h8 : cn.c ≤ 8) (h : BO cn but f) : BO cn but (setW f w) := fun q hq hb => by rw [setW_o (by omega)]; exact h q hq hb
theorem skyF_good (G : GoodF W cn f) (hB : BkGood bk cn) (hBO : BO cn but f) (hW : W + 190080 < 2 ^ 31) : GoodF (W + 190080) cn (skyF bk but cn f) ∧ BO cn but (skyF bk but cn f) := by
  have h8 := G.b.2.1
  refine ⟨flowF_good (rainF_good (nowF_good G) hB hW), BO.wet h8 (BO.wet h8 (fun q hq hb => ?_))⟩
  unfold nowF
  rw [pk_un (by omega)]
  exact hBO q hq hb
theorem turnsF_good (G : GoodF W cn f) (hB : BkGood bk cn) (hBO : BO cn but f) : ∀ n, n ≤ cn.c → GoodF W cn (turnsF bk but cn f n) ∧ BO cn but (turnsF bk but cn f n)
  | 0, _ => ⟨G, hBO⟩
  | n + 1, hn => by
    obtain ⟨g1, g2⟩ := turnsF_good G hB hBO n (by omega)
    unfold turnsF
    by_cases e : but 1 n
    · rw [pick_t e]; exact ⟨g1, g2⟩
    · rw [pick_f e]; exact actsF_good g1 hB g2 (by omega) e
theorem dryF_good2 (G : GoodF W cn f) (hBO : BO cn but f) : GoodF W cn (dryF f) ∧ BO cn but (dryF f) := ⟨dryF_good G, BO.wet G.b.2.1 hBO⟩
theorem workF_good (G : GoodF W cn f) (hB : BkGood bk cn) (hBO : BO cn but f) (hW : W + 190080 < 2 ^ 31) : GoodF (W + 190080) cn (workF bk but cn f) ∧ BO cn but (workF bk but cn f) := by
  obtain ⟨g1, g2⟩ := skyF_good G hB hBO hW
  obtain ⟨g3, g4⟩ := dryF_good2 g1 g2
  obtain ⟨g5, g6⟩ := offersF_good (bk := bk) g3 g4 cn.w (Nat.le_refl _)
  exact turnsF_good g5 hB g6 cn.c (Nat.le_refl _)
theorem hourF_good (G : GoodF W cn f) (hB : BkGood bk cn) (hBO : BO cn but f) (hW : W + 190080 < 2 ^ 31) : GoodF (W + 190080) cn (hourF bk but cn f) ∧ BO cn but (hourF bk but cn f) := by
  obtain ⟨g1, g2⟩ := workF_good G hB hBO hW
  unfold hourF dayF
  by_cases e : am_rem (workF bk but cn f 1624) 24 = 0
  · rw [if_pos e]; exact ⟨endsF_good g1, endsF_BO g1.b.2.1 g2⟩
  · rw [if_neg e]; exact ⟨g1, g2⟩
/-- the reference -/
theorem r_hour (S : StM bk cn but M N f fe lo) (G : GoodF W cn f) (hB : BkGood bk cn) (hBO : BO cn but f) (hW : W + 190080 < 2 ^ 31) (h : ∀ M' N', FrM M N M' N' → StM bk cn but M' N' (hourF bk but cn f) (hourE bk but cn f fe) (hourL bk but cn f lo) → post M' N') : w_X12_hour M N post := by
  have h8 := G.b.2.1
  unfold w_X12_hour
  rw [S.f]
  have S0 := S.u 1624 (f 1624 + 1)
  obtain ⟨g1, g2⟩ := skyF_good G hB hBO hW
  obtain ⟨g3, g4⟩ := dryF_good2 g1 g2
  obtain ⟨g5, g6⟩ := offersF_good (bk := bk) g3 g4 cn.w (Nat.le_refl _)
  refine r_rains S0 G.b (nowF_good G).n (fun M1 N1 F1 S1 => r_flows S1 (fun M2 N2 F2 S2 => r_dries S2 (fun M3 N3 F3 S3 => r_offers S3 g3 hB g4 (fun M4 N4 F4 S4 => ⟨cn.c + 1, ?_⟩))))
  have F04 : FrM M N M4 N4 := FrM.u.tr (F1.tr (F2.tr (F3.tr F4)))
  have key : ∀ (j q : Nat), q + j = cn.c → ∀ M5 N5, FrM M N M5 N5 → StM bk cn but M5 N5 (turnsF bk but cn (offersF bk but cn (dryF (skyF bk but cn f)) cn.w) q) (hourE bk but cn f fe) (hourL bk but cn f lo) → w_X12_hour_p30 post (j + 1) (nI q) M5 N5 := by
    intro j
    induction j with
    | zero =>
      intro q hq M5 N5 F5 S5
      have hq' : q = cn.c := by omega
      subst hq'
      obtain ⟨g7, g8⟩ := turnsF_good g5 hB g6 cn.c (Nat.le_refl _)
      rw [w_X12_hour_p30_s]
      unfold w_X12_hour_p30_b
      rw [S5.f, g7.n.c]
      have h' : ∀ M' N', FrM M N M' N' → StM bk cn but M' N' (dayF bk cn (turnsF bk but cn (offersF bk but cn (dryF (skyF bk but cn f)) cn.w) cn.c) (endsF bk cn (turnsF bk but cn (offersF bk but cn (dryF (skyF bk but cn f)) cn.w) cn.c))) (hourE bk but cn f fe) (hourL bk but cn f lo) → post M' N' := h
      unfold dayF at h'
      refine ⟨fun _ => ⟨fun z => ?_, fun z => ?_⟩, fun z => absurd (nI_le (Nat.le_refl _) (by omega)) z⟩
      · rw [if_neg z] at h'
        exact h' _ _ F5 S5
      · rw [if_pos z] at h'
        exact r_ends S5 g7 (fun M6 N6 F6 S6 => h' _ _ (F5.tr F6) S6)
    | succ j ih =>
      intro q hq M5 N5 F5 S5
      obtain ⟨g7, g8⟩ := turnsF_good g5 hB g6 q (by omega)
      have ih' := ih (q + 1) (by omega)
      unfold turnsF at ih'
      rw [w_X12_hour_p30_s]
      unfold w_X12_hour_p30_b
      rw [S5.f, g7.n.c]
      refine ⟨fun z => absurd z (nI_ge (by omega) (by omega)), fun _ => eq_X12_isBut.mpr ?_⟩
      have hb : (M5 (3, 0, 0) 30 = 1 ∧ M5 (3, 0, 0) 31 = nI q) ↔ but 1 q := S5.but 1 q (by omega) (by omega)
      rw [nI_1]
      by_cases e : but 1 q
      · rw [am_bt (hb.mpr e)]
        rw [pick_t e] at ih'
        exact ⟨fun _ => ih' _ _ F5 S5, fun z => absurd z (by decide)⟩
      · rw [am_bf (fun z => e (hb.mp z))]
        rw [pick_f e] at ih'
        exact ⟨fun z => absurd rfl z, fun _ => r_acts S5 g7 hB g8 (by omega) e (fun M6 N6 F6 S6 => ih' _ _ (F5.tr F6) S6)⟩
  exact key cn.c 0 (by omega) M4 N4 F04 S4
/-- the class -/
theorem RelW.now (R : RelW b cn but M N f fe lo) (hcb : CnB cn) (x : Int32) : RelW b cn but (am_u M (1, b, 0) 8 x) N (upd f 1624 x) fe lo := by
  refine R.putS hcb (fun i h22 h0 => am_u_o M 8 x (cell_ne h0)) (fun i hi => pk_un (by omega)) ?_
  rw [am_u_c, am_u_o M 8 x (cell_ne (show 22 ≠ 0 by omega))]
  refine ⟨fun i hi => ?_, ?_, ?_, ?_, fun k i hk hi => ?_⟩
  · rw [pk_un (by omega)]; exact R.s.set i hi
  · rw [pk_us, pk_us]
  · rw [pk_un (by decide), pk_un (by decide)]; exact R.s.kt
  · rw [pk_un (by decide), pk_un (by decide)]; exact R.s.lt
  · rw [pk_un (by decide), pk_un (by decide)]; exact R.s.but k i hk hi
theorem c_passHour (S : StC b bk cn full but M N f fe lo) (G : GoodF W cn f) (hB : BkGood bk cn) (hBO : BO cn but f) (hW : W + 190080 < 2 ^ 31) (hun : ∀ r, cn.r ≤ r → r < full.r → ¬ M (2, 1, 1) (r * 3) ≤ f 1624 + 1) (h : ∀ M' N', Fr b M N M' N' → StC b bk cn full but M' N' (hourF bk but cn f) (hourE bk but cn f fe) (hourL bk but cn f lo) → post M' N') : w_X10_passHour b M N post := by
  have h8 := G.b.2.1
  obtain ⟨g1, g2⟩ := skyF_good G hB hBO hW
  obtain ⟨g3, g4⟩ := dryF_good2 g1 g2
  obtain ⟨g5, g6⟩ := offersF_good (bk := bk) g3 g4 cn.w (Nat.le_refl _)
  have F0 : Fr b M N (am_u M (1, b, 0) 8 (f 1624 + 1)) N := Fr.w (by decide) (by decide) (by decide) _
  have S0 : StC b bk cn full but (am_u M (1, b, 0) 8 (f 1624 + 1)) N (nowF f) fe lo := S.nx F0 (S.w.now G.b _)
  have e0 : nowF f 1624 = f 1624 + 1 := by unfold nowF; rw [pk_us]
  have main : ∀ out : Int32, (∀ r, r < 64 → (nI r = out ↔ but 0 r)) → w_X10_passHour_p37 b post out (f 1624 + 1) (am_u M (1, b, 0) 8 (f 1624 + 1)) N := by
    intro out hout
    unfold w_X10_passHour_p37
    rw [← e0]
    refine c_rain S0 G.b hB hout (fun r h1 h2 => ?_) (fun M1 N1 F1 S1 => c_flow S1 G.b (fun M2 N2 F2 S2 => c_dry S2 g1 (fun M3 N3 F3 S3 => c_makeOffers S3 g3 hB g4 (fun M4 N4 F4 S4 => ⟨9, ?_⟩))))
    · rw [am_u_o _ _ _ (by simp), e0]
      exact hun r h1 h2
    have F04 : Fr b M N M4 N4 := F0.tr (F1.tr (F2.tr (F3.tr F4)))
    have key : ∀ (j q : Nat), q + j = 8 → ∀ M5 N5, Fr b M N M5 N5 → StC b bk cn full but M5 N5 (turnsF bk but cn (offersF bk but cn (dryF (skyF bk but cn f)) cn.w) (min q cn.c)) (hourE bk but cn f fe) (hourL bk but cn f lo) → w_X10_passHour_p63 b post (j + 1) (nI q) M5 N5 := by
      intro j
      induction j with
      | zero =>
        intro q hq M5 N5 F5 S5
        rw [show min q cn.c = cn.c by omega] at S5
        obtain ⟨g7, g8⟩ := turnsF_good g5 hB g6 cn.c (Nat.le_refl _)
        rw [w_X10_passHour_p63_s]
        unfold w_X10_passHour_p63_b
        have h' : ∀ M' N', Fr b M N M' N' → StC b bk cn full but M' N' (dayF bk cn (turnsF bk but cn (offersF bk but cn (dryF (skyF bk but cn f)) cn.w) cn.c) (endsF bk cn (turnsF bk but cn (offersF bk but cn (dryF (skyF bk but cn f)) cn.w) cn.c))) (hourE bk but cn f fe) (hourL bk but cn f lo) → post M' N' := h
        unfold dayF at h'
        rw [S5.w.s.now]
        refine ⟨fun _ => ⟨fun z => ?_, fun z => ?_⟩, fun z => absurd (nI_le (a := 8) (by omega) (by omega)) z⟩
        · rw [if_neg z] at h'
          exact h' _ _ F5 S5
        · rw [if_pos z] at h'
          exact c_ends S5 g7 (fun M6 N6 F6 S6 => h' _ _ (F5.tr F6) S6)
      | succ j ih =>
        intro q hq M5 N5 F5 S5
        have ih' := ih (q + 1) (by omega)
        rw [w_X10_passHour_p63_s]
        unfold w_X10_passHour_p63_b
        rw [nI_1]
        refine ⟨fun z => absurd z (nI_ge (b := 8) (by omega) (by omega)), fun _ => ?_⟩
        by_cases hqc : q < cn.c
        · rw [show min q cn.c = q by omega] at S5
          rw [show min (q + 1) cn.c = q + 1 by omega] at ih'
          obtain ⟨g7, g8⟩ := turnsF_good g5 hB g6 q (by omega)
          unfold turnsF at ih'
          by_cases e : but 1 q
          · rw [pick_t e] at ih'
            exact c_takeTurn0 S5 (by omega) (Or.inr e) (ih' _ _ F5 S5)
          · rw [pick_f e] at ih'
            exact c_takeTurn S5 g7 hB g8 hqc e (fun M6 N6 F6 S6 => ih' _ _ (F5.tr F6) S6)
        · rw [show min (q + 1) cn.c = min q cn.c by omega] at ih'
          exact c_takeTurn0 S5 (by omega) (Or.inl (by omega)) (ih' _ _ F5 S5)
    refine key 8 0 (by omega) M4 N4 F04 ?_
    rw [show min 0 cn.c = 0 by omega]
    exact S4
  have hb := S.w.s.but
  unfold w_X10_passHour
  rw [am_u_c, pk_us, pk_un (show 12 ≠ 8 by omega), pk_un (show 13 ≠ 8 by omega), S.w.s.now]
  refine ⟨fun z => main (-1) (fun r hr => ?_), fun z => main _ (fun r hr => ?_)⟩
  · rw [← hb 0 r (by omega) hr]
    exact ⟨fun y => absurd y (nI_ne_m1 (by omega)), fun y => absurd y.1 z⟩
  · rw [← hb 0 r (by omega) hr]
    exact ⟨fun y => ⟨z, y.symm⟩, fun y => y.2.symm⟩
end HR
