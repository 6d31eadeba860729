/-! ===== the end of a day: the class ===== -/
section EC
variable {M M' : am_I} {N N' : am_N} {b : Nat} {bk : Bk} {cn full : Cn} {but : Nat → Nat → Prop} {f f' g : Nat → Int32} {fe lo : Int64} {W q c w goal : Nat} {post : am_I → am_N → Prop} {postI : Int32 → am_I → am_N → Prop} {x : Int32}
theorem RP.lot {st il : Int64} {sz se go sw ba sh : Nat → Int32} {nl : Int32} (R : RP st il sz se go sw ba sh nl f) (x : Int32) : RP st il sz se go sw ba sh x (upd f 1625 x) := by
  refine ⟨?_, ?_, ?_, ?_, ?_, ?_, ?_⟩
  · exact fun c hc => by rw [pk_un (by omega)]; exact R.st c hc
  · exact fun c hc => by rw [pk_un (by omega), pk_un (by omega)]; exact R.il c hc
  · exact fun c hc => by rw [pk_un (by omega), pk_un (by omega), pk_un (by omega), pk_un (by omega)]; exact R.sz c hc
  · exact fun c hc h k hk => by rw [pk_un (by omega)] at h; rw [pk_un (by omega)]; exact R.sh c hc h k hk
  · exact fun c hc => by rw [pk_un (by omega)]; exact R.sw c hc
  · exact fun c hc => by rw [pk_un (by omega), pk_un (by omega)]; exact R.ba c hc
  · exact pk_us.symm
theorem RP.sick {st il : Int64} {sz se go sw ba sh : Nat → Int32} {nl : Int32} (R : RP st il sz se go sw ba sh nl f) (hc : c < 64) (h1 : f (192 + c) = 1) : RP st (il ||| am_bit (nI c)) sz se go sw ba sh nl (upd f (320 + c) 1) := by
  refine ⟨?_, ?_, ?_, ?_, ?_, ?_, ?_⟩
  · exact fun c hc => by rw [pk_un (by omega)]; exact R.st c hc
  · exact fun i hi => by
      rw [tb_set hc hi, pk_un (show 192 + i ≠ 320 + c by omega)]
      by_cases e : i = c
      · subst e; rw [if_pos rfl, pk_us]; exact ⟨fun _ => ⟨h1, rfl⟩, fun _ => rfl⟩
      · rw [if_neg e, pk_un (by omega)]; exact R.il i hi
  · exact fun c hc => by rw [pk_un (by omega), pk_un (by omega), pk_un (by omega), pk_un (by omega)]; exact R.sz c hc
  · exact fun c hc h k hk => by rw [pk_un (by omega)] at h; rw [pk_un (by omega)]; exact R.sh c hc h k hk
  · exact fun c hc => by rw [pk_un (by omega)]; exact R.sw c hc
  · exact fun c hc => by rw [pk_un (by omega), pk_un (by omega)]; exact R.ba c hc
  · exact by rw [pk_un (by omega)]; exact R.nl
theorem RP.well {st il : Int64} {sz se go sw ba sh : Nat → Int32} {nl : Int32} (R : RP st il sz se go sw ba sh nl f) (hc : c < 64) : RP st (il &&& (am_bit (nI c) ^^^ (-1))) sz se go sw ba sh nl (upd f (320 + c) 0) := by
  refine ⟨?_, ?_, ?_, ?_, ?_, ?_, ?_⟩
  · exact fun c hc => by rw [pk_un (by omega)]; exact R.st c hc
  · exact fun i hi => by
      rw [tb_clr hc hi, pk_un (show 192 + i ≠ 320 + c by omega)]
      by_cases e : i = c
      · subst e; rw [if_pos rfl, pk_us]; exact ⟨fun z => absurd z (by decide), fun z => absurd z.2 (by decide)⟩
      · rw [if_neg e, pk_un (by omega)]; exact R.il i hi
  · exact fun c hc => by rw [pk_un (by omega), pk_un (by omega), pk_un (by omega), pk_un (by omega)]; exact R.sz c hc
  · exact fun c hc h k hk => by rw [pk_un (by omega)] at h; rw [pk_un (by omega)]; exact R.sh c hc h k hk
  · exact fun c hc => by rw [pk_un (by omega)]; exact R.sw c hc
  · exact fun c hc => by rw [pk_un (by omega), pk_un (by omega)]; exact R.ba c hc
  · exact by rw [pk_un (by omega)]; exact R.nl
theorem RP.size {st il : Int64} {sz se go sw ba sh : Nat → Int32} {nl : Int32} (R : RP st il sz se go sw ba sh nl f) (hc : c < 64) : RP st il (upd sz c x) se go sw ba sh nl (upd f (256 + c) x) := by
  refine ⟨?_, ?_, ?_, ?_, ?_, ?_, ?_⟩
  · exact fun c hc => by rw [pk_un (by omega)]; exact R.st c hc
  · exact fun c hc => by rw [pk_un (by omega), pk_un (by omega)]; exact R.il c hc
  · exact fun i hi => by
      rw [pk_un (show 192 + i ≠ 256 + c by omega), pk_un (show 384 + i ≠ 256 + c by omega), pk_un (show 448 + i ≠ 256 + c by omega)]
      intro z
      refine ⟨?_, (R.sz i hi z).2⟩
      by_cases e : i = c
      · subst e; rw [pk_us, pk_us]
      · rw [pk_un e, pk_un (by omega)]; exact (R.sz i hi z).1
  · exact fun c hc h k hk => by rw [pk_un (by omega)] at h; rw [pk_un (by omega)]; exact R.sh c hc h k hk
  · exact fun c hc => by rw [pk_un (by omega)]; exact R.sw c hc
  · exact fun c hc => by rw [pk_un (by omega), pk_un (by omega)]; exact R.ba c hc
  · exact by rw [pk_un (by omega)]; exact R.nl
theorem RelW.lot (R : RelW b cn but M N f fe lo) (hcb : CnB cn) (x : Int32) : RelW b cn but (am_u M (1, b, 6) 10 x) N (upd f 1625 x) fe lo := by
  refine RelW.putP hcb R (fun i hi => am_u_o M 10 x (cell_ne (by omega))) (fun _ _ => rfl) (fun i hi h5 => pk_un h5) ?_
  rw [am_u_c, pk_us, am_u_o M 10 x (cell_ne (show 7 ≠ 6 by omega)), am_u_o M 10 x (cell_ne (show 8 ≠ 6 by omega)), am_u_o M 10 x (cell_ne (show 9 ≠ 6 by omega)), am_u_o M 10 x (cell_ne (show 10 ≠ 6 by omega)), am_u_o M 10 x (cell_ne (show 11 ≠ 6 by omega)), am_u_o M 10 x (cell_ne (show 12 ≠ 6 by omega))]
  exact R.p.lot x
theorem RelW.sick (R : RelW b cn but M N f fe lo) (hcb : CnB cn) (hc : c < 64) (h1 : f (192 + c) = 1) : RelW b cn but M (am_ul N (1, b, 6) 9 (N (1, b, 6) 9 ||| am_bit (nI c))) (upd f (320 + c) 1) fe lo := by
  refine RelW.putP hcb R (fun _ _ => rfl) (fun i hi => am_ul_o N 9 _ (cell_ne (by omega))) (fun i hi h5 => pk_un (by omega)) ?_
  rw [am_ul_at, am_ul_c, pk_uLn (by decide)]
  exact R.p.sick hc h1
theorem RelW.well (R : RelW b cn but M N f fe lo) (hcb : CnB cn) (hc : c < 64) : RelW b cn but M (am_ul N (1, b, 6) 9 (N (1, b, 6) 9 &&& (am_bit (nI c) ^^^ (-1)))) (upd f (320 + c) 0) fe lo := by
  refine RelW.putP hcb R (fun _ _ => rfl) (fun i hi => am_ul_o N 9 _ (cell_ne (by omega))) (fun i hi h5 => pk_un (by omega)) ?_
  rw [am_ul_at, am_ul_c, pk_uLn (by decide)]
  exact R.p.well hc
theorem RelW.size (R : RelW b cn but M N f fe lo) (hcb : CnB cn) (hc : c < 64) (x : Int32) : RelW b cn but (am_u M (1, b, 7) c x) N (upd f (256 + c) x) fe lo := by
  refine RelW.putP hcb R (fun i hi => am_u_o M c x (cell_ne (by omega))) (fun _ _ => rfl) (fun i hi h5 => pk_un (by omega)) ?_
  rw [am_u_c, am_u_o M c x (cell_ne (show 8 ≠ 7 by omega)), am_u_o M c x (cell_ne (show 9 ≠ 7 by omega)), am_u_o M c x (cell_ne (show 10 ≠ 7 by omega)), am_u_o M c x (cell_ne (show 11 ≠ 7 by omega)), am_u_o M c x (cell_ne (show 12 ≠ 7 by omega)), am_u_o M c x (cell_ne (show 6 ≠ 7 by omega))]
  exact R.p.size hc
theorem c_drown (S : StC b bk cn full but M N f fe lo) (hcb : CnB cn) (h : ∀ M' N', Fr b M N M' N' → StC b bk cn full but M' N' (drownF f 64) fe lo → post M' N') : w_X6_drown b M N post := by
  unfold w_X6_drown
  refine ⟨65, ?_⟩
  have key : ∀ (j c : Nat), c + j = 64 → ∀ M1 N1, Fr b M N M1 N1 → StC b bk cn full but M1 N1 (drownF f c) fe lo → w_X6_drown_p2 b post (j + 1) (nI c) M1 N1 := by
    intro j
    induction j with
    | zero =>
      intro c hc M1 N1 F1 S1
      have hc' : c = 64 := by omega
      subst hc'
      rw [w_X6_drown_p2_s]
      unfold w_X6_drown_p2_b
      exact ⟨fun _ => h _ _ F1 S1, fun z => absurd (nI_le (a := 64) (b := 64) (by omega) (by omega)) z⟩
    | succ j ih =>
      intro c hc M1 N1 F1 S1
      have ih' := ih (c + 1) (by omega)
      unfold drownF at ih'
      rw [w_X6_drown_p2_s]
      unfold w_X6_drown_p2_b
      rw [nI_clamp (show c < 2 ^ 31 by omega), S1.w.g.we c (by omega), nI_1]
      refine ⟨fun z => absurd z (nI_ge (b := 64) (by omega) (by omega)), fun _ => ⟨vp_in_nI (by omega) (by omega), fun z => ?_, fun z => ?_⟩⟩
      · rw [if_pos z] at ih'
        exact ih' _ _ F1 S1
      · rw [if_neg z] at ih'
        exact c_remove S1 hcb (by omega) (fun M2 N2 F2 _ S2 => ih' _ _ (F1.tr F2) S2)
  exact key 64 0 (by omega) M N Fr.rf S
theorem c_drawLot (S : StC b bk cn full but M N f fe lo) (hcb : CnB cn) (hn : f 1633 = nI cn.l) (hnl : nlOK cn f) (hl0 : cn.l ≠ 0) (h : ∀ M' , Fr b M N M' N → StC b bk cn full but M' N (drawF f) fe lo → postI (drawV bk f) M' N) : w_X6_drawLot b (nI cn.l) M N postI := by
  have hl := hcb.2.2.2.1
  have hle := S.k.le.2.2.2.1
  obtain ⟨j, e, hj⟩ := hnl
  have hj' : j < cn.l := by omega
  have ev : drawV bk f = nI (bk.lo j) := by unfold drawV; rw [e, nI_clamp (by omega)]
  unfold w_X6_drawLot
  rw [S.w.p.nl, e]
  refine sp_at (w := 1) (c := 0) S.k.t5 (by omega) (by omega) ?_
  rw [S.k.l j hj', S.w.p.nl, e]
  rw [ev] at h
  unfold drawF at h
  rw [e, hn] at h
  refine ⟨fun z => ?_, fun z => ?_⟩
  · rw [if_neg (i32_nlt.mpr z)] at h
    exact h _ (Fr.u (by decide) _) (S.nx (Fr.u (by decide) _) (S.w.lot hcb _))
  · rw [if_pos (i32_nle.mp z)] at h
    exact h _ (Fr.u (by decide) _) (S.nx (Fr.u (by decide) _) (S.w.lot hcb _))
theorem c_side (hcb : CnB cn) (hg : g 1633 = nI cn.l) (hl0 : cn.l ≠ 0) (hc : c < 64) (hg1 : g (192 + c) = 1) {sk : Int64} (hsk : ∀ n, n < 64 → (tb sk n = true ↔ sickF g n)) {zk : Int32 → Int32 → Int64 → Int32 → am_I → am_N → Prop} {fb : Nat → Int32} (hfb : nlOK cn fb ∧ ∀ i, i ≠ 1625 → ¬ (320 ≤ i ∧ i < 384) → fb i = g i)
    (h : ∀ M' N', Fr b M N M' N' → StC b bk cn full but M' N' (spK bk g c fb 4) fe lo → zk (g 1628) (nI cn.l) sk (nI (c + 1)) M' N') :
    ∀ (j k : Nat), k + j = 4 → ∀ M1 N1, Fr b M N M1 N1 → StC b bk cn full but M1 N1 (spK bk g c fb k) fe lo → w_X6_spread_p54 b post zk (j + 1) (g 1628) (nI cn.l) sk (nI c) (nI k) M1 N1 := by
  have hl := hcb.2.2.2.1
  intro j
  induction j with
  | zero =>
    intro k hk M1 N1 F1 S1
    have hk' : k = 4 := by omega
    subst hk'
    rw [w_X6_spread_p54_s]
    unfold w_X6_spread_p54_b
    rw [nI_1]
    exact ⟨fun _ => h _ _ F1 S1, fun z => absurd (nI_le (a := 4) (b := 4) (by omega) (by omega)) z⟩
  | succ j ih =>
    intro k hk M1 N1 F1 S1
    rw [w_X6_spread_p54_s]
    unfold w_X6_spread_p54_b
    rw [nI_1, nI_1]
    refine ⟨fun z => absurd z (nI_ge (b := 4) (by omega) (by omega)), fun _ => (eq_X11_besN hc (by omega)).mpr ?_⟩
    have ih' := ih (k + 1) (by omega)
    have ek : spK bk g c fb (k + 1) = spN1 bk g c (spK bk g c fb k) (besN c k) := rfl
    rw [ek] at ih'
    have ho := spK_o (bk := bk) (g := g) (f := fb) hc k
    have h33 : spK bk g c fb k 1633 = nI cn.l := by rw [ho.1 _ (by omega) (by omega), hfb.2 _ (by omega) (by omega)]; exact hg
    have h28 : spK bk g c fb k 1628 = g 1628 := by rw [ho.1 _ (by omega) (by omega), hfb.2 _ (by omega) (by omega)]
    have h192 : spK bk g c fb k (192 + c) = 1 := by rw [ho.1 _ (by omega) (by omega), hfb.2 _ (by omega) (by omega)]; exact hg1
    have hnl := spK_nl (bk := bk) (g := g) (c := c) hc hl hfb.1 (by rw [hfb.2 _ (by omega) (by omega)]; exact hg) k
    generalize spK bk g c fb k = fk at S1 ih' h33 h28 h192 hnl
    cases hb : besN c k with
    | none =>
      rw [besV_none hb]
      rw [hb] at ih'
      exact ⟨fun _ => ih' _ _ F1 S1, fun z => absurd (by decide) z⟩
    | some n =>
      have hn := besN_lt c hc k (by omega) n hb
      rw [besV_some hb]
      rw [hb] at ih'
      have ih2 : ∀ M' N', Fr b M N M' N' → StC b bk cn full but M' N' (pick (sickF g n) (spL bk c fk) fk) fe lo → w_X6_spread_p54 b post zk (j + 1) (g 1628) (nI cn.l) sk (nI c) (nI (k + 1)) M' N' := ih'
      refine ⟨fun z => absurd z (nI_pos (by omega)), fun _ => eq_X11_bit.mpr ?_⟩
      rw [bit_and_0 hn]
      refine ⟨fun z => ih2 _ _ F1 ?_, fun z => ?_⟩
      · rw [pick_f (fun y => by rw [(hsk n hn).mpr y] at z; cases z)]
        exact S1
      · have hs : sickF g n := (hsk n hn).mp (by
          cases hh : tb sk n with
          | true => rfl
          | false => exact absurd hh z)
        rw [pick_t hs] at ih2
        unfold spL at ih2
        rw [h28] at ih2
        refine c_drawLot S1 hcb h33 hnl hl0 (fun M2 F2 S2 => ⟨fun y => ?_, fun y => eq_X11_bit.mpr ?_⟩)
        · rw [if_pos y] at ih2
          exact ih2 _ _ (F1.tr F2) S2
        · rw [if_neg y] at ih2
          have F3 : Fr b M2 N1 M2 (am_ul N1 (1, b, 6) 9 (N1 (1, b, 6) 9 ||| am_bit (nI c))) := Fr.ul _
          have h192' : drawF fk (192 + c) = 1 := by unfold drawF; rw [pk_un (by omega)]; exact h192
          exact ih2 _ _ (F1.tr (F2.tr F3)) (S2.nx F3 (S2.w.sick hcb hc h192'))
theorem spC_none (hn : ∀ n, n < 64 → ¬ sickF g n) : ∀ c, c ≤ 64 → spC bk g c = g
  | 0, _ => rfl
  | c + 1, h => by
    have ih := spC_none hn c (by omega)
    have hk : ∀ k, k ≤ 4 → spK bk g c g k = g := by
      intro k
      induction k with
      | zero => exact fun _ => rfl
      | succ k ihk =>
        intro hk
        show spN1 bk g c (spK bk g c g k) (besN c k) = g
        rw [ihk (by omega)]
        cases hb : besN c k with
        | none => rfl
        | some n =>
          show pick _ _ _ = g
          rw [pick_f (hn n (besN_lt c (by omega) k (by omega) n hb))]
    show pick _ _ _ = g
    rw [ih]
    by_cases e : g (192 + c) = 1 ∧ ¬ sickF g c
    · rw [pick_t e, hk 4 (Nat.le_refl _)]
    · rw [pick_f e]
theorem c_spread (S : StC b bk cn full but M N g fe lo) (G : GoodF W cn g) (h : ∀ M' N', Fr b M N M' N' → StC b bk cn full but M' N' (spreadF bk cn g) fe lo → post M' N') : w_X6_spread b (M (1, b, 22) 2) (M (1, b, 0) 11) M N post := by
  have hl := G.b.2.2.2.1
  unfold w_X6_spread
  rw [S.w.s.set 2 (by omega), S.w.s.lt, G.n.l]
  show ∀ zv1 : Int64, zv1 = N (1, b, 6) 9 → ((nI cn.l < 1 → post M N) ∧ (¬ nI cn.l < 1 → ((¬ zv1 = 0 → ∃ n, w_X6_spread_p20 b post n (g 1628) (nI cn.l) zv1 0 M N) ∧ (zv1 = 0 → post M N))))
  intro sk hsk
  have hsk2 : ∀ n, n < 64 → (tb sk n = true ↔ sickF g n) := fun n hn => by rw [hsk]; exact S.w.p.il n hn
  unfold spreadF at h
  refine ⟨fun z => ?_, fun z => ?_⟩
  · have e : cn.l = 0 := by
      have := (nI_ltI (a := cn.l) (b := 1) (by omega) (by omega)).mp z
      omega
    rw [if_pos e] at h
    exact h _ _ Fr.rf S
  · have e : cn.l ≠ 0 := fun e => z (by rw [e]; decide)
    rw [if_neg e] at h
    refine ⟨fun z2 => ⟨65, ?_⟩, fun z2 => ?_⟩
    · have key : ∀ (j c : Nat), c + j = 64 → ∀ M1 N1, Fr b M N M1 N1 → StC b bk cn full but M1 N1 (spC bk g c) fe lo → w_X6_spread_p20 b post (j + 1) (g 1628) (nI cn.l) sk (nI c) M1 N1 := by
        intro j
        induction j with
        | zero =>
          intro c hc M1 N1 F1 S1
          have hc' : c = 64 := by omega
          subst hc'
          rw [w_X6_spread_p20_s]
          unfold w_X6_spread_p20_b
          exact ⟨fun _ => h _ _ F1 S1, fun z => absurd (nI_le (a := 64) (b := 64) (by omega) (by omega)) z⟩
        | succ j ih =>
          intro c hc M1 N1 F1 S1
          have hc64 : c < 64 := by omega
          have ih' := ih (c + 1) (by omega)
          have ec : spC bk g (c + 1) = pick (g (192 + c) = 1 ∧ ¬ sickF g c) (spK bk g c (spC bk g c) 4) (spC bk g c) := rfl
          rw [ec] at ih'
          have hso := spC_o (bk := bk) (g := g) (n := c) (by omega)
          rw [w_X6_spread_p20_s]
          unfold w_X6_spread_p20_b
          refine ⟨fun z => absurd z (nI_ge (b := 64) (by omega) (by omega)), fun _ => eq_X11_bit.mpr ?_⟩
          rw [bit_and_0 hc64, tb_and, tb_not _ hc64, nI_1]
          have hst := S1.w.p.st c hc64
          rw [hso.1 _ (by omega) (by omega)] at hst
          have hiff : ((tb (N1 (1, b, 6) 8) c && !tb sk c) = false) ↔ ¬ (g (192 + c) = 1 ∧ ¬ sickF g c) := by
            rw [← hst, ← hsk2 c hc64]
            cases tb (N1 (1, b, 6) 8) c <;> cases tb sk c <;> simp
          rw [hiff]
          refine ⟨fun y => ?_, fun y => ?_⟩
          · have y := Classical.not_not.mp y
            rw [pick_t y] at ih'
            exact ⟨5, c_side (M := M1) (N := N1) G.b G.n.l e hc64 y.1 hsk2 (fb := spC bk g c) ⟨spC_nl hl G.p.nl G.n.l c (by omega), fun i q1 q2 => hso.1 i q1 (by omega)⟩ (fun M2 N2 F2 S2 => ih' _ _ (F1.tr F2) S2) 4 0 (by omega) M1 N1 Fr.rf S1⟩
          · rw [pick_f y] at ih'
            exact ih' _ _ F1 S1
      exact key 64 0 (by omega) M N Fr.rf S
    · rw [spC_none (fun n hn y => by have := (hsk2 n hn).mpr y; rw [z2, tb_0] at this; cases this) 64 (Nat.le_refl _)] at h
      exact h _ _ Fr.rf S
theorem c_grow (S : StC b bk cn full but M N f fe lo) (hcb : CnB cn) (h : ∀ M' N', Fr b M N M' N' → StC b bk cn full but M' N' (growF f 64) fe lo → post M' N') : w_X6_grow b M N post := by
  unfold w_X6_grow
  refine ⟨65, ?_⟩
  have key : ∀ (j c : Nat), c + j = 64 → ∀ M1 N1, Fr b M N M1 N1 → StC b bk cn full but M1 N1 (growF f c) fe lo → w_X6_grow_p2 b post (j + 1) (nI c) M1 N1 := by
    intro j
    induction j with
    | zero =>
      intro c hc M1 N1 F1 S1
      have hc' : c = 64 := by omega
      subst hc'
      rw [w_X6_grow_p2_s]
      unfold w_X6_grow_p2_b
      exact ⟨fun _ => h _ _ F1 S1, fun z => absurd (nI_le (a := 64) (b := 64) (by omega) (by omega)) z⟩
    | succ j ih =>
      intro c hc M1 N1 F1 S1
      have hc64 : c < 64 := by omega
      have vc : vp_in (nI c) 64 := vp_in_nI (by omega) (by omega)
      have ih' := ih (c + 1) (by omega)
      unfold growF at ih'
      have e192 : growF f c (192 + c) = f (192 + c) := growF_o (by omega)
      rw [w_X6_grow_p2_s]
      unfold w_X6_grow_p2_b
      rw [nI_1, nI_clamp (show c < 2 ^ 31 by omega)]
      refine ⟨fun z => absurd z (nI_ge (b := 64) (by omega) (by omega)), fun _ => sp_X6_standsOn hc64 (fun z => ⟨fun y => absurd y (by decide), fun _ => ⟨vc, vc, eq_X11_within.mpr ?_⟩⟩) (fun z => ⟨fun _ => ?_, fun y => absurd rfl y⟩)⟩
      · have h1 := (S1.w.p.st c hc64).mp z
        have hsz := (S1.w.p.sz c hc64 h1).1
        rw [e192] at h1
        rw [if_pos h1] at ih'
        rw [S1.w.g.we c hc64, hsz, growF_o (show ¬ (256 ≤ 64 + c ∧ 64 + c < 256 + c) by omega), growF_o (show ¬ (256 ≤ 256 + c ∧ 256 + c < 256 + c) by omega)]
        have fin : ∀ x, growA f c = x → w_X6_grow_p2 b post (j + 1) (nI (c + 1)) (am_u M1 (1, b, 7) c (f (256 + c) + x)) N1 := by
          intro x hx
          rw [hx] at ih'
          have F2 : Fr b M1 N1 (am_u M1 (1, b, 7) c (f (256 + c) + x)) N1 := Fr.u (by decide) _
          exact ih' _ _ (F1.tr F2) (S1.nx F2 (S1.w.size hcb hc64 _))
        refine ⟨fun y => ⟨vc, fin 1 ?_⟩, fun y => ⟨vc, fin 2 ?_⟩⟩
        · unfold growA; rw [if_neg ((am_b0 _).mp y)]
        · unfold growA; rw [if_pos (Classical.byContradiction fun w => y (am_bf w))]
      · have h1 := (tb_st S1 hc64).mp z
        rw [e192] at h1
        rw [if_neg h1] at ih'
        exact ih' _ _ F1 S1
  exact key 64 0 (by omega) M N Fr.rf S
theorem c_ends (S : StC b bk cn full but M N f fe lo) (G : GoodF W cn f) (h : ∀ M' N', Fr b M N M' N' → StC b bk cn full but M' N' (endsF bk cn f) fe lo → post M' N') : w_X6_drown b M N (fun zM1 zN2 => w_X6_spread b (zM1 (1, b, 22) 2) (zM1 (1, b, 0) 11) zM1 zN2 (fun zM3 zN4 => w_X6_grow b zM3 zN4 (fun zM5 zN6 => post zM5 zN6))) := by
  refine c_drown S G.b (fun M1 N1 F1 S1 => c_spread S1 (drownF_good G 64 (Nat.le_refl _)) (fun M2 N2 F2 S2 => c_grow S2 G.b (fun M3 N3 F3 S3 => h _ _ (F1.tr (F2.tr F3)) S3)))
end EC
