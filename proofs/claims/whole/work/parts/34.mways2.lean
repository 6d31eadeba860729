/-! ===== the reference: ways, whole ===== -/
def atV (at_ : Option Nat) : Int32 := match at_ with
  | none => -1
  | some p => nI p
section PY
variable {M : am_I} {N : am_N} {post : am_I → am_N → Prop} {q goal : Nat} {bes : Int32}
theorem mw_scan {zk : Int32 → am_I → am_N → Prop} {R Dn : Nat → Prop} {aN : Nat → Nat} {aw : Nat → Int64} {dn : Nat → Int32} (hR : ∀ c, R c → c < 64) (hA : awR R aN aw) (hd : dnR Dn dn) (small : ∀ c, R c → aN c < 1000000000000)
    (kn : (∀ c, R c → Dn c) → post (am_s M (3, 0, 25) dn) (am_s N (3, 0, 24) aw))
    (kp : ∀ p, p < 64 → R p → ¬ Dn p → (∀ c, R c → ¬ Dn c → aN p ≤ aN c) → w_X12_mayEnter (nI q) (nI p) (am_s M (3, 0, 25) (upd dn p 1)) (am_s N (3, 0, 24) aw) (fun zr1 zM2 zN3 => ((¬ zr1 = 0 → ∃ n, w_X12_ways_p150 post zk n (nI q) (nI p) 0 zM2 zN3) ∧ (zr1 = 0 → zk (nI q) zM2 zN3)))) :
    ∀ (j c : Nat), c + j = 64 → ∀ at_ : Option Nat, (at_ = none → ∀ i, i < c → R i → Dn i) → (∀ p, at_ = some p → p < 64 ∧ R p ∧ ¬ Dn p ∧ ∀ i, i < c → R i → ¬ Dn i → aN p ≤ aN i) →
      ∃ n, w_X12_ways_p54 post zk n (nI q) (atV at_) (nI c) (am_s M (3, 0, 25) dn) (am_s N (3, 0, 24) aw) := by
  intro j
  induction j with
  | zero =>
    intro c hc at_ h0 h1
    have e : c = 64 := by omega
    subst e
    refine ⟨1, ?_⟩
    rw [w_X12_ways_p54_s]
    unfold w_X12_ways_p54_b
    refine ⟨fun _ => ⟨fun hne => ?_, fun he => ?_⟩, fun z => absurd (Int32.le_refl _) z⟩
    · cases at_ with
      | none => exact absurd rfl hne
      | some p =>
        obtain ⟨r1, r2, r3, r4⟩ := h1 p rfl
        refine ⟨vp_in_nI r1 (by omega), ?_⟩
        show w_X12_mayEnter (nI q) (nI p) (am_u (am_s M (3, 0, 25) dn) (3, 0, 25) (nI p).toNatClampNeg 1) _ _
        rw [nI_clamp (by omega), am_u_s]
        exact kp p r1 r2 r3 (fun c hc => r4 c (hR c hc) hc)
    · cases at_ with
      | none => exact kn (fun c hc => h0 rfl c (hR c hc) hc)
      | some p => exact absurd he (nI_ne_m1 (by have := (h1 p rfl).1; omega))
  | succ j ih =>
    intro c hc at_ h0 h1
    have hc64 : c < 64 := by omega
    have close : (∃ n, w_X12_ways_p54_b post zk (w_X12_ways_p54 post zk n) (nI q) (atV at_) (nI c) (am_s M (3, 0, 25) dn) (am_s N (3, 0, 24) aw)) → ∃ n, w_X12_ways_p54 post zk n (nI q) (atV at_) (nI c) (am_s M (3, 0, 25) dn) (am_s N (3, 0, 24) aw) := fun ⟨n, h⟩ => ⟨n + 1, h⟩
    apply close
    unfold w_X12_ways_p54_b
    simp only [am_s_same, nI_clamp (show c < 2 ^ 31 by omega), nI_1]
    by_cases hD : Dn c
    · obtain ⟨n, hn⟩ := ih (c + 1) (by omega) at_ (fun e i hi hRi => by
        by_cases z : i = c
        · exact z ▸ hD
        · exact h0 e i (by omega) hRi) (fun p e => by
        obtain ⟨r1, r2, r3, r4⟩ := h1 p e
        exact ⟨r1, r2, r3, fun i hi hRi hDi => r4 i (by
          by_cases z : i = c
          · exact absurd (z ▸ hD) hDi
          · omega) hRi hDi⟩)
      refine ⟨n, fun z => absurd z (nI_ge (b := 64) hc64 (by omega)), fun _ => ⟨vp_in_nI hc64 (by omega), fun _ => hn, fun z => ?_⟩⟩
      rw [(hd c hc64).1 hD] at z
      exact absurd z (by decide)
    · have hd0 := (hd c hc64).2 hD
      by_cases hRc : R c
      · have ac := (hA c hc64).1 hRc
        have sc := small c hRc
        have hfar : ¬ (1000000000000000 : Int64) ≤ aw c := by
          rw [ac]
          intro z
          have := (pk_lLE (a := 1000000000000000) (by omega) (by omega)).mp z
          omega
        cases at_ with
        | none =>
          obtain ⟨n, hn⟩ := ih (c + 1) (by omega) (some c) (fun e => by cases e) (fun p e => by
            cases e
            exact ⟨hc64, hRc, hD, fun i hi hRi hDi => by
              by_cases z : i = c
              · subst z; exact Nat.le_refl _
              · exact absurd (h0 rfl i (by omega) hRi) hDi⟩)
          exact ⟨n, fun z => absurd z (nI_ge (b := 64) hc64 (by omega)), fun _ => ⟨vp_in_nI hc64 (by omega), fun z => absurd hd0 z, fun _ => ⟨vp_in_nI hc64 (by omega), fun z => absurd z hfar, fun _ => ⟨fun _ => hn, fun z => absurd rfl z⟩⟩⟩⟩
        | some p =>
          obtain ⟨r1, r2, r3, r4⟩ := h1 p rfl
          have ap := (hA p r1).1 r2
          have sp := small p r2
          by_cases hle : aN p ≤ aN c
          · obtain ⟨n, hn⟩ := ih (c + 1) (by omega) (some p) (fun e => by cases e) (fun p' e => by
              cases e
              exact ⟨r1, r2, r3, fun i hi hRi hDi => by
                by_cases z : i = c
                · subst z; exact hle
                · exact r4 i (by omega) hRi hDi⟩)
            refine ⟨n, fun z => absurd z (nI_ge (b := 64) hc64 (by omega)), fun _ => ⟨vp_in_nI hc64 (by omega), fun z => absurd hd0 z, fun _ => ⟨vp_in_nI hc64 (by omega), fun z => absurd z hfar, fun _ => ⟨fun z => absurd z (nI_ne_m1 (by omega)), fun _ => ⟨vp_in_nI hc64 (by omega), vp_in_nI r1 (by omega), fun _ => hn, fun z => absurd ?_ z⟩⟩⟩⟩⟩
            show aw (nI p).toNatClampNeg ≤ aw c
            rw [nI_clamp (by omega), ap, ac]
            exact (pk_lLE (by omega) (by omega)).mpr hle
          · obtain ⟨n, hn⟩ := ih (c + 1) (by omega) (some c) (fun e => by cases e) (fun p' e => by
              cases e
              exact ⟨hc64, hRc, hD, fun i hi hRi hDi => by
                by_cases z : i = c
                · subst z; exact Nat.le_refl _
                · have := r4 i (by omega) hRi hDi
                  omega⟩)
            refine ⟨n, fun z => absurd z (nI_ge (b := 64) hc64 (by omega)), fun _ => ⟨vp_in_nI hc64 (by omega), fun z => absurd hd0 z, fun _ => ⟨vp_in_nI hc64 (by omega), fun z => absurd z hfar, fun _ => ⟨fun z => absurd z (nI_ne_m1 (by omega)), fun _ => ⟨vp_in_nI hc64 (by omega), vp_in_nI r1 (by omega), fun z => absurd ?_ hle, fun _ => hn⟩⟩⟩⟩⟩
            have z2 : aw (nI p).toNatClampNeg ≤ aw c := z
            rw [nI_clamp (by omega), ap, ac] at z2
            exact (pk_lLE (by omega) (by omega)).mp z2
      · have ac := (hA c hc64).2 hRc
        obtain ⟨n, hn⟩ := ih (c + 1) (by omega) at_ (fun e i hi hRi => by
          by_cases z : i = c
          · exact absurd (z ▸ hRi) hRc
          · exact h0 e i (by omega) hRi) (fun p e => by
          obtain ⟨r1, r2, r3, r4⟩ := h1 p e
          exact ⟨r1, r2, r3, fun i hi hRi hDi => r4 i (by
            by_cases z : i = c
            · exact absurd (z ▸ hRi) hRc
            · omega) hRi hDi⟩)
        refine ⟨n, fun z => absurd z (nI_ge (b := 64) hc64 (by omega)), fun _ => ⟨vp_in_nI hc64 (by omega), fun z => absurd hd0 z, fun _ => ⟨vp_in_nI hc64 (by omega), fun _ => hn, fun z => absurd ?_ z⟩⟩⟩
        rw [ac]
        exact Int64.le_refl _
theorem cntN_pos {dn : Nat → Int32} {p n : Nat} (h0 : dn p = 0) (hp : p < n) : 1 ≤ cntN dn n := by
  have := cntN_upd h0 hp
  omega
/-- what 'ways' leaves behind -/
def wayEnd (M : am_I) (q goal : Nat) (bes : Int32) (R : Nat → Prop) (aN : Nat → Nat) (aw : Nat → Int64) : Prop :=
  ∃ nd, nd ≤ 64 ∧ bjkEnd nbr (okM M q) (hN M q) (GoalN goal bes) nd R aN ∧ (∀ c, R c → c < 64) ∧ awR R aN aw
theorem mw_outer (hB : wayB M q) (kk : ∀ (R : Nat → Prop) (aN : Nat → Nat) (aw : Nat → Int64) (dn : Nat → Int32), wayEnd M q goal bes R aN aw → post (am_s M (3, 0, 25) dn) (am_s N (3, 0, 24) aw)) :
    ∀ (m nd : Nat) (R Dn : Nat → Prop) (sd : Nat → Nat → Prop) (aN : Nat → Nat) (aw : Nat → Int64) (dn : Nat → Int32), bjk nbr (okM M q) (hN M q) (GoalN goal bes) nd R Dn sd aN → nd + cntN dn 64 = 64 → cntN dn 64 ≤ m → (∀ c, R c → c < 64) → awR R aN aw → dnR Dn dn → (∀ p, Dn p → okM M q p → ∀ c, nbr p c → sd p c) →
      w_X12_ways_p48 post (m + 1) (nI q) (am_s M (3, 0, 25) dn) (am_s N (3, 0, 24) aw) := by
  intro m
  induction m with
  | zero =>
    intro nd R Dn sd aN aw dn D hcnt hm hR hA hd hcl
    rw [w_X12_ways_p48_s]
    refine mw_scan hR hA hd (fun c hc => bjk_small D (by omega) hc) (fun hRD => ?_) (fun p hp hRp hDp _ => ?_) 64 0 (by omega) none (fun _ i hi => by omega) (fun p e => by cases e)
    · refine kk R aN aw dn ⟨nd, by omega, ?_, hR, hA⟩
      obtain ⟨d1, d4, d5, d6, d7⟩ := D
      exact ⟨d1, fun c h => h, d5, fun p c ⟨hp, hn, ho⟩ => by
        obtain ⟨y1, y2, y3, y4, y5⟩ := d6 p c (hcl p (hRD p hp) ho c hn)
        exact ⟨hp, hn, ho, y4, y5⟩, fun p c _ hc hn => absurd hc hn⟩
    · have := cntN_pos ((hd p hp).2 hDp) hp
      omega
  | succ m ih =>
    intro nd R Dn sd aN aw dn D hcnt hm hR hA hd hcl
    rw [w_X12_ways_p48_s]
    refine mw_scan hR hA hd (fun c hc => bjk_small D (by omega) hc) (fun hRD => ?_) (fun p hp hRp hDp hmin => ?_) 64 0 (by omega) none (fun _ i hi => by omega) (fun p e => by cases e)
    · refine kk R aN aw dn ⟨nd, by omega, ?_, hR, hA⟩
      obtain ⟨d1, d4, d5, d6, d7⟩ := D
      exact ⟨d1, fun c h => h, d5, fun p c ⟨hp, hn, ho⟩ => by
        obtain ⟨y1, y2, y3, y4, y5⟩ := d6 p c (hcl p (hRD p hp) ho c hn)
        exact ⟨hp, hn, ho, y4, y5⟩, fun p c _ hc hn => absurd hc hn⟩
    · have hd0 := (hd p hp).2 hDp
      have hcu := cntN_upd hd0 hp
      have D1 := bjk_take D hRp hmin
      have hd1 : dnR (fun x => Dn x ∨ x = p) (upd dn p 1) := by
        intro c hc
        by_cases e : c = p
        · subst e
          exact ⟨fun _ => pk_us, fun z => absurd (Or.inr rfl) z⟩
        · rw [pk_un e]
          exact ⟨fun z => (hd c hc).1 (z.elim id (fun y => absurd y e)), fun z => (hd c hc).2 (fun y => z (Or.inl y))⟩
      refine sp_X12_mayEnter hB.1 hp (fun hok => ⟨fun _ => ?_, fun z => absurd z (by decide)⟩) (fun hok => ⟨fun z => absurd rfl z, fun _ => ?_⟩)
      · have hok2 : okM M q p := okM_s.mp hok
        refine mw_relax (nd := nd + 1) (Dn := fun x => Dn x ∨ x = p) hB hp hok2 (Or.inr rfl) (by omega) 4 0 (by omega) R sd aN aw D1 hR hA (fun x hx => ?_) ?_ (fun i hi => by omega) ?_
        · rcases hx with hx | rfl
          · exact D.2.2.2.2 x p hx hRp hDp
          · exact Nat.le_refl _
        · obtain ⟨k, C, g, q0, q1, q2, q3, q4⟩ := D.2.2.1 p hRp
          exact ⟨k, C, g, q0, q1, q2, by omega, q4⟩
        · intro R' sd' aN' aw' D' hR' hA' hDn' hsd' hsub'
          refine ih (nd + 1) R' _ sd' aN' aw' (upd dn p 1) D' (by omega) (by omega) hR' hA' hd1 ?_
          intro x hx hox c hxc
          rcases hx with hx | rfl
          · exact hsub' _ _ (hcl x hx hox c hxc)
          · obtain ⟨-, -, i, hi, hb⟩ := hxc
            exact hsd' i hi c hb
      · refine ih (nd + 1) R _ sd aN aw (upd dn p 1) D1 (by omega) (by omega) hR hA hd1 ?_
        intro x hx hox c hxc
        rcases hx with hx | rfl
        · exact hcl x hx hox c hxc
        · exact absurd (okM_s.mpr hox) hok
theorem cntN_all {dn : Nat → Int32} : ∀ {n : Nat}, (∀ c, c < n → dn c = 0) → cntN dn n = n
  | 0, _ => rfl
  | n + 1, h => by
    unfold cntN
    rw [cntN_all (fun c hc => h c (by omega)), if_pos (h n (by omega))]
theorem mw_init (hB : wayB M q) (hg : goal < 64) (kk : ∀ (R : Nat → Prop) (aN : Nat → Nat) (aw : Nat → Int64) (dn : Nat → Int32), wayEnd M q goal bes R aN aw → post (am_s M (3, 0, 25) dn) (am_s N (3, 0, 24) aw)) :
    ∀ (j c : Nat), c + j = 64 → ∀ (dn : Nat → Int32) (aw : Nat → Int64), (∀ i, i < c → dn i = 0 ∧ (GoalN goal bes i → aw i = lN 0) ∧ (¬ GoalN goal bes i → aw i = lN FARN)) →
      ∃ n, w_X12_ways_p3 post n (nI q) (nI goal) bes (nI c) (am_s M (3, 0, 25) dn) (am_s N (3, 0, 24) aw) := by
  intro j
  induction j with
  | zero =>
    intro c hc dn aw hinv
    have e : c = 64 := by omega
    subst e
    refine ⟨1, ?_⟩
    rw [w_X12_ways_p3_s]
    unfold w_X12_ways_p3_b
    refine ⟨fun _ => ⟨65, ?_⟩, fun z => absurd (Int32.le_refl _) z⟩
    have hcnt := cntN_all (dn := dn) (n := 64) (fun c hc => (hinv c hc).1)
    refine mw_outer (goal := goal) (bes := bes) hB kk 64 0 (GoalN goal bes) (fun _ => False) (fun _ _ => False) (fun _ => 0) aw dn ?_ (by omega) (by omega) (fun c hc => hc.1) (fun c hc => (hinv c hc).2) (fun c hc => ⟨fun z => absurd z id, fun _ => (hinv c hc).1⟩) (fun p hp => absurd hp id)
    exact ⟨fun g hg => ⟨hg, rfl⟩, fun c hc => absurd hc id, fun c hc => ⟨0, 0, c, hc, ⟨rfl, rfl⟩, rfl, Nat.le_refl _, Nat.le_refl _⟩, fun p c hpc => absurd hpc id, fun p c hp => absurd hp id⟩
  | succ j ih =>
    intro c hc dn aw hinv
    have hc64 : c < 64 := by omega
    have go : ∀ v : Int64, (GoalN goal bes c → v = lN 0) → (¬ GoalN goal bes c → v = lN FARN) → ∃ n, w_X12_ways_p33 post (w_X12_ways_p3 post n) (nI q) (nI goal) bes (nI c) v (nI c) (am_s M (3, 0, 25) dn) (am_s N (3, 0, 24) aw) := by
      intro v hv1 hv2
      obtain ⟨n, hn⟩ := ih (c + 1) (by omega) (upd dn c 0) (vp_updL aw c v) (fun i hi => by
        by_cases e : i = c
        · subst e
          rw [pk_us, pk_uLs]
          exact ⟨rfl, hv1, hv2⟩
        · rw [pk_un e, pk_uLn e]
          exact hinv i (by omega))
      refine ⟨n, ?_⟩
      unfold w_X12_ways_p33
      refine ⟨vp_in_nI hc64 (by omega), vp_in_nI hc64 (by omega), ?_⟩
      rw [nI_clamp (by omega), nI_1, am_u_s, am_ul_s]
      exact hn
    have close : (∃ n, w_X12_ways_p3_b post (w_X12_ways_p3 post n) (nI q) (nI goal) bes (nI c) (am_s M (3, 0, 25) dn) (am_s N (3, 0, 24) aw)) → ∃ n, w_X12_ways_p3 post n (nI q) (nI goal) bes (nI c) (am_s M (3, 0, 25) dn) (am_s N (3, 0, 24) aw) := fun ⟨n, h⟩ => ⟨n + 1, h⟩
    apply close
    unfold w_X12_ways_p3_b
    rcases GoalN_dec goal bes c with hG | hG
    · obtain ⟨n, hn⟩ := go (lN 0) (fun _ => rfl) (fun z => absurd hG z)
      exact ⟨n, fun z => absurd z (nI_ge (b := 64) hc64 (by omega)), fun _ => sp_X12_isGoal hc64 hg (fun _ => ⟨fun z => absurd z (by decide), fun _ => hn⟩) (fun z => absurd hG z)⟩
    · obtain ⟨n, hn⟩ := go (lN FARN) (fun z => absurd z hG) (fun _ => rfl)
      exact ⟨n, fun z => absurd z (nI_ge (b := 64) hc64 (by omega)), fun _ => sp_X12_isGoal hc64 hg (fun z => absurd z hG) (fun _ => ⟨fun _ => hn, fun z => absurd rfl z⟩)⟩
/-- ways(cart, goal, beside) of the reference -/
theorem sp_X12_ways (hB : wayB M q) (hg : goal < 64) (kk : ∀ (R : Nat → Prop) (aN : Nat → Nat) (aw : Nat → Int64) (dn : Nat → Int32), wayEnd M q goal bes R aN aw → post (am_s M (3, 0, 25) dn) (am_s N (3, 0, 24) aw)) : w_X12_ways (nI q) (nI goal) bes M N post := by
  unfold w_X12_ways
  have h := mw_init (post := post) (N := N) hB hg kk 64 0 (by omega) (M (3, 0, 25)) (N (3, 0, 24)) (fun i hi => by omega)
  rw [am_s_id, am_s_id] at h
  exact h
end PY
